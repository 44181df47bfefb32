def LfM (A : Fm) (o : Nat) (y : Sto) (kn : Nat → Bool) : Prop := (∀ f, f < nF A → y.1 142 f = b2i (kn f)) ∧ ∀ f, f < nF A → kn f = true → (y.2 137 f = iL (qX A o f) ∧ y.2 138 f = iL (qY A o f)) ∧ y.2 139 f = iL (- qY A o f) ∧ y.2 140 f = iL (qX A o f) ∧ y.2 141 f = iL (qL A o f)
def PS : List Nat := [122, 134, 135, 136, 137, 138, 139, 140, 141, 142]
section
variable {A : Fm} {z y : Sto}
/-- points and planes, all faces and stresses being laid -/
theorem m_points (hw : WF A) (hW : ∀ j, j < 9 → -9 ≤ fW A j ∧ fW A j ≤ 9) (hR : RowM (z.1 123) A) (hC : FcM z A) (hS : StM z A) {o : Nat} (ho : o < nF A) (hoF : oF A = some o) (hwh : whB A = true) : ∃ y, wl3 b_X7_laysPoints_15 fu (nI o) (nI 0) z = some y ∧ Ke [137, 138, 139, 140, 141, 142] z y ∧ LfM A o y (kB A o (nF A)) := by
  have hB := hw.1
  have h9 := hB.2.1
  have h6 := hB.1
  have fs := fc_spec hw
  have row : ∀ {y : Sto}, Ke [137, 138, 139, 140, 141, 142] z y → RowM (y.1 123) A := fun {y} k => by rw [k.1 123 (by simp)]; exact hR
  have stm : ∀ {y : Sto}, Ke [137, 138, 139, 140, 141, 142] z y → StM y A := fun {y} k => ⟨⟨by rw [k.1 122 (by simp)]; exact hS.1.1, by rw [k.2 122 (by simp)]; exact hS.1.2⟩, by rw [k.2 134 (by simp)]; exact hS.2.1, fun r hr => by rw [k.1 135 (by simp)]; exact hS.2.2 r hr⟩
  have pass : ∀ (k : Nat) (y : Sto) (kn : Nat → Bool) (ag : Int32 → Sto → Option Sto), Ke [137, 138, 139, 140, 141, 142] z y → LfM A o y kn → ∃ y', wl3 (b_X7_laysPoints_90 ag) fu (nI k) (nI 0) y = ag (nI (k + 1)) y' ∧ Ke [137, 138, 139, 140, 141, 142] z y' ∧ LfM A o y' (lk A kn (2 * fM A)) := by
    intro k y kn ag ky hL
    refine wl3_inv (Q := fun o' => ∃ y', o' = ag (nI (k + 1)) y' ∧ Ke [137, 138, 139, 140, 141, 142] z y' ∧ LfM A o y' (lk A kn (2 * fM A))) (fun h a b w => a = nI k ∧ b = nI h ∧ Ke [137, 138, 139, 140, 141, 142] z w ∧ LfM A o w (lk A kn h)) (2 * fM A) ?_ ?_ (by omega) ⟨rfl, rfl, ky, hL⟩
    · rintro h hh _ _ w ⟨rfl, rfl, kw, hLw⟩
      have rW := row kw
      have hm := rW.1.2.1
      have bb : f_X7_back (nI h) w = some (nI (bk h)) := m_back (by omega)
      have hb := bk_lt hh
      have f1 := fs.2.1 h hh
      have f2 := fs.2.1 _ hb
      have v1 : w.1 136 h = nI (fc A h) := by rw [kw.1 136 (by simp)]; exact hC.2 h hh
      have v2 : w.1 136 (bk h) = nI (fc A (bk h)) := by rw [kw.1 136 (by simp)]; exact hC.2 _ hb
      have p1 := hLw.1 _ f1
      have p2 := hLw.1 _ f2
      rcases hc : (lk A kn h (fc A (bk h)), lk A kn h (fc A h)) with ⟨c1, c2⟩
      have hc1 : lk A kn h (fc A (bk h)) = c1 := congrArg Prod.fst hc
      have hc2 : lk A kn h (fc A h) = c2 := congrArg Prod.snd hc
      rw [hc1] at p2
      rw [hc2] at p1
      cases c1 with
      | false =>
        refine Or.inl ⟨nI k, nI (h + 1), w, ⟨rfl, rfl, kw, ?_⟩, fun ag2 => ?_⟩
        · rw [lk_s, if_neg (by rw [hc1]; simp)]; exact hLw
        · unfold b_X7_laysPoints_90
          simp (disch := omega) only [bds, bds2, lts, lit, nI_add, pk_mul, nI_leI, nI_ltI, nI_eq, rdI_nI, rdL_nI, wrI_nI, wrL_nI, rdR_nI, if_pos, if_neg, and_true, true_and, and_false, false_and, reduceIte, hm, bb, v2, p2, b2i_f]
      | true =>
        cases c2 with
        | true =>
          refine Or.inl ⟨nI k, nI (h + 1), w, ⟨rfl, rfl, kw, ?_⟩, fun ag2 => ?_⟩
          · rw [lk_s, if_neg (by rw [hc2]; simp)]; exact hLw
          · unfold b_X7_laysPoints_90
            simp (disch := omega) only [bds, bds2, lts, lit, nI_add, pk_mul, nI_leI, nI_ltI, nI_eq, rdI_nI, rdL_nI, wrI_nI, wrL_nI, rdR_nI, if_pos, if_neg, and_true, true_and, and_false, false_and, reduceIte, hm, bb, v1, v2, p1, p2, b2i_t]
        | false =>
          obtain ⟨⟨q1, q2⟩, q3, q4, q5⟩ := hLw.2 _ f2 hc1
          have st := q_st hw o hh
          have pv := m_pullOf hB hW rW (stm kw) (k := h / 2) (by omega)
          have s2 := m_stepX hB rW hh
          have s3 := m_stepY hB rW hh
          have sl := step_le hB hh
          have l1 := fS_lt hB hh
          have xl := hB.2.2.1 _ l1
          obtain ⟨w4, hw4⟩ : ∃ w4, w4 = upL (upL (upL (upL w 137 (fc A h) (iL (qX A o (fc A h)))) 138 (fc A h) (iL (qY A o (fc A h)))) 139 (fc A h) (iL (- qY A o (fc A h)))) 140 (fc A h) (iL (qX A o (fc A h))) := ⟨_, rfl⟩
          have r4 : RowM (w4.1 123) A := by rw [hw4]; exact rW
          have s1 := m_from hB r4 hh
          have xv := m_x hB r4 l1
          have yv := m_y hB r4 l1
          have e141 : w4.2 141 (fc A (bk h)) = iL (qL A o (fc A (bk h))) := by rw [hw4, upL_ne (by decide), upL_ne (by decide), upL_ne (by decide), upL_ne (by decide)]; exact q5
          refine Or.inl ⟨nI k, nI (h + 1), upI (upL w4 141 (fc A h) (iL (qL A o (fc A h)))) 142 (fc A h) (b2i true), ⟨rfl, rfl, ?_, ⟨fun f hf => ?_, fun f hf e => ?_⟩⟩, fun ag2 => ?_⟩
          · rw [hw4]; exact (((((kw.upl (by simp)).upl (by simp)).upl (by simp)).upl (by simp)).upl (by simp)).up (by simp)
          · rw [lk_s, if_pos ⟨hc1, hc2⟩, upI_at]
            by_cases x : f = fc A h
            · rw [if_pos ⟨rfl, x⟩, x, va_up_self]
            · rw [if_neg (fun a => x a.2), va_up_ne _ _ x, hw4]; exact hLw.1 f hf
          · rw [lk_s, if_pos ⟨hc1, hc2⟩] at e
            show ((upL w4 141 (fc A h) (iL (qL A o (fc A h)))).2 137 f = _ ∧ (upL w4 141 (fc A h) (iL (qL A o (fc A h)))).2 138 f = _) ∧ (upL w4 141 (fc A h) (iL (qL A o (fc A h)))).2 139 f = _ ∧ (upL w4 141 (fc A h) (iL (qL A o (fc A h)))).2 140 f = _ ∧ (upL w4 141 (fc A h) (iL (qL A o (fc A h)))).2 141 f = _
            rw [hw4]
            by_cases x : f = fc A h
            · refine ⟨⟨?_, ?_⟩, ?_, ?_, ?_⟩
              · rw [upL_ne (by decide), upL_ne (by decide), upL_ne (by decide), upL_ne (by decide), upL_at, if_pos ⟨rfl, x⟩, x]
              · rw [upL_ne (by decide), upL_ne (by decide), upL_ne (by decide), upL_at, if_pos ⟨rfl, x⟩, x]
              · rw [upL_ne (by decide), upL_ne (by decide), upL_at, if_pos ⟨rfl, x⟩, x]
              · rw [upL_ne (by decide), upL_at, if_pos ⟨rfl, x⟩, x]
              · rw [upL_at, if_pos ⟨rfl, x⟩, x]
            · rw [va_up_ne _ _ x] at e
              obtain ⟨⟨a1, a2⟩, a3, a4, a5⟩ := hLw.2 f hf e
              refine ⟨⟨?_, ?_⟩, ?_, ?_, ?_⟩
              · rw [upL_ne (by decide), upL_ne (by decide), upL_ne (by decide), upL_ne (by decide), upL_at, if_neg (fun a => x a.2)]; exact a1
              · rw [upL_ne (by decide), upL_ne (by decide), upL_ne (by decide), upL_at, if_neg (fun a => x a.2), upL_ne (by decide)]; exact a2
              · rw [upL_ne (by decide), upL_ne (by decide), upL_at, if_neg (fun a => x a.2), upL_ne (by decide), upL_ne (by decide)]; exact a3
              · rw [upL_ne (by decide), upL_at, if_neg (fun a => x a.2), upL_ne (by decide), upL_ne (by decide), upL_ne (by decide)]; exact a4
              · rw [upL_at, if_neg (fun a => x a.2), upL_ne (by decide), upL_ne (by decide), upL_ne (by decide), upL_ne (by decide)]; exact a5
          · have cX : iL (sX A h) * iL (pU A (h / 2)) = iL (gX A h) := by rw [iL_mul, Int.mul_comm]; rfl
            have cY : iL (sY A h) * iL (pU A (h / 2)) = iL (gY A h) := by rw [iL_mul, Int.mul_comm]; rfl
            have ex : iL (qX A o (fc A (bk h))) + iL (gX A h) = iL (qX A o (fc A h)) := by rw [iL_add, st.1]
            have ey : iL (qY A o (fc A (bk h))) + iL (gY A h) = iL (qY A o (fc A h)) := by rw [iL_add, st.2.1]
            have em : iL (- qY A o (fc A (bk h))) - iL (gY A h) = iL (- qY A o (fc A h)) := by rw [iL_sub, st.2.1]; congr 1; omega
            have el : (iL (qL A o (fc A (bk h))) + iL (gY A h) * iL (fX A (fS A h))) - iL (gX A h) * iL (fY A (fS A h)) = iL (qL A o (fc A h)) := by
              rw [iL_mul, iL_mul, iL_add, iL_sub, st.2.2]
              congr 1
              unfold gL
              omega
            have pb : f_X7_goesOver (nI h) w = some (upI (upL w4 141 (fc A h) (iL (qL A o (fc A h)))) 142 (fc A h) (b2i true)) := by
              unfold f_X7_goesOver
              simp (disch := omega) only [bds, bds2, lts, lit, nI_add, pk_mul, nI_leI, nI_ltI, nI_eq, rdI_nI, rdL_nI, wrI_nI, wrL_nI, rdR_nI, if_pos, if_neg, and_true, true_and, and_false, false_and, reduceIte, bb, v1, v2, s2, s3, iIL, pk_div, pv, cX, cY, q1, upL_at, upL_I, q2, q3, q4, ex, ey, em]
              rw [← hw4]
              simp (disch := omega) only [bds, bds2, lts, lit, nI_add, pk_mul, nI_leI, nI_ltI, nI_eq, rdI_nI, rdL_nI, wrI_nI, wrL_nI, rdR_nI, if_pos, if_neg, and_true, true_and, and_false, false_and, reduceIte, s1, xv, yv, q5, iIL, el, nar1]
            unfold b_X7_laysPoints_90
            simp (disch := omega) only [bds, bds2, lts, lit, nI_add, pk_mul, nI_leI, nI_ltI, nI_eq, rdI_nI, rdL_nI, wrI_nI, wrL_nI, rdR_nI, if_pos, if_neg, and_true, true_and, and_false, false_and, reduceIte, hm, bb, v1, v2, p1, p2, b2i_f, b2i_t, pb]
    · rintro _ _ w ⟨rfl, rfl, kw, hLw⟩ ag2
      have hm := (row kw).1.2.1
      refine ⟨w, ?_, kw, hLw⟩
      unfold b_X7_laysPoints_90
      simp (disch := omega) only [bds, bds2, lts, lit, nI_add, pk_mul, nI_leI, nI_ltI, nI_eq, rdI_nI, rdL_nI, wrI_nI, wrL_nI, rdR_nI, if_pos, if_neg, and_true, true_and, and_false, false_and, reduceIte, hm]
  have ph3 : ∀ y0 : Sto, Ke [137, 138, 139, 140, 141, 142] z y0 → LfM A o y0 (kB A o 0) → ∃ y, wl2 b_X7_laysPoints_80 fu (nI 0) y0 = some y ∧ Ke [137, 138, 139, 140, 141, 142] z y ∧ LfM A o y (kB A o (nF A)) := by
    intro y0 k0 hL0
    refine wl2_ind (Q := fun o' => ∃ y, o' = some y ∧ Ke [137, 138, 139, 140, 141, 142] z y ∧ LfM A o y (kB A o (nF A))) (fun k a w => a = nI k ∧ Ke [137, 138, 139, 140, 141, 142] z w ∧ LfM A o w (kB A o k)) (nF A) ?_ ?_ (by omega) ⟨rfl, k0, hL0⟩
    · rintro k hk _ w ⟨rfl, kw, hLw⟩ ag
      have hnw : w.1 122 19 = nI (nF A) := by rw [kw.1 122 (by simp)]; exact hC.1
      obtain ⟨y', a1, a2, a3⟩ := pass k w (kB A o k) ag kw hLw
      refine Or.inl ⟨nI (k + 1), y', ⟨rfl, a2, a3⟩, ?_⟩
      rw [← a1]
      unfold b_X7_laysPoints_80
      simp (disch := omega) only [bds, bds2, lts, lit, nI_add, pk_mul, nI_leI, nI_ltI, nI_eq, rdI_nI, rdL_nI, wrI_nI, wrL_nI, rdR_nI, if_pos, if_neg, and_true, true_and, and_false, false_and, reduceIte, hnw]
    · rintro _ w ⟨rfl, kw, hLw⟩ ag
      have hnw : w.1 122 19 = nI (nF A) := by rw [kw.1 122 (by simp)]; exact hC.1
      refine ⟨w, ?_, kw, hLw⟩
      unfold b_X7_laysPoints_80
      simp (disch := omega) only [bds, bds2, lts, lit, nI_add, pk_mul, nI_leI, nI_ltI, nI_eq, rdI_nI, rdL_nI, wrI_nI, wrL_nI, rdR_nI, if_pos, if_neg, and_true, true_and, and_false, false_and, reduceIte, hnw]
  refine wl3_inv (Q := fun o' => ∃ y, o' = some y ∧ Ke [137, 138, 139, 140, 141, 142] z y ∧ LfM A o y (kB A o (nF A))) (fun f b a w => b = nI o ∧ a = nI f ∧ ∃ g, w = stI z 142 g ∧ ∀ i, i < f → g i = b2i (decide (i = o))) 18 ?_ ?_ (by omega) ⟨rfl, rfl, z.1 142, stI_self.symm, fun i hi => by omega⟩
  · rintro f hf _ _ _ ⟨rfl, rfl, g, rfl, hg⟩
    refine Or.inl ⟨nI o, nI (f + 1), stI z 142 (upd g f (b2i (decide (f = o)))), ⟨rfl, rfl, _, rfl, fun i hi => ?_⟩, fun ag => ?_⟩
    · rw [upd_at]
      by_cases x : i = f
      · rw [if_pos x, x]
      · rw [if_neg x]; exact hg i (by omega)
    · unfold b_X7_laysPoints_15
      by_cases x : f = o
      · rw [decide_eq_true x]
        simp (disch := omega) only [bds, bds2, lts, lit, nI_add, pk_mul, nI_leI, nI_ltI, nI_eq, rdI_nI, rdL_nI, wrI_nI, wrL_nI, rdR_nI, if_pos, if_neg, and_true, true_and, and_false, false_and, reduceIte, nar1, upI_st]
      · rw [decide_eq_false x]
        simp (disch := omega) only [bds, bds2, lts, lit, nI_add, pk_mul, nI_leI, nI_ltI, nI_eq, rdI_nI, rdL_nI, wrI_nI, wrL_nI, rdR_nI, if_pos, if_neg, and_true, true_and, and_false, false_and, reduceIte, nar0, upI_st]
  · rintro _ _ _ ⟨rfl, rfl, g, rfl, hg⟩ ag
    obtain ⟨w5, hw5⟩ : ∃ w5, w5 = upL (upL (upL (upL (upL (stI z 142 g) 137 o (iL 0)) 138 o (iL 0)) 139 o (iL 0)) 140 o (iL 0)) 141 o (iL 0) := ⟨_, rfl⟩
    obtain ⟨y, b1, b2, b3⟩ := ph3 w5 (by rw [hw5]; exact (((((Ke.rf.st (by simp)).upl (by simp)).upl (by simp)).upl (by simp)).upl (by simp)).upl (by simp)) ⟨fun f hf => by
      rw [hw5]
      show (stI z 142 g).1 142 f = _
      rw [stI_same]; exact hg f (by omega), fun f hf e => by
      have e : decide (f = o) = true := e
      have e : f = o := by simpa using e
      obtain ⟨c1, c2, c3⟩ := q_0 A o
      rw [e, c1, c2, c3, hw5]
      refine ⟨⟨?_, ?_⟩, ?_, ?_, ?_⟩
      · rw [upL_ne (by decide), upL_ne (by decide), upL_ne (by decide), upL_ne (by decide), upL_at, if_pos ⟨rfl, rfl⟩]
      · rw [upL_ne (by decide), upL_ne (by decide), upL_ne (by decide), upL_at, if_pos ⟨rfl, rfl⟩]
      · rw [upL_ne (by decide), upL_ne (by decide), upL_at, if_pos ⟨rfl, rfl⟩]; rfl
      · rw [upL_ne (by decide), upL_at, if_pos ⟨rfl, rfl⟩]
      · rw [upL_at, if_pos ⟨rfl, rfl⟩]⟩
    refine ⟨y, ?_, b2, b3⟩
    rw [← b1, hw5]
    unfold b_X7_laysPoints_15
    simp (disch := omega) only [bds, bds2, lts, lit, nI_add, pk_mul, nI_leI, nI_ltI, nI_eq, rdI_nI, rdL_nI, wrI_nI, wrL_nI, rdR_nI, if_pos, if_neg, and_true, true_and, and_false, false_and, reduceIte, lL0]
theorem m_laysPoints (hw : WF A) (hW : ∀ j, j < 9 → -9 ≤ fW A j ∧ fW A j ≤ 9) (hR : RowM (z.1 123) A) {o : Nat} (ho : o < nF A) (hoF : oF A = some o) (hwh : whB A = true) : ∃ y, f_X7_laysPoints z = some y ∧ Ke PS z y ∧ (∀ j, j ≠ 17 → j ≠ 19 → y.1 122 j = z.1 122 j) ∧ StM y A ∧ FcM y A ∧ LfM A o y (kB A o (nF A)) := by
  obtain ⟨z2, a1, a2, a3, a4⟩ := m_laysAll hw.1 hR
  have r2 : RowM (z2.1 123) A := by rw [a2.1 123 (by simp)]; exact hR
  obtain ⟨z4, b1, b2, b3, b4, b5⟩ := m_laysFaces hw r2
  have r4 : RowM (z4.1 123) A := by rw [b2.1 123 (by simp)]; exact r2
  have s4 : StM z4 A := ⟨⟨by rw [b3 17 (by omega)]; exact a4.1.1, by rw [b4]; exact a4.1.2⟩, by rw [b4]; exact a4.2.1, fun r hr => by rw [b2.1 135 (by simp)]; exact a4.2.2 r hr⟩
  obtain ⟨y, c1, c2, c3⟩ := m_points hw hW r4 b5 s4 ho hoF hwh
  have ou := m_outer hw r4 b5
  rw [hoF] at ou
  refine ⟨y, ?_, ?_, fun j h1 h2 => ?_, ?_, ?_, c3⟩
  · unfold f_X7_laysPoints
    rw [a1, bds, b1, bds, ou, bds]
    exact c1
  · exact ((a2.mono (by simp [PS])).tr (b2.mono (by simp [PS]))).tr (c2.mono (by simp [PS]))
  · rw [c2.1 122 (by simp), b3 j h2, a3 j h1]
  · exact ⟨⟨by rw [c2.1 122 (by simp)]; exact s4.1.1, by rw [c2.2 122 (by simp)]; exact s4.1.2⟩, by rw [c2.2 134 (by simp)]; exact s4.2.1, fun r hr => by rw [c2.1 135 (by simp)]; exact s4.2.2 r hr⟩
  · exact ⟨by rw [c2.1 122 (by simp)]; exact b5.1, fun h hh => by rw [c2.1 136 (by simp)]; exact b5.2 h hh⟩
end
