section
variable {A : Fm} {z y : Sto} {F : Nat → Int}
theorem gX_le (hB : BF A) (hW : ∀ j, j < 9 → -9 ≤ fW A j ∧ fW A j ≤ 9) {h : Nat} (hh : h < 2 * fM A) : (-405000000000 ≤ gX A h ∧ gX A h ≤ 405000000000) ∧ (-405000000000 ≤ gY A h ∧ gY A h ≤ 405000000000) ∧ -5000000000000 ≤ gL A h ∧ gL A h ≤ 5000000000000 := by
  have st := step_le hB hh
  have pl := pU_le hB hW (h / 2)
  have x := hB.2.2.1 _ (fS_lt hB hh)
  have key : ∀ s : Int, -5 ≤ s → s ≤ 5 → -405000000000 ≤ pU A (h / 2) * s ∧ pU A (h / 2) * s ≤ 405000000000 := by
    intro s s1 s2
    have p1 := Int.mul_nonneg (show 0 ≤ 81000000000 - pU A (h / 2) by omega) (show 0 ≤ 5 - s by omega)
    have p2 := Int.mul_nonneg (show 0 ≤ 81000000000 + pU A (h / 2) by omega) (show 0 ≤ 5 + s by omega)
    have p3 := Int.mul_nonneg (show 0 ≤ 81000000000 - pU A (h / 2) by omega) (show 0 ≤ 5 + s by omega)
    have p4 := Int.mul_nonneg (show 0 ≤ 81000000000 + pU A (h / 2) by omega) (show 0 ≤ 5 - s by omega)
    simp only [Int.sub_mul, Int.mul_sub, Int.add_mul, Int.mul_add] at p1 p2 p3 p4
    omega
  have k1 := key _ st.1.1 st.1.2
  have k2 := key _ st.2.1 st.2.2
  have key2 : ∀ u s : Int, -405000000000 ≤ u → u ≤ 405000000000 → 0 ≤ s → s ≤ 5 → -2025000000000 ≤ u * s ∧ u * s ≤ 2025000000000 := by
    intro u s u1 u2 s1 s2
    have p1 := Int.mul_nonneg (show 0 ≤ 405000000000 - u by omega) (show 0 ≤ 5 - s by omega)
    have p2 := Int.mul_nonneg (show 0 ≤ 405000000000 + u by omega) (show 0 ≤ 5 + s by omega)
    have p3 := Int.mul_nonneg (show 0 ≤ 405000000000 - u by omega) (show 0 ≤ 5 + s by omega)
    have p4 := Int.mul_nonneg (show 0 ≤ 405000000000 + u by omega) (show 0 ≤ 5 - s by omega)
    simp only [Int.sub_mul, Int.mul_sub, Int.add_mul, Int.mul_add] at p1 p2 p3 p4
    omega
  have k3 := key2 _ _ k2.1 k2.2 x.1.1 x.1.2
  have k4 := key2 _ _ k1.1 k1.2 x.2.1 x.2.2
  refine ⟨k1, k2, ?_⟩
  show _ ≤ pU A (h / 2) * sY A h * fX A (fS A h) - pU A (h / 2) * sX A h * fY A (fS A h) ∧ pU A (h / 2) * sY A h * fX A (fS A h) - pU A (h / 2) * sX A h * fY A (fS A h) ≤ _
  omega
theorem bi_01 (p : Bool) : bi p = 0 ∨ bi p = 1 := by cases p <;> simp [bi]
theorem mul01 {x b : Int} (hx : -5000000000000 ≤ x ∧ x ≤ 5000000000000) (hb : b = 0 ∨ b = 1) : -5000000000000 ≤ x * b ∧ x * b ≤ 5000000000000 := by
  rcases hb with h | h <;> rw [h] <;> omega
theorem psi_le (hB : BF A) (hF : ∀ g, g < 2 * fM A → -5000000000000 ≤ F g ∧ F g ≤ 5000000000000) (h : Nat) : -270000000000000 ≤ psi A F h ∧ psi A F h ≤ 270000000000000 := by
  have h9 := hB.2.1
  have a1 := sm_le (n := 2 * fM A) (f := fun g => if fS A g = fS A h then F g * bi (decide (ky A g ≤ ky A h)) else 0) (b := 5000000000000) (fun g hg => by
    have := mul01 (hF g hg) (bi_01 (decide (ky A g ≤ ky A h)))
    show _ ≤ (if fS A g = fS A h then F g * bi (decide (ky A g ≤ ky A h)) else 0) ∧ (if fS A g = fS A h then F g * bi (decide (ky A g ≤ ky A h)) else 0) ≤ _
    split <;> omega)
  have a2 := sm_le (n := 2 * fM A) (f := fun g => if rt A g = true then F g * oV A g (fS A h) else 0) (b := 5000000000000) (fun g hg => by
    have := mul01 (hF g hg) (show oV A g (fS A h) = 0 ∨ oV A g (fS A h) = 1 by unfold oV; split <;> simp)
    show _ ≤ (if rt A g = true then F g * oV A g (fS A h) else 0) ∧ (if rt A g = true then F g * oV A g (fS A h) else 0) ≤ _
    split <;> omega)
  have a3 := sm_le (n := 2 * fM A) (f := fun g => if fS A g = fS A h then F g * bi (up1 A g) else 0) (b := 5000000000000) (fun g hg => by
    have := mul01 (hF g hg) (bi_01 (up1 A g))
    show _ ≤ (if fS A g = fS A h then F g * bi (up1 A g) else 0) ∧ (if fS A g = fS A h then F g * bi (up1 A g) else 0) ≤ _
    split <;> omega)
  unfold psi tO kO
  omega
def qX (A : Fm) (o f : Nat) : Int := phi A (gX A) f - phi A (gX A) o
def qY (A : Fm) (o f : Nat) : Int := phi A (gY A) f - phi A (gY A) o
def qL (A : Fm) (o f : Nat) : Int := phi A (gL A) f - phi A (gL A) o
theorem q_le (hB : BF A) (hW : ∀ j, j < 9 → -9 ≤ fW A j ∧ fW A j ≤ 9) (o f : Nat) : (-540000000000000 ≤ qX A o f ∧ qX A o f ≤ 540000000000000) ∧ (-540000000000000 ≤ qY A o f ∧ qY A o f ≤ 540000000000000) ∧ -540000000000000 ≤ qL A o f ∧ qL A o f ≤ 540000000000000 := by
  have k1 := fun h => psi_le (F := gX A) hB (fun g hg => by have := gX_le hB hW hg; omega) h
  have k2 := fun h => psi_le (F := gY A) hB (fun g hg => by have := gX_le hB hW hg; omega) h
  have k3 := fun h => psi_le (F := gL A) hB (fun g hg => by have := gX_le hB hW hg; omega) h
  unfold qX qY qL phi
  have := k1 (fnd (fun g => decide (fc A g = f)) (2 * fM A))
  have := k1 (fnd (fun g => decide (fc A g = o)) (2 * fM A))
  have := k2 (fnd (fun g => decide (fc A g = f)) (2 * fM A))
  have := k2 (fnd (fun g => decide (fc A g = o)) (2 * fM A))
  have := k3 (fnd (fun g => decide (fc A g = f)) (2 * fM A))
  have := k3 (fnd (fun g => decide (fc A g = o)) (2 * fM A))
  omega
theorem q_st (hw : WF A) (o : Nat) {h : Nat} (hh : h < 2 * fM A) : qX A o (fc A h) = qX A o (fc A (bk h)) + gX A h ∧ qY A o (fc A h) = qY A o (fc A (bk h)) + gY A h ∧ qL A o (fc A h) = qL A o (fc A (bk h)) + gL A h := by
  have hB := hw.1
  have := phi_st hw (Fo_X hB) hh
  have := phi_st hw (Fo_Y hB) hh
  have := phi_st hw (Fo_L hB) hh
  unfold qX qY qL
  omega
theorem q_0 (A : Fm) (o : Nat) : qX A o o = 0 ∧ qY A o o = 0 ∧ qL A o o = 0 := by unfold qX qY qL; omega
theorem nar0 : vp_nar .boolean (nI 0) = b2i false := by decide
theorem nar1 : vp_nar .boolean (nI 1) = b2i true := by decide
def LfC (A : Fm) (o : Nat) (y : Sto) (kn : Nat → Bool) : Prop := (∀ f, f < nF A → y.1 110 f = b2i (kn f)) ∧ ∀ f, f < nF A → kn f = true → y.2 107 f = iL (qX A o f) ∧ y.2 108 f = iL (qY A o f) ∧ y.2 109 f = iL (qL A o f)
theorem b2i_z {b : Bool} : (b2i b = nI 0) ↔ b = false := b2i_0
theorem c_lift (hw : WF A) (hR : RepC z 1 A) (hC : FcC z A) (hS : StC z A) {o : Nat} (ho : o < nF A) (hoF : oF A = some o) (hwh : whB A = true) : ∃ y, f_X0_lift z = some y ∧ Ke [107, 108, 109, 110] z y ∧ LfC A o y (kB A o (nF A)) := by
  have hB := hw.1
  have h9 := hB.2.1
  have h6 := hB.1
  have fs := fc_spec hw
  have hn := hC.1.1
  have hou : z.1 100 1 = nI o := by rw [hC.1.2, hoF]; rfl
  have rep : ∀ {y : Sto}, Ke [107, 108, 109, 110] z y → RepC y 1 A := fun {y} k => RepC_congr (fun c h1 h2 => k.1 c (by simp; omega)) hR
  -- one pass over the half bars
  have pass : ∀ (k : Nat) (y : Sto) (kn : Nat → Bool) (ag : Int32 → Sto → Option Sto), Ke [107, 108, 109, 110] z y → LfC A o y kn → ∃ y', wl3 (b_X0_lift_80 ag) fu (nI k) (nI 0) y = ag (nI (k + 1)) y' ∧ Ke [107, 108, 109, 110] z y' ∧ LfC A o y' (lk A kn (2 * fM A)) := by
    intro k y kn ag ky hL
    refine wl3_inv (Q := fun o' => ∃ y', o' = ag (nI (k + 1)) y' ∧ Ke [107, 108, 109, 110] z y' ∧ LfC A o y' (lk A kn (2 * fM A))) (fun h a b w => a = nI k ∧ b = nI h ∧ Ke [107, 108, 109, 110] z w ∧ LfC A o w (lk A kn h)) (2 * fM A) ?_ ?_ (by omega) ⟨rfl, rfl, ky, hL⟩
    · rintro h hh _ _ w ⟨rfl, rfl, kw, hLw⟩
      have rW := rep kw
      have hm := rW.1.2.1
      have xr := xor1 (h := h) (by omega)
      have hb := bk_lt hh
      have f1 := fs.2.1 h hh
      have f2 := fs.2.1 _ hb
      have v1 : w.1 103 h = nI (fc A h) := by rw [kw.1 103 (by simp)]; exact (hC.2.1 h hh).2.2
      have v2 : w.1 103 (bk h) = nI (fc A (bk h)) := by rw [kw.1 103 (by simp)]; exact (hC.2.1 _ hb).2.2
      have p1 := hLw.1 _ f1
      have p2 := hLw.1 _ f2
      rcases hc : (lk A kn h (fc A (bk h)), lk A kn h (fc A h)) with ⟨c1, c2⟩
      have hc1 : lk A kn h (fc A (bk h)) = c1 := congrArg Prod.fst hc
      have hc2 : lk A kn h (fc A h) = c2 := congrArg Prod.snd hc
      rw [hc1] at p2
      rw [hc2] at p1
      cases c1 with
      | false =>
        refine Or.inl ⟨nI k, nI (h + 1), w, ⟨rfl, rfl, kw, ?_⟩, fun ag2 => ?_⟩
        · rw [lk_s, if_neg (by rw [hc1]; simp)]; exact hLw
        · unfold b_X0_lift_80
          simp (disch := omega) only [bds, bds2, lts, lit, nI_add, pk_mul, nI_leI, nI_ltI, nI_eq, rdI_nI, rdL_nI, wrI_nI, wrL_nI, rdR_nI, if_pos, if_neg, and_true, true_and, and_false, false_and, reduceIte, hm, xr, v2, p2, b2i_f]
      | true =>
        cases c2 with
        | true =>
          refine Or.inl ⟨nI k, nI (h + 1), w, ⟨rfl, rfl, kw, ?_⟩, fun ag2 => ?_⟩
          · rw [lk_s, if_neg (by rw [hc2]; simp)]; exact hLw
          · unfold b_X0_lift_80
            simp (disch := omega) only [bds, bds2, lts, lit, nI_add, pk_mul, nI_leI, nI_ltI, nI_eq, rdI_nI, rdL_nI, wrI_nI, wrL_nI, rdR_nI, if_pos, if_neg, and_true, true_and, and_false, false_and, reduceIte, hm, xr, v1, v2, p1, p2, b2i]
        | false =>
          obtain ⟨q1, q2, q3⟩ := hLw.2 _ f2 hc1
          have st := q_st hw o hh
          have sv : w.2 97 (h / 2) = iL (pU A (h / 2)) := by rw [kw.2 97 (by simp)]; exact hS.2.2.1 _ (by omega)
          have s1 := c_startOf hB rW hh
          have s2 := c_stepX hB rW hh
          have s3 := c_stepY hB rW hh
          have sl := step_le hB hh
          have l1 := fS_lt hB hh
          have xv := rW.2.1 _ l1
          have yv := rW.2.2.1 _ l1
          have xl := hB.2.2.1 _ l1
          have fne : fc A (bk h) ≠ fc A h := fun e => by rw [e, hc2] at hc1; cases hc1
          refine Or.inl ⟨nI k, nI (h + 1), upI (upL (upL (upL w 107 (fc A h) (iL (qX A o (fc A h)))) 108 (fc A h) (iL (qY A o (fc A h)))) 109 (fc A h) (iL (qL A o (fc A h)))) 110 (fc A h) (b2i true), ⟨rfl, rfl, (((kw.upl (by simp)).upl (by simp)).upl (by simp)).up (by simp), ⟨fun f hf => ?_, fun f hf e => ?_⟩⟩, fun ag2 => ?_⟩
          · rw [lk_s, if_pos ⟨hc1, hc2⟩, upI_at]
            by_cases x : f = fc A h
            · rw [if_pos ⟨rfl, x⟩, x, va_up_self]
            · rw [if_neg (fun a => x a.2), va_up_ne _ _ x]; exact hLw.1 f hf
          · rw [lk_s, if_pos ⟨hc1, hc2⟩] at e
            show (upL (upL (upL w 107 (fc A h) (iL (qX A o (fc A h)))) 108 (fc A h) (iL (qY A o (fc A h)))) 109 (fc A h) (iL (qL A o (fc A h)))).2 107 f = _ ∧ (upL (upL (upL w 107 (fc A h) (iL (qX A o (fc A h)))) 108 (fc A h) (iL (qY A o (fc A h)))) 109 (fc A h) (iL (qL A o (fc A h)))).2 108 f = _ ∧ (upL (upL (upL w 107 (fc A h) (iL (qX A o (fc A h)))) 108 (fc A h) (iL (qY A o (fc A h)))) 109 (fc A h) (iL (qL A o (fc A h)))).2 109 f = _
            by_cases x : f = fc A h
            · refine ⟨?_, ?_, ?_⟩
              · rw [upL_ne (by decide), upL_ne (by decide), upL_at, if_pos ⟨rfl, x⟩, x]
              · rw [upL_ne (by decide), upL_at, if_pos ⟨rfl, x⟩, x]
              · rw [upL_at, if_pos ⟨rfl, x⟩, x]
            · rw [va_up_ne _ _ x] at e
              obtain ⟨a1, a2, a3⟩ := hLw.2 f hf e
              refine ⟨?_, ?_, ?_⟩
              · rw [upL_ne (by decide), upL_ne (by decide), upL_at, if_neg (fun a => x a.2)]; exact a1
              · rw [upL_ne (by decide), upL_at, if_neg (fun a => x a.2), upL_ne (by decide)]; exact a2
              · rw [upL_at, if_neg (fun a => x a.2), upL_ne (by decide), upL_ne (by decide)]; exact a3
          · have ex : iL (qX A o (fc A (bk h))) + iL (pU A (h / 2)) * iL (sX A h) = iL (qX A o (fc A h)) := by rw [iL_mul, iL_add, st.1]; rfl
            have ey : iL (qY A o (fc A (bk h))) + iL (pU A (h / 2)) * iL (sY A h) = iL (qY A o (fc A h)) := by rw [iL_mul, iL_add, st.2.1]; rfl
            have el : (iL (qL A o (fc A (bk h))) + iL (pU A (h / 2)) * iL (sY A h) * iL (fX A (fS A h))) - iL (pU A (h / 2)) * iL (sX A h) * iL (fY A (fS A h)) = iL (qL A o (fc A h)) := by
              rw [iL_mul, iL_mul, iL_mul, iL_mul, iL_add, iL_sub, st.2.2]
              congr 1
              unfold gL gX gY
              omega
            have pb : f_X0_placeBeside (nI h) (iL (pU A (h / 2))) w = some (upI (upL (upL (upL w 107 (fc A h) (iL (qX A o (fc A h)))) 108 (fc A h) (iL (qY A o (fc A h)))) 109 (fc A h) (iL (qL A o (fc A h)))) 110 (fc A h) (b2i true)) := by
              unfold f_X0_placeBeside
              simp (disch := omega) only [bds, bds2, lts, lit, nI_add, pk_mul, nI_leI, nI_ltI, nI_eq, rdI_nI, rdL_nI, wrI_nI, wrL_nI, rdR_nI, if_pos, if_neg, and_true, true_and, and_false, false_and, reduceIte, xr, v1, v2, s1, s2, s3, iIL, q1, upL_at, upL_I, q2, q3, xv, yv, ex, ey, el, nar1]
            unfold b_X0_lift_80
            simp (disch := omega) only [bds, bds2, lts, lit, nI_add, pk_mul, nI_leI, nI_ltI, nI_eq, rdI_nI, rdL_nI, wrI_nI, wrL_nI, rdR_nI, if_pos, if_neg, and_true, true_and, and_false, false_and, reduceIte, hm, xr, v1, v2, p1, p2, b2i_f, b2i_t, pk_div, sv, pb]
    · rintro _ _ w ⟨rfl, rfl, kw, hLw⟩ ag2
      have hm := (rep kw).1.2.1
      refine ⟨w, ?_, kw, hLw⟩
      unfold b_X0_lift_80
      simp (disch := omega) only [bds, bds2, lts, lit, nI_add, pk_mul, nI_leI, nI_ltI, nI_eq, rdI_nI, rdL_nI, wrI_nI, wrL_nI, rdR_nI, if_pos, if_neg, and_true, true_and, and_false, false_and, reduceIte, hm]
  have ph3 : ∀ y0 : Sto, Ke [107, 108, 109, 110] z y0 → LfC A o y0 (kB A o 0) → ∃ y, wl2 b_X0_lift_69 fu (nI 0) y0 = some y ∧ Ke [107, 108, 109, 110] z y ∧ LfC A o y (kB A o (nF A)) := by
    intro y0 k0 hL0
    refine wl2_ind (Q := fun o' => ∃ y, o' = some y ∧ Ke [107, 108, 109, 110] z y ∧ LfC A o y (kB A o (nF A))) (fun k a w => a = nI k ∧ Ke [107, 108, 109, 110] z w ∧ LfC A o w (kB A o k)) (nF A) ?_ ?_ (by omega) ⟨rfl, k0, hL0⟩
    · rintro k hk _ w ⟨rfl, kw, hLw⟩ ag
      have hnw : w.1 100 0 = nI (nF A) := by rw [kw.1 100 (by simp)]; exact hn
      obtain ⟨y', a1, a2, a3⟩ := pass k w (kB A o k) ag kw hLw
      refine Or.inl ⟨nI (k + 1), y', ⟨rfl, a2, a3⟩, ?_⟩
      rw [← a1]
      unfold b_X0_lift_69
      simp (disch := omega) only [bds, bds2, lts, lit, nI_add, pk_mul, nI_leI, nI_ltI, nI_eq, rdI_nI, rdL_nI, wrI_nI, wrL_nI, rdR_nI, if_pos, if_neg, and_true, true_and, and_false, false_and, reduceIte, hnw]
    · rintro _ w ⟨rfl, kw, hLw⟩ ag
      have hnw : w.1 100 0 = nI (nF A) := by rw [kw.1 100 (by simp)]; exact hn
      refine ⟨w, ?_, kw, hLw⟩
      unfold b_X0_lift_69
      simp (disch := omega) only [bds, bds2, lts, lit, nI_add, pk_mul, nI_leI, nI_ltI, nI_eq, rdI_nI, rdL_nI, wrI_nI, wrL_nI, rdR_nI, if_pos, if_neg, and_true, true_and, and_false, false_and, reduceIte, hnw]
  obtain ⟨g1, a1, a2⟩ := c_fill (z := z) (c := 107) (n := 18) (by omega) 0
  obtain ⟨g2, a3, a4⟩ := c_fill (z := stL z 107 g1) (c := 108) (n := 18) (by omega) 0
  obtain ⟨g3, a5, a6⟩ := c_fill (z := stL (stL z 107 g1) 108 g2) (c := 109) (n := 18) (by omega) 0
  obtain ⟨z7, hz7⟩ : ∃ z7, z7 = stL (stL (stL z 107 g1) 108 g2) 109 g3 := ⟨_, rfl⟩
  have k7 : Ke [107, 108, 109, 110] z z7 := by rw [hz7]; exact ((Ke.rf.stl (by simp)).stl (by simp)).stl (by simp)
  have v7 : ∀ f, f < 18 → z7.2 107 f = iL 0 ∧ z7.2 108 f = iL 0 ∧ z7.2 109 f = iL 0 := fun f hf => by
    rw [hz7]
    exact ⟨by rw [stL_ne (by decide), stL_ne (by decide), stL_same, a2 f hf]; rfl, by rw [stL_ne (by decide), stL_same, a4 f hf]; rfl, by rw [stL_same, a6 f hf]; rfl⟩
  have ph2 : ∃ y, wl2 b_X0_lift_34 fu (nI 0) z7 = some y ∧ Ke [107, 108, 109, 110] z y ∧ LfC A o y (kB A o (nF A)) := by
    refine wl2_inv (Q := fun o' => ∃ y, o' = some y ∧ Ke [107, 108, 109, 110] z y ∧ LfC A o y (kB A o (nF A))) (fun f a w => a = nI f ∧ ∃ g, w = stI z7 110 g ∧ ∀ i, i < f → g i = b2i (decide (i = o))) (nF A) ?_ ?_ (by omega) ⟨rfl, z7.1 110, stI_self.symm, fun i hi => by omega⟩
    · rintro f hf _ _ ⟨rfl, g, rfl, hg⟩
      have hnw : (stI z7 110 g).1 100 0 = nI (nF A) := by rw [stI_ne (by decide), k7.1 100 (by simp)]; exact hn
      have how : (stI z7 110 g).1 100 1 = nI o := by rw [stI_ne (by decide), k7.1 100 (by simp)]; exact hou
      refine Or.inl ⟨nI (f + 1), stI z7 110 (upd g f (b2i (decide (f = o)))), ⟨rfl, _, rfl, fun i hi => ?_⟩, fun ag => ?_⟩
      · rw [upd_at]
        by_cases x : i = f
        · rw [if_pos x, x]
        · rw [if_neg x]; exact hg i (by omega)
      · unfold b_X0_lift_34
        by_cases x : f = o
        · rw [decide_eq_true x]
          simp (disch := omega) only [bds, bds2, lts, lit, nI_add, pk_mul, nI_leI, nI_ltI, nI_eq, rdI_nI, rdL_nI, wrI_nI, wrL_nI, rdR_nI, if_pos, if_neg, and_true, true_and, and_false, false_and, reduceIte, hnw, how, nar1, upI_st]
        · rw [decide_eq_false x]
          simp (disch := omega) only [bds, bds2, lts, lit, nI_add, pk_mul, nI_leI, nI_ltI, nI_eq, rdI_nI, rdL_nI, wrI_nI, wrL_nI, rdR_nI, if_pos, if_neg, and_true, true_and, and_false, false_and, reduceIte, hnw, how, nar0, upI_st]
    · rintro _ _ ⟨rfl, g, rfl, hg⟩ ag
      have hnw : (stI z7 110 g).1 100 0 = nI (nF A) := by rw [stI_ne (by decide), k7.1 100 (by simp)]; exact hn
      obtain ⟨y, b1, b2, b3⟩ := ph3 (stI z7 110 g) (k7.st (by simp)) ⟨fun f hf => by rw [stI_same]; exact hg f hf, fun f hf e => by
        have e : decide (f = o) = true := e
        have e : f = o := by simpa using e
        obtain ⟨c1, c2, c3⟩ := q_0 A o
        rw [e, c1, c2, c3]
        exact v7 o (by omega)⟩
      refine ⟨y, ?_, b2, b3⟩
      rw [← b1]
      unfold b_X0_lift_34
      simp (disch := omega) only [bds, bds2, lts, lit, nI_add, pk_mul, nI_leI, nI_ltI, nI_eq, rdI_nI, rdL_nI, wrI_nI, wrL_nI, rdR_nI, if_pos, if_neg, and_true, true_and, and_false, false_and, reduceIte, hnw]
  obtain ⟨y, b1, b2, b3⟩ := ph2
  refine ⟨y, ?_, b2, b3⟩
  unfold f_X0_lift
  rw [if_pos (by rw [hou]; exact nI_pos' (by omega)), a1, bds, a3, bds, a5, bds, ← hz7]
  exact b1
theorem c_nolift (hC : FcC z A) (hwh : whB A = false) : f_X0_lift z = some z := by
  unfold f_X0_lift
  rw [hC.1.2, oF_none hwh]
  exact if_neg (by decide)
end
