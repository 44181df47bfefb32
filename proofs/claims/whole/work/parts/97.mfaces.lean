def cM (v : Nat) : Int32 := if v = 99 then -4 else nI v
theorem cM_lt {v : Nat} (h : v = 99 ∨ v < 18) : (nI 0 ≤ cM v) ↔ v ≠ 99 := by
  unfold cM
  by_cases c : v = 99
  · rw [if_pos c]; exact ⟨fun e => absurd e (by decide), fun e => absurd c e⟩
  · rw [if_neg c]; exact ⟨fun _ => c, fun _ => nI_pos' (by omega)⟩
def FcM (y : Sto) (A : Fm) : Prop := y.1 122 19 = nI (nF A) ∧ ∀ h, h < 2 * fM A → y.1 136 h = nI (fc A h)
section
variable {A : Fm} {z y : Sto}
theorem m_walk (hw : WF A) (hR : RowM (z.1 123) A) {h t : Nat} {c : Nat → Nat} (hh : h < 2 * fM A) (hI : LI A h c t) (hc : c h = 99) (h19 : z.1 122 19 = nI t) (h136 : ∀ g, g < 2 * fM A → z.1 136 g = cM (c g)) {ag29 : Int32 → Sto → Option Sto} : ∃ g, wl3 (b_X7_laysFaces_52 ag29) fu (nI h) (nI h) z = ag29 (nI (h + 1)) (upI (stI z 136 g) 122 19 (nI (t + 1))) ∧ ∀ i, i < 2 * fM A → g i = cM (wk A (2 * fM A) h t c i) := by
  have hB := hw.1
  have h9 := hB.2.1
  have htl : t ≤ h := hI.1.1
  have r19 : ∀ g, (stI z 136 g).1 122 19 = nI t := fun g => by rw [stI_ne (by decide)]; exact h19
  refine wl3_inv (Q := fun o => ∃ g, o = ag29 (nI (h + 1)) (upI (stI z 136 g) 122 19 (nI (t + 1))) ∧ ∀ i, i < 2 * fM A → g i = cM (wk A (2 * fM A) h t c i)) (fun i a b y => a = nI h ∧ ∃ g k c', y = stI z 136 g ∧ b = nI k ∧ k < 2 * fM A ∧ cnt (fun j => decide (c' j = 99)) (2 * fM A) + i ≤ 2 * fM A ∧ wk A (2 * fM A - i) k t c' = wk A (2 * fM A) h t c ∧ (∀ j, j < 2 * fM A → c' j = 99 ∨ c' j < t + 1) ∧ ∀ j, j < 2 * fM A → g j = cM (c' j)) (2 * fM A) ?_ ?_ (by omega) ⟨rfl, z.1 136, h, c, stI_self.symm, rfl, hh, cnt_le, rfl, fun g hg => by have := hI.1.2 g hg; omega, h136⟩
  · rintro i hi _ _ _ ⟨rfl, g, k, c', rfl, rfl, hk, hu, hwk, hcl, hg⟩
    have v := hg k hk
    have cl := hcl k hk
    have gg := cM_lt (v := c' k) (by omega)
    by_cases e : c' k = 99
    · have ng : ¬ nI 0 ≤ cM (c' k) := fun x => (gg.mp x) e
      have u := un_up (f := t) hk e (by omega)
      have nn : ∀ g, f_X7_nextOf (nI k) (stI z 136 g) = some (nI (nx A k)) := fun g => m_nextOf (z := stI z 136 g) hw (by rw [stI_ne (by decide)]; exact hR) hk
      have hwk' : wk A (2 * fM A - (i + 1)) (nx A k) t (va_up c' k t) = wk A (2 * fM A) h t c := by
        rw [← hwk, show 2 * fM A - i = (2 * fM A - (i + 1)) + 1 by omega, wk_s, if_pos e]
      refine Or.inl ⟨nI h, nI (nx A k), stI z 136 (upd g k (nI t)), ⟨rfl, _, nx A k, va_up c' k t, rfl, rfl, (nx_spec hw hk).1, by omega, hwk', fun j hj => ?_, fun j hj => ?_⟩, fun ag => ?_⟩
      · by_cases x : j = k
        · rw [x, va_up_self]; omega
        · rw [va_up_ne _ _ x]; exact hcl j hj
      · rw [upd_at]
        by_cases x : j = k
        · rw [if_pos x, x, va_up_self]; unfold cM; rw [if_neg (by omega)]
        · rw [if_neg x, va_up_ne _ _ x]; exact hg j hj
      · unfold b_X7_laysFaces_52
        simp (disch := omega) only [bds, bds2, lts, lit, nI_add, pk_mul, nI_leI, nI_ltI, nI_eq, rdI_nI, rdL_nI, wrI_nI, wrL_nI, rdR_nI, if_pos, if_neg, and_true, true_and, and_false, false_and, reduceIte, stI_same, v, r19, upI_st, nn]
    · refine Or.inr fun ag => ?_
      have ng : nI 0 ≤ cM (c' k) := gg.mpr e
      have ee : wk A (2 * fM A - i) k t c' = c' := by rw [show 2 * fM A - i = (2 * fM A - (i + 1)) + 1 by omega, wk_s, if_neg e]
      rw [← hwk, ee]
      refine ⟨g, ?_, hg⟩
      unfold b_X7_laysFaces_52
      simp (disch := omega) only [bds, bds2, lts, lit, nI_add, pk_mul, nI_leI, nI_ltI, nI_eq, rdI_nI, rdL_nI, wrI_nI, wrL_nI, rdR_nI, if_pos, if_neg, and_true, true_and, and_false, false_and, reduceIte, stI_same, v, r19]
  · rintro _ _ _ ⟨rfl, g, k, c', rfl, rfl, hk, hu, hwk, hcl, hg⟩ ag
    have e : c' k ≠ 99 := fun e => by
      have := cnt_rm (p := fun j => decide (c' j = 99)) hk (by simp [e])
      omega
    have v := hg k hk
    have cl := hcl k hk
    have ng : nI 0 ≤ cM (c' k) := (cM_lt (v := c' k) (by omega)).mpr e
    rw [Nat.sub_self] at hwk
    have hwk : c' = wk A (2 * fM A) h t c := hwk
    rw [← hwk]
    refine ⟨g, ?_, hg⟩
    unfold b_X7_laysFaces_52
    simp (disch := omega) only [bds, bds2, lts, lit, nI_add, pk_mul, nI_leI, nI_ltI, nI_eq, rdI_nI, rdL_nI, wrI_nI, wrL_nI, rdR_nI, if_pos, if_neg, and_true, true_and, and_false, false_and, reduceIte, stI_same, v, r19]
theorem m_laysFaces (hw : WF A) (hR : RowM (z.1 123) A) : ∃ y, f_X7_laysFaces z = some y ∧ Ke [122, 136] z y ∧ (∀ j, j ≠ 19 → y.1 122 j = z.1 122 j) ∧ y.2 = z.2 ∧ FcM y A := by
  have hB := hw.1
  have h9 := hB.2.1
  have hm := hR.1.2.1
  have ph2 : ∀ g0 : Nat → Int32, (∀ i, i < 18 → g0 i = -4) → ∃ y, wl2 b_X7_laysFaces_29 fu (nI 0) (upI (stI z 136 g0) 122 19 (nI 0)) = some y ∧ Ke [122, 136] z y ∧ (∀ j, j ≠ 19 → y.1 122 j = z.1 122 j) ∧ y.2 = z.2 ∧ FcM y A := by
    intro g0 hg0
    refine wl2_ind (Q := fun o => ∃ y, o = some y ∧ Ke [122, 136] z y ∧ (∀ j, j ≠ 19 → y.1 122 j = z.1 122 j) ∧ y.2 = z.2 ∧ FcM y A) (fun h a y => a = nI h ∧ ∃ g, y = upI (stI z 136 g) 122 19 (nI (ly A h).2) ∧ ∀ i, i < 2 * fM A → g i = cM ((ly A h).1 i)) (2 * fM A) ?_ ?_ (by omega) ⟨rfl, g0, rfl, fun i hi => by rw [hg0 i (by omega)]; rfl⟩
    · rintro h hh _ _ ⟨rfl, g, rfl, hg⟩ ag
      have hL := LI_ly hw h (by omega)
      have tl := hL.1.1
      have cl := hL.1.2 h hh
      have v := hg h hh
      have gg := cM_lt (v := (ly A h).1 h) (by omega)
      have rm : (upI (stI z 136 g) 122 19 (nI (ly A h).2)).1 123 1 = nI (fM A) := by rw [upI_ne (by decide), stI_ne (by decide)]; exact hm
      have r136 : ∀ i, (upI (stI z 136 g) 122 19 (nI (ly A h).2)).1 136 i = g i := fun i => by rw [upI_ne (by decide), stI_same]
      refine Or.inl ?_
      by_cases c : (ly A h).1 h = 99
      · obtain ⟨g', w1, w2⟩ := m_walk (z := upI (stI z 136 g) 122 19 (nI (ly A h).2)) (ag29 := ag) hw (by rw [upI_ne (by decide), stI_ne (by decide)]; exact hR) hh hL c (by rw [upI_at, if_pos ⟨rfl, rfl⟩]) (fun i hi => by rw [r136]; exact hg i hi)
        have ng : ¬ nI 0 ≤ cM ((ly A h).1 h) := fun e => (gg.mp e) c
        have es : upI (stI (upI (stI z 136 g) 122 19 (nI (ly A h).2)) 136 g') 122 19 (nI ((ly A h).2 + 1)) = upI (stI z 136 g') 122 19 (nI ((ly A h).2 + 1)) := by
          rw [upI_eq (z := stI z 136 g), stI_comm (by decide), stI_stI, upI_st, upI_eq]
          congr 1
          funext j
          rw [upd_at, upd_at, upd_at]
          by_cases e : j = 19
          · rw [if_pos e, if_pos e]
          · rw [if_neg e, if_neg e, if_neg e, stI_ne (by decide), stI_ne (by decide)]
        refine ⟨nI (h + 1), upI (stI z 136 g') 122 19 (nI ((ly A h).2 + 1)), ⟨rfl, g', ?_, fun i hi => ?_⟩, ?_⟩
        · rw [ly_s, if_pos c]
        · rw [ly_s, if_pos c]; exact w2 i hi
        · rw [← es, ← w1]
          unfold b_X7_laysFaces_29
          simp (disch := omega) only [bds, bds2, lts, lit, nI_add, pk_mul, nI_leI, nI_ltI, nI_eq, rdI_nI, rdL_nI, wrI_nI, wrL_nI, rdR_nI, if_pos, if_neg, and_true, true_and, and_false, false_and, reduceIte, rm, r136, v]
      · have ng : nI 0 ≤ cM ((ly A h).1 h) := gg.mpr c
        refine ⟨nI (h + 1), upI (stI z 136 g) 122 19 (nI (ly A h).2), ⟨rfl, g, ?_, fun i hi => ?_⟩, ?_⟩
        · rw [ly_s, if_neg c]
        · rw [ly_s, if_neg c]; exact hg i hi
        · unfold b_X7_laysFaces_29
          simp (disch := omega) only [bds, bds2, lts, lit, nI_add, pk_mul, nI_leI, nI_ltI, nI_eq, rdI_nI, rdL_nI, wrI_nI, wrL_nI, rdR_nI, if_pos, if_neg, and_true, true_and, and_false, false_and, reduceIte, rm, r136, v]
    · rintro _ _ ⟨rfl, g, rfl, hg⟩ ag
      have rm : (upI (stI z 136 g) 122 19 (nI (ly A (2 * fM A)).2)).1 123 1 = nI (fM A) := by rw [upI_ne (by decide), stI_ne (by decide)]; exact hm
      have fs := fc_spec hw
      refine ⟨upI (stI z 136 g) 122 19 (nI (ly A (2 * fM A)).2), ?_, (Ke.rf.st (by simp)).up (by simp), fun j hj => ?_, rfl, ?_, fun i hi => ?_⟩
      · unfold b_X7_laysFaces_29
        simp (disch := omega) only [bds, bds2, lts, lit, nI_add, pk_mul, nI_leI, nI_ltI, nI_eq, rdI_nI, rdL_nI, wrI_nI, wrL_nI, rdR_nI, if_pos, if_neg, and_true, true_and, and_false, false_and, reduceIte, rm]
      · rw [upI_at, if_neg (by omega), stI_ne (by decide)]
      · rw [upI_at, if_pos ⟨rfl, rfl⟩]; rfl
      · rw [upI_ne (by decide), stI_same, hg i hi]
        have := fs.2.1 i hi
        show cM (fc A i) = _
        unfold cM
        rw [if_neg (by omega)]
  have ph1 : ∃ y, wl2 b_X7_laysFaces_7 fu (nI 0) (upI z 122 19 (nI 0)) = some y ∧ Ke [122, 136] z y ∧ (∀ j, j ≠ 19 → y.1 122 j = z.1 122 j) ∧ y.2 = z.2 ∧ FcM y A := by
    refine wl2_inv (Q := fun o => ∃ y, o = some y ∧ Ke [122, 136] z y ∧ (∀ j, j ≠ 19 → y.1 122 j = z.1 122 j) ∧ y.2 = z.2 ∧ FcM y A) (fun k a y => a = nI k ∧ ∃ g, y = stI (upI z 122 19 (nI 0)) 136 g ∧ ∀ i, i < k → g i = -4) 18 ?_ ?_ (by omega) ⟨rfl, _, stI_self.symm, fun i hi => by omega⟩
    · rintro k hk _ _ ⟨rfl, g, rfl, hg⟩
      refine Or.inl ⟨nI (k + 1), stI (upI z 122 19 (nI 0)) 136 (upd g k (-4)), ⟨rfl, _, rfl, fun i hi => ?_⟩, fun ag => ?_⟩
      · rw [upd_at]
        by_cases c : i = k
        · rw [if_pos c]
        · rw [if_neg c]; exact hg i (by omega)
      · unfold b_X7_laysFaces_7
        simp (disch := omega) only [bds, bds2, lts, lit, nI_add, pk_mul, nI_leI, nI_ltI, nI_eq, rdI_nI, rdL_nI, wrI_nI, wrL_nI, rdR_nI, if_pos, if_neg, and_true, true_and, and_false, false_and, reduceIte, upI_st]
    · rintro _ _ ⟨rfl, g, rfl, hg⟩ ag
      obtain ⟨y, a1, a2⟩ := ph2 g hg
      refine ⟨y, ?_, a2⟩
      rw [← a1]
      have es : stI (upI z 122 19 (nI 0)) 136 g = upI (stI z 136 g) 122 19 (nI 0) := by
        rw [upI_eq (z := z), stI_comm (by decide), upI_eq, stI_ne (by decide)]
      rw [es]
      unfold b_X7_laysFaces_7
      simp (disch := omega) only [bds, bds2, lts, lit, nI_add, pk_mul, nI_leI, nI_ltI, nI_eq, rdI_nI, rdL_nI, wrI_nI, wrL_nI, rdR_nI, if_pos, if_neg, and_true, true_and, and_false, false_and, reduceIte]
  obtain ⟨y, a1, a2⟩ := ph1
  refine ⟨y, ?_, a2⟩
  unfold f_X7_laysFaces
  rw [lts]
  exact a1
theorem m_areaOf (hw : WF A) (hR : RowM (y.1 123) A) (hF : FcM y A) {f : Nat} (hf : f < nF A) : f_X7_areaOf (nI f) y = some (iI (ar A f)) := by
  have hB := hw.1
  have h9 := hB.2.1
  have h6 := hB.1
  have hm := hR.1.2.1
  have fs := fc_spec hw
  refine wl3_inv (Q := fun o => o = some (iI (ar A f))) (fun h a b c => a = nI f ∧ b = iI (sm h (fun g => if fc A g = f then cx A g else 0)) ∧ c = nI h) (2 * fM A) ?_ ?_ (by omega) ⟨rfl, rfl, rfl⟩
  · rintro h hh _ _ _ ⟨rfl, rfl, rfl⟩
    have v := hF.2 h hh
    have fl := fs.2.1 h hh
    have s1 := m_from hB hR hh
    have s2 := m_to hB hR hh
    have x1 := m_x hB hR (fS_lt hB hh)
    have x2 := m_x hB hR (fE_lt hB hh)
    have y1 := m_y hB hR (fS_lt hB hh)
    have y2 := m_y hB hR (fE_lt hB hh)
    refine Or.inl ⟨nI f, iI (sm (h + 1) (fun g => if fc A g = f then cx A g else 0)), nI (h + 1), ⟨rfl, rfl, rfl⟩, fun ag => ?_⟩
    rw [sm_s]
    unfold b_X7_areaOf_4
    by_cases c : fc A h = f
    · simp (disch := omega) only [bds, bds2, lts, lit, nI_add, pk_mul, nI_leI, nI_ltI, nI_eq, rdI_nI, rdL_nI, wrI_nI, wrL_nI, rdR_nI, if_pos, if_neg, and_true, true_and, and_false, false_and, reduceIte, hm, v, s1, s2, x1, x2, y1, y2, iI_mul, iI_sub, iI_add]
      rfl
    · simp (disch := omega) only [bds, bds2, lts, lit, nI_add, pk_mul, nI_leI, nI_ltI, nI_eq, rdI_nI, rdL_nI, wrI_nI, wrL_nI, rdR_nI, if_pos, if_neg, and_true, true_and, and_false, false_and, reduceIte, hm, v, Int.add_zero]
      have : iI (sm h (fun g => if fc A g = f then cx A g else 0)) + nI 0 = iI (sm h (fun g => if fc A g = f then cx A g else 0)) := by
        rw [nI_iI, iI_add]; congr 1; omega
      rw [this]
  · rintro _ _ _ ⟨rfl, rfl, rfl⟩ ag
    unfold b_X7_areaOf_4
    simp (disch := omega) only [bds, bds2, lts, lit, nI_add, pk_mul, nI_leI, nI_ltI, nI_eq, rdI_nI, rdL_nI, wrI_nI, wrL_nI, rdR_nI, if_pos, if_neg, and_true, true_and, and_false, false_and, reduceIte, hm]
    rfl
theorem m_manyOf (hw : WF A) (hR : RowM (y.1 123) A) (hF : FcM y A) {f : Nat} (hf : f < nF A) : f_X7_manyOf (nI f) y = some (nI (szc A (fc A) f)) := by
  have hB := hw.1
  have h9 := hB.2.1
  have hm := hR.1.2.1
  have fs := fc_spec hw
  refine wl3_inv (Q := fun o => o = some (nI (szc A (fc A) f))) (fun h a b c => a = nI f ∧ b = nI (cnt (fun g => decide (fc A g = f)) h) ∧ c = nI h) (2 * fM A) ?_ ?_ (by omega) ⟨rfl, rfl, rfl⟩
  · rintro h hh _ _ _ ⟨rfl, rfl, rfl⟩
    have v := hF.2 h hh
    have fl := fs.2.1 h hh
    refine Or.inl ⟨nI f, nI (cnt (fun g => decide (fc A g = f)) (h + 1)), nI (h + 1), ⟨rfl, rfl, rfl⟩, fun ag => ?_⟩
    unfold b_X7_manyOf_4
    by_cases c : fc A h = f
    · rw [cnt_t (by simp [c])]
      simp (disch := omega) only [bds, bds2, lts, lit, nI_add, pk_mul, nI_leI, nI_ltI, nI_eq, rdI_nI, rdL_nI, wrI_nI, wrL_nI, rdR_nI, if_pos, if_neg, and_true, true_and, and_false, false_and, reduceIte, hm, v]
    · rw [cnt_f (by simp [c])]
      simp (disch := omega) only [bds, bds2, lts, lit, nI_add, pk_mul, nI_leI, nI_ltI, nI_eq, rdI_nI, rdL_nI, wrI_nI, wrL_nI, rdR_nI, if_pos, if_neg, and_true, true_and, and_false, false_and, reduceIte, hm, v, Nat.add_zero]
  · rintro _ _ _ ⟨rfl, rfl, rfl⟩ ag
    unfold b_X7_manyOf_4
    simp (disch := omega) only [bds, bds2, lts, lit, nI_add, pk_mul, nI_leI, nI_ltI, nI_eq, rdI_nI, rdL_nI, wrI_nI, wrL_nI, rdR_nI, if_pos, if_neg, and_true, true_and, and_false, false_and, reduceIte, hm]
    rfl
theorem m_leastOf (hw : WF A) (hF : FcM y A) {f g : Nat} (hg : g < 2 * fM A) (h1 : fc A g = f) (h2 : ∀ i, i < g → fc A i ≠ f) : f_X7_leastOf (nI f) y = some (nI g) := by
  have h9 := hw.1.2.1
  have fs := fc_spec hw
  have fg := fs.2.1 g hg
  refine wl2_inv (Q := fun o => o = some (nI g)) (fun h a b => a = nI f ∧ b = nI h) g ?_ ?_ (by omega) ⟨rfl, rfl⟩
  · rintro h hh _ _ ⟨rfl, rfl⟩
    have v := hF.2 h (by omega)
    have fl := fs.2.1 h (by omega)
    have ne := h2 h hh
    refine Or.inl ⟨nI f, nI (h + 1), ⟨rfl, rfl⟩, fun ag => ?_⟩
    unfold b_X7_leastOf_2
    simp (disch := omega) only [bds, bds2, lts, lit, nI_add, pk_mul, nI_leI, nI_ltI, nI_eq, rdI_nI, rdL_nI, wrI_nI, wrL_nI, rdR_nI, if_pos, if_neg, and_true, true_and, and_false, false_and, reduceIte, v]
  · rintro _ _ ⟨rfl, rfl⟩ ag
    have v := hF.2 g hg
    unfold b_X7_leastOf_2
    simp (disch := omega) only [bds, bds2, lts, lit, nI_add, pk_mul, nI_leI, nI_ltI, nI_eq, rdI_nI, rdL_nI, wrI_nI, wrL_nI, rdR_nI, if_pos, if_neg, and_true, true_and, and_false, false_and, reduceIte, v, h1]
theorem m_outer (hw : WF A) (hR : RowM (y.1 123) A) (hF : FcM y A) : f_X7_outer y = some (oM (oF A)) := by
  have hB := hw.1
  have h9 := hB.2.1
  have fs := fc_spec hw
  have wh := m_isWhole hB hR
  have e0 : nI (nF A) - (1 : Int32) = iI ((nF A : Int) - 1) := by rw [nI_iI, show (1 : Int32) = iI 1 from rfl, iI_sub]
  unfold f_X7_outer oF
  rw [lts, hF.1, e0]
  cases c : whB A with
  | false =>
    rw [c] at wh
    refine wl2_inv (Q := fun o => o = some (oM (if false = true then lfd (flt A) (nF A) (nF A) else none))) (fun d a b => a = -4 ∧ b = iI ((nF A : Int) - 1)) 0 (fun k hk => by omega) ?_ (by omega) ⟨rfl, rfl⟩
    rintro _ _ ⟨rfl, rfl⟩ ag
    unfold b_X7_outer_10
    by_cases c2 : nF A = 0
    · rw [if_pos (by rw [c2]; decide)]; rfl
    · rw [if_neg (fun e => by have := (iI_lt0 (by omega) (by omega)).mp e; omega), wh]; rfl
  | true =>
    rw [c] at wh
    refine wl2_inv (Q := fun o => o = some (oM (if true = true then lfd (flt A) (nF A) (nF A) else none))) (fun d a b => a = oM (lfd (flt A) (nF A) d) ∧ b = iI ((nF A : Int) - 1 - d)) (nF A) ?_ ?_ (by omega) ⟨rfl, by rw [show ((nF A : Int) - 1 - ((0 : Nat) : Int)) = (nF A : Int) - 1 by omega]⟩
    · rintro d hd _ _ ⟨rfl, rfl⟩
      have ev : iI ((nF A : Int) - 1 - d) = nI (nF A - (d + 1)) := by rw [nI_iI]; congr 1; omega
      have ar1 := m_areaOf hw hR hF (f := nF A - (d + 1)) (by omega)
      have al := ar_le hB (fc A) (nF A - (d + 1))
      have p : ((0 : Int32) < iI (ar A (nF A - (d + 1)))) ↔ 0 < ar A (nF A - (d + 1)) := iI_lt (a := 0) (small32 (by omega) (by omega)) (small32 (by unfold ar; omega) (by unfold ar; omega))
      have em : nI (nF A - (d + 1)) + (-1 : Int32) = iI ((nF A : Int) - 1 - ((d + 1 : Nat) : Int)) := by rw [nI_iI, iIm1, iI_add]; congr 1; omega
      refine Or.inl ⟨oM (lfd (flt A) (nF A) (d + 1)), iI ((nF A : Int) - 1 - ((d + 1 : Nat) : Int)), ⟨rfl, rfl⟩, fun ag => ?_⟩
      rw [ev, lfd_s]
      unfold b_X7_outer_10
      rw [if_neg (nI_pos (by omega)), wh, bds, if_neg (by decide), ar1, bds]
      by_cases c2 : 0 < ar A (nF A - (d + 1))
      · rw [if_pos (p.mpr c2), lts, em, if_neg (by unfold flt; simp; omega)]
      · rw [if_neg (fun e => c2 (p.mp e)), lts, em, if_pos (by unfold flt; simp; omega)]
        rfl
    · rintro _ _ ⟨rfl, rfl⟩ ag
      unfold b_X7_outer_10
      rw [if_pos (show iI ((nF A : Int) - 1 - (nF A : Int)) < 0 by rw [show (nF A : Int) - 1 - (nF A : Int) = -1 by omega]; decide), if_pos rfl]
end
