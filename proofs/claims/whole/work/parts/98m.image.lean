section
variable {s t : Sto}
theorem m_image2 {z : Sto} : ∃ g1 g2, f_X7_image z = some (1, upI (stI (stI z 125 g1) 126 g2) 122 5 (z.1 122 2)) ∧ (∀ k, k < 42 → g1 k = z.1 123 k) ∧ ∀ k, k < 252 → g2 k = z.1 124 k := by
  have ph2 : ∀ g1 : Nat → Int32, ∃ g2, wl2 b_X7_image_28 fu (nI 0) (stI z 125 g1) = some (1, upI (stI (stI z 125 g1) 126 g2) 122 5 (z.1 122 2)) ∧ ∀ k, k < 252 → g2 k = z.1 124 k := by
    intro g1
    refine wl2_inv (Q := fun o => ∃ g2, o = some (1, upI (stI (stI z 125 g1) 126 g2) 122 5 (z.1 122 2)) ∧ ∀ k, k < 252 → g2 k = z.1 124 k) (fun k a y => a = nI k ∧ ∃ g, y = stI (stI z 125 g1) 126 g ∧ ∀ i, i < k → g i = z.1 124 i) 252 ?_ ?_ (by omega) ⟨rfl, _, stI_self.symm, fun i hi => by omega⟩
    · rintro k hk _ _ ⟨rfl, g, rfl, hg⟩
      refine Or.inl ⟨nI (k + 1), stI (stI z 125 g1) 126 (upd g k (z.1 124 k)), ⟨rfl, _, rfl, fun i hi => ?_⟩, fun ag => ?_⟩
      · rw [upd_at]
        by_cases x : i = k
        · rw [if_pos x, x]
        · rw [if_neg x]; exact hg i (by omega)
      · unfold b_X7_image_28
        simp (disch := omega) only [bds, bds2, lts, lit, nI_add, pk_mul, nI_leI, nI_ltI, nI_eq, rdI_nI, rdL_nI, wrI_nI, wrL_nI, rdR_nI, if_pos, if_neg, and_true, true_and, and_false, false_and, reduceIte, stI_at, upI_st]
    · rintro _ _ ⟨rfl, g, rfl, hg⟩ ag
      refine ⟨g, ?_, hg⟩
      unfold b_X7_image_28
      simp (disch := omega) only [bds, bds2, lts, lit, nI_add, pk_mul, nI_leI, nI_ltI, nI_eq, rdI_nI, rdL_nI, wrI_nI, wrL_nI, rdR_nI, if_pos, if_neg, and_true, true_and, and_false, false_and, reduceIte, stI_at]
  refine wl2_inv (Q := fun o => ∃ g1 g2, o = some (1, upI (stI (stI z 125 g1) 126 g2) 122 5 (z.1 122 2)) ∧ (∀ k, k < 42 → g1 k = z.1 123 k) ∧ ∀ k, k < 252 → g2 k = z.1 124 k) (fun k a y => a = nI k ∧ ∃ g, y = stI z 125 g ∧ ∀ i, i < k → g i = z.1 123 i) 42 ?_ ?_ (by omega) ⟨rfl, _, stI_self.symm, fun i hi => by omega⟩
  · rintro k hk _ _ ⟨rfl, g, rfl, hg⟩
    refine Or.inl ⟨nI (k + 1), stI z 125 (upd g k (z.1 123 k)), ⟨rfl, _, rfl, fun i hi => ?_⟩, fun ag => ?_⟩
    · rw [upd_at]
      by_cases x : i = k
      · rw [if_pos x, x]
      · rw [if_neg x]; exact hg i (by omega)
    · unfold b_X7_image_2
      simp (disch := omega) only [bds, bds2, lts, lit, nI_add, pk_mul, nI_leI, nI_ltI, nI_eq, rdI_nI, rdL_nI, wrI_nI, wrL_nI, rdR_nI, if_pos, if_neg, and_true, true_and, and_false, false_and, reduceIte, stI_at, upI_st]
  · rintro _ _ ⟨rfl, g, rfl, hg⟩ ag
    obtain ⟨g2, a1, a2⟩ := ph2 g
    refine ⟨g, g2, ?_, hg, a2⟩
    rw [← a1]
    unfold b_X7_image_2
    rw [if_pos (by decide)]
    rfl
theorem m_restore2 {z : Sto} (h0 : (0 : Int32) ≤ z.1 122 5) : ∃ g1 g2, f_X7_restore z = some (1, upI (stI (stI z 123 g1) 124 g2) 122 2 (z.1 122 5)) ∧ (∀ k, k < 42 → g1 k = z.1 125 k) ∧ ∀ k, k < 252 → g2 k = z.1 126 k := by
  have ph2 : ∀ g1 : Nat → Int32, ∃ g2, wl2 b_X7_restore_38 fu (nI 0) (stI z 123 g1) = some (1, upI (stI (stI z 123 g1) 124 g2) 122 2 (z.1 122 5)) ∧ ∀ k, k < 252 → g2 k = z.1 126 k := by
    intro g1
    refine wl2_inv (Q := fun o => ∃ g2, o = some (1, upI (stI (stI z 123 g1) 124 g2) 122 2 (z.1 122 5)) ∧ ∀ k, k < 252 → g2 k = z.1 126 k) (fun k a y => a = nI k ∧ ∃ g, y = stI (stI z 123 g1) 124 g ∧ ∀ i, i < k → g i = z.1 126 i) 252 ?_ ?_ (by omega) ⟨rfl, _, stI_self.symm, fun i hi => by omega⟩
    · rintro k hk _ _ ⟨rfl, g, rfl, hg⟩
      refine Or.inl ⟨nI (k + 1), stI (stI z 123 g1) 124 (upd g k (z.1 126 k)), ⟨rfl, _, rfl, fun i hi => ?_⟩, fun ag => ?_⟩
      · rw [upd_at]
        by_cases x : i = k
        · rw [if_pos x, x]
        · rw [if_neg x]; exact hg i (by omega)
      · unfold b_X7_restore_38
        simp (disch := omega) only [bds, bds2, lts, lit, nI_add, pk_mul, nI_leI, nI_ltI, nI_eq, rdI_nI, rdL_nI, wrI_nI, wrL_nI, rdR_nI, if_pos, if_neg, and_true, true_and, and_false, false_and, reduceIte, stI_at, upI_st]
    · rintro _ _ ⟨rfl, g, rfl, hg⟩ ag
      refine ⟨g, ?_, hg⟩
      unfold b_X7_restore_38
      simp (disch := omega) only [bds, bds2, lts, lit, nI_add, pk_mul, nI_leI, nI_ltI, nI_eq, rdI_nI, rdL_nI, wrI_nI, wrL_nI, rdR_nI, if_pos, if_neg, and_true, true_and, and_false, false_and, reduceIte, stI_at]
  have ph1 : ∃ g1 g2, wl2 b_X7_restore_12 fu (nI 0) z = some (1, upI (stI (stI z 123 g1) 124 g2) 122 2 (z.1 122 5)) ∧ (∀ k, k < 42 → g1 k = z.1 125 k) ∧ ∀ k, k < 252 → g2 k = z.1 126 k := by
    refine wl2_inv (Q := fun o => ∃ g1 g2, o = some (1, upI (stI (stI z 123 g1) 124 g2) 122 2 (z.1 122 5)) ∧ (∀ k, k < 42 → g1 k = z.1 125 k) ∧ ∀ k, k < 252 → g2 k = z.1 126 k) (fun k a y => a = nI k ∧ ∃ g, y = stI z 123 g ∧ ∀ i, i < k → g i = z.1 125 i) 42 ?_ ?_ (by omega) ⟨rfl, _, stI_self.symm, fun i hi => by omega⟩
    · rintro k hk _ _ ⟨rfl, g, rfl, hg⟩
      refine Or.inl ⟨nI (k + 1), stI z 123 (upd g k (z.1 125 k)), ⟨rfl, _, rfl, fun i hi => ?_⟩, fun ag => ?_⟩
      · rw [upd_at]
        by_cases x : i = k
        · rw [if_pos x, x]
        · rw [if_neg x]; exact hg i (by omega)
      · unfold b_X7_restore_12
        simp (disch := omega) only [bds, bds2, lts, lit, nI_add, pk_mul, nI_leI, nI_ltI, nI_eq, rdI_nI, rdL_nI, wrI_nI, wrL_nI, rdR_nI, if_pos, if_neg, and_true, true_and, and_false, false_and, reduceIte, stI_at, upI_st]
    · rintro _ _ ⟨rfl, g, rfl, hg⟩ ag
      obtain ⟨g2, a1, a2⟩ := ph2 g
      refine ⟨g, g2, ?_, hg, a2⟩
      rw [← a1]
      unfold b_X7_restore_12
      rw [if_pos (by decide)]
      rfl
  obtain ⟨g1, g2, a1, a2, a3⟩ := ph1
  refine ⟨g1, g2, ?_, a2, a3⟩
  unfold f_X7_restore
  rw [if_pos h0]
  exact a1
theorem P25 (h : Inv s t) : ∃ Z : Sto × Sto, st_25 s t = some Z ∧ Inv Z.1 Z.2 := by
  obtain ⟨A, n, Hs, hF, hG, hT, hS, hK⟩ := h
  have hF' := hF
  obtain ⟨f1, f2, f3, f4, f5⟩ := hF
  have hn := f4.2.1.1
  obtain ⟨s1, a1, a2, a3⟩ := c_copy (z := s) (q := 13) (q1 := 1) (by omega)
  have f3' : IC s1 19 n Hs := IC_congr (fun c p q => a2.1 c (by omega)) f3
  obtain ⟨s2, b1, b2, b3⟩ := c_histAll (z := s1) (q := 57) (q1 := 19) (by omega) (fun i hi => (f5 i hi).1) f3'
  obtain ⟨g1, g2, c1, c2, c3⟩ := m_image2 (z := t)
  have es : ∀ c, c ≠ 0 → (c < 13 ∨ (18 < c ∧ c < 57) ∨ 94 < c) → (upI s2 0 9 1).1 c = s.1 c := fun c h0 h => by rw [upI_ne h0, b2.1 c (by omega), a2.1 c (by omega)]
  have et : ∀ c, c ≠ 122 → c ≠ 125 → c ≠ 126 → (upI (stI (stI t 125 g1) 126 g2) 122 5 (t.1 122 2)).1 c = t.1 c := fun c h1 h2 h3 => by rw [upI_ne h1, stI_ne h3, stI_ne h2]
  have et2 : ∀ j, j ≠ 5 → (upI (stI (stI t 125 g1) 126 g2) 122 5 (t.1 122 2)).1 122 j = t.1 122 j := fun j hj => by rw [upI_at, if_neg (by omega), stI_ne (by decide), stI_ne (by decide)]
  have e0 : ∀ j, j ≠ 9 → (upI s2 0 9 1).1 0 j = s.1 0 j := fun j hj => by rw [upI_at, if_neg (by omega), b2.1 0 (by omega), a2.1 0 (by omega)]
  have r13 : RepC (upI s2 0 9 1) 13 A := RepC_congr (fun c p q => by rw [upI_ne (by omega), b2.1 c (by omega)]) (a3 A f1.1 f2)
  refine ⟨(upI s2 0 9 1, _), st_of (r := 1) ?_ c1, A, n, Hs, ⟨f1, RepC_congr (fun c p q => es c (by omega) (by omega)) f2, IC_congr (fun c p q => es c (by omega) (by omega)) f3, ⟨?_, ⟨hn, ?_⟩, ?_⟩, f5⟩, Or.inr ⟨A, n, Hs, ?_, f1, f5, r13, IC_congr (fun c p q => upI_ne (by omega)) b3, ⟨hn, ?_⟩, ?_, fun i hi => ?_⟩, IT_k hT (by show (upI s2 0 9 1).1 111 1 = _; rw [es 111 (by omega) (by omega)]) (es 112 (by omega) (by omega)) (et2 7 (by omega)) (et _ (by omega) (by omega) (by omega)), IS_k hS (fun c a b => ⟨es c (by omega) (by omega), by show s2.2 c = _; rw [b2.2, a2.2]⟩) (et _ (by omega) (by omega) (by omega)) (et _ (by omega) (by omega) (by omega)) rfl, ?_⟩
  · unfold f_X6_image
    rw [a1, bds, b1, bds, lts]
  · show RowM ((upI (stI (stI t 125 g1) 126 g2) 122 5 (t.1 122 2)).1 123) A
    rw [et 123 (by omega) (by omega) (by omega)]; exact f4.1
  · exact (et2 2 (by omega)).trans f4.2.1.2
  · intro i hi
    show RowM (fun k => (upI (stI (stI t 125 g1) 126 g2) 122 5 (t.1 122 2)).1 124 (42 * i + k)) _
    rw [et 124 (by omega) (by omega) (by omega)]; exact f4.2.2 i hi
  · show (upI s2 0 9 1).1 0 9 = 1
    rw [upI_at, if_pos ⟨rfl, rfl⟩]
  · show (upI (stI (stI t 125 g1) 126 g2) 122 5 (t.1 122 2)).1 122 5 = _
    rw [upI_at, if_pos ⟨rfl, rfl⟩]; exact f4.2.1.2
  · show RowM ((upI (stI (stI t 125 g1) 126 g2) 122 5 (t.1 122 2)).1 125) A
    rw [upI_ne (by decide), stI_ne (by decide), stI_same]
    exact RowM_congr f1.1 c2 f4.1
  · show RowM (fun k => (upI (stI (stI t 125 g1) 126 g2) 122 5 (t.1 122 2)).1 126 (42 * i + k)) _
    rw [upI_ne (by decide), stI_same]
    exact RowM_congr (f5 i hi).1 (fun k hk => c3 _ (by omega)) (f4.2.2 i hi)
  · have e : ∀ c, 95 ≤ c → (upI s2 0 9 1).1 c = s.1 c := fun c h => es c (by omega) (by omega)
    have e2 : (upI s2 0 9 1).2 = s.2 := by show s2.2 = s.2; rw [b2.2, a2.2]
    rcases hK with x | ⟨x, c1, c2, c3⟩
    · exact Or.inl ((e0 10 (by omega)).trans x)
    · refine Or.inr ⟨(e0 10 (by omega)).trans x, ⟨⟨by rw [e 95 (by omega)]; exact c1.1.1, by rw [e 95 (by omega)]; exact c1.1.2.1, by rw [e2]; exact c1.1.2.2⟩, by rw [e2]; exact c1.2.1, by rw [e2]; exact c1.2.2.1, by rw [e 99 (by omega)]; exact c1.2.2.2⟩, ⟨⟨by rw [e 100 (by omega)]; exact c2.1.1, by rw [e 100 (by omega)]; exact c2.1.2⟩, by rw [e 101 (by omega), e 102 (by omega), e 103 (by omega)]; exact c2.2.1, by rw [e 104 (by omega), e 105 (by omega), e 106 (by omega)]; exact c2.2.2⟩, fun o ho => ⟨by rw [e 110 (by omega)]; exact (c3 o ho).1, by rw [e2]; exact (c3 o ho).2⟩⟩
theorem P26 (h : Inv s t) : ∃ Z : Sto × Sto, st_26 s t = some Z ∧ Inv Z.1 Z.2 := by
  obtain ⟨A, n, Hs, hF, hG, hT, hS, hK⟩ := h
  have hI : Inv s t := ⟨A, n, Hs, hF, hG, hT, hS, hK⟩
  obtain ⟨f1, f2, f3, f4, f5⟩ := hF
  have hG' := hG
  rcases hG with ⟨x, y⟩ | ⟨B, m, Js, x, g1, g2, g3, g4, g5, g6, g7⟩
  · refine ⟨(s, t), st_of (r := -4) ?_ ?_, hI⟩
    · unfold f_X6_restore; rw [if_pos x]
    · unfold f_X7_restore; rw [if_neg (by rw [y]; decide)]
  · obtain ⟨s1, a1, a2, a3⟩ := c_copy (z := s) (q := 1) (q1 := 13) (by omega)
    have g4' : IC s1 57 m Js := IC_congr (fun c p q => a2.1 c (by omega)) g4
    obtain ⟨s2, b1, b2, b3⟩ := c_histAll (z := s1) (q := 19) (q1 := 57) (by omega) (fun i hi => (g2 i hi).1) g4'
    obtain ⟨h1, h2, c1, c2, c3⟩ := m_restore2 (z := t) (by rw [g5.2]; exact nI_pos' (by omega))
    have es : ∀ c, c ≠ 0 → ((6 < c ∧ c < 19) ∨ 56 < c) → (upI s2 0 10 0).1 c = s.1 c := fun c h0 h => by rw [upI_ne h0, b2.1 c (by omega), a2.1 c (by omega)]
    have et : ∀ c, c ≠ 122 → c ≠ 123 → c ≠ 124 → (upI (stI (stI t 123 h1) 124 h2) 122 2 (t.1 122 5)).1 c = t.1 c := fun c h1 h2 h3 => by rw [upI_ne h1, stI_ne h3, stI_ne h2]
    have et2 : ∀ j, j ≠ 2 → (upI (stI (stI t 123 h1) 124 h2) 122 2 (t.1 122 5)).1 122 j = t.1 122 j := fun j hj => by rw [upI_at, if_neg (by omega), stI_ne (by decide), stI_ne (by decide)]
    refine ⟨(upI s2 0 10 0, _), st_of (r := 1) ?_ c1, B, m, Js, ⟨g1, RepC_congr (fun c p q => by rw [upI_ne (by omega), b2.1 c (by omega)]) (a3 B g1.1 g3), IC_congr (fun c p q => upI_ne (by omega)) b3, ⟨?_, ⟨g5.1, ?_⟩, fun i hi => ?_⟩, g2⟩, IG_k hG' ?_ (fun c h => es c (by omega) (by omega)) (et2 5 (by omega)) (et _ (by omega) (by omega) (by omega)) (et _ (by omega) (by omega) (by omega)), IT_k hT (by show (upI s2 0 10 0).1 111 1 = _; rw [es 111 (by omega) (by omega)]) (es 112 (by omega) (by omega)) (et2 7 (by omega)) (et _ (by omega) (by omega) (by omega)), IS_k hS (fun c a b => ⟨es c (by omega) (by omega), by show s2.2 c = _; rw [b2.2, a2.2]⟩) (et _ (by omega) (by omega) (by omega)) (et _ (by omega) (by omega) (by omega)) rfl, Or.inl ?_⟩
    · unfold f_X6_restore
      rw [if_neg (by rw [x]; decide), a1, bds, b1, bds, lts]
    · show RowM ((upI (stI (stI t 123 h1) 124 h2) 122 2 (t.1 122 5)).1 123) B
      rw [upI_ne (by decide), stI_ne (by decide), stI_same]
      exact RowM_congr g1.1 c2 g6
    · show (upI (stI (stI t 123 h1) 124 h2) 122 2 (t.1 122 5)).1 122 2 = _
      rw [upI_at, if_pos ⟨rfl, rfl⟩]; exact g5.2
    · show RowM (fun k => (upI (stI (stI t 123 h1) 124 h2) 122 2 (t.1 122 5)).1 124 (42 * i + k)) _
      rw [upI_ne (by decide), stI_same]
      exact RowM_congr (g2 i hi).1 (fun k hk => c3 _ (by omega)) (g7 i hi)
    · show (upI s2 0 10 0).1 0 9 = _
      rw [upI_at, if_neg (by omega), b2.1 0 (by omega), a2.1 0 (by omega)]
    · show (upI s2 0 10 0).1 0 10 = 0
      rw [upI_at, if_pos ⟨rfl, rfl⟩]
end
