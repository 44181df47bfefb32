section
variable {s t y : Sto} {A : Fm}
theorem c_sumW (hR : RepC s 1 A) : f_X1_sumOfWeights 1 s = some (iI (sm 9 (fW A))) := by
  refine wl2_inv (Q := fun o => o = some (iI (sm 9 (fW A)))) (fun j a b => a = iI (sm j (fW A)) ∧ b = nI j) 9 ?_ ?_ (by omega) ⟨rfl, rfl⟩
  · rintro j hj _ _ ⟨rfl, rfl⟩
    have w := hR.2.2.2.2.2 j hj
    refine Or.inl ⟨iI (sm (j + 1) (fW A)), nI (j + 1), ⟨rfl, rfl⟩, fun ag => ?_⟩
    rw [sm_s, ← iI_add]
    unfold b_X1_sumOfWeights_4
    simp (disch := omega) only [bds, bds2, lts, lit, nI_add, pk_mul, nI_leI, nI_ltI, nI_eq, rdI_nI, rdL_nI, wrI_nI, wrL_nI, rdR_nI, if_pos, if_neg, and_true, true_and, and_false, false_and, reduceIte, w]
  · rintro _ _ ⟨rfl, rfl⟩ ag
    unfold b_X1_sumOfWeights_4
    simp (disch := omega) only [bds, bds2, lts, lit, nI_add, pk_mul, nI_leI, nI_ltI, nI_eq, rdI_nI, rdL_nI, wrI_nI, wrL_nI, rdR_nI, if_pos, if_neg, and_true, true_and, and_false, false_and, reduceIte]
def stf (A : Fm) : Bool := decide (2 ≤ fN A) && decide ((bS A all1).2.2.1 = 2 * fN A - 3)
theorem c_isStiff (hB : BF A) (hR : RepC y 1 A) (hS : StC y A) : f_X6_isStiff y = some (b2i (stf A)) := by
  have h6 := hB.1
  have h9 := hB.2.1
  have hn := nS_eq hB
  have hp := bS_p (q := all1) hB
  unfold f_X6_isStiff stf
  rw [hR.1.1, hR.1.2.1, hS.1.1]
  by_cases c : fN A < 2
  · rw [if_pos (show nI (fN A) < (2 : Int32) from nI_lt (b := 2) c (by omega)), decide_eq_false (by omega)]; rfl
  · rw [if_neg (show ¬ nI (fN A) < (2 : Int32) from nI_nlt (b := 2) (by omega) (by omega)), decide_eq_true (by omega), pk_sub (by omega), show (2 : Int32) * nI (fN A) - (3 : Int32) = nI (2 * fN A - 3) by rw [show (2 : Int32) = nI 2 from rfl, pk_mul, show (3 : Int32) = nI 3 from rfl, pk_sub (by omega)], show fM A - nS A = (bS A all1).2.2.1 by omega]
    by_cases c2 : (bS A all1).2.2.1 = 2 * fN A - 3
    · rw [if_pos (by rw [c2]), decide_eq_true c2]; rfl
    · rw [if_neg (fun e => c2 ((nI_eq (by omega) (by omega)).mp e)), decide_eq_false c2]; rfl
theorem m_isStiff (hB : BF A) (hR : RowM (t.1 123) A) {u : Nat} (hu : u < 512) : ∃ t', f_X7_isStiff (nI u) t = some (b2i (decide (2 ≤ fN A) && decide ((bS A (qb u)).2.2.1 = 2 * fN A - 3)), t') ∧ Ke [122, 134, 135] t t' ∧ t'.1 122 = t.1 122 := by
  have h6 := hB.1
  have hp := bS_p (q := qb u) hB
  obtain ⟨y', p1, p2, p3, p4, p5, p6⟩ := m_solves hB hR hu
  have r' : RowM (y'.1 123) A := by rw [p2.1 123 (by simp)]; exact hR
  unfold f_X7_isStiff
  rw [m_rd0, bds, hR.1.1]
  by_cases c : fN A < 2
  · rw [if_pos (show nI (fN A) ≤ (1 : Int32) from nI_le (b := 1) (by omega) (by omega)), decide_eq_false (by omega)]
    exact ⟨t, rfl, Ke.rf, rfl⟩
  · rw [if_neg (show ¬ nI (fN A) ≤ (1 : Int32) from nI_ge (a := 1) (by omega) (by omega)), p1, bds2, m_rd0, bds, r'.1.1, decide_eq_true (by omega), show (2 : Int32) * nI (fN A) - (3 : Int32) = nI (2 * fN A - 3) by rw [show (2 : Int32) = nI 2 from rfl, pk_mul, show (3 : Int32) = nI 3 from rfl, pk_sub (by omega)]]
    refine ⟨y', ?_, p2, p3⟩
    by_cases c2 : (bS A (qb u)).2.2.1 = 2 * fN A - 3
    · rw [if_pos (by rw [c2]), decide_eq_true c2]; rfl
    · rw [if_neg (fun e => c2 ((nI_eq (by omega) (by omega)).mp e)), decide_eq_false c2]; rfl
theorem P8 (a1 : Int32) (h : Inv s t) : ∃ Z : Sto × Sto, st_8 a1 s t = some Z ∧ Inv Z.1 Z.2 := by
  obtain ⟨A, n, Hs, hF, hG, hT, hS, hK⟩ := h
  have hF' := hF
  obtain ⟨f1, f2, f3, f4, f5⟩ := hF
  have hB := f1.1
  have h6 := hB.1
  have h9 := hB.2.1
  have hn := nS_eq hB
  have hp := bS_p (q := all1) hB
  obtain ⟨y, y1, y2, y3, y4, y5, y6⟩ := c_settle f1 f2 hK
  obtain ⟨z2, a1', a2, a3, a4⟩ := m_laysAll hB f4.1
  have r2 : RowM (z2.1 123) A := by rw [a2.1 123 (by simp)]; exact f4.1
  obtain ⟨z4, b1, b2, b3, b4, b5⟩ := m_laysFaces f1 r2
  have r4 : RowM (z4.1 123) A := by rw [b2.1 123 (by simp)]; exact r2
  obtain ⟨z5, e1, e2, e3⟩ := m_isStiff hB r4 (u := 2 ^ fM A - 1) (shl9 h9).2
  rw [bS_all] at e1
  have k4 : Ke QM t z4 := (a2.mono (by simp [QM])).tr (b2.mono (by simp [QM]))
  have k5 : Ke QM t z5 := k4.tr (e2.mono (by simp [QM]))
  have v4 : ∀ j, j ≠ 17 → j ≠ 19 → z4.1 122 j = t.1 122 j := fun j h1 h2 => by rw [b3 j h2, a3 j h1]
  have kn : y.1 19 1 = nI n := by rw [y2.1 19 (by simp [SC])]; exact f3.1.2
  have ac : z4.1 122 2 = nI n := by rw [v4 2 (by omega) (by omega)]; exact f4.2.1.2
  have rk : z4.1 122 17 = nI (bS A all1).2.2.1 := by rw [b3 17 (by omega)]; exact a4.1.1
  have mm : f_X7_count a1 t = if a1 = 0 then some (nI (fN A), z4) else if a1 = 1 then some (nI (fM A), z4) else if a1 = 2 then some (nI (nS A), z4) else if a1 = 3 then some (b2i (stf A), z5) else if a1 = 4 then some (b2i (whB A), z4) else if a1 = 5 then some (nI (nF A), z4) else if a1 = 6 then some (oM (oF A), z4) else if a1 = 7 then some (iI (81 + sm 9 (fW A)), z4) else if a1 = 8 then some (nI n, z4) else some (-1, z4) := by
    refine wl4_inv (Q := fun o => o = if a1 = 0 then some (nI (fN A), z4) else if a1 = 1 then some (nI (fM A), z4) else if a1 = 2 then some (nI (nS A), z4) else if a1 = 3 then some (b2i (stf A), z5) else if a1 = 4 then some (b2i (whB A), z4) else if a1 = 5 then some (nI (nF A), z4) else if a1 = 6 then some (oM (oF A), z4) else if a1 = 7 then some (iI (81 + sm 9 (fW A)), z4) else if a1 = 8 then some (nI n, z4) else some (-1, z4)) (fun j a b c d => a = a1 ∧ b = iI (81 + sm j (fW A)) ∧ c = nI j ∧ d = t) 9 ?_ ?_ (by omega) ⟨rfl, rfl, rfl, rfl⟩
    · rintro j hj a _ _ d ⟨rfl, rfl, rfl, rfl⟩
      have w := f4.1.2.2.2.2.2 j hj
      have w : d.1 123 (33 + j) = iI (fW A j) := w
      refine Or.inl ⟨a, iI (81 + sm (j + 1) (fW A)), nI (j + 1), d, ⟨rfl, rfl, rfl, rfl⟩, fun ag => ?_⟩
      rw [sm_s, ← Int.add_assoc]
      unfold b_X7_count_5
      simp (disch := omega) only [bds, bds2, lts, lit, nI_add, pk_mul, nI_leI, nI_ltI, nI_eq, rdI_nI, rdL_nI, wrI_nI, wrL_nI, rdR_nI, if_pos, if_neg, and_true, true_and, and_false, false_and, reduceIte, w, iI_add]
    · rintro a _ _ d ⟨rfl, rfl, rfl, rfl⟩ ag
      unfold b_X7_count_5
      rw [if_pos (by decide), a1', bds, b1, bds, m_rd0, m_rd1, r4.1.1, r4.1.2.1, rk, m_allBars hB r4, m_isWhole hB r4, b5.1, m_outer f1 r4 b5, ac]
      simp only [bds]
      rw [e1]
      simp only [bds2]
      rw [pk_sub (by omega), show fM A - (bS A all1).2.2.1 = nS A by omega]
      rw [show (decide (2 ≤ fN A) && decide ((bS A all1).2.2.1 = 2 * fN A - 3)) = stf A from rfl]
      have q1 : (if b2i (stf A) = 0 then some ((0 : Int32), z5) else some (1, z5)) = some (b2i (stf A), z5) := by cases stf A <;> rfl
      have q2 : (if b2i (whB A) = 0 then some ((0 : Int32), z4) else some (1, z4)) = some (b2i (whB A), z4) := by cases whB A <;> rfl
      rw [q1, q2]
  have cc : f_X6_count a1 s = if a1 = 0 then some (nI (fN A), y) else if a1 = 1 then some (nI (fM A), y) else if a1 = 2 then some (nI (nS A), y) else if a1 = 3 then some (b2i (stf A), y) else if a1 = 4 then some (b2i (whB A), y) else if a1 = 5 then some (nI (nF A), y) else if a1 = 6 then some (oM (oF A), y) else if a1 = 7 then some (iI (81 + sm 9 (fW A)), y) else if a1 = 8 then some (nI n, y) else some (-1, y) := by
    unfold f_X6_count
    rw [y1, bds, y6.1.1, y6.1.2.1, y5.1.1.1, c_isStiff hB y6 y5.1, c_isWhole hB y6, y5.2.1.1.1, y5.2.1.1.2, c_sumW y6, kn]
    simp only [bds, asb]
    rw [show (81 : Int32) = iI 81 from rfl, iI_add, Int.add_comm]
  have go : ∀ (r : Int32) (t' : Sto), (t' = z4 ∨ t' = z5) → f_X6_count a1 s = some (r, y) → f_X7_count a1 t = some (r, t') → ∃ Z : Sto × Sto, st_8 a1 s t = some Z ∧ Inv Z.1 Z.2 := by
    intro r t' ht c1 c2
    have kk : Ke QM t t' ∧ ∀ j, j ≠ 17 → j ≠ 19 → t'.1 122 j = t.1 122 j := by
      rcases ht with h | h
      · rw [h]; exact ⟨k4, v4⟩
      · rw [h]; exact ⟨k5, fun j h1 h2 => by rw [e3]; exact v4 j h1 h2⟩
    exact ask hF' hG hT hS c1 c2 y2 y3 y4 kk.1 (kk.2 2 (by omega) (by omega)) (kk.2 5 (by omega) (by omega)) (kk.2 7 (by omega) (by omega))
  rw [mm, cc] at go
  by_cases h0 : a1 = 0
  · rw [if_pos h0, if_pos h0] at go; exact go _ z4 (Or.inl rfl) rfl rfl
  rw [if_neg h0, if_neg h0] at go
  by_cases h1 : a1 = 1
  · rw [if_pos h1, if_pos h1] at go; exact go _ z4 (Or.inl rfl) rfl rfl
  rw [if_neg h1, if_neg h1] at go
  by_cases h2 : a1 = 2
  · rw [if_pos h2, if_pos h2] at go; exact go _ z4 (Or.inl rfl) rfl rfl
  rw [if_neg h2, if_neg h2] at go
  by_cases h3 : a1 = 3
  · rw [if_pos h3, if_pos h3] at go; exact go _ z5 (Or.inr rfl) rfl rfl
  rw [if_neg h3, if_neg h3] at go
  by_cases h4 : a1 = 4
  · rw [if_pos h4, if_pos h4] at go; exact go _ z4 (Or.inl rfl) rfl rfl
  rw [if_neg h4, if_neg h4] at go
  by_cases h5 : a1 = 5
  · rw [if_pos h5, if_pos h5] at go; exact go _ z4 (Or.inl rfl) rfl rfl
  rw [if_neg h5, if_neg h5] at go
  by_cases h6 : a1 = 6
  · rw [if_pos h6, if_pos h6] at go; exact go _ z4 (Or.inl rfl) rfl rfl
  rw [if_neg h6, if_neg h6] at go
  by_cases h7 : a1 = 7
  · rw [if_pos h7, if_pos h7] at go; exact go _ z4 (Or.inl rfl) rfl rfl
  rw [if_neg h7, if_neg h7] at go
  by_cases h8 : a1 = 8
  · rw [if_pos h8, if_pos h8] at go; exact go _ z4 (Or.inl rfl) rfl rfl
  rw [if_neg h8, if_neg h8] at go
  exact go _ z4 (Or.inl rfl) rfl rfl
theorem P12 (a1 : Int32) (h : Inv s t) : ∃ Z : Sto × Sto, st_12 a1 s t = some Z ∧ Inv Z.1 Z.2 := by
  have hI := h
  obtain ⟨A, n, Hs, hF, hG, hT, hS, hK⟩ := h
  have hF' := hF
  obtain ⟨f1, f2, f3, f4, f5⟩ := hF
  have hB := f1.1
  have h9 := hB.2.1
  rcases ix_or a1 (2 * fM A) (by omega) with ⟨k, hk, rfl⟩ | hx
  · obtain ⟨y, y1, y2, y3, y4, y5, y6⟩ := c_settle f1 f2 hK
    refine ⟨(y, t), ?_, Inv_q hF' hG hT hS y2 y3 Ke.rf rfl rfl rfl y4⟩
    unfold st_12 f_X6_next f_X7_next
    rw [c_hasHalf hB f2 hk, bds, if_neg (by decide), y1, bds, rdI_nI (by omega) (by omega), bds, (y5.2.1.2.1 k hk).2.1, bds2, m_isHalf hB f4.1 hk, bds, if_neg (by decide), m_nextOf f1 f4.1 hk, bds, bds, if_pos rfl]
  · refine ⟨(s, t), ?_, hI⟩
    unfold st_12 f_X6_next f_X7_next
    rw [c_noHalf hB f2 hx, bds, if_pos rfl, bds2, m_noHalf hB f4.1 hx, bds, if_pos rfl, bds, if_pos rfl]
theorem P15 (a1 : Int32) (h : Inv s t) : ∃ Z : Sto × Sto, st_15 a1 s t = some Z ∧ Inv Z.1 Z.2 := by
  have hI := h
  obtain ⟨A, n, Hs, hF, hG, hT, hS, hK⟩ := h
  have hF' := hF
  obtain ⟨f1, f2, f3, f4, f5⟩ := hF
  have hB := f1.1
  have h9 := hB.2.1
  rcases ix_or a1 (2 * fM A) (by omega) with ⟨k, hk, rfl⟩ | hx
  · obtain ⟨y, y1, y2, y3, y4, y5, y6⟩ := c_settle f1 f2 hK
    obtain ⟨z4, b1, b2, b3, b4, b5⟩ := m_laysFaces f1 f4.1
    refine ask (r := nI (fc A k)) hF' hG hT hS (s' := y) (t' := z4) ?_ ?_ y2 y3 y4 (b2.mono (by simp [QM])) (b3 2 (by omega)) (b3 5 (by omega)) (b3 7 (by omega))
    · unfold f_X6_beside
      rw [c_hasHalf hB f2 hk, bds, if_neg (by decide), y1, bds, rdI_nI (by omega) (by omega), bds, (y5.2.1.2.1 k hk).2.2]
    · unfold f_X7_beside
      rw [m_isHalf hB f4.1 hk, bds, if_neg (by decide), b1, bds, rdI_nI (by omega) (by omega), bds, b5.2 k hk]
  · refine ⟨(s, t), st_of (r := -1) ?_ ?_, hI⟩
    · unfold f_X6_beside; rw [c_noHalf hB f2 hx, bds, if_pos rfl]
    · unfold f_X7_beside; rw [m_noHalf hB f4.1 hx, bds, if_pos rfl]
theorem c_has {f : Nat} (hC : FcC y A) (hf : f < nF A) (h18 : nF A ≤ 18) : f_X0_has (nI f) y = some 1 := by
  unfold f_X0_has
  rw [if_neg (nI_pos (by omega)), hC.1.1, if_neg (nI_ge hf (by omega))]
theorem c_hasno {x : Int32} (hC : FcC y A) (hx : x < 0 ∨ nI (nF A) ≤ x) : f_X0_has x y = some 0 := by
  unfold f_X0_has
  by_cases c : x < 0
  · rw [if_pos c]
  · rw [if_neg c, hC.1.1, if_pos (hx.resolve_left c)]
theorem abI_e {v : Int} (h1 : -100000 ≤ v) (h2 : v ≤ 100000) : abI (iI v) = if (0 : Int32) ≤ iI v then iI v else - iI v := by
  unfold abI
  by_cases c : (0 : Int32) ≤ iI v
  · rw [if_pos c, if_pos c]
  · rw [if_neg c, if_neg c, show (0 : Int32) = iI 0 from rfl, iI_sub, iI_neg]
    congr 1
    omega
theorem if10 {α : Type} {a b : α} : (if (1 : Int32) = 0 then a else b) = b := if_neg (by decide)
theorem if00 {α : Type} {a b : α} : (if (0 : Int32) = 0 then a else b) = a := if_pos rfl
theorem P13 (a1 a2 : Int32) (h : Inv s t) : ∃ Z : Sto × Sto, st_13 a1 a2 s t = some Z ∧ Inv Z.1 Z.2 := by
  obtain ⟨A, n, Hs, hF, hG, hT, hS, hK⟩ := h
  have hF' := hF
  obtain ⟨f1, f2, f3, f4, f5⟩ := hF
  have hB := f1.1
  have h9 := hB.2.1
  have fs := fc_spec f1
  obtain ⟨y, y1, y2, y3, y4, y5, y6⟩ := c_settle f1 f2 hK
  obtain ⟨z4, b1, b2, b3, b4, b5⟩ := m_laysFaces f1 f4.1
  have r4 : RowM (z4.1 123) A := by rw [b2.1 123 (by simp)]; exact f4.1
  have fin : ∀ r : Int32, f_X6_face a1 a2 s = some (r, y) → f_X7_face a1 a2 t = some (r, z4) → ∃ Z : Sto × Sto, st_13 a1 a2 s t = some Z ∧ Inv Z.1 Z.2 := fun r c1 c2 => ask (r := r) hF' hG hT hS c1 c2 y2 y3 y4 (b2.mono (by simp [QM])) (b3 2 (by omega)) (b3 5 (by omega)) (b3 7 (by omega))
  unfold f_X6_face f_X7_face at fin
  rw [y1, b1, bds, bds, b5.1] at fin
  rcases ix_or a1 (nF A) (by omega) with ⟨f, hf, rfl⟩ | hx
  · obtain ⟨g1, g2, g, g3, g4, g5, g6⟩ := y5.2.1.2.2 f hf
    have al := ar_le hB (fc A) f
    rw [c_has y5.2.1 hf (by omega), m_isIn (by omega) hf] at fin
    simp only [bds, if10] at fin
    rcases pt_or a2 with ⟨w, hw, rfl⟩ | hx
    · rw [m_isPart hw] at fin
      simp only [bds, if10] at fin
      rw [m_areaOf f1 r4 b5 hf, m_manyOf f1 r4 b5 hf, m_leastOf f1 b5 g3 g5 g6] at fin
      simp (disch := omega) only [bds, rdI_nI, g1, g2, g4] at fin
      rw [abI_e (by unfold ar; omega) (by unfold ar; omega)] at fin
      rcases (show w = 0 ∨ w = 1 ∨ w = 2 by omega) with h | h | h
      · subst h
        exact fin _ rfl rfl
      · subst h
        refine fin (if (0 : Int32) ≤ iI (ar A f) then iI (ar A f) else - iI (ar A f)) rfl ?_
        show (if (0 : Int32) ≤ iI (ar A f) then some (iI (ar A f), z4) else some (- iI (ar A f), z4)) = _
        split <;> rfl
      · subst h
        exact fin _ rfl rfl
    · rw [m_noPart hx] at fin
      simp only [bds, if00] at fin
      have n0 : ¬ a2 = 0 := fun e => by rw [e] at hx; exact absurd hx (by decide)
      have n1 : ¬ a2 = 1 := fun e => by rw [e] at hx; exact absurd hx (by decide)
      have n2 : ¬ a2 = 2 := fun e => by rw [e] at hx; exact absurd hx (by decide)
      rw [if_neg n0, if_neg n1, if_neg n2] at fin
      exact fin _ rfl rfl
  · rw [c_hasno y5.2.1 hx, m_notIn (by omega) hx] at fin
    simp only [bds, if00] at fin
    exact fin _ rfl rfl
theorem P14 (a1 a2 : Int32) (h : Inv s t) : ∃ Z : Sto × Sto, st_14 a1 a2 s t = some Z ∧ Inv Z.1 Z.2 := by
  obtain ⟨A, n, Hs, hF, hG, hT, hS, hK⟩ := h
  have hF' := hF
  obtain ⟨f1, f2, f3, f4, f5⟩ := hF
  have hB := f1.1
  have h9 := hB.2.1
  have fs := fc_spec f1
  obtain ⟨y, y1, y2, y3, y4, y5, y6⟩ := c_settle f1 f2 hK
  obtain ⟨z4, b1, b2, b3, b4, b5⟩ := m_laysFaces f1 f4.1
  have r4 : RowM (z4.1 123) A := by rw [b2.1 123 (by simp)]; exact f4.1
  have fin : ∀ r : Int32, f_X6_round a1 a2 s = some (r, y) → f_X7_round a1 a2 t = some (r, z4) → ∃ Z : Sto × Sto, st_14 a1 a2 s t = some Z ∧ Inv Z.1 Z.2 := fun r c1 c2 => ask (r := r) hF' hG hT hS c1 c2 y2 y3 y4 (b2.mono (by simp [QM])) (b3 2 (by omega)) (b3 5 (by omega)) (b3 7 (by omega))
  unfold f_X6_round f_X7_round at fin
  rw [y1, b1, bds, bds, b5.1] at fin
  rcases ix_or a1 (nF A) (by omega) with ⟨f, hf, rfl⟩ | hx
  · obtain ⟨g1, g2, g, g3, g4, g5, g6⟩ := y5.2.1.2.2 f hf
    have sl : szc A (fc A) f ≤ 2 * fM A := cnt_le
    rw [c_has y5.2.1 hf (by omega), m_isIn (by omega) hf] at fin
    simp only [bds, if10] at fin
    rw [m_manyOf f1 r4 b5 hf, m_leastOf f1 b5 g3 g5 g6] at fin
    simp (disch := omega) only [bds, rdI_nI, g1, g4] at fin
    rcases ix_or a2 (szc A (fc A) f) (by omega) with ⟨i, hi, rfl⟩ | hx
    · rw [if_neg (nI_pos (by omega)), if_pos (nI_lt hi (by omega)), m_isIn (by omega) hi] at fin
      simp only [bds, if10] at fin
      -- both go round
      obtain ⟨it, hit⟩ : ∃ it : Nat → Nat, it = fun k => Nat.rec g (fun _ h => nx A h) k := ⟨_, rfl⟩
      have it0 : it 0 = g := by subst hit; rfl
      have its : ∀ k, it (k + 1) = nx A (it k) := fun k => by subst hit; rfl
      have itl : ∀ k, it k < 2 * fM A := by
        intro k
        induction k with
        | zero => rw [it0]; exact g3
        | succ k ih => rw [its]; exact (nx_spec f1 ih).1
      have c1 : wl4 b_X6_round_47 fu (nI i) (nI g) 0 y = some (nI (it i), y) := by
        refine wl4_inv (Q := fun o => o = some (nI (it i), y)) (fun k a b c d => a = nI i ∧ b = nI (it k) ∧ c = nI k ∧ d = y) i ?_ ?_ (by omega) ⟨rfl, by rw [it0], rfl, rfl⟩
        · rintro k hk _ _ _ d ⟨rfl, rfl, rfl, rfl⟩
          have v := (y5.2.1.2.1 _ (itl k)).2.1
          have il := itl k
          refine Or.inl ⟨nI i, nI (it (k + 1)), nI (k + 1), d, ⟨rfl, rfl, rfl, rfl⟩, fun ag => ?_⟩
          rw [its]
          unfold b_X6_round_47
          simp (disch := omega) only [bds, bds2, lts, lit, nI_add, pk_mul, nI_leI, nI_ltI, nI_eq, rdI_nI, rdL_nI, wrI_nI, wrL_nI, rdR_nI, if_pos, if_neg, and_true, true_and, and_false, false_and, reduceIte, v]
        · rintro _ _ _ d ⟨rfl, rfl, rfl, rfl⟩ ag
          unfold b_X6_round_47
          simp (disch := omega) only [bds, bds2, lts, lit, nI_add, pk_mul, nI_leI, nI_ltI, nI_eq, rdI_nI, rdL_nI, wrI_nI, wrL_nI, rdR_nI, if_pos, if_neg, and_true, true_and, and_false, false_and, reduceIte]
      have c2 : wl4 b_X7_round_48 fu (nI i) (nI g) 0 z4 = some (nI (it i), z4) := by
        refine wl4_inv (Q := fun o => o = some (nI (it i), z4)) (fun k a b c d => a = nI i ∧ b = nI (it k) ∧ c = nI k ∧ d = z4) i ?_ ?_ (by omega) ⟨rfl, by rw [it0], rfl, rfl⟩
        · rintro k hk _ _ _ d ⟨rfl, rfl, rfl, rfl⟩
          have v := m_nextOf f1 r4 (itl k)
          refine Or.inl ⟨nI i, nI (it (k + 1)), nI (k + 1), d, ⟨rfl, rfl, rfl, rfl⟩, fun ag => ?_⟩
          rw [its]
          unfold b_X7_round_48
          simp (disch := omega) only [bds, bds2, lts, lit, nI_add, pk_mul, nI_leI, nI_ltI, nI_eq, rdI_nI, rdL_nI, wrI_nI, wrL_nI, rdR_nI, if_pos, if_neg, and_true, true_and, and_false, false_and, reduceIte, v]
        · rintro _ _ _ d ⟨rfl, rfl, rfl, rfl⟩ ag
          unfold b_X7_round_48
          simp (disch := omega) only [bds, bds2, lts, lit, nI_add, pk_mul, nI_leI, nI_ltI, nI_eq, rdI_nI, rdL_nI, wrI_nI, wrL_nI, rdR_nI, if_pos, if_neg, and_true, true_and, and_false, false_and, reduceIte]
      exact fin _ c1 c2
    · rw [m_notIn (by omega) hx] at fin
      simp only [bds, if00] at fin
      by_cases c : a2 < 0
      · rw [if_pos c] at fin; exact fin _ rfl rfl
      · rw [if_neg c, if_neg (fun e => by
          have := hx.resolve_left c
          rw [Int32.le_iff_toInt_le] at this
          rw [Int32.lt_iff_toInt_lt] at e
          omega)] at fin
        exact fin _ rfl rfl
  · rw [c_hasno y5.2.1 hx, m_notIn (by omega) hx] at fin
    simp only [bds, if00] at fin
    exact fin _ rfl rfl
end
