section
variable {s t s' t' : Sto} {A : Fm}
theorem c113 (k : Nat) : 113 + 1 + 2 * k = 114 + 2 * k := by omega
theorem c114 (k : Nat) : 114 + 2 * k + 1 = 115 + 2 * k := by omega
theorem c_isSheet {k : Nat} (hk : k < 4) (z : Sto) : f_X6_isSheet (nI k) z = some 1 := by
  unfold f_X6_isSheet
  rw [if_neg (nI_pos (by omega)), if_neg (show ¬ (4 : Int32) ≤ nI k from nI_ge (a := k) (b := 4) hk (by omega))]
theorem c_noSheet {x : Int32} (h : x < 0 ∨ nI 4 ≤ x) (z : Sto) : f_X6_isSheet x z = some 0 := by
  unfold f_X6_isSheet
  by_cases c : x < 0
  · rw [if_pos c]
  · rw [if_neg c, if_pos (show (4 : Int32) ≤ x from h.resolve_left c)]
theorem c_isLane {k : Nat} (hk : k < 4) (z : Sto) : f_X6_isLane (nI k) z = some 1 := c_isSheet hk z
theorem c_noLane {x : Int32} (h : x < 0 ∨ nI 4 ≤ x) (z : Sto) : f_X6_isLane x z = some 0 := c_noSheet h z
theorem in4 {k : Nat} (hk : k < 4) (z : Sto) : f_X7_in (nI k).toInt64 0 3 z = some 1 := m_isIn (m := 4) (by omega) hk
theorem no4 {x : Int32} (h : x < 0 ∨ nI 4 ≤ x) (z : Sto) : f_X7_in x.toInt64 0 3 z = some 0 := m_notIn (m := 4) (by omega) h
theorem m_isSheet {k : Nat} (hk : k < 4) (z : Sto) : f_X7_isSheet (nI k) z = some 1 := by
  unfold f_X7_isSheet
  rw [in4 hk, bds]; rfl
theorem m_noSheet {x : Int32} (h : x < 0 ∨ nI 4 ≤ x) (z : Sto) : f_X7_isSheet x z = some 0 := by
  unfold f_X7_isSheet
  rw [no4 h, bds]; rfl
theorem Inv_s (h : Inv s t) (hS' : IS s' t') (ks : ∀ c, c < 114 → s'.1 c = s.1 c ∧ s'.2 c = s.2 c) (kt : ∀ c, c ≤ 127 → t'.1 c = t.1 c) : Inv s' t' := by
  obtain ⟨A, n, Hs, ⟨f1, f2, f3, f4, f5⟩, hG, hT, hS, hK⟩ := h
  have e : ∀ c, c < 114 → s'.1 c = s.1 c := fun c h => (ks c h).1
  have e2 : ∀ c, c < 114 → s'.2 c = s.2 c := fun c h => (ks c h).2
  refine ⟨A, n, Hs, ⟨f1, RepC_congr (fun c a b => e c (by omega)) f2, IC_congr (fun c a b => e c (by omega)) f3, ⟨?_, ⟨f4.2.1.1, by rw [kt 122 (by omega)]; exact f4.2.1.2⟩, ?_⟩, f5⟩, IG_k hG (by rw [e 0 (by omega)]) (fun c h => e c (by omega)) (by rw [kt 122 (by omega)]) (kt _ (by omega)) (kt _ (by omega)), IT_k hT (by rw [e 111 (by omega)]) (e _ (by omega)) (by rw [kt 122 (by omega)]) (kt _ (by omega)), hS', ?_⟩
  · rw [kt 123 (by omega)]; exact f4.1
  · rw [kt 124 (by omega)]; exact f4.2.2
  · rcases hK with h | ⟨h, c1, c2, c3⟩
    · exact Or.inl (by rw [e 0 (by omega)]; exact h)
    · refine Or.inr ⟨by rw [e 0 (by omega)]; exact h, ⟨⟨by rw [e 95 (by omega)]; exact c1.1.1, by rw [e 95 (by omega)]; exact c1.1.2.1, by rw [e2 95 (by omega)]; exact c1.1.2.2⟩, by rw [e2 96 (by omega)]; exact c1.2.1, by rw [e2 97 (by omega)]; exact c1.2.2.1, by rw [e 99 (by omega)]; exact c1.2.2.2⟩, ⟨⟨by rw [e 100 (by omega)]; exact c2.1.1, by rw [e 100 (by omega)]; exact c2.1.2⟩, by rw [e 101 (by omega), e 102 (by omega), e 103 (by omega)]; exact c2.2.1, by rw [e 104 (by omega), e 105 (by omega), e 106 (by omega)]; exact c2.2.2⟩, fun o ho => ⟨by rw [e 110 (by omega)]; exact (c3 o ho).1, by rw [e2 107 (by omega), e2 108 (by omega), e2 109 (by omega)]; exact (c3 o ho).2⟩⟩
theorem IS_s (h : IS s t) {k : Nat} (ks : ∀ c, c ≠ 114 + 2 * k → c ≠ 115 + 2 * k → s'.1 c = s.1 c ∧ s'.2 c = s.2 c) (kt : ∀ j, j ≠ k → t'.1 128 j = t.1 128 j ∧ t'.1 129 j = t.1 129 j) (k2 : ∀ j, (j < 24 * k ∨ 24 * k + 24 ≤ j) → t'.2 130 j = t.2 130 j) (n1 : ∀ i, i < 24 → s'.2 (115 + 2 * k) i = t'.2 130 (24 * k + i)) (n2 : (s'.1 (114 + 2 * k) 0 = 0 ∧ t'.1 128 k = -1) ∨ ∃ l n, s'.1 (114 + 2 * k) 0 = 1 ∧ l < 4 ∧ n ≤ 24 ∧ s'.1 (114 + 2 * k) 1 = nI l ∧ t'.1 128 k = nI l ∧ s'.1 (114 + 2 * k) 2 = nI n ∧ t'.1 129 k = nI n) : IS s' t' := by
  intro j hj
  by_cases e : j = k
  · rw [e]; exact ⟨n1, n2⟩
  · have a := h j hj
    rw [(ks (114 + 2 * j) (by omega) (by omega)).1, (ks (115 + 2 * j) (by omega) (by omega)).2, (kt j e).1, (kt j e).2]
    refine ⟨fun i hi => ?_, a.2⟩
    rw [k2 (24 * j + i) (by omega)]
    exact a.1 i hi
theorem P30 (a1 : Int32) (h : Inv s t) : ∃ Z : Sto × Sto, st_30 a1 s t = some Z ∧ Inv Z.1 Z.2 := by
  have hI := h
  obtain ⟨A, n, Hs, hF, hG, hT, hS, hK⟩ := h
  rcases ix_or a1 4 (by omega) with ⟨k, hk, rfl⟩ | hx
  · obtain ⟨h1, h2⟩ := hS k hk
    rcases h2 with ⟨c1, c2⟩ | ⟨l, n, c1, hl, hn, c2, c3, c4, c5⟩
    · refine ⟨(s, t), st_of (r := -11) ?_ ?_, hI⟩
      · unfold f_X6_drop; rw [c_isSheet hk, bds, if10, rdR_nI (by omega) (by omega), bds, c113, c1, if00]
      · unfold f_X7_drop; rw [m_isSheet hk, bds, if10, rdI_nI (by omega) (by omega), bds, c2, if_neg (by decide)]
    · refine ⟨(upI s (114 + 2 * k) 0 0, upI t 128 k (-1)), st_of (r := nI n) ?_ ?_, Inv_s hI (IS_s (k := k) hS (fun c a b => ⟨upI_ne a, rfl⟩) (fun j hj => ⟨?_, ?_⟩) (fun j hj => rfl) h1 (Or.inl ⟨?_, ?_⟩)) (fun c hc => ⟨upI_ne (by omega), rfl⟩) (fun c hc => upI_ne (by omega))⟩
      · unfold f_X6_drop; rw [c_isSheet hk, bds, if10, rdR_nI (by omega) (by omega), bds, c113, c1, if10, bds, lts, bds, c113, upI_at, if_neg (by omega), c4]
      · unfold f_X7_drop; rw [m_isSheet hk, bds, if10, rdI_nI (by omega) (by omega), bds, c3, if_pos (show (0 : Int32) ≤ nI l from nI_le (a := 0) (by omega) (by omega)), wrI_nI (by omega) (by omega), bds, rdI_nI (by omega) (by omega), bds, upI_at, if_neg (by omega), c5]
      · show (upI t 128 k (-1)).1 128 j = _
        rw [upI_at, if_neg (by omega)]
      · show (upI t 128 k (-1)).1 129 j = _
        rw [upI_at, if_neg (by omega)]
      · show (upI s (114 + 2 * k) 0 0).1 (114 + 2 * k) 0 = 0
        rw [upI_at, if_pos ⟨rfl, rfl⟩]
      · show (upI t 128 k (-1)).1 128 k = -1
        rw [upI_at, if_pos ⟨rfl, rfl⟩]
  · refine ⟨(s, t), st_of (r := -1) ?_ ?_, hI⟩
    · unfold f_X6_drop; rw [c_noSheet hx, bds, if00]
    · unfold f_X7_drop; rw [m_noSheet hx, bds, if00]
theorem m_wipe {z : Sto} {k : Nat} (hk : k < 4) (x : Int32) : ∃ g, wl4 b_X7_sheet_51 fu (nI k) x (nI 0) z = some (x, stL z 130 g) ∧ (∀ i, i < 24 → g (24 * k + i) = 0) ∧ ∀ j, (j < 24 * k ∨ 24 * k + 24 ≤ j) → g j = z.2 130 j := by
  refine wl4_inv (Q := fun o => ∃ g, o = some (x, stL z 130 g) ∧ (∀ i, i < 24 → g (24 * k + i) = 0) ∧ ∀ j, (j < 24 * k ∨ 24 * k + 24 ≤ j) → g j = z.2 130 j) (fun i a b c d => a = nI k ∧ b = x ∧ c = nI i ∧ ∃ g, d = stL z 130 g ∧ (∀ j, j < i → g (24 * k + j) = 0) ∧ ∀ j, (j < 24 * k ∨ 24 * k + 24 ≤ j) → g j = z.2 130 j) 24 ?_ ?_ (by omega) ⟨rfl, rfl, rfl, _, stL_self.symm, fun j hj => by omega, fun _ _ => rfl⟩
  · rintro i hi _ _ _ _ ⟨rfl, rfl, rfl, g, rfl, g1, g2⟩
    refine Or.inl ⟨nI k, _, nI (i + 1), stL z 130 (vp_updL g (24 * k + i) 0), ⟨rfl, rfl, rfl, _, rfl, fun j hj => ?_, fun j hj => ?_⟩, fun ag => ?_⟩
    · rw [updL_at]
      by_cases e : j = i
      · rw [if_pos (by omega)]
      · rw [if_neg (by omega)]; exact g1 j (by omega)
    · rw [updL_at, if_neg (by omega)]; exact g2 j hj
    · unfold b_X7_sheet_51
      simp (disch := omega) only [bds, bds2, lts, lit, nI_add, pk_mul, nI_leI, nI_ltI, nI_eq, rdI_nI, rdL_nI, wrI_nI, wrL_nI, rdR_nI, if_pos, if_neg, and_true, true_and, and_false, false_and, reduceIte, upL_st]
  · rintro _ _ _ _ ⟨rfl, rfl, rfl, g, rfl, g1, g2⟩ ag
    refine ⟨g, ?_, g1, g2⟩
    unfold b_X7_sheet_51
    simp (disch := omega) only [bds, bds2, lts, lit, nI_add, pk_mul, nI_leI, nI_ltI, nI_eq, rdI_nI, rdL_nI, wrI_nI, wrL_nI, rdR_nI, if_pos, if_neg, and_true, true_and, and_false, false_and, reduceIte]
theorem P29 (a1 a2 a3 : Int32) (h : Inv s t) : ∃ Z : Sto × Sto, st_29 a1 a2 a3 s t = some Z ∧ Inv Z.1 Z.2 := by
  have hI := h
  obtain ⟨A, n, Hs, hF, hG, hT, hS, hK⟩ := h
  suffices hh : (∃ r, f_X6_sheet a1 a2 a3 s = some (r, s) ∧ f_X7_sheet a1 a2 a3 t = some (r, t)) ∨ ∃ k l n, k < 4 ∧ l < 4 ∧ n ≤ 24 ∧ a1 = nI k ∧ a2 = nI l ∧ a3 = nI n by
    rcases hh with ⟨r, e1, e2⟩ | ⟨k, l, n, hk, hl, hn, rfl, rfl, rfl⟩
    · exact ⟨(s, t), st_of (r := r) e1 e2, hI⟩
    · obtain ⟨f, e1, e2⟩ := c_fill (z := upI (upI (upI s (114 + 2 * k) 0 1) (114 + 2 * k) 1 (nI l)) (114 + 2 * k) 2 (nI n)) (c := 115 + 2 * k) (n := 24) (by omega) 0
      obtain ⟨g, g1, g2, g3⟩ := m_wipe (z := upI (upI t 128 k (nI l)) 129 k (nI n)) hk (nI n)
      refine ⟨(_, _), st_of (r := nI n) (s' := stL (upI (upI (upI s (114 + 2 * k) 0 1) (114 + 2 * k) 1 (nI l)) (114 + 2 * k) 2 (nI n)) (115 + 2 * k) f) (t' := stL (upI (upI t 128 k (nI l)) 129 k (nI n)) 130 g) ?_ ?_, Inv_s hI (IS_s (k := k) hS (fun c a b => ⟨?_, ?_⟩) (fun j hj => ⟨?_, ?_⟩) (fun j hj => ?_) (fun i hi => ?_) (Or.inr ⟨l, n, ?_, hl, hn, ?_, ?_, ?_, ?_⟩)) (fun c hc => ⟨?_, ?_⟩) (fun c hc => ?_)⟩
      · unfold f_X6_sheet f_X3_begin
        rw [c_isSheet hk, bds, if10, c_isLane hl, bds, if10, if_pos (show nI n ≤ (24 : Int32) from nI_le (b := 24) hn (by omega)), if_pos (show (0 : Int32) ≤ nI n from nI_le (a := 0) (by omega) (by omega)), rdR_nI (by omega) (by omega), bds, c113, lts, lts, lts, c114, e1, bds, bds]
      · unfold f_X7_sheet
        rw [m_isSheet hk, bds, if10, in4 hl, bds, if10, if_pos (show nI n ≤ (24 : Int32) from nI_le (b := 24) hn (by omega)), if_pos (show (0 : Int32) ≤ nI n from nI_le (a := 0) (by omega) (by omega)), wrI_nI (by omega) (by omega), bds, wrI_nI (by omega) (by omega), bds]
        exact g1
      · show ((upI (upI (upI s (114 + 2 * k) 0 1) (114 + 2 * k) 1 (nI l)) (114 + 2 * k) 2 (nI n))).1 c = s.1 c
        rw [upI_ne a, upI_ne a, upI_ne a]
      · rw [stL_ne b]; rfl
      · simp (disch := omega) only [stL_I, upI_at, if_neg]
      · simp (disch := omega) only [stL_I, upI_at, if_neg]
      · rw [stL_same, g3 j hj]; rfl
      · rw [stL_same, stL_same, g2 i hi, e2 i hi]
      · simp (disch := omega) only [stL_I, upI_at, if_neg, if_pos, true_and, reduceIte]
      · simp (disch := omega) only [stL_I, upI_at, if_neg, if_pos, true_and, reduceIte]
      · simp (disch := omega) only [stL_I, upI_at, if_neg, if_pos, true_and, reduceIte]
      · simp (disch := omega) only [stL_I, upI_at, if_neg, if_pos, true_and, reduceIte]
      · simp (disch := omega) only [stL_I, upI_at, if_neg, if_pos, true_and, reduceIte]
      · show ((upI (upI (upI s (114 + 2 * k) 0 1) (114 + 2 * k) 1 (nI l)) (114 + 2 * k) 2 (nI n))).1 c = s.1 c
        rw [upI_ne (by omega), upI_ne (by omega), upI_ne (by omega)]
      · rw [stL_ne (by omega)]; rfl
      · show (upI (upI t 128 k (nI l)) 129 k (nI n)).1 c = t.1 c
        rw [upI_ne (by omega), upI_ne (by omega)]
  rcases ix_or a1 4 (by omega) with ⟨k, hk, rfl⟩ | hx
  · rcases ix_or a2 4 (by omega) with ⟨l, hl, rfl⟩ | hx
    · by_cases c : a3 ≤ 24
      · by_cases c2 : (0 : Int32) ≤ a3
        · refine Or.inr ⟨k, l, a3.toInt.toNat, hk, hl, ?_, rfl, rfl, ?_⟩
          · rw [Int32.le_iff_toInt_le] at c c2
            have e1 : (24 : Int32).toInt = 24 := rfl
            have e2 : (0 : Int32).toInt = 0 := rfl
            omega
          · rw [nI_iI]
            rw [Int32.le_iff_toInt_le] at c2
            have e2 : (0 : Int32).toInt = 0 := rfl
            rw [show ((a3.toInt.toNat : Nat) : Int) = a3.toInt by omega, iI_of]
        · refine Or.inl ⟨-14, ?_, ?_⟩
          · unfold f_X6_sheet; rw [c_isSheet hk, bds, if10, c_isLane hl, bds, if10, if_pos c, if_neg c2]
          · unfold f_X7_sheet; rw [m_isSheet hk, bds, if10, in4 hl, bds, if10, if_pos c, if_neg c2]
      · refine Or.inl ⟨-1, ?_, ?_⟩
        · unfold f_X6_sheet; rw [c_isSheet hk, bds, if10, c_isLane hl, bds, if10, if_neg c]
        · unfold f_X7_sheet; rw [m_isSheet hk, bds, if10, in4 hl, bds, if10, if_neg c]
    · refine Or.inl ⟨-1, ?_, ?_⟩
      · unfold f_X6_sheet; rw [c_isSheet hk, bds, if10, c_noLane hx, bds, if00]
      · unfold f_X7_sheet; rw [m_isSheet hk, bds, if10, no4 hx, bds, if00]
  · refine Or.inl ⟨-1, ?_, ?_⟩
    · unfold f_X6_sheet; rw [c_noSheet hx, bds, if00]
    · unfold f_X7_sheet; rw [m_noSheet hx, bds, if00]
end
