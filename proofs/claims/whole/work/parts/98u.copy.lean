section
variable {s t s' t' y z : Sto} {A : Fm}
theorem m_copy2 {k d c : Nat} (hk : k < 4) (hd : d + c ≤ 24) (z : Sto) : ∃ g, wl5 b_X7_copy_139 fu (nI k) (nI d) (nI c) (nI 0) z = some (nI c, stL z 130 g) ∧ (∀ j, j < c → g (24 * k + d + j) = z.2 131 j) ∧ ∀ j, (j < 24 * k + d ∨ 24 * k + d + c ≤ j) → g j = z.2 130 j := by
  refine wl5_inv (Q := fun o => ∃ g, o = some (nI c, stL z 130 g) ∧ (∀ j, j < c → g (24 * k + d + j) = z.2 131 j) ∧ ∀ j, (j < 24 * k + d ∨ 24 * k + d + c ≤ j) → g j = z.2 130 j) (fun h a1 a2 a3 a4 a5 => a1 = nI k ∧ a2 = nI d ∧ a3 = nI c ∧ a4 = nI h ∧ ∃ g, a5 = stL z 130 g ∧ (∀ j, j < h → g (24 * k + d + j) = z.2 131 j) ∧ ∀ j, (j < 24 * k + d ∨ 24 * k + d + c ≤ j) → g j = z.2 130 j) c ?_ ?_ (by omega) ⟨rfl, rfl, rfl, rfl, _, stL_self.symm, fun j hj => by omega, fun _ _ => rfl⟩
  · rintro h hh _ _ _ _ _ ⟨rfl, rfl, rfl, rfl, g, rfl, g1, g2⟩
    refine Or.inl ⟨nI k, nI d, nI c, nI (h + 1), stL z 130 (vp_updL g (24 * k + d + h) (z.2 131 h)), ⟨rfl, rfl, rfl, rfl, _, rfl, fun j hj => ?_, fun j hj => ?_⟩, fun ag => ?_⟩
    · rw [updL_at]
      by_cases e : j = h
      · rw [if_pos (by omega), e]
      · rw [if_neg (by omega)]; exact g1 j (by omega)
    · rw [updL_at, if_neg (by omega)]; exact g2 j hj
    · unfold b_X7_copy_139
      simp (disch := omega) only [bds, bds2, lts, lit, nI_add, pk_mul, nI_leI, nI_ltI, nI_eq, rdI_nI, rdL_nI, wrI_nI, wrL_nI, rdR_nI, if_pos, if_neg, and_true, true_and, and_false, false_and, reduceIte, upL_st, stL_at]
  · rintro _ _ _ _ _ ⟨rfl, rfl, rfl, rfl, g, rfl, g1, g2⟩ ag
    refine ⟨g, ?_, g1, g2⟩
    unfold b_X7_copy_139
    simp (disch := omega) only [bds, bds2, lts, lit, nI_add, pk_mul, nI_leI, nI_ltI, nI_eq, rdI_nI, rdL_nI, wrI_nI, wrL_nI, rdR_nI, if_pos, if_neg, and_true, true_and, and_false, false_and, reduceIte]
theorem m_copy1 {k i k' d c : Nat} (hk : k < 4) (hk' : k' < 4) (hi : i + c ≤ 24) (hd : d + c ≤ 24) (z : Sto) : ∃ g g', wl7 b_X7_copy_102 fu (nI k) (nI i) (nI k') (nI d) (nI c) (nI 0) z = some (nI c, stL (stL z 131 g) 130 g') ∧ (∀ j, j < c → g' (24 * k' + d + j) = z.2 130 (24 * k + i + j)) ∧ ∀ j, (j < 24 * k' + d ∨ 24 * k' + d + c ≤ j) → g' j = z.2 130 j := by
  refine wl7_inv (Q := fun o => ∃ g g', o = some (nI c, stL (stL z 131 g) 130 g') ∧ (∀ j, j < c → g' (24 * k' + d + j) = z.2 130 (24 * k + i + j)) ∧ ∀ j, (j < 24 * k' + d ∨ 24 * k' + d + c ≤ j) → g' j = z.2 130 j) (fun h a1 a2 a3 a4 a5 a6 a7 => a1 = nI k ∧ a2 = nI i ∧ a3 = nI k' ∧ a4 = nI d ∧ a5 = nI c ∧ a6 = nI h ∧ ∃ g, a7 = stL z 131 g ∧ ∀ j, j < h → g j = z.2 130 (24 * k + i + j)) c ?_ ?_ (by omega) ⟨rfl, rfl, rfl, rfl, rfl, rfl, _, stL_self.symm, fun j hj => by omega⟩
  · rintro h hh _ _ _ _ _ _ _ ⟨rfl, rfl, rfl, rfl, rfl, rfl, g, rfl, g1⟩
    refine Or.inl ⟨nI k, nI i, nI k', nI d, nI c, nI (h + 1), stL z 131 (vp_updL g h (z.2 130 (24 * k + i + h))), ⟨rfl, rfl, rfl, rfl, rfl, rfl, _, rfl, fun j hj => ?_⟩, fun ag => ?_⟩
    · rw [updL_at]
      by_cases e : j = h
      · rw [if_pos e, e]
      · rw [if_neg e]; exact g1 j (by omega)
    · unfold b_X7_copy_102
      simp (disch := omega) only [bds, bds2, lts, lit, nI_add, pk_mul, nI_leI, nI_ltI, nI_eq, rdI_nI, rdL_nI, wrI_nI, wrL_nI, rdR_nI, if_pos, if_neg, and_true, true_and, and_false, false_and, reduceIte, upL_st, stL_at]
  · rintro _ _ _ _ _ _ _ ⟨rfl, rfl, rfl, rfl, rfl, rfl, g, rfl, g1⟩ ag
    obtain ⟨g', p1, p2, p3⟩ := m_copy2 hk' hd (stL z 131 g)
    refine ⟨g, g', ?_, fun j hj => ?_, fun j hj => ?_⟩
    · rw [← p1]
      unfold b_X7_copy_102
      rw [if_pos (nI_le (Nat.le_refl _) (by omega))]
      rfl
    · rw [p2 j hj, stL_same]; exact g1 j hj
    · rw [p3 j hj, stL_ne (by omega)]
theorem c_hold {k n : Nat} (hn : n ≤ 24) (h2 : s.1 (114 + 2 * k) 2 = nI n) {x : Int32} {c : Nat} (hc : c < 2147483648) : (∃ i, i + c ≤ n ∧ x = nI i ∧ f_X3_holds (114 + 2 * k) x (nI c) s = some 1) ∨ (f_X3_holds (114 + 2 * k) x (nI c) s = some 0 ∧ (x < 0 ∨ ∃ i, i < 2147483648 ∧ x = nI i ∧ n < i + c)) := by
  have nc : ¬ nI c < (0 : Int32) := fun e => by
    rw [Int32.lt_iff_toInt_lt, nI_iI, iI_toInt ⟨by omega, by omega⟩] at e
    have e2 : (0 : Int32).toInt = 0 := rfl
    omega
  unfold f_X3_holds
  rw [if_neg nc, h2]
  rcases nn_or x with h | ⟨i, hi, rfl⟩
  · rw [if_pos h]
    exact Or.inr ⟨rfl, Or.inl h⟩
  · have ni : ¬ nI i < (0 : Int32) := fun e => by
      rw [Int32.lt_iff_toInt_lt, nI_iI, iI_toInt ⟨by omega, by omega⟩] at e
      have e2 : (0 : Int32).toInt = 0 := rfl
      omega
    have hh := hld hn hi hc
    rw [if_neg ni]
    by_cases e : i + c ≤ n
    · rw [if_neg (fun h => by have := hh.1.mp h; omega)]
      exact Or.inl ⟨i, e, rfl, rfl⟩
    · rw [if_pos (hh.1.mpr (by omega))]
      exact Or.inr ⟨rfl, Or.inr ⟨i, hi, rfl, by omega⟩⟩
theorem ge0 {i : Nat} (hi : i < 2147483648) : ¬ nI i < (0 : Int32) := fun e => by
  rw [Int32.lt_iff_toInt_lt, nI_iI, iI_toInt ⟨by omega, by omega⟩] at e
  have e2 : (0 : Int32).toInt = 0 := rfl
  omega
theorem hld2 {n x c : Nat} (hn : n ≤ 24) (hx : x < 2147483648) (hc : c < 2147483648) : (nI n - nI x < nI c ↔ n < x + c) := by
  rw [nI_iI n, nI_iI c, nI_iI x, iI_sub, iI_lt ⟨by omega, by omega⟩ ⟨by omega, by omega⟩]
  omega
theorem P32 (a1 a2 a3 a4 a5 : Int32) (h : Inv s t) : ∃ Z : Sto × Sto, st_32 a1 a2 a3 a4 a5 s t = some Z ∧ Inv Z.1 Z.2 := by
  have hI := h
  obtain ⟨A, n, Hs, hF, hG, hT, hS, hK⟩ := h
  have fin : ∀ (r : Int32), f_X6_copy a1 a2 a3 a4 a5 s = some (r, s) → f_X7_copy a1 a2 a3 a4 a5 t = some (r, t) → ∃ Z : Sto × Sto, st_32 a1 a2 a3 a4 a5 s t = some Z ∧ Inv Z.1 Z.2 := fun r e1 e2 => ⟨(s, t), st_of (r := r) e1 e2, hI⟩
  have go : ∀ (s' t' : Sto) (r : Int32), f_X6_copy a1 a2 a3 a4 a5 s = some (r, s') → f_X7_copy a1 a2 a3 a4 a5 t = some (r, t') → Inv s' t' → ∃ Z : Sto × Sto, st_32 a1 a2 a3 a4 a5 s t = some Z ∧ Inv Z.1 Z.2 := fun s' t' r e1 e2 e3 => ⟨(s', t'), st_of (r := r) e1 e2, e3⟩
  unfold f_X6_copy f_X7_copy at fin go
  rcases ix_or a1 4 (by omega) with ⟨k, hk, rfl⟩ | hx
  · rw [c_isSheet hk, m_isSheet hk, rdR_nI (by omega) (by omega), rdI_nI (by omega) (by omega)] at fin go
    simp only [bds, if10] at fin go
    rcases ix_or a3 4 (by omega) with ⟨k', hk', rfl⟩ | hx
    · rw [c_isSheet hk', m_isSheet hk', rdR_nI (by omega) (by omega), rdI_nI (by omega) (by omega)] at fin go
      simp only [bds, if10, c113] at fin go
      rcases (hS k hk).2 with ⟨c1, c2⟩ | ⟨l, n, c1, hl, hn, c2, c3, c4, c5⟩
      · rw [c1, c2] at fin
        simp only [if00, reduceIte] at fin
        rw [if_pos (by decide)] at fin
        exact fin _ rfl rfl
      · rw [c1, c2, c3] at fin go
        simp only [if10] at fin go
        rw [if_neg (ge0 (i := l) (by omega))] at fin go
        rcases (hS k' hk').2 with ⟨d1, d2⟩ | ⟨l', n', d1, hl', hn', d2, d3, d4, d5⟩
        · rw [d1, d2] at fin
          simp only [if00, reduceIte] at fin
          rw [if_neg (by decide)] at fin
          exact fin _ rfl rfl
        · rw [d1, d2, d3] at fin go
          simp only [if10] at fin go
          rw [if_pos (show (0 : Int32) ≤ nI l' from nI_le (a := 0) (by omega) (by omega))] at fin go
          by_cases e : nI l = nI l'
          · simp only [if_pos e] at fin go
            rcases nn_or a5 with h5 | ⟨c, hc, rfl⟩
            · rw [if_pos h5] at fin
              unfold f_X3_holds at fin
              rw [if_pos h5] at fin
              simp only [bds, if00, reduceIte] at fin
              exact fin _ rfl rfl
            · rw [if_neg (ge0 hc)] at fin go
              have r1 : rdI t 129 4 (nI k) = some (nI n) := by rw [rdI_nI (by omega) (by omega), c5]
              have r2 : rdI t 129 4 (nI k') = some (nI n') := by rw [rdI_nI (by omega) (by omega), d5]
              rw [r1, r2] at fin go
              simp only [bds] at fin go
              rcases c_hold (s := s) (k := k) hn c4 (x := a2) hc with ⟨i, hi, rfl, g1⟩ | ⟨g1, g2⟩
              · rw [g1, if_neg (ge0 (i := i) (by omega)), if_neg (show ¬ nI n - nI i < nI c from fun h => by have := (hld2 (x := i) hn (by omega) hc).mp h; omega)] at fin go
                simp only [bds, if10] at fin go
                rcases c_hold (s := s) (k := k') hn' d4 (x := a4) hc with ⟨d, hd, rfl, g1⟩ | ⟨g1, g2⟩
                · rw [g1, if_neg (ge0 (i := d) (by omega)), if_pos ((hld (x := d) hn' (by omega) hc).2.mpr (by omega)), c114, c114, cpL_nI (by omega) (by omega) (by omega) (by omega)] at go
                  simp only [bds, if10] at go
                  obtain ⟨g, g', p1, p2, p3⟩ := m_copy1 (i := i) (d := d) (c := c) hk hk' (by omega) (by omega) t
                  refine go (stL s (115 + 2 * k') (va_cpy (s.2 (115 + 2 * k)) (s.2 (115 + 2 * k')) i d c)) (stL (stL t 131 g) 130 g') (nI c) rfl p1 (Inv_s hI (IS_s (k := k') hS (fun c a b => ⟨rfl, stL_ne b⟩) (fun j hj => ⟨rfl, rfl⟩) (fun j hj => ?_) (fun j hj => ?_) (Or.inr ⟨l', n', d1, hl', hn', d2, d3, d4, d5⟩)) (fun c hc => ⟨rfl, stL_ne (by omega)⟩) (fun c hc => rfl))
                  · rw [stL_same]; exact p3 j (by omega)
                  · rw [stL_same, stL_same]
                    by_cases x : d ≤ j ∧ j < d + c
                    · rw [cpy_in x.1 x.2]
                      have a := p2 (j - d) (by omega)
                      rw [show 24 * k' + d + (j - d) = 24 * k' + j by omega] at a
                      rw [a, (hS k hk).1 (i + (j - d)) (by omega), Nat.add_assoc]
                    · rw [cpy_out x, p3 (24 * k' + j) (by omega)]
                      exact (hS k' hk').1 j hj
                · rw [g1] at fin
                  simp only [bds, if00, reduceIte] at fin
                  rcases g2 with g2 | ⟨d, hd, rfl, g2⟩
                  · rw [if_pos g2] at fin; exact fin _ rfl rfl
                  · rw [if_neg (ge0 hd), if_neg (fun h => by have := (hld (x := d) hn' hd hc).2.mp h; omega)] at fin; exact fin _ rfl rfl
              · rw [g1] at fin
                simp only [bds, if00, reduceIte] at fin
                rcases g2 with g2 | ⟨i, hi, rfl, g2⟩
                · rw [if_pos g2] at fin; exact fin _ rfl rfl
                · rw [if_neg (ge0 hi), if_pos (show nI n - nI i < nI c from (hld2 hn hi hc).mpr g2)] at fin
                  by_cases x : a4 < 0
                  · rw [if_pos x] at fin; exact fin _ rfl rfl
                  · rw [if_neg x] at fin; exact fin _ rfl rfl
          · simp only [if_neg e] at fin
            exact fin _ rfl rfl
    · rw [c_noSheet hx, m_noSheet hx] at fin
      simp only [bds, if00, reduceIte] at fin
      exact fin _ rfl rfl
  · rw [c_noSheet hx, m_noSheet hx] at fin
    simp only [bds, if00, reduceIte] at fin
    exact fin _ rfl rfl
end
