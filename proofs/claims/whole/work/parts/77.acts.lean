section
variable {z : Sto} {A : Fm}
theorem Ke.row {S : List Nat} {z z' : Sto} (h : Ke S z z') {c : Nat} (hc : c ∉ S) : z'.1 c = z.1 c := h.1 c hc
theorem m_acted3 (w p q r : Int32) : ∃ g, f_X7_acted w p q r z = bd2 (f_X7_does w p q r (stI z 133 g)) (fun t2 z3 => if t2 < 0 then some (t2, z3) else wl3 b_X7_acted_49 fu t2 0 z3) ∧ ∀ k, k < 42 → g k = z.1 123 k := by
  refine wl6_inv (Q := fun o => ∃ g, o = bd2 (f_X7_does w p q r (stI z 133 g)) (fun t2 z3 => if t2 < 0 then some (t2, z3) else wl3 b_X7_acted_49 fu t2 0 z3) ∧ ∀ k, k < 42 → g k = z.1 123 k) (fun k a b c d x y => a = w ∧ b = p ∧ c = q ∧ d = r ∧ x = nI k ∧ ∃ g, y = stI z 133 g ∧ ∀ i, i < k → g i = z.1 123 i) 42 ?_ ?_ (by omega) ⟨rfl, rfl, rfl, rfl, rfl, z.1 133, stI_self.symm, fun i hi => by omega⟩
  · rintro k hk a b c d _ _ ⟨rfl, rfl, rfl, rfl, rfl, g, rfl, h1⟩
    refine Or.inl ⟨a, b, c, d, nI (k + 1), stI z 133 (upd g k (z.1 123 k)), ⟨rfl, rfl, rfl, rfl, rfl, _, rfl, fun i hi => ?_⟩, fun ag => ?_⟩
    · rw [upd_at]
      by_cases e : i = k
      · rw [if_pos (by omega), e]
      · rw [if_neg (by omega)]; exact h1 i (by omega)
    · unfold b_X7_acted_3
      simp (disch := omega) only [bds, bds2, lts, lit, nI_add, pk_mul, nI_leI, nI_ltI, nI_eq, rdI_nI, rdL_nI, wrI_nI, wrL_nI, rdR_nI, if_pos, if_neg, reduceIte, stI_at, upI_st]
  · rintro a b c d _ _ ⟨rfl, rfl, rfl, rfl, rfl, g, rfl, h1⟩ ag
    refine ⟨g, ?_, h1⟩
    unfold b_X7_acted_3
    rw [if_pos (by decide)]
/-- an act that is refused, and one that isn't -/
theorem m_acted {n : Nat} {Hs : Nat → Fm} {A' : Fm} {w p q r t : Int32} (hB : BF A) (hB' : BF A') (hBH : ∀ i, i < n → BF (Hs i)) (hI : IM z A n Hs) (hd : ∀ z1, z1.1 123 = z.1 123 → ∃ z3, f_X7_does w p q r z1 = some (t, z3) ∧ Ke [123, 132] z1 z3 ∧ ((t < 0 ∧ RowM (z3.1 123) A) ∨ (¬ t < 0 ∧ RowM (z3.1 123) A'))) : ∃ z', f_X7_acted w p q r z = some (t, z') ∧ Ke [122, 123, 124, 132, 133] z z' ∧ (∀ j, j ≠ 2 → z'.1 122 j = z.1 122 j) ∧ (t < 0 → IM z' A n Hs) ∧ (¬ t < 0 → IM z' A' (min (n + 1) 6) (psh n Hs A)) := by
  obtain ⟨g, g1, g2⟩ := m_acted3 (z := z) w p q r
  obtain ⟨z3, d1, d2, d3⟩ := hd (stI z 133 g) (stI_ne (by decide))
  have k1 : Ke [122, 123, 124, 132, 133] z z3 := (Ke_st1 (c := 133) (g := g) (by simp)).tr (d2.mono (by simp))
  have r122 : z3.1 122 = z.1 122 := (d2.1 122 (by simp)).trans (stI_ne (by decide))
  have r124 : z3.1 124 = z.1 124 := (d2.1 124 (by simp)).trans (stI_ne (by decide))
  have r133 : z3.1 133 = g := (d2.1 133 (by simp)).trans stI_same
  rw [g1, d1, bd2_some]
  obtain ⟨hR, ⟨hn, hz⟩, hH⟩ := hI
  rcases d3 with ⟨ht, hR3⟩ | ⟨ht, hR3⟩
  · rw [if_pos ht]
    refine ⟨z3, rfl, k1, fun j _ => by rw [r122], fun _ => ⟨hR3, ⟨hn, by rw [r122]; exact hz⟩, fun i hi => by rw [r124]; exact hH i hi⟩, fun h => absurd ht h⟩
  · rw [if_neg ht]
    obtain ⟨a1, a2, p1, p2, p3⟩ := m_acted49 (z := z3) t
    have hI4 : IM (stI (stI z3 132 a1) 123 a2) A n Hs := by
      refine ⟨?_, ⟨hn, ?_⟩, fun i hi => ?_⟩
      · rw [stI_same]
        exact RowM_congr hB (fun k hk => by rw [p3 k hk, r133, g2 k hk]) hR
      · rw [stI_ne (by decide), stI_ne (by decide), r122]; exact hz
      · rw [stI_ne (by decide), stI_ne (by decide), r124]; exact hH i hi
    obtain ⟨z5, b1, b2, b3, b4, b5⟩ := m_notes hB hBH hI4
    obtain ⟨w5, c1, c2⟩ := m_takesBack (z := z5)
    rw [p1, b1, bd_some, c1, bd_some]
    have r132 : z5.1 132 = a1 := (b2.1 132 (by simp)).trans ((stI_ne (by decide)).trans stI_same)
    refine ⟨_, rfl, ?_, fun j hj => ?_, fun h => absurd h ht, fun _ => ⟨?_, ⟨b5.2.1.1, ?_⟩, fun i hi => ?_⟩⟩
    · exact ((k1.tr (((Ke_st1 (by simp)).tr (Ke_st1 (by simp))))).tr (b2.mono (by simp))).tr (Ke_st1 (by simp))
    · rw [stI_ne (by decide), b4 j hj, stI_ne (by decide), stI_ne (by decide), r122]
    · rw [stI_same]
      exact RowM_congr hB' (fun k hk => by rw [c2 k hk, r132, p2 k hk]) hR3
    · rw [stI_ne (by decide)]; exact b5.2.1.2
    · rw [stI_ne (by decide)]; exact b5.2.2 i hi
end
