section
variable {s t y z : Sto} {A : Fm}
theorem m_ten (hB : BF A) (hR : RowM (t.1 123) A) {x1 x2 : Int32} {r : Option (Int64 × Sto)} (h : wl6 b_X7_fail_62 fu x1 x2 (0 : Int64) (iL (10 ^ fM A)) (0 : Int32) t = r) : wl6 b_X7_fail_34 fu x1 x2 (0 : Int64) (1 : Int64) (0 : Int32) t = r := by
  have h9 := hB.2.1
  have hm := hR.1.2.1
  refine wl6_inv (Q := fun o => o = r) (fun k a1 a2 a3 a4 a5 a6 => a1 = x1 ∧ a2 = x2 ∧ a3 = 0 ∧ a4 = iL (10 ^ k) ∧ a5 = nI k ∧ a6 = t) (fM A) ?_ ?_ (by omega) ⟨rfl, rfl, rfl, by rw [Int.pow_zero]; rfl, rfl, rfl⟩
  · rintro k hk b1 b2 b3 b4 b5 b6 ⟨h1, h2, h3, h4, h5, h6⟩
    rw [h1, h2, h3, h4, h5, h6]
    refine Or.inl ⟨x1, x2, 0, iL (10 ^ (k + 1)), nI (k + 1), t, ⟨rfl, rfl, rfl, rfl, rfl, rfl⟩, fun ag => ?_⟩
    unfold b_X7_fail_34
    rw [m_rd1, bds, hm, if_neg (nI_ge hk (by omega)), lts, lts, show (10 : Int64) = iL 10 from rfl, iL_mul, Int.pow_succ, show nI k + (1 : Int32) = nI (k + 1) from nI_add k 1]
  · rintro b1 b2 b3 b4 b5 b6 ⟨h1, h2, h3, h4, h5, h6⟩ ag
    rw [h1, h2, h3, h4, h5, h6]
    unfold b_X7_fail_34
    rw [m_rd1, bds, hm, if_pos (nI_le (Nat.le_refl _) (by omega))]
    exact h
end
