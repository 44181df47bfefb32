section
variable {s t y z : Sto} {A : Fm}
def wtS (p u : Nat) : Nat → Nat
  | 0 => 1
  | k + 1 => wtS p u k * (if u.testBit k = true then 10 - p else p)
theorem wtS_le {p u : Nat} (hp : p ≤ 10) : ∀ k, wtS p u k ≤ 10 ^ k := by
  intro k
  induction k with
  | zero => exact Nat.le_refl _
  | succ k ih =>
    show wtS p u k * (if u.testBit k = true then 10 - p else p) ≤ 10 ^ (k + 1)
    rw [Nat.pow_succ]
    refine Nat.mul_le_mul ih ?_
    split <;> omega
theorem wtS_9 {p u k : Nat} (hp : p ≤ 10) (hk : k ≤ 9) : wtS p u k ≤ 1000000000 := Nat.le_trans (wtS_le hp k) (Nat.le_trans (Nat.pow_le_pow_right (by omega) hk) (by decide))
theorem m_weigh (hB : BF A) (hR : RowM (z.1 123) A) {p u : Nat} (hp : p ≤ 10) (hu : u < 512) {x2 : Int32} {x3 x5 : Int64} {ag : Int32 → Int32 → Int64 → Int64 → Int32 → Sto → Option (Int64 × Sto)} : wl8 (b_X7_fail_77 ag) fu (nI p) x2 x3 x5 (nI u) (1 : Int64) (0 : Int32) z = if wtS p u (fM A) = 0 then ag (nI p) x2 (x3 + (0 : Int64)) x5 (nI (u + 1)) z else bd2 (f_X7_isStiff (nI u) z) fun t17 z18 => if t17 = 0 then ag (nI p) x2 (x3 + (0 : Int64)) x5 (nI (u + 1)) z18 else ag (nI p) x2 (x3 + iL ((wtS p u (fM A) : Nat) : Int)) x5 (nI (u + 1)) z18 := by
  have h9 := hB.2.1
  have hm := hR.1.2.1
  have e1 : (10 : Int32) - nI p = nI (10 - p) := pk_sub (a := 10) (by omega)
  have e2 : (nI (10 - p)).toInt64 = iL ((10 - p : Nat) : Int) := nI_long (by omega)
  have e3 : (nI p).toInt64 = iL (p : Int) := nI_long (by omega)
  refine wl8_inv (Q := fun o => o = if wtS p u (fM A) = 0 then ag (nI p) x2 (x3 + (0 : Int64)) x5 (nI (u + 1)) z else bd2 (f_X7_isStiff (nI u) z) fun t17 z18 => if t17 = 0 then ag (nI p) x2 (x3 + (0 : Int64)) x5 (nI (u + 1)) z18 else ag (nI p) x2 (x3 + iL ((wtS p u (fM A) : Nat) : Int)) x5 (nI (u + 1)) z18) (fun k a1 a2 a3 a4 a5 a6 a7 a8 => a1 = nI p ∧ a2 = x2 ∧ a3 = x3 ∧ a4 = x5 ∧ a5 = nI u ∧ a6 = iL ((wtS p u k : Nat) : Int) ∧ a7 = nI k ∧ a8 = z) (fM A) ?_ ?_ (by omega) ⟨rfl, rfl, rfl, rfl, rfl, rfl, rfl, rfl⟩
  · rintro k hk b1 b2 b3 b4 b5 b6 b7 b8 ⟨h1, h2, h3, h4, h5, h6, h7, h8⟩
    rw [h1, h2, h3, h4, h5, h6, h7, h8]
    have bt : (((nI u >>> (nI k &&& 31)) &&& (1 : Int32)) = (1 : Int32)) ↔ u.testBit k = true := bit9 (t := u) (k := k) hu (by omega)
    refine Or.inl ⟨nI p, x2, x3, x5, nI u, iL ((wtS p u (k + 1) : Nat) : Int), nI (k + 1), z, ⟨rfl, rfl, rfl, rfl, rfl, rfl, rfl, rfl⟩, fun ag2 => ?_⟩
    rw [show wtS p u (k + 1) = wtS p u k * (if u.testBit k = true then 10 - p else p) from rfl]
    unfold b_X7_fail_77
    rw [m_rd1, bds, hm, if_neg (nI_ge hk (by omega))]
    by_cases c : u.testBit k = true
    · rw [if_pos (bt.mpr c), if_pos c, lts, lts, e1, e2, iL_mul, show nI k + (1 : Int32) = nI (k + 1) from nI_add k 1, Int.natCast_mul]
    · rw [if_neg (fun x => c (bt.mp x)), if_neg c, lts, lts, e3, iL_mul, show nI k + (1 : Int32) = nI (k + 1) from nI_add k 1, Int.natCast_mul]
  · rintro b1 b2 b3 b4 b5 b6 b7 b8 ⟨h1, h2, h3, h4, h5, h6, h7, h8⟩ ag2
    rw [h1, h2, h3, h4, h5, h6, h7, h8]
    have wl := wtS_9 (u := u) hp h9
    have cl := cmL (a := ((wtS p u (fM A) : Nat) : Int)) (b := 0) (by omega) (by omega) (by omega) (by omega)
    unfold b_X7_fail_77
    rw [m_rd1, bds, hm, if_pos (nI_le (Nat.le_refl _) (by omega))]
    by_cases c : wtS p u (fM A) = 0
    · rw [if_pos (show lg_cmp (iL ((wtS p u (fM A) : Nat) : Int)) (0 : Int64) ≤ 0 from cl.mpr (by omega)), if_pos c, lts, lts, show nI u + (1 : Int32) = nI (u + 1) from nI_add u 1]
    · rw [if_neg (show ¬ lg_cmp (iL ((wtS p u (fM A) : Nat) : Int)) (0 : Int64) ≤ 0 from fun x => by have := cl.mp x; omega), if_neg c]
      simp only [lts]
      rw [show nI u + (1 : Int32) = nI (u + 1) from nI_add u 1]
end
