section
variable {s t y z : Sto} {A : Fm}
def wtS (p u : Nat) : Nat → Nat
  | 0 => 1
  | k + 1 => wtS p u k * (if u.testBit k = true then 10 - p else p)
theorem wtS_le {p u : Nat} (hp : p ≤ 10) : ∀ k, wtS p u k ≤ 10 ^ k := by
  intro k
  induction k with
  | zero => exact Nat.le_refl _
  | succ k ih =>
    show wtS p u k * (if u.testBit k = true then 10 - p else p) ≤ 10 ^ (k + 1)
    rw [Nat.pow_succ]
    refine Nat.mul_le_mul ih ?_
    split <;> omega
theorem wtS_9 {p u k : Nat} (hp : p ≤ 10) (hk : k ≤ 9) : wtS p u k ≤ 1000000000 := Nat.le_trans (wtS_le hp k) (Nat.le_trans (Nat.pow_le_pow_right (by omega) hk) (by decide))
end
