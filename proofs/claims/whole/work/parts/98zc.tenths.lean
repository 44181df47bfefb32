section
variable {s t y z : Sto} {A : Fm}
def stT (A : Fm) (p : Nat) : Int := (((10 - p : Nat) : Int) ^ fM A + (if 1 ≤ nS A then ((frB A (fM A) : Nat) : Int) * (p : Int) * ((10 - p : Nat) : Int) ^ (fM A - 1) else 0)) + (if 2 ≤ nS A then ((frP A (fM A) : Nat) : Int) * (p : Int) * (p : Int) * ((10 - p : Nat) : Int) ^ (fM A - 2) else 0)
theorem c_stiffTenths (hB : BF A) (hR : RepC y 1 A) (hS : StC y A) {p : Nat} (hp : p ≤ 10) : f_X6_stiffTenths (nI p) y = some (iL (stT A p)) := by
  have h9 := hB.2.1
  have hn := nS_eq hB
  have hs := nS_le hB
  have hm : y.1 1 1 = nI (fM A) := hR.1.2.1
  have h0 : y.1 95 0 = nI (nS A) := hS.1.1
  have e1 : (10 : Int32) - nI p = nI (10 - p) := pk_sub (a := 10) (by omega)
  have e2 : (nI (10 - p)).toInt64 = iL ((10 - p : Nat) : Int) := nI_long (by omega)
  have e3 : (nI p).toInt64 = iL (p : Int) := nI_long (by omega)
  have j : ∀ x : Int, j_X6_stiffTenths_61 y (nI p) (nI (10 - p)) (nI (fM A)) (iL x) = some (iL (x + (if 2 ≤ nS A then ((frP A (fM A) : Nat) : Int) * (p : Int) * (p : Int) * ((10 - p : Nat) : Int) ^ (fM A - 2) else 0))) := by
    intro x
    unfold j_X6_stiffTenths_61
    rw [h0]
    by_cases c : 2 ≤ nS A
    · rw [if_neg (show ¬ nI (nS A) < (2 : Int32) from nI_nlt (b := 2) c (by omega)), if_neg (show ¬ nI (fM A) < (2 : Int32) from nI_nlt (b := 2) (by omega) (by omega)), if_pos c, c_freePairs hB hS c, bds, e2, e3, show nI (fM A) - (2 : Int32) = nI (fM A - 2) from pk_sub (b := 2) (by omega), c_power _ (by omega), bds, lts, iL_mul, iL_mul, iL_mul, iL_add]
    · rw [if_pos (show nI (nS A) < (2 : Int32) from nI_lt (b := 2) (by omega) (by omega)), if_neg c, Int.add_zero]
  unfold f_X6_stiffTenths stT
  rw [lts, lts, hm, e1, e2, c_power _ h9, bds, h0]
  by_cases c : 1 ≤ nS A
  · rw [if_neg (show ¬ nI (nS A) < (1 : Int32) from nI_nlt (b := 1) c (by omega)), if_neg (show ¬ nI (fM A) < (1 : Int32) from nI_nlt (b := 1) (by omega) (by omega)), if_pos c, c_freeBars hB hS, bds, e3, show nI (fM A) - (1 : Int32) = nI (fM A - 1) from pk_sub (b := 1) (by omega), c_power _ (by omega), bds, lts, iL_mul, iL_mul, iL_add, j]
  · rw [if_pos (show nI (nS A) < (1 : Int32) from nI_lt (b := 1) (by omega) (by omega)), if_neg c, Int.add_zero, j]
end
