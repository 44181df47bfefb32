section
variable {s t y z : Sto} {A : Fm}
def frB (A : Fm) : Nat → Nat := cnt fun k => !ned A k
theorem c_freeBars (hB : BF A) (hS : StC y A) : f_X4_freeBars y = some (iL ((frB A (fM A) : Nat) : Int)) := by
  have h9 := hB.2.1
  have hm : y.1 95 1 = nI (fM A) := hS.1.2.1
  refine wl2_inv (Q := fun o => o = some (iL ((frB A (fM A) : Nat) : Int))) (fun k a b => a = iL ((frB A k : Nat) : Int) ∧ b = nI k) (fM A) ?_ ?_ (by omega) ⟨rfl, rfl⟩
  · rintro k hk _ _ ⟨rfl, rfl⟩
    have n1 := c_isNeeded hB hS hk
    refine Or.inl ⟨iL ((frB A (k + 1) : Nat) : Int), nI (k + 1), ⟨rfl, rfl⟩, fun ag => ?_⟩
    have fs : frB A (k + 1) = frB A k + (!ned A k).toNat := rfl
    rw [fs]
    unfold b_X4_freeBars_4 j_X4_freeBars_26
    rw [hm, if_neg (nI_ge hk (by omega)), n1, bds]
    cases ned A k with
    | true =>
      rw [show b2i true = (1 : Int32) from rfl, if10, show (0 : Int32) = b2i false from rfl, asb, bds, lts, lts, show nI k + (1 : Int32) = nI (k + 1) from nI_add k 1, show (b2i false).toInt64 = iL 0 from rfl, iL_add]
      rfl
    | false =>
      rw [show b2i false = (0 : Int32) from rfl, if00, show (1 : Int32) = b2i true from rfl, asb, bds, lts, lts, show nI k + b2i true = nI (k + 1) from nI_add k 1, show (b2i true).toInt64 = iL 1 from rfl, iL_add]
      rfl
  · rintro _ _ ⟨rfl, rfl⟩ ag
    unfold b_X4_freeBars_4
    rw [hm, if_pos (nI_le (Nat.le_refl _) (by omega))]
theorem c_power (b : Int) {e : Nat} (he : e ≤ 9) : f_X6_power (iL b) (nI e) z = some (iL (b ^ e)) := by
  refine wl4_inv (Q := fun o => o = some (iL (b ^ e))) (fun k a1 a2 a3 a4 => a1 = iL b ∧ a2 = nI e ∧ a3 = iL (b ^ k) ∧ a4 = nI k) e ?_ ?_ (by omega) ⟨rfl, rfl, by rw [Int.pow_zero]; rfl, rfl⟩
  · rintro k hk _ _ _ _ ⟨rfl, rfl, rfl, rfl⟩
    refine Or.inl ⟨iL b, nI e, iL (b ^ (k + 1)), nI (k + 1), ⟨rfl, rfl, rfl, rfl⟩, fun ag => ?_⟩
    rw [Int.pow_succ]
    unfold b_X6_power_5
    simp (disch := omega) only [bds, bds2, lts, lit, nI_add, pk_mul, nI_leI, nI_ltI, nI_eq, rdI_nI, rdL_nI, wrI_nI, wrL_nI, rdR_nI, if_pos, if_neg, and_true, true_and, and_false, false_and, reduceIte, iL_mul]
  · rintro _ _ _ _ ⟨rfl, rfl, rfl, rfl⟩ ag
    unfold b_X6_power_5
    simp (disch := omega) only [bds, bds2, lts, lit, nI_add, pk_mul, nI_leI, nI_ltI, nI_eq, rdI_nI, rdL_nI, wrI_nI, wrL_nI, rdR_nI, if_pos, if_neg, and_true, true_and, and_false, false_and, reduceIte]
def dtQ (A : Fm) (k l : Nat) : Bool := decide (nU A 0 l * nU A 1 k ≠ nU A 0 k * nU A 1 l)
def frR (A : Fm) (k : Nat) : Nat → Nat := cnt fun l => dtQ A k l
def frP (A : Fm) : Nat → Nat
  | 0 => 0
  | k + 1 => frP A k + frR A k k
theorem c_freePairs (hB : BF A) (hS : StC y A) (h2 : 2 ≤ nS A) : f_X4_freePairs y = some (iL ((frP A (fM A) : Nat) : Int)) := by
  have h9 := hB.2.1
  have hm : y.1 95 1 = nI (fM A) := hS.1.2.1
  have key : ∀ u w : Int, -1000000000 ≤ u → u ≤ 1000000000 → -1000000000 ≤ w → w ≤ 1000000000 → -1000000000000000000 ≤ u * w ∧ u * w ≤ 1000000000000000000 := by
    intro u w u1 u2 s1 s2
    have p1 := Int.mul_nonneg (show 0 ≤ 1000000000 - u by omega) (show 0 ≤ 1000000000 - w by omega)
    have p2 := Int.mul_nonneg (show 0 ≤ 1000000000 + u by omega) (show 0 ≤ 1000000000 + w by omega)
    have p3 := Int.mul_nonneg (show 0 ≤ 1000000000 - u by omega) (show 0 ≤ 1000000000 + w by omega)
    have p4 := Int.mul_nonneg (show 0 ≤ 1000000000 + u by omega) (show 0 ≤ 1000000000 - w by omega)
    simp only [Int.sub_mul, Int.mul_sub, Int.add_mul, Int.mul_add] at p1 p2 p3 p4
    omega
  refine wl2_ind (Q := fun o => o = some (iL ((frP A (fM A) : Nat) : Int))) (fun k a b => a = iL ((frP A k : Nat) : Int) ∧ b = nI k) (fM A) ?_ ?_ (by omega) ⟨rfl, rfl⟩
  · rintro k hk _ _ ⟨rfl, rfl⟩ ag
    have inn : wl3 (b_X4_freePairs_15 y ag) fu (iL ((frP A k : Nat) : Int)) (nI k) (0 : Int32) = ag (iL ((frP A (k + 1) : Nat) : Int)) (nI (k + 1)) := by
      refine wl3_inv (Q := fun o => o = ag (iL ((frP A (k + 1) : Nat) : Int)) (nI (k + 1))) (fun l a b d => a = iL ((frP A k + frR A k l : Nat) : Int) ∧ b = nI k ∧ d = nI l) k ?_ ?_ (by omega) ⟨rfl, rfl, rfl⟩
      · rintro l hl _ _ _ ⟨rfl, rfl, rfl⟩
        have v1 := hS.2.1 0 (by omega) k hk
        have v2 := hS.2.1 0 (by omega) l (by omega)
        have v3 := hS.2.1 1 (by omega) k hk
        have v4 := hS.2.1 1 (by omega) l (by omega)
        rw [show 9 * 0 + k = k by omega] at v1
        rw [show 9 * 0 + l = l by omega] at v2
        rw [show 9 * 1 + k = 9 + k by omega] at v3
        rw [show 9 * 1 + l = 9 + l by omega] at v4
        have q1 := nU_le (k := k) hB (j := 0) (by omega)
        have q2 := nU_le (k := l) hB (j := 0) (by omega)
        have q3 := nU_le (k := k) hB (j := 1) (by omega)
        have q4 := nU_le (k := l) hB (j := 1) (by omega)
        have w1 := key _ _ q2.1 q2.2 q3.1 q3.2
        have w2 := key _ _ q1.1 q1.2 q4.1 q4.2
        have fs : frR A k (l + 1) = frR A k l + (dtQ A k l).toNat := rfl
        refine Or.inl ⟨iL ((frP A k + frR A k (l + 1) : Nat) : Int), nI k, nI (l + 1), ⟨rfl, rfl, rfl⟩, fun ag2 => ?_⟩
        rw [fs]
        unfold b_X4_freePairs_15 j_X4_freePairs_73
        by_cases e : nU A 0 l * nU A 1 k = nU A 0 k * nU A 1 l
        · rw [show dtQ A k l = false from decide_eq_false (fun x => x e)]
          simp (disch := omega) only [bds, bds2, lts, lit, nI_add, pk_mul, nI_leI, nI_ltI, nI_eq, rdI_nI, rdL_nI, wrI_nI, wrL_nI, rdR_nI, if_pos, if_neg, and_true, true_and, and_false, false_and, reduceIte, v1, v2, v3, v4, iL_mul, cmE]
          rw [show nI 0 = b2i false from rfl, asb, bds, show (b2i false).toInt64 = iL 0 from rfl, iL_add]
          rfl
        · rw [show dtQ A k l = true from decide_eq_true e]
          simp (disch := omega) only [bds, bds2, lts, lit, nI_add, pk_mul, nI_leI, nI_ltI, nI_eq, rdI_nI, rdL_nI, wrI_nI, wrL_nI, rdR_nI, if_pos, if_neg, and_true, true_and, and_false, false_and, reduceIte, v1, v2, v3, v4, iL_mul, cmE]
          rw [show nI 1 = b2i true from rfl, asb, bds, show (b2i true).toInt64 = iL 1 from rfl, iL_add]
          rfl
      · rintro _ _ _ ⟨rfl, rfl, rfl⟩ ag2
        unfold b_X4_freePairs_15
        simp (disch := omega) only [bds, bds2, lts, lit, nI_add, pk_mul, nI_leI, nI_ltI, nI_eq, rdI_nI, rdL_nI, wrI_nI, wrL_nI, rdR_nI, if_pos, if_neg, and_true, true_and, and_false, false_and, reduceIte]
        rfl
    refine Or.inl ⟨_, _, ⟨rfl, rfl⟩, ?_⟩
    rw [← inn]
    unfold b_X4_freePairs_4
    rw [hm, if_neg (nI_ge hk (by omega))]
  · rintro _ _ ⟨rfl, rfl⟩ ag
    unfold b_X4_freePairs_4
    rw [hm, if_pos (nI_le (Nat.le_refl _) (by omega))]
end
