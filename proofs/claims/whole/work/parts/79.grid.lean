/-! whole numbers of the machine's longs -/
theorem lL0 : (0 : Int64) = iL 0 := by decide
theorem lL1 : (1 : Int64) = iL 1 := by decide
theorem smL {a : Int} (h1 : -9000000000000000000 ≤ a) (h2 : a ≤ 9000000000000000000) : in64 a := ⟨by omega, by omega⟩
theorem cmE {a b : Int} (h1 : -9000000000000000000 ≤ a) (h2 : a ≤ 9000000000000000000) (h3 : -9000000000000000000 ≤ b) (h4 : b ≤ 9000000000000000000) : (lg_cmp (iL a) (iL b) = nI 0) ↔ a = b := by
  have e : (lg_cmp (iL a) (iL b) = nI 0) ↔ iL a = iL b := lg_cmp_eq _ _
  rw [e, iL_eq (smL h1 h2) (smL h3 h4)]
theorem cmG {a b : Int} (h1 : -9000000000000000000 ≤ a) (h2 : a ≤ 9000000000000000000) (h3 : -9000000000000000000 ≤ b) (h4 : b ≤ 9000000000000000000) : (nI 0 ≤ lg_cmp (iL a) (iL b)) ↔ b ≤ a := by
  have e : (nI 0 ≤ lg_cmp (iL a) (iL b)) ↔ iL b ≤ iL a := lg_cmp_ge _ _
  rw [e, iL_le (smL h3 h4) (smL h1 h2)]
theorem cmL {a b : Int} (h1 : -9000000000000000000 ≤ a) (h2 : a ≤ 9000000000000000000) (h3 : -9000000000000000000 ≤ b) (h4 : b ≤ 9000000000000000000) : (lg_cmp (iL a) (iL b) ≤ nI 0) ↔ a ≤ b := by
  have e : (lg_cmp (iL a) (iL b) ≤ nI 0) ↔ iL a ≤ iL b := lg_cmp_le _ _
  rw [e, iL_le (smL h1 h2) (smL h3 h4)]
theorem cmLt {a b : Int} (h1 : -9000000000000000000 ≤ a) (h2 : a ≤ 9000000000000000000) (h3 : -9000000000000000000 ≤ b) (h4 : b ≤ 9000000000000000000) : (lg_cmp (iL a) (iL b) < nI 0) ↔ a < b := by
  have e : (lg_cmp (iL a) (iL b) < nI 0) ↔ iL a < iL b := lg_cmp_lt _ _
  rw [e, iL_lt (smL h1 h2) (smL h3 h4)]
theorem dvLe {a b : Int} (h1 : -9000000000000000000 ≤ a) (h2 : a ≤ 9000000000000000000) (h3 : -9000000000000000000 ≤ b) (h4 : b ≤ 9000000000000000000) (h0 : b ≠ 0) : dvL (iL a) (iL b) = some (iL (a.tdiv b)) := by
  unfold dvL
  rw [if_neg (show ¬ iL b = (0 : Int64) from fun h => h0 ((iL_eq (b := 0) (smL h3 h4) (smL (by omega) (by omega))).mp h))]
  have ha : (a.tdiv b).natAbs ≤ a.natAbs := by rw [Int.natAbs_tdiv]; exact Nat.div_le_self _ _
  rw [iL_div (smL h1 h2) (smL h3 h4) (smL (by omega) (by omega))]
/-! the grid's first numbers -/
def mA (A : Fm) (q : Nat → Bool) (r k : Nat) : Int := if k < fM A ∧ q k = true then (fX A (fB A k) - fX A (fA A k)) * tv (2 * fA A k) (2 * fB A k) r + (fY A (fB A k) - fY A (fA A k)) * tv (2 * fA A k + 1) (2 * fB A k + 1) r else 0
def all1 : Nat → Bool := fun _ => true
def b0 (A : Fm) (q : Nat → Bool) : BS := (mA A q, 1, 0, fun _ => 0)
def bS (A : Fm) (q : Nat → Bool) : BS := brun (fM A) (b0 A q)
def RG (f : Nat → Int64) (G : Nat → Nat → Int) : Prop := ∀ i, i < 12 → ∀ j, j < 9 → f (9 * i + j) = iL (G i j)
section
variable {A : Fm} {q : Nat → Bool}
theorem mA_col (hB : BF A) (k : Nat) : Col (cA (mA A q) k) := by
  by_cases h : k < fM A ∧ q k = true
  · have hk := hB.2.2.2 k h.1
    have x1 := hB.2.2.1 (fA A k) (by omega)
    have x2 := hB.2.2.1 (fB A k) hk.2
    exact ⟨_, _, _, _, _, _, by omega, fun r => if_pos h⟩
  · refine ⟨0, 0, 0, 0, 0, 0, by omega, fun r => ?_⟩
    have : cA (mA A q) k r = 0 := if_neg h
    rw [this]; omega
theorem bI0 (hB : BF A) : BI (mA A q) (fM A) (fM A) (b0 A q) := BI_0 hB.2.1 _
theorem bI (hB : BF A) : BI (mA A q) (fM A) 0 (bS A q) := BI_run hB.2.1 _ _ (bI0 hB)
theorem tv_0 {a b r : Nat} (h1 : r ≠ a) (h2 : r ≠ b) : tv a b r = 0 := by unfold tv; rw [if_neg h1, if_neg h2]; rfl
/-- rows and columns that stay 0 -/
def Zr (n m : Nat) (G : Nat → Nat → Int) : Prop := (∀ i j, 2 * n ≤ i → G i j = 0) ∧ ∀ i j, m ≤ j → G i j = 0
theorem Zr_0 (hB : BF A) : Zr (fN A) (fM A) (mA A q) := by
  refine ⟨fun i j hi => ?_, fun i j hj => if_neg (by omega)⟩
  unfold mA
  by_cases h : j < fM A ∧ q j = true
  · have hk := hB.2.2.2 j h.1
    rw [if_pos h, tv_0 (by omega) (by omega), tv_0 (by omega) (by omega)]; omega
  · exact if_neg h
theorem Zr_st {n m k : Nat} {s : BS} (hz : Zr n m s.1) (hk : k < m) : Zr n m (bst s k).1 := by
  unfold bst
  by_cases h : rwA s k < 12
  · rw [if_pos h]
    have hp : s.2.2.1 ≤ 12 := by
      have := (sr_spec s.1 k (12 - s.2.2.1) s.2.2.1).1
      have h' : sr s.1 k (12 - s.2.2.1) s.2.2.1 < 12 := h
      omega
    have hne : s.1 (rwA s k) k ≠ 0 := (sr_spec s.1 k (12 - s.2.2.1) s.2.2.1).2.2.2 (by show rwA s k < _; omega)
    have hr : rwA s k < 2 * n := Classical.byContradiction fun c => hne (hz.1 _ _ (by omega))
    have hpr : s.2.2.1 ≤ rwA s k := (sr_spec s.1 k (12 - s.2.2.1) s.2.2.1).1
    refine ⟨fun i j hi => ?_, fun i j hj => ?_⟩
    · show elm (swp s.1 (rwA s k) s.2.2.1) s.2.1 s.2.2.1 k i j = 0
      have e : swp s.1 (rwA s k) s.2.2.1 i = s.1 i := by unfold swp; rw [if_neg (by omega), if_neg (by omega)]
      unfold elm
      rw [if_neg (by omega), e, hz.1 i j hi, hz.1 i k hi]; simp
    · show elm (swp s.1 (rwA s k) s.2.2.1) s.2.1 s.2.2.1 k i j = 0
      have e : ∀ t, swp s.1 (rwA s k) s.2.2.1 t j = 0 := fun t => by unfold swp; split; exact hz.2 _ _ hj; split; exact hz.2 _ _ hj; exact hz.2 _ _ hj
      unfold elm
      rw [e i, e s.2.2.1]
      split
      · rfl
      · simp
  · rw [if_neg h]; exact hz
theorem sr_eq {G : Nat → Nat → Int} {k p t : Nat} (h1 : p ≤ t) (h2 : t < 12) (h3 : ∀ i, p ≤ i → i < t → G i k = 0) (h4 : G t k ≠ 0) : sr G k (12 - p) p = t := by
  obtain ⟨a, b, c, d⟩ := sr_spec G k (12 - p) p
  rcases Nat.lt_trichotomy (sr G k (12 - p) p) t with h | h | h
  · exact absurd (h3 _ a h) (d (by omega))
  · exact h
  · exact absurd (c t h1 h) h4
theorem sr_no {G : Nat → Nat → Int} {k p : Nat} (h1 : p ≤ 12) (h3 : ∀ i, p ≤ i → i < 12 → G i k = 0) : sr G k (12 - p) p = 12 := by
  obtain ⟨a, b, c, d⟩ := sr_spec G k (12 - p) p
  by_cases h : sr G k (12 - p) p < 12
  · exact absurd (h3 _ a h) (d (by omega))
  · omega
/-- numbers of the grid while it is worked on -/
def sml (G : Nat → Nat → Int) : Prop := ∀ i, i < 12 → ∀ j, j < 9 → -1000000000 ≤ G i j ∧ G i j ≤ 1000000000
theorem BI_sml {k m : Nat} {s : BS} (hB : BF A) (hm : m ≤ 9) (h : BI (mA A q) m (k + 1) s) : sml s.1 ∧ -1000000000 ≤ s.2.1 ∧ s.2.1 ≤ 1000000000 := by
  have hp : s.2.2.1 + (k + 1) ≤ m := by obtain ⟨R, pi, ⟨_, h1⟩, _⟩ := h; exact h1
  have hle : 10 ^ (s.2.2.1 + 1) ≤ 10 ^ 9 := Nat.pow_le_pow_right (by omega) (by omega)
  constructor
  · intro i hi j hj
    have := BI_le (fun j _ => mA_col hB j) hm h hi hj
    omega
  · have := BI_d (fun j _ => mA_col hB j) hm h
    have hle : 10 ^ s.2.2.1 ≤ 10 ^ 9 := Nat.pow_le_pow_right (by omega) (by omega)
    omega
theorem mul9 {a b : Int} (h1 : -1000000000 ≤ a) (h2 : a ≤ 1000000000) (h3 : -1000000000 ≤ b) (h4 : b ≤ 1000000000) : -1000000000000000000 ≤ a * b ∧ a * b ≤ 1000000000000000000 := by
  have p1 := Int.mul_nonneg (show 0 ≤ 1000000000 - a by omega) (show 0 ≤ 1000000000 - b by omega)
  have p2 := Int.mul_nonneg (show 0 ≤ 1000000000 + a by omega) (show 0 ≤ 1000000000 + b by omega)
  have p3 := Int.mul_nonneg (show 0 ≤ 1000000000 - a by omega) (show 0 ≤ 1000000000 + b by omega)
  have p4 := Int.mul_nonneg (show 0 ≤ 1000000000 + a by omega) (show 0 ≤ 1000000000 - b by omega)
  simp only [Int.sub_mul, Int.mul_sub, Int.add_mul, Int.mul_add] at p1 p2 p3 p4
  omega
/-- one number more of the grid -/
theorem dv_el {G : Nat → Nat → Int} {d : Int} {p k i j : Nat} (hs : sml G) (hd : -1000000000 ≤ d ∧ d ≤ 1000000000) (h0 : d ≠ 0) (hp : p < 12) (hk : k < 9) (hi : i < 12) (hj : j < 9) (hip : i ≠ p) : dvL (iL (G p k) * iL (G i j) - iL (G i k) * iL (G p j)) (iL d) = some (iL (elm G d p k i j)) := by
  have a1 := hs p hp k hk
  have a2 := hs i hi j hj
  have a3 := hs i hi k hk
  have a4 := hs p hp j hj
  have m1 := mul9 a1.1 a1.2 a2.1 a2.2
  have m2 := mul9 a3.1 a3.2 a4.1 a4.2
  rw [iL_mul, iL_mul, iL_sub, dvLe (by omega) (by omega) (by omega) (by omega) h0]
  unfold elm
  rw [if_neg hip]
theorem swp_sml {G : Nat → Nat → Int} {r p : Nat} (hs : sml G) (hr : r < 12) (hp : p < 12) : sml (swp G r p) := by
  intro i hi j hj
  unfold swp
  split
  · exact hs r hr j hj
  · split
    · exact hs p hp j hj
    · exact hs i hi j hj
end
