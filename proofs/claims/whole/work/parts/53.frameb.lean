theorem mul5 {a b : Int} (h1 : -5 ≤ a) (h2 : a ≤ 5) (h3 : -5 ≤ b) (h4 : b ≤ 5) : -25 ≤ a * b ∧ a * b ≤ 25 := by
  have p1 := Int.mul_nonneg (show 0 ≤ 5 - a by omega) (show 0 ≤ 5 - b by omega)
  have p2 := Int.mul_nonneg (show 0 ≤ 5 + a by omega) (show 0 ≤ 5 + b by omega)
  have p3 := Int.mul_nonneg (show 0 ≤ 5 - a by omega) (show 0 ≤ 5 + b by omega)
  have p4 := Int.mul_nonneg (show 0 ≤ 5 + a by omega) (show 0 ≤ 5 - b by omega)
  simp only [Int.sub_mul, Int.mul_sub, Int.add_mul, Int.mul_add] at p1 p2 p3 p4
  omega
theorem mul50 {a b : Int} (h1 : -50 ≤ a) (h2 : a ≤ 50) (h3 : -50 ≤ b) (h4 : b ≤ 50) : -2500 ≤ a * b ∧ a * b ≤ 2500 := by
  have p1 := Int.mul_nonneg (show 0 ≤ 50 - a by omega) (show 0 ≤ 50 - b by omega)
  have p2 := Int.mul_nonneg (show 0 ≤ 50 + a by omega) (show 0 ≤ 50 + b by omega)
  have p3 := Int.mul_nonneg (show 0 ≤ 50 - a by omega) (show 0 ≤ 50 + b by omega)
  have p4 := Int.mul_nonneg (show 0 ≤ 50 + a by omega) (show 0 ≤ 50 - b by omega)
  simp only [Int.sub_mul, Int.mul_sub, Int.add_mul, Int.mul_add] at p1 p2 p3 p4
  omega
theorem small32 {z : Int} (h1 : -100000 ≤ z) (h2 : z ≤ 100000) : in32 z := ⟨by omega, by omega⟩
theorem iI0 : (0 : Int32) = iI 0 := rfl
theorem iI_eq0 {a : Int} (h1 : -100000 ≤ a) (h2 : a ≤ 100000) : iI a = 0 ↔ a = 0 := iI_eq (b := 0) (small32 h1 h2) (small32 (by omega) (by omega))
theorem iI_ge0 {a : Int} (h1 : -100000 ≤ a) (h2 : a ≤ 100000) : 0 ≤ iI a ↔ 0 ≤ a := iI_le (a := 0) (small32 (by omega) (by omega)) (small32 h1 h2)
theorem iI_lt0 {a : Int} (h1 : -100000 ≤ a) (h2 : a ≤ 100000) : iI a < 0 ↔ a < 0 := iI_lt (b := 0) (small32 h1 h2) (small32 (by omega) (by omega))
/-- a number of the machine is a place, or it isn't -/
theorem ix_or (x : Int32) (n : Nat) (hn : n < 2147483648) : (∃ j : Nat, j < n ∧ x = nI j) ∨ (x < 0 ∨ nI n ≤ x) := by
  rcases pk_ix x hn with h | h | h
  · exact Or.inr (Or.inl h)
  · exact Or.inr (Or.inr h)
  · exact Or.inl h
section
variable {z : Sto} {q : Nat} {A : Fm}
theorem tn_le (hB : BF A) {a b c : Nat} (ha : a < fN A) (hb : b < fN A) (hc : c < fN A) : -50 ≤ tn A a b c ∧ tn A a b c ≤ 50 := by
  have a1 := hB.2.2.1 a ha
  have b1 := hB.2.2.1 b hb
  have c1 := hB.2.2.1 c hc
  have p1 := @mul5 (fX A b - fX A a) (fY A c - fY A a) (by omega) (by omega) (by omega) (by omega)
  have p2 := @mul5 (fY A b - fY A a) (fX A c - fX A a) (by omega) (by omega) (by omega) (by omega)
  unfold tn
  omega
theorem tnP_le (hB : BF A) {a b : Nat} {px py : Int} (ha : a < fN A) (hb : b < fN A) (hx : 0 ≤ px ∧ px ≤ 5) (hy : 0 ≤ py ∧ py ≤ 5) : -50 ≤ tnP A a b px py ∧ tnP A a b px py ≤ 50 := by
  have a1 := hB.2.2.1 a ha
  have b1 := hB.2.2.1 b hb
  have p1 := @mul5 (fX A b - fX A a) (py - fY A a) (by omega) (by omega) (by omega) (by omega)
  have p2 := @mul5 (fY A b - fY A a) (px - fX A a) (by omega) (by omega) (by omega) (by omega)
  unfold tnP
  omega
theorem dtP_le (hB : BF A) {a b : Nat} {px py : Int} (ha : a < fN A) (hb : b < fN A) (hx : 0 ≤ px ∧ px ≤ 5) (hy : 0 ≤ py ∧ py ≤ 5) : -50 ≤ dtP A a b px py ∧ dtP A a b px py ≤ 50 := by
  have a1 := hB.2.2.1 a ha
  have b1 := hB.2.2.1 b hb
  have p1 := @mul5 (fX A a - px) (fX A b - px) (by omega) (by omega) (by omega) (by omega)
  have p2 := @mul5 (fY A a - py) (fY A b - py) (by omega) (by omega) (by omega) (by omega)
  unfold dtP
  omega
theorem tnP_alt (A : Fm) (a b : Nat) (px py : Int) : tnP A a b px py = (fX A a - px) * (fY A b - py) - (fY A a - py) * (fX A b - px) := by
  unfold tnP
  grind
theorem c_isBetween (hB : BF A) (hR : RepC z q A) {a b : Nat} {px py : Int} (ha : a < fN A) (hb : b < fN A) (hx : 0 ≤ px ∧ px ≤ 5) (hy : 0 ≤ py ∧ py ≤ 5) : f_X1_isBetween q (nI a) (nI b) (iI px) (iI py) z = some (b2i (onP A a b px py)) := by
  have h6 := hB.1
  have l1 := tnP_le hB ha hb hx hy
  have l2 := dtP_le hB ha hb hx hy
  unfold f_X1_isBetween
  rw [rdI_nI (by omega) (by omega), rdI_nI (by omega) (by omega), rdI_nI (by omega) (by omega), rdI_nI (by omega) (by omega), hR.2.1 a ha, hR.2.1 b hb, hR.2.2.1 a ha, hR.2.2.1 b hb]
  simp only [bd_some, lt_eq, iI_sub, iI_mul, iI_add]
  rw [← tnP_alt]
  have e : (fX A a - px) * (fX A b - px) + (fY A a - py) * (fY A b - py) = dtP A a b px py := rfl
  rw [e]
  unfold onP
  by_cases c1 : tnP A a b px py = 0
  · rw [if_pos ((iI_eq0 (by omega) (by omega)).mpr c1)]
    by_cases c2 : 0 ≤ dtP A a b px py
    · rw [if_pos ((iI_ge0 (by omega) (by omega)).mpr c2)]
      simp [c1, c2, b2i]
    · rw [if_neg (fun h => c2 ((iI_ge0 (by omega) (by omega)).mp h))]
      have : dtP A a b px py < 0 := by omega
      simp [c1, this, b2i]
  · rw [if_neg (fun h => c1 ((iI_eq0 (by omega) (by omega)).mp h))]
    simp [c1, b2i]
theorem c_side (hB : BF A) (hR : RepC z q A) {a b c : Nat} (ha : a < fN A) (hb : b < fN A) (hc : c < fN A) : f_X1_side q (nI a) (nI b) (nI c) z = some (iI (tn A a b c)) := by
  have h6 := hB.1
  unfold f_X1_side
  rw [rdI_nI (by omega) (by omega), rdI_nI (by omega) (by omega), rdI_nI (by omega) (by omega), rdI_nI (by omega) (by omega), rdI_nI (by omega) (by omega), rdI_nI (by omega) (by omega), hR.2.1 a ha, hR.2.1 b hb, hR.2.1 c hc, hR.2.2.1 a ha, hR.2.2.1 b hb, hR.2.2.1 c hc]
  simp only [bd_some, iI_sub, iI_mul]
  rfl
theorem c_isClear (hB : BF A) (hR : RepC z q A) {a b : Nat} (ha : a < fN A) (hb : b < fN A) : f_X1_isClear q (nI a) (nI b) z = some (b2i (!blk A a b)) := by
  have h6 := hB.1
  have h9 := hB.2.1
  have s1 : f_X1_isClear q (nI a) (nI b) z = if ex (fun j => onP A a b (fX A j) (fY A j)) (fN A) then some 0 else wl3 (b_X1_isClear_41 q z) fu (nI a) (nI b) 0 := by
    refine wl3_any (fun _ => nI a) (fun _ => nI b) (fun k => nI k) _ _ _ _ ?_ ?_ ?_ (by omega)
    · intro k hk hp ag
      have := hB.2.2.1 k hk
      unfold b_X1_isClear_2
      rw [hR.1.1, if_neg (nI_ge hk (by omega)), rdI_nI (by omega) (by omega), rdI_nI (by omega) (by omega), hR.2.1 k hk, hR.2.2.1 k hk]
      simp only [bd_some]
      rw [c_isBetween hB hR ha hb (by omega) (by omega), hp, bd_some, b2i_t, if_neg (by decide)]
    · intro k hk hp ag
      have := hB.2.2.1 k hk
      unfold b_X1_isClear_2
      rw [hR.1.1, if_neg (nI_ge hk (by omega)), rdI_nI (by omega) (by omega), rdI_nI (by omega) (by omega), hR.2.1 k hk, hR.2.2.1 k hk]
      simp only [bd_some]
      rw [c_isBetween hB hR ha hb (by omega) (by omega), hp, bd_some, b2i_f, if_pos rfl, lt_eq, nI_1]
    · intro ag
      unfold b_X1_isClear_2
      rw [hR.1.1, if_pos (nI_le (Nat.le_refl _) (by omega))]
  have s2 : wl3 (b_X1_isClear_41 q z) fu (nI a) (nI b) 0 = if ex (fun k => crB A a b (fA A k) (fB A k)) (fM A) then some 0 else some 1 := by
    refine wl3_any (fun _ => nI a) (fun _ => nI b) (fun k => nI k) _ _ _ _ ?_ ?_ ?_ (by omega)
    · intro k hk hp ag
      have hk2 := hB.2.2.2 k hk
      have la : fA A k < fN A := by omega
      have t1 := tn_le hB ha hb la
      have t2 := tn_le hB ha hb hk2.2
      have t3 := tn_le hB la hk2.2 ha
      have t4 := tn_le hB la hk2.2 hb
      have m1 := mul50 t1.1 t1.2 t2.1 t2.2
      have m2 := mul50 t3.1 t3.2 t4.1 t4.2
      simp only [crB, Bool.and_eq_true, decide_eq_true_eq] at hp
      unfold b_X1_isClear_41
      rw [hR.1.2.1, if_neg (nI_ge hk (by omega)), rdI_nI (by omega) (by omega), rdI_nI (by omega) (by omega), hR.2.2.2.1 k hk, hR.2.2.2.2.1 k hk]
      simp only [bd_some]
      rw [c_side hB hR ha hb la, c_side hB hR ha hb hk2.2, c_side hB hR la hk2.2 ha, c_side hB hR la hk2.2 hb]
      simp only [bd_some, iI_mul]
      rw [if_neg (fun h => by have := (iI_ge0 (by omega) (by omega)).mp h; omega), if_neg (fun h => by have := (iI_ge0 (by omega) (by omega)).mp h; omega)]
    · intro k hk hp ag
      have hk2 := hB.2.2.2 k hk
      have la : fA A k < fN A := by omega
      have t1 := tn_le hB ha hb la
      have t2 := tn_le hB ha hb hk2.2
      have t3 := tn_le hB la hk2.2 ha
      have t4 := tn_le hB la hk2.2 hb
      have m1 := mul50 t1.1 t1.2 t2.1 t2.2
      have m2 := mul50 t3.1 t3.2 t4.1 t4.2
      unfold b_X1_isClear_41
      rw [hR.1.2.1, if_neg (nI_ge hk (by omega)), rdI_nI (by omega) (by omega), rdI_nI (by omega) (by omega), hR.2.2.2.1 k hk, hR.2.2.2.2.1 k hk]
      simp only [bd_some]
      rw [c_side hB hR ha hb la, c_side hB hR ha hb hk2.2, c_side hB hR la hk2.2 ha, c_side hB hR la hk2.2 hb]
      simp only [bd_some, iI_mul, lt_eq, nI_1]
      by_cases c1 : 0 ≤ tn A a b (fA A k) * tn A a b (fB A k)
      · rw [if_pos ((iI_ge0 (by omega) (by omega)).mpr c1)]
      · rw [if_neg (fun h => c1 ((iI_ge0 (by omega) (by omega)).mp h))]
        have c2 : 0 ≤ tn A (fA A k) (fB A k) a * tn A (fA A k) (fB A k) b := by
          rcases Int.lt_or_le (tn A (fA A k) (fB A k) a * tn A (fA A k) (fB A k) b) 0 with h | h
          · have : crB A a b (fA A k) (fB A k) = true := by simp only [crB, Bool.and_eq_true, decide_eq_true_eq]; exact ⟨by omega, h⟩
            rw [this] at hp
            cases hp
          · exact h
        rw [if_pos ((iI_ge0 (by omega) (by omega)).mpr c2)]
    · intro ag
      unfold b_X1_isClear_41
      rw [hR.1.2.1, if_pos (nI_le (Nat.le_refl _) (by omega))]
  rw [s1, s2]
  unfold blk
  cases ex (fun j => onP A a b (fX A j) (fY A j)) (fN A) <;> cases ex (fun k => crB A a b (fA A k) (fB A k)) (fM A) <;> rfl
end
