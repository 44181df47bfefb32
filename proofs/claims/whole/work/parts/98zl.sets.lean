section
variable {u : Nat} {g : Nat → Bool} {h : Nat → Nat → Bool}
theorem e0_t {m : Nat} (ha : ∀ i, i < m → u.testBit i = true) : mi0 u m = true := by
  induction m with
  | zero => rfl
  | succ m ih => rw [e0_s, ih (fun i hi => ha i (by omega)), ha m (by omega)]; rfl
theorem e0_f {m k : Nat} (hk : k < m) (hb : u.testBit k = false) : mi0 u m = false := by
  induction m with
  | zero => omega
  | succ m ih =>
    rw [e0_s]
    by_cases c : k = m
    · subst c; rw [hb, Bool.and_false]
    · rw [ih (by omega), Bool.false_and]
theorem e1_0 {m : Nat} (ha : ∀ i, i < m → u.testBit i = true) : mi1 g u m = false := by
  induction m with
  | zero => rfl
  | succ m ih => rw [e1_s, ha m (by omega), if_pos rfl]; exact ih (fun i hi => ha i (by omega))
theorem e1_1 {m k : Nat} (hk : k < m) (hb : u.testBit k = false) (ha : ∀ i, i < m → i ≠ k → u.testBit i = true) : mi1 g u m = g k := by
  induction m with
  | zero => omega
  | succ m ih =>
    rw [e1_s]
    by_cases c : k = m
    · subst c; rw [hb, if_neg (by decide), e0_t (fun i hi => ha i (by omega) (by omega)), Bool.true_and]
    · rw [ha m (by omega) (by omega), if_pos rfl]; exact ih (by omega) (fun i hi hne => ha i (by omega) hne)
theorem e1_2 {m k l : Nat} (hl : l < k) (hk : k < m) (hb : u.testBit k = false) (hc : u.testBit l = false) : mi1 g u m = false := by
  induction m with
  | zero => omega
  | succ m ih =>
    rw [e1_s]
    cases c : u.testBit m with
    | true =>
      rw [if_pos rfl]
      exact ih (by
        have : k ≠ m := fun e => by rw [e, c] at hb; cases hb
        omega)
    | false => rw [if_neg (by decide), e0_f (k := l) (by omega) hc, Bool.false_and]
theorem e2_0 {m : Nat} (ha : ∀ i, i < m → u.testBit i = true) : mi2 h u m = false := by
  induction m with
  | zero => rfl
  | succ m ih => rw [e2_s, ha m (by omega), if_pos rfl]; exact ih (fun i hi => ha i (by omega))
theorem e2_1 {m k : Nat} (hk : k < m) (hb : u.testBit k = false) (ha : ∀ i, i < m → i ≠ k → u.testBit i = true) : mi2 h u m = false := by
  induction m with
  | zero => omega
  | succ m ih =>
    rw [e2_s]
    by_cases c : k = m
    · subst c; rw [hb, if_neg (by decide)]; exact e1_0 (fun i hi => ha i (by omega) (by omega))
    · rw [ha m (by omega) (by omega), if_pos rfl]; exact ih (by omega) (fun i hi hne => ha i (by omega) hne)
theorem e2_2 {m k l : Nat} (hl : l < k) (hk : k < m) (hb : u.testBit k = false) (hc : u.testBit l = false) (ha : ∀ i, i < m → i ≠ k → i ≠ l → u.testBit i = true) : mi2 h u m = h k l := by
  induction m with
  | zero => omega
  | succ m ih =>
    rw [e2_s]
    by_cases c : k = m
    · subst c; rw [hb, if_neg (by decide)]; exact e1_1 hl hc (fun i hi hne => ha i (by omega) (by omega) hne)
    · rw [ha m (by omega) (by omega) (by omega), if_pos rfl]; exact ih (by omega) (fun i hi h1 h2 => ha i (by omega) h1 h2)
theorem e2_3 {m a b c : Nat} (h1 : a < b) (h2 : b < c) (h3 : c < m) (ha : u.testBit a = false) (hb : u.testBit b = false) (hc : u.testBit c = false) : mi2 h u m = false := by
  induction m with
  | zero => omega
  | succ m ih =>
    rw [e2_s]
    cases e : u.testBit m with
    | true =>
      rw [if_pos rfl]
      exact ih (by
        have : c ≠ m := fun x => by rw [x, e] at hc; cases hc
        omega)
    | false => rw [if_neg (by decide)]; exact e1_2 h1 (by
        by_cases x : c = m
        · omega
        · omega) hb ha
/-- none, one, two are wanting, or three at least -/
theorem wants (u m : Nat) : (∀ i, i < m → u.testBit i = true) ∨ (∃ k, k < m ∧ u.testBit k = false ∧ ∀ i, i < m → i ≠ k → u.testBit i = true) ∨ (∃ k l, l < k ∧ k < m ∧ u.testBit k = false ∧ u.testBit l = false ∧ ∀ i, i < m → i ≠ k → i ≠ l → u.testBit i = true) ∨ ∃ a b c, a < b ∧ b < c ∧ c < m ∧ u.testBit a = false ∧ u.testBit b = false ∧ u.testBit c = false := by
  induction m with
  | zero => exact Or.inl fun i hi => absurd hi (Nat.not_lt_zero _)
  | succ m ih =>
    have up : ∀ {P : Nat → Prop}, (∀ i, i < m → P i) → P m → ∀ i, i < m + 1 → P i := fun {P} h1 h2 i hi => by
      by_cases c : i = m
      · rw [c]; exact h2
      · exact h1 i (by omega)
    cases e : u.testBit m with
    | true =>
      rcases ih with h | ⟨k, h1, h2, h3⟩ | ⟨k, l, h1, h2, h3, h4, h5⟩ | ⟨a, b, c, h1, h2, h3, h4⟩
      · exact Or.inl (up h e)
      · exact Or.inr (Or.inl ⟨k, by omega, h2, up h3 (fun _ => e)⟩)
      · exact Or.inr (Or.inr (Or.inl ⟨k, l, h1, by omega, h3, h4, up h5 (fun _ _ => e)⟩))
      · exact Or.inr (Or.inr (Or.inr ⟨a, b, c, h1, h2, by omega, h4⟩))
    | false =>
      rcases ih with h | ⟨k, h1, h2, h3⟩ | ⟨k, l, h1, h2, h3, h4, h5⟩ | ⟨a, b, c, h1, h2, h3, h4⟩
      · exact Or.inr (Or.inl ⟨m, by omega, e, fun i hi hne => h i (by omega)⟩)
      · exact Or.inr (Or.inr (Or.inl ⟨m, k, h1, by omega, e, h2, fun i hi n1 n2 => h3 i (by omega) n2⟩))
      · exact Or.inr (Or.inr (Or.inr ⟨l, k, m, h1, h2, by omega, h4, h3, e⟩))
      · exact Or.inr (Or.inr (Or.inr ⟨a, b, c, h1, h2, by omega, h4⟩))
end
