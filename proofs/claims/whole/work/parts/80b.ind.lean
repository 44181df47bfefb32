theorem wl1_ind {A0 β : Type} {body : (A0 → Option β) → A0 → Option β} (Q : Option β → Prop) (P : Nat → A0 → Prop) (e : Nat) (hs : ∀ k, k < e → ∀ a0, P k a0 → ∀ ag, (∃ b0, P (k + 1) b0 ∧ body ag a0 = ag b0) ∨ Q (body ag a0)) (he : ∀ a0, P e a0 → ∀ ag, Q (body ag a0)) (hf : e < 4096) {a0} (h0 : P 0 a0) : Q (wl1 body fu a0) := by
  have key : ∀ (d k n : Nat) a0, k + d = e → d < n → P k a0 → Q (wl1 body n a0) := by
    intro d
    induction d with
    | zero =>
      intro k n a0 hk hn h
      obtain ⟨n, rfl⟩ : ∃ t, n = t + 1 := ⟨n - 1, by omega⟩
      obtain rfl : k = e := by omega
      exact he a0 h _
    | succ d ih =>
      intro k n a0 hk hn h
      obtain ⟨n, rfl⟩ : ∃ t, n = t + 1 := ⟨n - 1, by omega⟩
      rcases hs k (by omega) a0 h (wl1 body n) with ⟨b0, hP, hb⟩ | hq
      · show Q (body (wl1 body n) a0)
        rw [hb]
        exact ih (k + 1) n b0 (by omega) (by omega) hP
      · exact hq
  exact key e 0 fu a0 (by omega) hf h0
theorem wl2_ind {A0 A1 β : Type} {body : (A0 → A1 → Option β) → A0 → A1 → Option β} (Q : Option β → Prop) (P : Nat → A0 → A1 → Prop) (e : Nat) (hs : ∀ k, k < e → ∀ a0 a1, P k a0 a1 → ∀ ag, (∃ b0 b1, P (k + 1) b0 b1 ∧ body ag a0 a1 = ag b0 b1) ∨ Q (body ag a0 a1)) (he : ∀ a0 a1, P e a0 a1 → ∀ ag, Q (body ag a0 a1)) (hf : e < 4096) {a0 a1} (h0 : P 0 a0 a1) : Q (wl2 body fu a0 a1) := by
  have key : ∀ (d k n : Nat) a0 a1, k + d = e → d < n → P k a0 a1 → Q (wl2 body n a0 a1) := by
    intro d
    induction d with
    | zero =>
      intro k n a0 a1 hk hn h
      obtain ⟨n, rfl⟩ : ∃ t, n = t + 1 := ⟨n - 1, by omega⟩
      obtain rfl : k = e := by omega
      exact he a0 a1 h _
    | succ d ih =>
      intro k n a0 a1 hk hn h
      obtain ⟨n, rfl⟩ : ∃ t, n = t + 1 := ⟨n - 1, by omega⟩
      rcases hs k (by omega) a0 a1 h (wl2 body n) with ⟨b0, b1, hP, hb⟩ | hq
      · show Q (body (wl2 body n) a0 a1)
        rw [hb]
        exact ih (k + 1) n b0 b1 (by omega) (by omega) hP
      · exact hq
  exact key e 0 fu a0 a1 (by omega) hf h0
theorem wl3_ind {A0 A1 A2 β : Type} {body : (A0 → A1 → A2 → Option β) → A0 → A1 → A2 → Option β} (Q : Option β → Prop) (P : Nat → A0 → A1 → A2 → Prop) (e : Nat) (hs : ∀ k, k < e → ∀ a0 a1 a2, P k a0 a1 a2 → ∀ ag, (∃ b0 b1 b2, P (k + 1) b0 b1 b2 ∧ body ag a0 a1 a2 = ag b0 b1 b2) ∨ Q (body ag a0 a1 a2)) (he : ∀ a0 a1 a2, P e a0 a1 a2 → ∀ ag, Q (body ag a0 a1 a2)) (hf : e < 4096) {a0 a1 a2} (h0 : P 0 a0 a1 a2) : Q (wl3 body fu a0 a1 a2) := by
  have key : ∀ (d k n : Nat) a0 a1 a2, k + d = e → d < n → P k a0 a1 a2 → Q (wl3 body n a0 a1 a2) := by
    intro d
    induction d with
    | zero =>
      intro k n a0 a1 a2 hk hn h
      obtain ⟨n, rfl⟩ : ∃ t, n = t + 1 := ⟨n - 1, by omega⟩
      obtain rfl : k = e := by omega
      exact he a0 a1 a2 h _
    | succ d ih =>
      intro k n a0 a1 a2 hk hn h
      obtain ⟨n, rfl⟩ : ∃ t, n = t + 1 := ⟨n - 1, by omega⟩
      rcases hs k (by omega) a0 a1 a2 h (wl3 body n) with ⟨b0, b1, b2, hP, hb⟩ | hq
      · show Q (body (wl3 body n) a0 a1 a2)
        rw [hb]
        exact ih (k + 1) n b0 b1 b2 (by omega) (by omega) hP
      · exact hq
  exact key e 0 fu a0 a1 a2 (by omega) hf h0
theorem wl4_ind {A0 A1 A2 A3 β : Type} {body : (A0 → A1 → A2 → A3 → Option β) → A0 → A1 → A2 → A3 → Option β} (Q : Option β → Prop) (P : Nat → A0 → A1 → A2 → A3 → Prop) (e : Nat) (hs : ∀ k, k < e → ∀ a0 a1 a2 a3, P k a0 a1 a2 a3 → ∀ ag, (∃ b0 b1 b2 b3, P (k + 1) b0 b1 b2 b3 ∧ body ag a0 a1 a2 a3 = ag b0 b1 b2 b3) ∨ Q (body ag a0 a1 a2 a3)) (he : ∀ a0 a1 a2 a3, P e a0 a1 a2 a3 → ∀ ag, Q (body ag a0 a1 a2 a3)) (hf : e < 4096) {a0 a1 a2 a3} (h0 : P 0 a0 a1 a2 a3) : Q (wl4 body fu a0 a1 a2 a3) := by
  have key : ∀ (d k n : Nat) a0 a1 a2 a3, k + d = e → d < n → P k a0 a1 a2 a3 → Q (wl4 body n a0 a1 a2 a3) := by
    intro d
    induction d with
    | zero =>
      intro k n a0 a1 a2 a3 hk hn h
      obtain ⟨n, rfl⟩ : ∃ t, n = t + 1 := ⟨n - 1, by omega⟩
      obtain rfl : k = e := by omega
      exact he a0 a1 a2 a3 h _
    | succ d ih =>
      intro k n a0 a1 a2 a3 hk hn h
      obtain ⟨n, rfl⟩ : ∃ t, n = t + 1 := ⟨n - 1, by omega⟩
      rcases hs k (by omega) a0 a1 a2 a3 h (wl4 body n) with ⟨b0, b1, b2, b3, hP, hb⟩ | hq
      · show Q (body (wl4 body n) a0 a1 a2 a3)
        rw [hb]
        exact ih (k + 1) n b0 b1 b2 b3 (by omega) (by omega) hP
      · exact hq
  exact key e 0 fu a0 a1 a2 a3 (by omega) hf h0
theorem wl5_ind {A0 A1 A2 A3 A4 β : Type} {body : (A0 → A1 → A2 → A3 → A4 → Option β) → A0 → A1 → A2 → A3 → A4 → Option β} (Q : Option β → Prop) (P : Nat → A0 → A1 → A2 → A3 → A4 → Prop) (e : Nat) (hs : ∀ k, k < e → ∀ a0 a1 a2 a3 a4, P k a0 a1 a2 a3 a4 → ∀ ag, (∃ b0 b1 b2 b3 b4, P (k + 1) b0 b1 b2 b3 b4 ∧ body ag a0 a1 a2 a3 a4 = ag b0 b1 b2 b3 b4) ∨ Q (body ag a0 a1 a2 a3 a4)) (he : ∀ a0 a1 a2 a3 a4, P e a0 a1 a2 a3 a4 → ∀ ag, Q (body ag a0 a1 a2 a3 a4)) (hf : e < 4096) {a0 a1 a2 a3 a4} (h0 : P 0 a0 a1 a2 a3 a4) : Q (wl5 body fu a0 a1 a2 a3 a4) := by
  have key : ∀ (d k n : Nat) a0 a1 a2 a3 a4, k + d = e → d < n → P k a0 a1 a2 a3 a4 → Q (wl5 body n a0 a1 a2 a3 a4) := by
    intro d
    induction d with
    | zero =>
      intro k n a0 a1 a2 a3 a4 hk hn h
      obtain ⟨n, rfl⟩ : ∃ t, n = t + 1 := ⟨n - 1, by omega⟩
      obtain rfl : k = e := by omega
      exact he a0 a1 a2 a3 a4 h _
    | succ d ih =>
      intro k n a0 a1 a2 a3 a4 hk hn h
      obtain ⟨n, rfl⟩ : ∃ t, n = t + 1 := ⟨n - 1, by omega⟩
      rcases hs k (by omega) a0 a1 a2 a3 a4 h (wl5 body n) with ⟨b0, b1, b2, b3, b4, hP, hb⟩ | hq
      · show Q (body (wl5 body n) a0 a1 a2 a3 a4)
        rw [hb]
        exact ih (k + 1) n b0 b1 b2 b3 b4 (by omega) (by omega) hP
      · exact hq
  exact key e 0 fu a0 a1 a2 a3 a4 (by omega) hf h0
theorem wl6_ind {A0 A1 A2 A3 A4 A5 β : Type} {body : (A0 → A1 → A2 → A3 → A4 → A5 → Option β) → A0 → A1 → A2 → A3 → A4 → A5 → Option β} (Q : Option β → Prop) (P : Nat → A0 → A1 → A2 → A3 → A4 → A5 → Prop) (e : Nat) (hs : ∀ k, k < e → ∀ a0 a1 a2 a3 a4 a5, P k a0 a1 a2 a3 a4 a5 → ∀ ag, (∃ b0 b1 b2 b3 b4 b5, P (k + 1) b0 b1 b2 b3 b4 b5 ∧ body ag a0 a1 a2 a3 a4 a5 = ag b0 b1 b2 b3 b4 b5) ∨ Q (body ag a0 a1 a2 a3 a4 a5)) (he : ∀ a0 a1 a2 a3 a4 a5, P e a0 a1 a2 a3 a4 a5 → ∀ ag, Q (body ag a0 a1 a2 a3 a4 a5)) (hf : e < 4096) {a0 a1 a2 a3 a4 a5} (h0 : P 0 a0 a1 a2 a3 a4 a5) : Q (wl6 body fu a0 a1 a2 a3 a4 a5) := by
  have key : ∀ (d k n : Nat) a0 a1 a2 a3 a4 a5, k + d = e → d < n → P k a0 a1 a2 a3 a4 a5 → Q (wl6 body n a0 a1 a2 a3 a4 a5) := by
    intro d
    induction d with
    | zero =>
      intro k n a0 a1 a2 a3 a4 a5 hk hn h
      obtain ⟨n, rfl⟩ : ∃ t, n = t + 1 := ⟨n - 1, by omega⟩
      obtain rfl : k = e := by omega
      exact he a0 a1 a2 a3 a4 a5 h _
    | succ d ih =>
      intro k n a0 a1 a2 a3 a4 a5 hk hn h
      obtain ⟨n, rfl⟩ : ∃ t, n = t + 1 := ⟨n - 1, by omega⟩
      rcases hs k (by omega) a0 a1 a2 a3 a4 a5 h (wl6 body n) with ⟨b0, b1, b2, b3, b4, b5, hP, hb⟩ | hq
      · show Q (body (wl6 body n) a0 a1 a2 a3 a4 a5)
        rw [hb]
        exact ih (k + 1) n b0 b1 b2 b3 b4 b5 (by omega) (by omega) hP
      · exact hq
  exact key e 0 fu a0 a1 a2 a3 a4 a5 (by omega) hf h0
theorem wl7_ind {A0 A1 A2 A3 A4 A5 A6 β : Type} {body : (A0 → A1 → A2 → A3 → A4 → A5 → A6 → Option β) → A0 → A1 → A2 → A3 → A4 → A5 → A6 → Option β} (Q : Option β → Prop) (P : Nat → A0 → A1 → A2 → A3 → A4 → A5 → A6 → Prop) (e : Nat) (hs : ∀ k, k < e → ∀ a0 a1 a2 a3 a4 a5 a6, P k a0 a1 a2 a3 a4 a5 a6 → ∀ ag, (∃ b0 b1 b2 b3 b4 b5 b6, P (k + 1) b0 b1 b2 b3 b4 b5 b6 ∧ body ag a0 a1 a2 a3 a4 a5 a6 = ag b0 b1 b2 b3 b4 b5 b6) ∨ Q (body ag a0 a1 a2 a3 a4 a5 a6)) (he : ∀ a0 a1 a2 a3 a4 a5 a6, P e a0 a1 a2 a3 a4 a5 a6 → ∀ ag, Q (body ag a0 a1 a2 a3 a4 a5 a6)) (hf : e < 4096) {a0 a1 a2 a3 a4 a5 a6} (h0 : P 0 a0 a1 a2 a3 a4 a5 a6) : Q (wl7 body fu a0 a1 a2 a3 a4 a5 a6) := by
  have key : ∀ (d k n : Nat) a0 a1 a2 a3 a4 a5 a6, k + d = e → d < n → P k a0 a1 a2 a3 a4 a5 a6 → Q (wl7 body n a0 a1 a2 a3 a4 a5 a6) := by
    intro d
    induction d with
    | zero =>
      intro k n a0 a1 a2 a3 a4 a5 a6 hk hn h
      obtain ⟨n, rfl⟩ : ∃ t, n = t + 1 := ⟨n - 1, by omega⟩
      obtain rfl : k = e := by omega
      exact he a0 a1 a2 a3 a4 a5 a6 h _
    | succ d ih =>
      intro k n a0 a1 a2 a3 a4 a5 a6 hk hn h
      obtain ⟨n, rfl⟩ : ∃ t, n = t + 1 := ⟨n - 1, by omega⟩
      rcases hs k (by omega) a0 a1 a2 a3 a4 a5 a6 h (wl7 body n) with ⟨b0, b1, b2, b3, b4, b5, b6, hP, hb⟩ | hq
      · show Q (body (wl7 body n) a0 a1 a2 a3 a4 a5 a6)
        rw [hb]
        exact ih (k + 1) n b0 b1 b2 b3 b4 b5 b6 (by omega) (by omega) hP
      · exact hq
  exact key e 0 fu a0 a1 a2 a3 a4 a5 a6 (by omega) hf h0
theorem wl8_ind {A0 A1 A2 A3 A4 A5 A6 A7 β : Type} {body : (A0 → A1 → A2 → A3 → A4 → A5 → A6 → A7 → Option β) → A0 → A1 → A2 → A3 → A4 → A5 → A6 → A7 → Option β} (Q : Option β → Prop) (P : Nat → A0 → A1 → A2 → A3 → A4 → A5 → A6 → A7 → Prop) (e : Nat) (hs : ∀ k, k < e → ∀ a0 a1 a2 a3 a4 a5 a6 a7, P k a0 a1 a2 a3 a4 a5 a6 a7 → ∀ ag, (∃ b0 b1 b2 b3 b4 b5 b6 b7, P (k + 1) b0 b1 b2 b3 b4 b5 b6 b7 ∧ body ag a0 a1 a2 a3 a4 a5 a6 a7 = ag b0 b1 b2 b3 b4 b5 b6 b7) ∨ Q (body ag a0 a1 a2 a3 a4 a5 a6 a7)) (he : ∀ a0 a1 a2 a3 a4 a5 a6 a7, P e a0 a1 a2 a3 a4 a5 a6 a7 → ∀ ag, Q (body ag a0 a1 a2 a3 a4 a5 a6 a7)) (hf : e < 4096) {a0 a1 a2 a3 a4 a5 a6 a7} (h0 : P 0 a0 a1 a2 a3 a4 a5 a6 a7) : Q (wl8 body fu a0 a1 a2 a3 a4 a5 a6 a7) := by
  have key : ∀ (d k n : Nat) a0 a1 a2 a3 a4 a5 a6 a7, k + d = e → d < n → P k a0 a1 a2 a3 a4 a5 a6 a7 → Q (wl8 body n a0 a1 a2 a3 a4 a5 a6 a7) := by
    intro d
    induction d with
    | zero =>
      intro k n a0 a1 a2 a3 a4 a5 a6 a7 hk hn h
      obtain ⟨n, rfl⟩ : ∃ t, n = t + 1 := ⟨n - 1, by omega⟩
      obtain rfl : k = e := by omega
      exact he a0 a1 a2 a3 a4 a5 a6 a7 h _
    | succ d ih =>
      intro k n a0 a1 a2 a3 a4 a5 a6 a7 hk hn h
      obtain ⟨n, rfl⟩ : ∃ t, n = t + 1 := ⟨n - 1, by omega⟩
      rcases hs k (by omega) a0 a1 a2 a3 a4 a5 a6 a7 h (wl8 body n) with ⟨b0, b1, b2, b3, b4, b5, b6, b7, hP, hb⟩ | hq
      · show Q (body (wl8 body n) a0 a1 a2 a3 a4 a5 a6 a7)
        rw [hb]
        exact ih (k + 1) n b0 b1 b2 b3 b4 b5 b6 b7 (by omega) (by omega) hP
      · exact hq
  exact key e 0 fu a0 a1 a2 a3 a4 a5 a6 a7 (by omega) hf h0
