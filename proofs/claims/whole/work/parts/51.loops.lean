/-! bounded search and count -/
def ex (p : Nat → Bool) : Nat → Bool
  | 0 => false
  | k + 1 => ex p k || p k
def cnt (p : Nat → Bool) : Nat → Nat
  | 0 => 0
  | k + 1 => cnt p k + (p k).toNat
theorem ex_iff {p : Nat → Bool} {n : Nat} : ex p n = true ↔ ∃ k, k < n ∧ p k = true := by
  induction n with
  | zero => exact ⟨fun h => (by cases h), fun ⟨k, h, _⟩ => absurd h (Nat.not_lt_zero _)⟩
  | succ n ih =>
    simp only [ex, Bool.or_eq_true, ih]
    constructor
    · rintro (⟨k, h1, h2⟩ | h)
      · exact ⟨k, by omega, h2⟩
      · exact ⟨n, by omega, h⟩
    · rintro ⟨k, h1, h2⟩
      by_cases e : k = n
      · subst e; exact Or.inr h2
      · exact Or.inl ⟨k, by omega, h2⟩
theorem ex_ff {p : Nat → Bool} {n : Nat} : ex p n = false ↔ ∀ k, k < n → p k = false := by
  constructor
  · intro h k hk
    cases e : p k with
    | false => rfl
    | true => rw [ex_iff.mpr ⟨k, hk, e⟩] at h; cases h
  · intro h
    cases e : ex p n with
    | false => rfl
    | true =>
      obtain ⟨k, h1, h2⟩ := ex_iff.mp e
      rw [h k h1] at h2
      cases h2
theorem ex_congr {p q : Nat → Bool} {n : Nat} (h : ∀ k, k < n → p k = q k) : ex p n = ex q n := by
  induction n with
  | zero => rfl
  | succ n ih => simp only [ex]; rw [ih (fun k hk => h k (by omega)), h n (by omega)]
theorem cnt_congr {p q : Nat → Bool} {n : Nat} (h : ∀ k, k < n → p k = q k) : cnt p n = cnt q n := by
  induction n with
  | zero => rfl
  | succ n ih => simp only [cnt]; rw [ih (fun k hk => h k (by omega)), h n (by omega)]
theorem cnt_t {p : Nat → Bool} {n : Nat} (h : p n = true) : cnt p (n + 1) = cnt p n + 1 := by simp only [cnt, h]; rfl
theorem cnt_f {p : Nat → Bool} {n : Nat} (h : p n = false) : cnt p (n + 1) = cnt p n := by simp only [cnt, h]; rfl
theorem cnt_le {p : Nat → Bool} {n : Nat} : cnt p n ≤ n := by
  induction n with
  | zero => exact Nat.le_refl _
  | succ n ih => cases h : p n with
    | true => rw [cnt_t h]; omega
    | false => rw [cnt_f h]; omega
theorem wl1_run {A0 β : Type} {body : (A0 → Option β) → A0 → Option β} (s0 : Nat → A0) (e : Nat) (R : Option β) (hs : ∀ k, k < e → ∀ ag, body ag (s0 k) = ag (s0 (k + 1))) (he : ∀ ag, body ag (s0 e) = R) : ∀ (d k n : Nat), k + d = e → d < n → wl1 body n (s0 k) = R := by
  intro d
  induction d with
  | zero =>
    intro k n hk hn
    obtain ⟨n, rfl⟩ : ∃ t, n = t + 1 := ⟨n - 1, by omega⟩
    obtain rfl : k = e := by omega
    exact he _
  | succ d ih =>
    intro k n hk hn
    obtain ⟨n, rfl⟩ : ∃ t, n = t + 1 := ⟨n - 1, by omega⟩
    exact (hs k (by omega) _).trans (ih (k + 1) n (by omega) (by omega))
theorem wl1_go {A0 β : Type} {body : (A0 → Option β) → A0 → Option β} (s0 : Nat → A0) (e : Nat) (R : Option β) (hs : ∀ k, k < e → ∀ ag, body ag (s0 k) = ag (s0 (k + 1))) (he : ∀ ag, body ag (s0 e) = R) (hf : e < 4096) : wl1 body fu (s0 0) = R := wl1_run s0 e R hs he e 0 fu (by omega) hf
theorem wl1_any {A0 β : Type} {body : (A0 → Option β) → A0 → Option β} (s0 : Nat → A0) (p : Nat → Bool) (e : Nat) (R R' : Option β) (ht : ∀ k, k < e → p k = true → ∀ ag, body ag (s0 k) = R) (hs : ∀ k, k < e → p k = false → ∀ ag, body ag (s0 k) = ag (s0 (k + 1))) (he : ∀ ag, body ag (s0 e) = R') (hf : e < 4096) : wl1 body fu (s0 0) = if ex p e then R else R' := by
  have key : ∀ (d k n : Nat), k + d = e → d < n → ex p k = false → wl1 body n (s0 k) = if ex p e then R else R' := by
    intro d
    induction d with
    | zero =>
      intro k n hk hn hp
      obtain ⟨n, rfl⟩ : ∃ t, n = t + 1 := ⟨n - 1, by omega⟩
      obtain rfl : k = e := by omega
      rw [hp]
      exact he _
    | succ d ih =>
      intro k n hk hn hp
      obtain ⟨n, rfl⟩ : ∃ t, n = t + 1 := ⟨n - 1, by omega⟩
      cases hc : p k with
      | true =>
        rw [ex_iff.mpr ⟨k, by omega, hc⟩]
        exact ht k (by omega) hc _
      | false => exact (hs k (by omega) hc _).trans (ih (k + 1) n (by omega) (by omega) (by simp [ex, hp, hc]))
  exact key e 0 fu (by omega) hf rfl
theorem wl2_run {A0 A1 β : Type} {body : (A0 → A1 → Option β) → A0 → A1 → Option β} (s0 : Nat → A0) (s1 : Nat → A1) (e : Nat) (R : Option β) (hs : ∀ k, k < e → ∀ ag, body ag (s0 k) (s1 k) = ag (s0 (k + 1)) (s1 (k + 1))) (he : ∀ ag, body ag (s0 e) (s1 e) = R) : ∀ (d k n : Nat), k + d = e → d < n → wl2 body n (s0 k) (s1 k) = R := by
  intro d
  induction d with
  | zero =>
    intro k n hk hn
    obtain ⟨n, rfl⟩ : ∃ t, n = t + 1 := ⟨n - 1, by omega⟩
    obtain rfl : k = e := by omega
    exact he _
  | succ d ih =>
    intro k n hk hn
    obtain ⟨n, rfl⟩ : ∃ t, n = t + 1 := ⟨n - 1, by omega⟩
    exact (hs k (by omega) _).trans (ih (k + 1) n (by omega) (by omega))
theorem wl2_go {A0 A1 β : Type} {body : (A0 → A1 → Option β) → A0 → A1 → Option β} (s0 : Nat → A0) (s1 : Nat → A1) (e : Nat) (R : Option β) (hs : ∀ k, k < e → ∀ ag, body ag (s0 k) (s1 k) = ag (s0 (k + 1)) (s1 (k + 1))) (he : ∀ ag, body ag (s0 e) (s1 e) = R) (hf : e < 4096) : wl2 body fu (s0 0) (s1 0) = R := wl2_run s0 s1 e R hs he e 0 fu (by omega) hf
theorem wl2_any {A0 A1 β : Type} {body : (A0 → A1 → Option β) → A0 → A1 → Option β} (s0 : Nat → A0) (s1 : Nat → A1) (p : Nat → Bool) (e : Nat) (R R' : Option β) (ht : ∀ k, k < e → p k = true → ∀ ag, body ag (s0 k) (s1 k) = R) (hs : ∀ k, k < e → p k = false → ∀ ag, body ag (s0 k) (s1 k) = ag (s0 (k + 1)) (s1 (k + 1))) (he : ∀ ag, body ag (s0 e) (s1 e) = R') (hf : e < 4096) : wl2 body fu (s0 0) (s1 0) = if ex p e then R else R' := by
  have key : ∀ (d k n : Nat), k + d = e → d < n → ex p k = false → wl2 body n (s0 k) (s1 k) = if ex p e then R else R' := by
    intro d
    induction d with
    | zero =>
      intro k n hk hn hp
      obtain ⟨n, rfl⟩ : ∃ t, n = t + 1 := ⟨n - 1, by omega⟩
      obtain rfl : k = e := by omega
      rw [hp]
      exact he _
    | succ d ih =>
      intro k n hk hn hp
      obtain ⟨n, rfl⟩ : ∃ t, n = t + 1 := ⟨n - 1, by omega⟩
      cases hc : p k with
      | true =>
        rw [ex_iff.mpr ⟨k, by omega, hc⟩]
        exact ht k (by omega) hc _
      | false => exact (hs k (by omega) hc _).trans (ih (k + 1) n (by omega) (by omega) (by simp [ex, hp, hc]))
  exact key e 0 fu (by omega) hf rfl
theorem wl3_run {A0 A1 A2 β : Type} {body : (A0 → A1 → A2 → Option β) → A0 → A1 → A2 → Option β} (s0 : Nat → A0) (s1 : Nat → A1) (s2 : Nat → A2) (e : Nat) (R : Option β) (hs : ∀ k, k < e → ∀ ag, body ag (s0 k) (s1 k) (s2 k) = ag (s0 (k + 1)) (s1 (k + 1)) (s2 (k + 1))) (he : ∀ ag, body ag (s0 e) (s1 e) (s2 e) = R) : ∀ (d k n : Nat), k + d = e → d < n → wl3 body n (s0 k) (s1 k) (s2 k) = R := by
  intro d
  induction d with
  | zero =>
    intro k n hk hn
    obtain ⟨n, rfl⟩ : ∃ t, n = t + 1 := ⟨n - 1, by omega⟩
    obtain rfl : k = e := by omega
    exact he _
  | succ d ih =>
    intro k n hk hn
    obtain ⟨n, rfl⟩ : ∃ t, n = t + 1 := ⟨n - 1, by omega⟩
    exact (hs k (by omega) _).trans (ih (k + 1) n (by omega) (by omega))
theorem wl3_go {A0 A1 A2 β : Type} {body : (A0 → A1 → A2 → Option β) → A0 → A1 → A2 → Option β} (s0 : Nat → A0) (s1 : Nat → A1) (s2 : Nat → A2) (e : Nat) (R : Option β) (hs : ∀ k, k < e → ∀ ag, body ag (s0 k) (s1 k) (s2 k) = ag (s0 (k + 1)) (s1 (k + 1)) (s2 (k + 1))) (he : ∀ ag, body ag (s0 e) (s1 e) (s2 e) = R) (hf : e < 4096) : wl3 body fu (s0 0) (s1 0) (s2 0) = R := wl3_run s0 s1 s2 e R hs he e 0 fu (by omega) hf
theorem wl3_any {A0 A1 A2 β : Type} {body : (A0 → A1 → A2 → Option β) → A0 → A1 → A2 → Option β} (s0 : Nat → A0) (s1 : Nat → A1) (s2 : Nat → A2) (p : Nat → Bool) (e : Nat) (R R' : Option β) (ht : ∀ k, k < e → p k = true → ∀ ag, body ag (s0 k) (s1 k) (s2 k) = R) (hs : ∀ k, k < e → p k = false → ∀ ag, body ag (s0 k) (s1 k) (s2 k) = ag (s0 (k + 1)) (s1 (k + 1)) (s2 (k + 1))) (he : ∀ ag, body ag (s0 e) (s1 e) (s2 e) = R') (hf : e < 4096) : wl3 body fu (s0 0) (s1 0) (s2 0) = if ex p e then R else R' := by
  have key : ∀ (d k n : Nat), k + d = e → d < n → ex p k = false → wl3 body n (s0 k) (s1 k) (s2 k) = if ex p e then R else R' := by
    intro d
    induction d with
    | zero =>
      intro k n hk hn hp
      obtain ⟨n, rfl⟩ : ∃ t, n = t + 1 := ⟨n - 1, by omega⟩
      obtain rfl : k = e := by omega
      rw [hp]
      exact he _
    | succ d ih =>
      intro k n hk hn hp
      obtain ⟨n, rfl⟩ : ∃ t, n = t + 1 := ⟨n - 1, by omega⟩
      cases hc : p k with
      | true =>
        rw [ex_iff.mpr ⟨k, by omega, hc⟩]
        exact ht k (by omega) hc _
      | false => exact (hs k (by omega) hc _).trans (ih (k + 1) n (by omega) (by omega) (by simp [ex, hp, hc]))
  exact key e 0 fu (by omega) hf rfl
theorem wl4_run {A0 A1 A2 A3 β : Type} {body : (A0 → A1 → A2 → A3 → Option β) → A0 → A1 → A2 → A3 → Option β} (s0 : Nat → A0) (s1 : Nat → A1) (s2 : Nat → A2) (s3 : Nat → A3) (e : Nat) (R : Option β) (hs : ∀ k, k < e → ∀ ag, body ag (s0 k) (s1 k) (s2 k) (s3 k) = ag (s0 (k + 1)) (s1 (k + 1)) (s2 (k + 1)) (s3 (k + 1))) (he : ∀ ag, body ag (s0 e) (s1 e) (s2 e) (s3 e) = R) : ∀ (d k n : Nat), k + d = e → d < n → wl4 body n (s0 k) (s1 k) (s2 k) (s3 k) = R := by
  intro d
  induction d with
  | zero =>
    intro k n hk hn
    obtain ⟨n, rfl⟩ : ∃ t, n = t + 1 := ⟨n - 1, by omega⟩
    obtain rfl : k = e := by omega
    exact he _
  | succ d ih =>
    intro k n hk hn
    obtain ⟨n, rfl⟩ : ∃ t, n = t + 1 := ⟨n - 1, by omega⟩
    exact (hs k (by omega) _).trans (ih (k + 1) n (by omega) (by omega))
theorem wl4_go {A0 A1 A2 A3 β : Type} {body : (A0 → A1 → A2 → A3 → Option β) → A0 → A1 → A2 → A3 → Option β} (s0 : Nat → A0) (s1 : Nat → A1) (s2 : Nat → A2) (s3 : Nat → A3) (e : Nat) (R : Option β) (hs : ∀ k, k < e → ∀ ag, body ag (s0 k) (s1 k) (s2 k) (s3 k) = ag (s0 (k + 1)) (s1 (k + 1)) (s2 (k + 1)) (s3 (k + 1))) (he : ∀ ag, body ag (s0 e) (s1 e) (s2 e) (s3 e) = R) (hf : e < 4096) : wl4 body fu (s0 0) (s1 0) (s2 0) (s3 0) = R := wl4_run s0 s1 s2 s3 e R hs he e 0 fu (by omega) hf
theorem wl4_any {A0 A1 A2 A3 β : Type} {body : (A0 → A1 → A2 → A3 → Option β) → A0 → A1 → A2 → A3 → Option β} (s0 : Nat → A0) (s1 : Nat → A1) (s2 : Nat → A2) (s3 : Nat → A3) (p : Nat → Bool) (e : Nat) (R R' : Option β) (ht : ∀ k, k < e → p k = true → ∀ ag, body ag (s0 k) (s1 k) (s2 k) (s3 k) = R) (hs : ∀ k, k < e → p k = false → ∀ ag, body ag (s0 k) (s1 k) (s2 k) (s3 k) = ag (s0 (k + 1)) (s1 (k + 1)) (s2 (k + 1)) (s3 (k + 1))) (he : ∀ ag, body ag (s0 e) (s1 e) (s2 e) (s3 e) = R') (hf : e < 4096) : wl4 body fu (s0 0) (s1 0) (s2 0) (s3 0) = if ex p e then R else R' := by
  have key : ∀ (d k n : Nat), k + d = e → d < n → ex p k = false → wl4 body n (s0 k) (s1 k) (s2 k) (s3 k) = if ex p e then R else R' := by
    intro d
    induction d with
    | zero =>
      intro k n hk hn hp
      obtain ⟨n, rfl⟩ : ∃ t, n = t + 1 := ⟨n - 1, by omega⟩
      obtain rfl : k = e := by omega
      rw [hp]
      exact he _
    | succ d ih =>
      intro k n hk hn hp
      obtain ⟨n, rfl⟩ : ∃ t, n = t + 1 := ⟨n - 1, by omega⟩
      cases hc : p k with
      | true =>
        rw [ex_iff.mpr ⟨k, by omega, hc⟩]
        exact ht k (by omega) hc _
      | false => exact (hs k (by omega) hc _).trans (ih (k + 1) n (by omega) (by omega) (by simp [ex, hp, hc]))
  exact key e 0 fu (by omega) hf rfl
theorem wl5_run {A0 A1 A2 A3 A4 β : Type} {body : (A0 → A1 → A2 → A3 → A4 → Option β) → A0 → A1 → A2 → A3 → A4 → Option β} (s0 : Nat → A0) (s1 : Nat → A1) (s2 : Nat → A2) (s3 : Nat → A3) (s4 : Nat → A4) (e : Nat) (R : Option β) (hs : ∀ k, k < e → ∀ ag, body ag (s0 k) (s1 k) (s2 k) (s3 k) (s4 k) = ag (s0 (k + 1)) (s1 (k + 1)) (s2 (k + 1)) (s3 (k + 1)) (s4 (k + 1))) (he : ∀ ag, body ag (s0 e) (s1 e) (s2 e) (s3 e) (s4 e) = R) : ∀ (d k n : Nat), k + d = e → d < n → wl5 body n (s0 k) (s1 k) (s2 k) (s3 k) (s4 k) = R := by
  intro d
  induction d with
  | zero =>
    intro k n hk hn
    obtain ⟨n, rfl⟩ : ∃ t, n = t + 1 := ⟨n - 1, by omega⟩
    obtain rfl : k = e := by omega
    exact he _
  | succ d ih =>
    intro k n hk hn
    obtain ⟨n, rfl⟩ : ∃ t, n = t + 1 := ⟨n - 1, by omega⟩
    exact (hs k (by omega) _).trans (ih (k + 1) n (by omega) (by omega))
theorem wl5_go {A0 A1 A2 A3 A4 β : Type} {body : (A0 → A1 → A2 → A3 → A4 → Option β) → A0 → A1 → A2 → A3 → A4 → Option β} (s0 : Nat → A0) (s1 : Nat → A1) (s2 : Nat → A2) (s3 : Nat → A3) (s4 : Nat → A4) (e : Nat) (R : Option β) (hs : ∀ k, k < e → ∀ ag, body ag (s0 k) (s1 k) (s2 k) (s3 k) (s4 k) = ag (s0 (k + 1)) (s1 (k + 1)) (s2 (k + 1)) (s3 (k + 1)) (s4 (k + 1))) (he : ∀ ag, body ag (s0 e) (s1 e) (s2 e) (s3 e) (s4 e) = R) (hf : e < 4096) : wl5 body fu (s0 0) (s1 0) (s2 0) (s3 0) (s4 0) = R := wl5_run s0 s1 s2 s3 s4 e R hs he e 0 fu (by omega) hf
theorem wl5_any {A0 A1 A2 A3 A4 β : Type} {body : (A0 → A1 → A2 → A3 → A4 → Option β) → A0 → A1 → A2 → A3 → A4 → Option β} (s0 : Nat → A0) (s1 : Nat → A1) (s2 : Nat → A2) (s3 : Nat → A3) (s4 : Nat → A4) (p : Nat → Bool) (e : Nat) (R R' : Option β) (ht : ∀ k, k < e → p k = true → ∀ ag, body ag (s0 k) (s1 k) (s2 k) (s3 k) (s4 k) = R) (hs : ∀ k, k < e → p k = false → ∀ ag, body ag (s0 k) (s1 k) (s2 k) (s3 k) (s4 k) = ag (s0 (k + 1)) (s1 (k + 1)) (s2 (k + 1)) (s3 (k + 1)) (s4 (k + 1))) (he : ∀ ag, body ag (s0 e) (s1 e) (s2 e) (s3 e) (s4 e) = R') (hf : e < 4096) : wl5 body fu (s0 0) (s1 0) (s2 0) (s3 0) (s4 0) = if ex p e then R else R' := by
  have key : ∀ (d k n : Nat), k + d = e → d < n → ex p k = false → wl5 body n (s0 k) (s1 k) (s2 k) (s3 k) (s4 k) = if ex p e then R else R' := by
    intro d
    induction d with
    | zero =>
      intro k n hk hn hp
      obtain ⟨n, rfl⟩ : ∃ t, n = t + 1 := ⟨n - 1, by omega⟩
      obtain rfl : k = e := by omega
      rw [hp]
      exact he _
    | succ d ih =>
      intro k n hk hn hp
      obtain ⟨n, rfl⟩ : ∃ t, n = t + 1 := ⟨n - 1, by omega⟩
      cases hc : p k with
      | true =>
        rw [ex_iff.mpr ⟨k, by omega, hc⟩]
        exact ht k (by omega) hc _
      | false => exact (hs k (by omega) hc _).trans (ih (k + 1) n (by omega) (by omega) (by simp [ex, hp, hc]))
  exact key e 0 fu (by omega) hf rfl
theorem wl6_run {A0 A1 A2 A3 A4 A5 β : Type} {body : (A0 → A1 → A2 → A3 → A4 → A5 → Option β) → A0 → A1 → A2 → A3 → A4 → A5 → Option β} (s0 : Nat → A0) (s1 : Nat → A1) (s2 : Nat → A2) (s3 : Nat → A3) (s4 : Nat → A4) (s5 : Nat → A5) (e : Nat) (R : Option β) (hs : ∀ k, k < e → ∀ ag, body ag (s0 k) (s1 k) (s2 k) (s3 k) (s4 k) (s5 k) = ag (s0 (k + 1)) (s1 (k + 1)) (s2 (k + 1)) (s3 (k + 1)) (s4 (k + 1)) (s5 (k + 1))) (he : ∀ ag, body ag (s0 e) (s1 e) (s2 e) (s3 e) (s4 e) (s5 e) = R) : ∀ (d k n : Nat), k + d = e → d < n → wl6 body n (s0 k) (s1 k) (s2 k) (s3 k) (s4 k) (s5 k) = R := by
  intro d
  induction d with
  | zero =>
    intro k n hk hn
    obtain ⟨n, rfl⟩ : ∃ t, n = t + 1 := ⟨n - 1, by omega⟩
    obtain rfl : k = e := by omega
    exact he _
  | succ d ih =>
    intro k n hk hn
    obtain ⟨n, rfl⟩ : ∃ t, n = t + 1 := ⟨n - 1, by omega⟩
    exact (hs k (by omega) _).trans (ih (k + 1) n (by omega) (by omega))
theorem wl6_go {A0 A1 A2 A3 A4 A5 β : Type} {body : (A0 → A1 → A2 → A3 → A4 → A5 → Option β) → A0 → A1 → A2 → A3 → A4 → A5 → Option β} (s0 : Nat → A0) (s1 : Nat → A1) (s2 : Nat → A2) (s3 : Nat → A3) (s4 : Nat → A4) (s5 : Nat → A5) (e : Nat) (R : Option β) (hs : ∀ k, k < e → ∀ ag, body ag (s0 k) (s1 k) (s2 k) (s3 k) (s4 k) (s5 k) = ag (s0 (k + 1)) (s1 (k + 1)) (s2 (k + 1)) (s3 (k + 1)) (s4 (k + 1)) (s5 (k + 1))) (he : ∀ ag, body ag (s0 e) (s1 e) (s2 e) (s3 e) (s4 e) (s5 e) = R) (hf : e < 4096) : wl6 body fu (s0 0) (s1 0) (s2 0) (s3 0) (s4 0) (s5 0) = R := wl6_run s0 s1 s2 s3 s4 s5 e R hs he e 0 fu (by omega) hf
theorem wl6_any {A0 A1 A2 A3 A4 A5 β : Type} {body : (A0 → A1 → A2 → A3 → A4 → A5 → Option β) → A0 → A1 → A2 → A3 → A4 → A5 → Option β} (s0 : Nat → A0) (s1 : Nat → A1) (s2 : Nat → A2) (s3 : Nat → A3) (s4 : Nat → A4) (s5 : Nat → A5) (p : Nat → Bool) (e : Nat) (R R' : Option β) (ht : ∀ k, k < e → p k = true → ∀ ag, body ag (s0 k) (s1 k) (s2 k) (s3 k) (s4 k) (s5 k) = R) (hs : ∀ k, k < e → p k = false → ∀ ag, body ag (s0 k) (s1 k) (s2 k) (s3 k) (s4 k) (s5 k) = ag (s0 (k + 1)) (s1 (k + 1)) (s2 (k + 1)) (s3 (k + 1)) (s4 (k + 1)) (s5 (k + 1))) (he : ∀ ag, body ag (s0 e) (s1 e) (s2 e) (s3 e) (s4 e) (s5 e) = R') (hf : e < 4096) : wl6 body fu (s0 0) (s1 0) (s2 0) (s3 0) (s4 0) (s5 0) = if ex p e then R else R' := by
  have key : ∀ (d k n : Nat), k + d = e → d < n → ex p k = false → wl6 body n (s0 k) (s1 k) (s2 k) (s3 k) (s4 k) (s5 k) = if ex p e then R else R' := by
    intro d
    induction d with
    | zero =>
      intro k n hk hn hp
      obtain ⟨n, rfl⟩ : ∃ t, n = t + 1 := ⟨n - 1, by omega⟩
      obtain rfl : k = e := by omega
      rw [hp]
      exact he _
    | succ d ih =>
      intro k n hk hn hp
      obtain ⟨n, rfl⟩ : ∃ t, n = t + 1 := ⟨n - 1, by omega⟩
      cases hc : p k with
      | true =>
        rw [ex_iff.mpr ⟨k, by omega, hc⟩]
        exact ht k (by omega) hc _
      | false => exact (hs k (by omega) hc _).trans (ih (k + 1) n (by omega) (by omega) (by simp [ex, hp, hc]))
  exact key e 0 fu (by omega) hf rfl
theorem wl7_run {A0 A1 A2 A3 A4 A5 A6 β : Type} {body : (A0 → A1 → A2 → A3 → A4 → A5 → A6 → Option β) → A0 → A1 → A2 → A3 → A4 → A5 → A6 → Option β} (s0 : Nat → A0) (s1 : Nat → A1) (s2 : Nat → A2) (s3 : Nat → A3) (s4 : Nat → A4) (s5 : Nat → A5) (s6 : Nat → A6) (e : Nat) (R : Option β) (hs : ∀ k, k < e → ∀ ag, body ag (s0 k) (s1 k) (s2 k) (s3 k) (s4 k) (s5 k) (s6 k) = ag (s0 (k + 1)) (s1 (k + 1)) (s2 (k + 1)) (s3 (k + 1)) (s4 (k + 1)) (s5 (k + 1)) (s6 (k + 1))) (he : ∀ ag, body ag (s0 e) (s1 e) (s2 e) (s3 e) (s4 e) (s5 e) (s6 e) = R) : ∀ (d k n : Nat), k + d = e → d < n → wl7 body n (s0 k) (s1 k) (s2 k) (s3 k) (s4 k) (s5 k) (s6 k) = R := by
  intro d
  induction d with
  | zero =>
    intro k n hk hn
    obtain ⟨n, rfl⟩ : ∃ t, n = t + 1 := ⟨n - 1, by omega⟩
    obtain rfl : k = e := by omega
    exact he _
  | succ d ih =>
    intro k n hk hn
    obtain ⟨n, rfl⟩ : ∃ t, n = t + 1 := ⟨n - 1, by omega⟩
    exact (hs k (by omega) _).trans (ih (k + 1) n (by omega) (by omega))
theorem wl7_go {A0 A1 A2 A3 A4 A5 A6 β : Type} {body : (A0 → A1 → A2 → A3 → A4 → A5 → A6 → Option β) → A0 → A1 → A2 → A3 → A4 → A5 → A6 → Option β} (s0 : Nat → A0) (s1 : Nat → A1) (s2 : Nat → A2) (s3 : Nat → A3) (s4 : Nat → A4) (s5 : Nat → A5) (s6 : Nat → A6) (e : Nat) (R : Option β) (hs : ∀ k, k < e → ∀ ag, body ag (s0 k) (s1 k) (s2 k) (s3 k) (s4 k) (s5 k) (s6 k) = ag (s0 (k + 1)) (s1 (k + 1)) (s2 (k + 1)) (s3 (k + 1)) (s4 (k + 1)) (s5 (k + 1)) (s6 (k + 1))) (he : ∀ ag, body ag (s0 e) (s1 e) (s2 e) (s3 e) (s4 e) (s5 e) (s6 e) = R) (hf : e < 4096) : wl7 body fu (s0 0) (s1 0) (s2 0) (s3 0) (s4 0) (s5 0) (s6 0) = R := wl7_run s0 s1 s2 s3 s4 s5 s6 e R hs he e 0 fu (by omega) hf
theorem wl7_any {A0 A1 A2 A3 A4 A5 A6 β : Type} {body : (A0 → A1 → A2 → A3 → A4 → A5 → A6 → Option β) → A0 → A1 → A2 → A3 → A4 → A5 → A6 → Option β} (s0 : Nat → A0) (s1 : Nat → A1) (s2 : Nat → A2) (s3 : Nat → A3) (s4 : Nat → A4) (s5 : Nat → A5) (s6 : Nat → A6) (p : Nat → Bool) (e : Nat) (R R' : Option β) (ht : ∀ k, k < e → p k = true → ∀ ag, body ag (s0 k) (s1 k) (s2 k) (s3 k) (s4 k) (s5 k) (s6 k) = R) (hs : ∀ k, k < e → p k = false → ∀ ag, body ag (s0 k) (s1 k) (s2 k) (s3 k) (s4 k) (s5 k) (s6 k) = ag (s0 (k + 1)) (s1 (k + 1)) (s2 (k + 1)) (s3 (k + 1)) (s4 (k + 1)) (s5 (k + 1)) (s6 (k + 1))) (he : ∀ ag, body ag (s0 e) (s1 e) (s2 e) (s3 e) (s4 e) (s5 e) (s6 e) = R') (hf : e < 4096) : wl7 body fu (s0 0) (s1 0) (s2 0) (s3 0) (s4 0) (s5 0) (s6 0) = if ex p e then R else R' := by
  have key : ∀ (d k n : Nat), k + d = e → d < n → ex p k = false → wl7 body n (s0 k) (s1 k) (s2 k) (s3 k) (s4 k) (s5 k) (s6 k) = if ex p e then R else R' := by
    intro d
    induction d with
    | zero =>
      intro k n hk hn hp
      obtain ⟨n, rfl⟩ : ∃ t, n = t + 1 := ⟨n - 1, by omega⟩
      obtain rfl : k = e := by omega
      rw [hp]
      exact he _
    | succ d ih =>
      intro k n hk hn hp
      obtain ⟨n, rfl⟩ : ∃ t, n = t + 1 := ⟨n - 1, by omega⟩
      cases hc : p k with
      | true =>
        rw [ex_iff.mpr ⟨k, by omega, hc⟩]
        exact ht k (by omega) hc _
      | false => exact (hs k (by omega) hc _).trans (ih (k + 1) n (by omega) (by omega) (by simp [ex, hp, hc]))
  exact key e 0 fu (by omega) hf rfl
theorem wl8_run {A0 A1 A2 A3 A4 A5 A6 A7 β : Type} {body : (A0 → A1 → A2 → A3 → A4 → A5 → A6 → A7 → Option β) → A0 → A1 → A2 → A3 → A4 → A5 → A6 → A7 → Option β} (s0 : Nat → A0) (s1 : Nat → A1) (s2 : Nat → A2) (s3 : Nat → A3) (s4 : Nat → A4) (s5 : Nat → A5) (s6 : Nat → A6) (s7 : Nat → A7) (e : Nat) (R : Option β) (hs : ∀ k, k < e → ∀ ag, body ag (s0 k) (s1 k) (s2 k) (s3 k) (s4 k) (s5 k) (s6 k) (s7 k) = ag (s0 (k + 1)) (s1 (k + 1)) (s2 (k + 1)) (s3 (k + 1)) (s4 (k + 1)) (s5 (k + 1)) (s6 (k + 1)) (s7 (k + 1))) (he : ∀ ag, body ag (s0 e) (s1 e) (s2 e) (s3 e) (s4 e) (s5 e) (s6 e) (s7 e) = R) : ∀ (d k n : Nat), k + d = e → d < n → wl8 body n (s0 k) (s1 k) (s2 k) (s3 k) (s4 k) (s5 k) (s6 k) (s7 k) = R := by
  intro d
  induction d with
  | zero =>
    intro k n hk hn
    obtain ⟨n, rfl⟩ : ∃ t, n = t + 1 := ⟨n - 1, by omega⟩
    obtain rfl : k = e := by omega
    exact he _
  | succ d ih =>
    intro k n hk hn
    obtain ⟨n, rfl⟩ : ∃ t, n = t + 1 := ⟨n - 1, by omega⟩
    exact (hs k (by omega) _).trans (ih (k + 1) n (by omega) (by omega))
theorem wl8_go {A0 A1 A2 A3 A4 A5 A6 A7 β : Type} {body : (A0 → A1 → A2 → A3 → A4 → A5 → A6 → A7 → Option β) → A0 → A1 → A2 → A3 → A4 → A5 → A6 → A7 → Option β} (s0 : Nat → A0) (s1 : Nat → A1) (s2 : Nat → A2) (s3 : Nat → A3) (s4 : Nat → A4) (s5 : Nat → A5) (s6 : Nat → A6) (s7 : Nat → A7) (e : Nat) (R : Option β) (hs : ∀ k, k < e → ∀ ag, body ag (s0 k) (s1 k) (s2 k) (s3 k) (s4 k) (s5 k) (s6 k) (s7 k) = ag (s0 (k + 1)) (s1 (k + 1)) (s2 (k + 1)) (s3 (k + 1)) (s4 (k + 1)) (s5 (k + 1)) (s6 (k + 1)) (s7 (k + 1))) (he : ∀ ag, body ag (s0 e) (s1 e) (s2 e) (s3 e) (s4 e) (s5 e) (s6 e) (s7 e) = R) (hf : e < 4096) : wl8 body fu (s0 0) (s1 0) (s2 0) (s3 0) (s4 0) (s5 0) (s6 0) (s7 0) = R := wl8_run s0 s1 s2 s3 s4 s5 s6 s7 e R hs he e 0 fu (by omega) hf
theorem wl8_any {A0 A1 A2 A3 A4 A5 A6 A7 β : Type} {body : (A0 → A1 → A2 → A3 → A4 → A5 → A6 → A7 → Option β) → A0 → A1 → A2 → A3 → A4 → A5 → A6 → A7 → Option β} (s0 : Nat → A0) (s1 : Nat → A1) (s2 : Nat → A2) (s3 : Nat → A3) (s4 : Nat → A4) (s5 : Nat → A5) (s6 : Nat → A6) (s7 : Nat → A7) (p : Nat → Bool) (e : Nat) (R R' : Option β) (ht : ∀ k, k < e → p k = true → ∀ ag, body ag (s0 k) (s1 k) (s2 k) (s3 k) (s4 k) (s5 k) (s6 k) (s7 k) = R) (hs : ∀ k, k < e → p k = false → ∀ ag, body ag (s0 k) (s1 k) (s2 k) (s3 k) (s4 k) (s5 k) (s6 k) (s7 k) = ag (s0 (k + 1)) (s1 (k + 1)) (s2 (k + 1)) (s3 (k + 1)) (s4 (k + 1)) (s5 (k + 1)) (s6 (k + 1)) (s7 (k + 1))) (he : ∀ ag, body ag (s0 e) (s1 e) (s2 e) (s3 e) (s4 e) (s5 e) (s6 e) (s7 e) = R') (hf : e < 4096) : wl8 body fu (s0 0) (s1 0) (s2 0) (s3 0) (s4 0) (s5 0) (s6 0) (s7 0) = if ex p e then R else R' := by
  have key : ∀ (d k n : Nat), k + d = e → d < n → ex p k = false → wl8 body n (s0 k) (s1 k) (s2 k) (s3 k) (s4 k) (s5 k) (s6 k) (s7 k) = if ex p e then R else R' := by
    intro d
    induction d with
    | zero =>
      intro k n hk hn hp
      obtain ⟨n, rfl⟩ : ∃ t, n = t + 1 := ⟨n - 1, by omega⟩
      obtain rfl : k = e := by omega
      rw [hp]
      exact he _
    | succ d ih =>
      intro k n hk hn hp
      obtain ⟨n, rfl⟩ : ∃ t, n = t + 1 := ⟨n - 1, by omega⟩
      cases hc : p k with
      | true =>
        rw [ex_iff.mpr ⟨k, by omega, hc⟩]
        exact ht k (by omega) hc _
      | false => exact (hs k (by omega) hc _).trans (ih (k + 1) n (by omega) (by omega) (by simp [ex, hp, hc]))
  exact key e 0 fu (by omega) hf rfl
theorem wl9_run {A0 A1 A2 A3 A4 A5 A6 A7 A8 β : Type} {body : (A0 → A1 → A2 → A3 → A4 → A5 → A6 → A7 → A8 → Option β) → A0 → A1 → A2 → A3 → A4 → A5 → A6 → A7 → A8 → Option β} (s0 : Nat → A0) (s1 : Nat → A1) (s2 : Nat → A2) (s3 : Nat → A3) (s4 : Nat → A4) (s5 : Nat → A5) (s6 : Nat → A6) (s7 : Nat → A7) (s8 : Nat → A8) (e : Nat) (R : Option β) (hs : ∀ k, k < e → ∀ ag, body ag (s0 k) (s1 k) (s2 k) (s3 k) (s4 k) (s5 k) (s6 k) (s7 k) (s8 k) = ag (s0 (k + 1)) (s1 (k + 1)) (s2 (k + 1)) (s3 (k + 1)) (s4 (k + 1)) (s5 (k + 1)) (s6 (k + 1)) (s7 (k + 1)) (s8 (k + 1))) (he : ∀ ag, body ag (s0 e) (s1 e) (s2 e) (s3 e) (s4 e) (s5 e) (s6 e) (s7 e) (s8 e) = R) : ∀ (d k n : Nat), k + d = e → d < n → wl9 body n (s0 k) (s1 k) (s2 k) (s3 k) (s4 k) (s5 k) (s6 k) (s7 k) (s8 k) = R := by
  intro d
  induction d with
  | zero =>
    intro k n hk hn
    obtain ⟨n, rfl⟩ : ∃ t, n = t + 1 := ⟨n - 1, by omega⟩
    obtain rfl : k = e := by omega
    exact he _
  | succ d ih =>
    intro k n hk hn
    obtain ⟨n, rfl⟩ : ∃ t, n = t + 1 := ⟨n - 1, by omega⟩
    exact (hs k (by omega) _).trans (ih (k + 1) n (by omega) (by omega))
theorem wl9_go {A0 A1 A2 A3 A4 A5 A6 A7 A8 β : Type} {body : (A0 → A1 → A2 → A3 → A4 → A5 → A6 → A7 → A8 → Option β) → A0 → A1 → A2 → A3 → A4 → A5 → A6 → A7 → A8 → Option β} (s0 : Nat → A0) (s1 : Nat → A1) (s2 : Nat → A2) (s3 : Nat → A3) (s4 : Nat → A4) (s5 : Nat → A5) (s6 : Nat → A6) (s7 : Nat → A7) (s8 : Nat → A8) (e : Nat) (R : Option β) (hs : ∀ k, k < e → ∀ ag, body ag (s0 k) (s1 k) (s2 k) (s3 k) (s4 k) (s5 k) (s6 k) (s7 k) (s8 k) = ag (s0 (k + 1)) (s1 (k + 1)) (s2 (k + 1)) (s3 (k + 1)) (s4 (k + 1)) (s5 (k + 1)) (s6 (k + 1)) (s7 (k + 1)) (s8 (k + 1))) (he : ∀ ag, body ag (s0 e) (s1 e) (s2 e) (s3 e) (s4 e) (s5 e) (s6 e) (s7 e) (s8 e) = R) (hf : e < 4096) : wl9 body fu (s0 0) (s1 0) (s2 0) (s3 0) (s4 0) (s5 0) (s6 0) (s7 0) (s8 0) = R := wl9_run s0 s1 s2 s3 s4 s5 s6 s7 s8 e R hs he e 0 fu (by omega) hf
theorem wl9_any {A0 A1 A2 A3 A4 A5 A6 A7 A8 β : Type} {body : (A0 → A1 → A2 → A3 → A4 → A5 → A6 → A7 → A8 → Option β) → A0 → A1 → A2 → A3 → A4 → A5 → A6 → A7 → A8 → Option β} (s0 : Nat → A0) (s1 : Nat → A1) (s2 : Nat → A2) (s3 : Nat → A3) (s4 : Nat → A4) (s5 : Nat → A5) (s6 : Nat → A6) (s7 : Nat → A7) (s8 : Nat → A8) (p : Nat → Bool) (e : Nat) (R R' : Option β) (ht : ∀ k, k < e → p k = true → ∀ ag, body ag (s0 k) (s1 k) (s2 k) (s3 k) (s4 k) (s5 k) (s6 k) (s7 k) (s8 k) = R) (hs : ∀ k, k < e → p k = false → ∀ ag, body ag (s0 k) (s1 k) (s2 k) (s3 k) (s4 k) (s5 k) (s6 k) (s7 k) (s8 k) = ag (s0 (k + 1)) (s1 (k + 1)) (s2 (k + 1)) (s3 (k + 1)) (s4 (k + 1)) (s5 (k + 1)) (s6 (k + 1)) (s7 (k + 1)) (s8 (k + 1))) (he : ∀ ag, body ag (s0 e) (s1 e) (s2 e) (s3 e) (s4 e) (s5 e) (s6 e) (s7 e) (s8 e) = R') (hf : e < 4096) : wl9 body fu (s0 0) (s1 0) (s2 0) (s3 0) (s4 0) (s5 0) (s6 0) (s7 0) (s8 0) = if ex p e then R else R' := by
  have key : ∀ (d k n : Nat), k + d = e → d < n → ex p k = false → wl9 body n (s0 k) (s1 k) (s2 k) (s3 k) (s4 k) (s5 k) (s6 k) (s7 k) (s8 k) = if ex p e then R else R' := by
    intro d
    induction d with
    | zero =>
      intro k n hk hn hp
      obtain ⟨n, rfl⟩ : ∃ t, n = t + 1 := ⟨n - 1, by omega⟩
      obtain rfl : k = e := by omega
      rw [hp]
      exact he _
    | succ d ih =>
      intro k n hk hn hp
      obtain ⟨n, rfl⟩ : ∃ t, n = t + 1 := ⟨n - 1, by omega⟩
      cases hc : p k with
      | true =>
        rw [ex_iff.mpr ⟨k, by omega, hc⟩]
        exact ht k (by omega) hc _
      | false => exact (hs k (by omega) hc _).trans (ih (k + 1) n (by omega) (by omega) (by simp [ex, hp, hc]))
  exact key e 0 fu (by omega) hf rfl
theorem wl10_run {A0 A1 A2 A3 A4 A5 A6 A7 A8 A9 β : Type} {body : (A0 → A1 → A2 → A3 → A4 → A5 → A6 → A7 → A8 → A9 → Option β) → A0 → A1 → A2 → A3 → A4 → A5 → A6 → A7 → A8 → A9 → Option β} (s0 : Nat → A0) (s1 : Nat → A1) (s2 : Nat → A2) (s3 : Nat → A3) (s4 : Nat → A4) (s5 : Nat → A5) (s6 : Nat → A6) (s7 : Nat → A7) (s8 : Nat → A8) (s9 : Nat → A9) (e : Nat) (R : Option β) (hs : ∀ k, k < e → ∀ ag, body ag (s0 k) (s1 k) (s2 k) (s3 k) (s4 k) (s5 k) (s6 k) (s7 k) (s8 k) (s9 k) = ag (s0 (k + 1)) (s1 (k + 1)) (s2 (k + 1)) (s3 (k + 1)) (s4 (k + 1)) (s5 (k + 1)) (s6 (k + 1)) (s7 (k + 1)) (s8 (k + 1)) (s9 (k + 1))) (he : ∀ ag, body ag (s0 e) (s1 e) (s2 e) (s3 e) (s4 e) (s5 e) (s6 e) (s7 e) (s8 e) (s9 e) = R) : ∀ (d k n : Nat), k + d = e → d < n → wl10 body n (s0 k) (s1 k) (s2 k) (s3 k) (s4 k) (s5 k) (s6 k) (s7 k) (s8 k) (s9 k) = R := by
  intro d
  induction d with
  | zero =>
    intro k n hk hn
    obtain ⟨n, rfl⟩ : ∃ t, n = t + 1 := ⟨n - 1, by omega⟩
    obtain rfl : k = e := by omega
    exact he _
  | succ d ih =>
    intro k n hk hn
    obtain ⟨n, rfl⟩ : ∃ t, n = t + 1 := ⟨n - 1, by omega⟩
    exact (hs k (by omega) _).trans (ih (k + 1) n (by omega) (by omega))
theorem wl10_go {A0 A1 A2 A3 A4 A5 A6 A7 A8 A9 β : Type} {body : (A0 → A1 → A2 → A3 → A4 → A5 → A6 → A7 → A8 → A9 → Option β) → A0 → A1 → A2 → A3 → A4 → A5 → A6 → A7 → A8 → A9 → Option β} (s0 : Nat → A0) (s1 : Nat → A1) (s2 : Nat → A2) (s3 : Nat → A3) (s4 : Nat → A4) (s5 : Nat → A5) (s6 : Nat → A6) (s7 : Nat → A7) (s8 : Nat → A8) (s9 : Nat → A9) (e : Nat) (R : Option β) (hs : ∀ k, k < e → ∀ ag, body ag (s0 k) (s1 k) (s2 k) (s3 k) (s4 k) (s5 k) (s6 k) (s7 k) (s8 k) (s9 k) = ag (s0 (k + 1)) (s1 (k + 1)) (s2 (k + 1)) (s3 (k + 1)) (s4 (k + 1)) (s5 (k + 1)) (s6 (k + 1)) (s7 (k + 1)) (s8 (k + 1)) (s9 (k + 1))) (he : ∀ ag, body ag (s0 e) (s1 e) (s2 e) (s3 e) (s4 e) (s5 e) (s6 e) (s7 e) (s8 e) (s9 e) = R) (hf : e < 4096) : wl10 body fu (s0 0) (s1 0) (s2 0) (s3 0) (s4 0) (s5 0) (s6 0) (s7 0) (s8 0) (s9 0) = R := wl10_run s0 s1 s2 s3 s4 s5 s6 s7 s8 s9 e R hs he e 0 fu (by omega) hf
theorem wl10_any {A0 A1 A2 A3 A4 A5 A6 A7 A8 A9 β : Type} {body : (A0 → A1 → A2 → A3 → A4 → A5 → A6 → A7 → A8 → A9 → Option β) → A0 → A1 → A2 → A3 → A4 → A5 → A6 → A7 → A8 → A9 → Option β} (s0 : Nat → A0) (s1 : Nat → A1) (s2 : Nat → A2) (s3 : Nat → A3) (s4 : Nat → A4) (s5 : Nat → A5) (s6 : Nat → A6) (s7 : Nat → A7) (s8 : Nat → A8) (s9 : Nat → A9) (p : Nat → Bool) (e : Nat) (R R' : Option β) (ht : ∀ k, k < e → p k = true → ∀ ag, body ag (s0 k) (s1 k) (s2 k) (s3 k) (s4 k) (s5 k) (s6 k) (s7 k) (s8 k) (s9 k) = R) (hs : ∀ k, k < e → p k = false → ∀ ag, body ag (s0 k) (s1 k) (s2 k) (s3 k) (s4 k) (s5 k) (s6 k) (s7 k) (s8 k) (s9 k) = ag (s0 (k + 1)) (s1 (k + 1)) (s2 (k + 1)) (s3 (k + 1)) (s4 (k + 1)) (s5 (k + 1)) (s6 (k + 1)) (s7 (k + 1)) (s8 (k + 1)) (s9 (k + 1))) (he : ∀ ag, body ag (s0 e) (s1 e) (s2 e) (s3 e) (s4 e) (s5 e) (s6 e) (s7 e) (s8 e) (s9 e) = R') (hf : e < 4096) : wl10 body fu (s0 0) (s1 0) (s2 0) (s3 0) (s4 0) (s5 0) (s6 0) (s7 0) (s8 0) (s9 0) = if ex p e then R else R' := by
  have key : ∀ (d k n : Nat), k + d = e → d < n → ex p k = false → wl10 body n (s0 k) (s1 k) (s2 k) (s3 k) (s4 k) (s5 k) (s6 k) (s7 k) (s8 k) (s9 k) = if ex p e then R else R' := by
    intro d
    induction d with
    | zero =>
      intro k n hk hn hp
      obtain ⟨n, rfl⟩ : ∃ t, n = t + 1 := ⟨n - 1, by omega⟩
      obtain rfl : k = e := by omega
      rw [hp]
      exact he _
    | succ d ih =>
      intro k n hk hn hp
      obtain ⟨n, rfl⟩ : ∃ t, n = t + 1 := ⟨n - 1, by omega⟩
      cases hc : p k with
      | true =>
        rw [ex_iff.mpr ⟨k, by omega, hc⟩]
        exact ht k (by omega) hc _
      | false => exact (hs k (by omega) hc _).trans (ih (k + 1) n (by omega) (by omega) (by simp [ex, hp, hc]))
  exact key e 0 fu (by omega) hf rfl
