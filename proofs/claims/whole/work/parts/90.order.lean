/-! ways out of a joint, by a number for each way -/
def kk (x y : Int) : Int := if 0 < y ∨ (y = 0 ∧ 0 < x) then 2520 - 2520 / ((x.natAbs + y.natAbs : Nat) : Int) * x else 7560 + 2520 / ((x.natAbs + y.natAbs : Nat) : Int) * x
def lw (x y : Int) : Bool := decide (y < 0) || (decide (y = 0) && decide (x < 0))
def av (x y x' y' : Int) : Bool := if lw x y = lw x' y' then decide (0 < x * y' - y * x') else !lw x y
def ck1 (x y x' y' : Int) : Bool := (decide (x = 0) && decide (y = 0)) || (decide (x' = 0) && decide (y' = 0)) || ((av x y x' y' == decide (kk x y < kk x' y')) && (!(decide (kk x y = kk x' y')) || (decide (x * y' - y * x' = 0) && ((decide (x = x') && decide (y = y')) || (decide (x' * x' + y' * y' < x * x' + y * y') || decide (x * x + y * y < x * x' + y * y'))))))
def ckA : Bool := (List.range 11).all fun a => (List.range 11).all fun b => (List.range 11).all fun c => (List.range 11).all fun d => ck1 ((a : Int) - 5) ((b : Int) - 5) ((c : Int) - 5) ((d : Int) - 5)
set_option maxRecDepth 100000 in
theorem ckA_t : ckA = true := by decide +kernel
theorem kk_av {x y x' y' : Int} (hx : -5 ≤ x ∧ x ≤ 5) (hy : -5 ≤ y ∧ y ≤ 5) (hx' : -5 ≤ x' ∧ x' ≤ 5) (hy' : -5 ≤ y' ∧ y' ≤ 5) (h1 : ¬ (x = 0 ∧ y = 0)) (h2 : ¬ (x' = 0 ∧ y' = 0)) : av x y x' y' = decide (kk x y < kk x' y') ∧ (kk x y = kk x' y' → x * y' - y * x' = 0 ∧ ((x = x' ∧ y = y') ∨ (x' * x' + y' * y' < x * x' + y * y' ∨ x * x + y * y < x * x' + y * y'))) := by
  have h := ckA_t
  unfold ckA at h
  have a := List.all_eq_true.mp h (x + 5).toNat (List.mem_range.mpr (by omega))
  have b := List.all_eq_true.mp a (y + 5).toNat (List.mem_range.mpr (by omega))
  have c := List.all_eq_true.mp b (x' + 5).toNat (List.mem_range.mpr (by omega))
  have d := List.all_eq_true.mp c (y' + 5).toNat (List.mem_range.mpr (by omega))
  rw [show (((x + 5).toNat : Nat) : Int) - 5 = x by omega, show (((y + 5).toNat : Nat) : Int) - 5 = y by omega, show (((x' + 5).toNat : Nat) : Int) - 5 = x' by omega, show (((y' + 5).toNat : Nat) : Int) - 5 = y' by omega] at d
  unfold ck1 at d
  simp only [Bool.or_eq_true, Bool.and_eq_true, decide_eq_true_eq, Bool.not_eq_true', beq_iff_eq, decide_eq_false_iff_not] at d
  rcases d with (d | d) | d
  · exact absurd d h1
  · exact absurd d h2
  · refine ⟨d.1, fun e => ?_⟩
    rcases d.2 with f | f
    · exact absurd e f
    · exact f

/-! counts -/
theorem cnt_rm {p : Nat → Bool} {n k : Nat} (hk : k < n) (hp : p k = true) : cnt p n = cnt (fun i => p i && !decide (i = k)) n + 1 := by
  induction n with
  | zero => omega
  | succ n ih =>
    by_cases e : k = n
    · subst e
      have : cnt p k = cnt (fun i => p i && !decide (i = k)) k := cnt_congr fun i hi => by
        have : ¬ i = k := by omega
        simp [this]
      rw [cnt_t hp, cnt_f (by simp), this]
    · cases h : p n with
      | true => rw [cnt_t h, cnt_t (by have : ¬ n = k := by omega
                                       simp [h, this]), ih (by omega)]
      | false => rw [cnt_f h, cnt_f (by simp [h]), ih (by omega)]
theorem cnt_sub {p q : Nat → Bool} {n : Nat} (h : ∀ i, i < n → p i = true → q i = true) : cnt p n ≤ cnt q n := by
  induction n with
  | zero => exact Nat.le_refl _
  | succ n ih =>
    have := ih (fun i hi => h i (by omega))
    cases hp : p n with
    | true => rw [cnt_t hp, cnt_t (h n (by omega) hp)]; omega
    | false =>
      rw [cnt_f hp]
      cases hq : q n with
      | true => rw [cnt_t hq]; omega
      | false => rw [cnt_f hq]; exact this
theorem cnt_0 {p : Nat → Bool} {n : Nat} (h : ∀ i, i < n → p i = false) : cnt p n = 0 := by
  induction n with
  | zero => rfl
  | succ n ih => rw [cnt_f (h n (by omega)), ih (fun i hi => h i (by omega))]
theorem cnt_ss {p q : Nat → Bool} {n k : Nat} (h : ∀ i, i < n → p i = true → q i = true) (hk : k < n) (h1 : p k = false) (h2 : q k = true) : cnt p n < cnt q n := by
  rw [cnt_rm hk h2]
  have := cnt_sub (p := p) (q := fun i => q i && !decide (i = k)) (n := n) (fun i hi hp => by
    have : ¬ i = k := fun e => by rw [e, h1] at hp; cases hp
    simp [h i hi hp, this])
  omega
/-- no more than there are places -/
theorem pigeon {n : Nat} : ∀ (d : Nat) (p : Nat → Bool) (f : Nat → Nat), (∀ i, i < n → p i = true → f i < d) → (∀ i j, i < n → j < n → p i = true → p j = true → f i = f j → i = j) → cnt p n ≤ d := by
  intro d
  induction d with
  | zero =>
    intro p f h _
    rw [cnt_0 (fun i hi => by
      cases c : p i with
      | false => rfl
      | true => have := h i hi c; omega)]
    exact Nat.le_refl _
  | succ d ih =>
    intro p f h hi
    by_cases c : ∃ k, k < n ∧ p k = true ∧ f k = d
    · obtain ⟨k, h1, h2, h3⟩ := c
      rw [cnt_rm h1 h2]
      have := ih (fun i => p i && !decide (i = k)) f (fun i hi' hp => by
        simp only [Bool.and_eq_true, Bool.not_eq_true', decide_eq_false_iff_not] at hp
        have a := h i hi' hp.1
        have : f i ≠ d := fun e => hp.2 (hi i k hi' h1 hp.1 h2 (e.trans h3.symm))
        omega) (fun i j hi' hj hp hq e => by
        simp only [Bool.and_eq_true, Bool.not_eq_true', decide_eq_false_iff_not] at hp hq
        exact hi i j hi' hj hp.1 hq.1 e)
      omega
    · have := ih p f (fun i hi' hp => by
        have a := h i hi' hp
        have : f i ≠ d := fun e => c ⟨i, hi', hp, e⟩
        omega) hi
      omega
theorem pigeon_all {n d : Nat} {p : Nat → Bool} {f : Nat → Nat} (h1 : ∀ i, i < n → p i = true → f i < d) (h2 : ∀ i j, i < n → j < n → p i = true → p j = true → f i = f j → i = j) (h3 : cnt p n = d) {t : Nat} (ht : t < d) : ∃ i, i < n ∧ p i = true ∧ f i = t := by
  refine Classical.byContradiction fun c => ?_
  have ne : ∀ i, i < n → p i = true → f i ≠ t := fun i hi hp e => c ⟨i, hi, hp, e⟩
  have := pigeon (n := n) (d - 1) p (fun i => if t < f i then f i - 1 else f i) (fun i hi hp => by
    have a := h1 i hi hp
    have b := ne i hi hp
    show (if t < f i then f i - 1 else f i) < d - 1
    split <;> omega) (fun i j hi hj hp hq e => by
    have a := ne i hi hp
    have b := ne j hj hq
    refine h2 i j hi hj hp hq ?_
    have e : (if t < f i then f i - 1 else f i) = (if t < f j then f j - 1 else f j) := e
    split at e <;> split at e <;> omega)
  omega
