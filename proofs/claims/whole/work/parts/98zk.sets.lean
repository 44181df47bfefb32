/-! sums over sets of bars -/
section
def ts (F : Nat → Nat) (p m : Nat) : Nat → Nat
  | 0 => 0
  | u + 1 => ts F p m u + F u * wtS p u m
theorem ts_s (F : Nat → Nat) (p m u : Nat) : ts F p m (u + 1) = ts F p m u + F u * wtS p u m := rfl
theorem ts_congr {F G : Nat → Nat} {p m N : Nat} (h : ∀ u, u < N → F u = G u) : ts F p m N = ts G p m N := by
  induction N with
  | zero => rfl
  | succ N ih => rw [ts_s, ts_s, ih (fun u hu => h u (by omega)), h N (by omega)]
theorem ts_add (F G : Nat → Nat) (p m N : Nat) : ts (fun u => F u + G u) p m N = ts F p m N + ts G p m N := by
  induction N with
  | zero => rfl
  | succ N ih => rw [ts_s, ts_s, ts_s, ih, Nat.add_mul]; omega
theorem ts_0 (p m N : Nat) : ts (fun _ => 0) p m N = 0 := by
  induction N with
  | zero => rfl
  | succ N ih => rw [ts_s, ih, Nat.zero_mul]
theorem ts_mul (F : Nat → Nat) (a p m N : Nat) : ts (fun u => F u * a) p m N = ts F p m N * a := by
  induction N with
  | zero => exact (Nat.zero_mul _).symm
  | succ N ih => rw [ts_s, ts_s, ih, Nat.add_mul, Nat.mul_right_comm]
theorem wtS_c {p u v : Nat} : ∀ k, (∀ i, i < k → v.testBit i = u.testBit i) → wtS p v k = wtS p u k := by
  intro k
  induction k with
  | zero => intro _; rfl
  | succ k ih =>
    intro h
    show wtS p v k * (if v.testBit k = true then 10 - p else p) = wtS p u k * (if u.testBit k = true then 10 - p else p)
    rw [ih (fun i hi => h i (by omega)), h k (by omega)]
theorem bt_hi {u m : Nat} (h : u < 2 ^ m) : (2 ^ m + u).testBit m = true := by rw [Nat.testBit_two_pow_add_eq, Nat.testBit_lt_two_pow h]; rfl
theorem bt_lo {u m i : Nat} (h : i < m) : (2 ^ m + u).testBit i = u.testBit i := Nat.testBit_two_pow_add_gt h u
theorem ts_half (F : Nat → Nat) (p m : Nat) : ts F p (m + 1) (2 ^ (m + 1)) = ts F p m (2 ^ m) * p + ts (fun u => F (2 ^ m + u)) p m (2 ^ m) * (10 - p) := by
  have lo : ∀ N, N ≤ 2 ^ m → ts F p (m + 1) N = ts F p m N * p := by
    intro N
    induction N with
    | zero => intro _; exact (Nat.zero_mul _).symm
    | succ N ih =>
      intro hN
      rw [ts_s, ts_s, ih (by omega), Nat.add_mul]
      congr 1
      show F N * (wtS p N m * (if N.testBit m = true then 10 - p else p)) = F N * wtS p N m * p
      rw [Nat.testBit_lt_two_pow (show N < 2 ^ m by omega), if_neg (by decide), Nat.mul_assoc]
  have hi : ∀ N, N ≤ 2 ^ m → ts F p (m + 1) (2 ^ m + N) = ts F p m (2 ^ m) * p + ts (fun u => F (2 ^ m + u)) p m N * (10 - p) := by
    intro N
    induction N with
    | zero =>
      intro _
      show ts F p (m + 1) (2 ^ m) = ts F p m (2 ^ m) * p + 0 * (10 - p)
      rw [lo _ (Nat.le_refl _), Nat.zero_mul, Nat.add_zero]
    | succ N ih =>
      intro hN
      rw [show 2 ^ m + (N + 1) = 2 ^ m + N + 1 from rfl, ts_s, ts_s, ih (by omega), Nat.add_mul, Nat.add_assoc]
      congr 2
      show F (2 ^ m + N) * (wtS p (2 ^ m + N) m * (if (2 ^ m + N).testBit m = true then 10 - p else p)) = F (2 ^ m + N) * wtS p N m * (10 - p)
      rw [bt_hi (by omega), if_pos rfl, wtS_c m (fun i h => bt_lo h), Nat.mul_assoc]
  have := hi (2 ^ m) (Nat.le_refl _)
  rw [show 2 ^ m + 2 ^ m = 2 ^ (m + 1) by rw [Nat.pow_succ]; omega] at this
  exact this
def mi0 (u : Nat) : Nat → Bool
  | 0 => true
  | m + 1 => mi0 u m && u.testBit m
def mi1 (g : Nat → Bool) (u : Nat) : Nat → Bool
  | 0 => false
  | m + 1 => if u.testBit m = true then mi1 g u m else mi0 u m && g m
def mi2 (h : Nat → Nat → Bool) (u : Nat) : Nat → Bool
  | 0 => false
  | m + 1 => if u.testBit m = true then mi2 h u m else mi1 (h m) u m
theorem e0_s (u m : Nat) : mi0 u (m + 1) = (mi0 u m && u.testBit m) := rfl
theorem e1_s (g : Nat → Bool) (u m : Nat) : mi1 g u (m + 1) = if u.testBit m = true then mi1 g u m else mi0 u m && g m := rfl
theorem e2_s (h : Nat → Nat → Bool) (u m : Nat) : mi2 h u (m + 1) = if u.testBit m = true then mi2 h u m else mi1 (h m) u m := rfl
theorem e0_c {u v : Nat} : ∀ k, (∀ i, i < k → v.testBit i = u.testBit i) → mi0 v k = mi0 u k := by
  intro k
  induction k with
  | zero => intro _; rfl
  | succ k ih => intro h; rw [e0_s, e0_s, ih (fun i hi => h i (by omega)), h k (by omega)]
theorem e1_c {g : Nat → Bool} {u v : Nat} : ∀ k, (∀ i, i < k → v.testBit i = u.testBit i) → mi1 g v k = mi1 g u k := by
  intro k
  induction k with
  | zero => intro _; rfl
  | succ k ih => intro h; rw [e1_s, e1_s, ih (fun i hi => h i (by omega)), h k (by omega), e0_c k (fun i hi => h i (by omega))]
theorem e2_c {g : Nat → Nat → Bool} {u v : Nat} : ∀ k, (∀ i, i < k → v.testBit i = u.testBit i) → mi2 g v k = mi2 g u k := by
  intro k
  induction k with
  | zero => intro _; rfl
  | succ k ih => intro h; rw [e2_s, e2_s, ih (fun i hi => h i (by omega)), h k (by omega), e1_c k (fun i hi => h i (by omega))]
theorem ts_e0 (p : Nat) : ∀ m, ts (fun u => (mi0 u m).toNat) p m (2 ^ m) = (10 - p) ^ m := by
  intro m
  induction m with
  | zero => rfl
  | succ m ih =>
    rw [ts_half, ts_congr (G := fun _ => 0) (fun u hu => by rw [e0_s, Nat.testBit_lt_two_pow hu, Bool.and_false]; rfl), ts_0, ts_congr (F := fun u => (mi0 (2 ^ m + u) (m + 1)).toNat) (G := fun u => (mi0 u m).toNat) (fun u hu => by rw [e0_s, bt_hi hu, Bool.and_true, e0_c m (fun i h => bt_lo h)]), ih, Nat.zero_mul, Nat.zero_add, Nat.pow_succ]
theorem ts_e1 (g : Nat → Bool) (p : Nat) : ∀ m, ts (fun u => (mi1 g u m).toNat) p m (2 ^ m) = cnt g m * p * (10 - p) ^ (m - 1) := by
  intro m
  induction m with
  | zero => show 0 + 0 * 1 = 0 * p * _; simp
  | succ m ih =>
    rw [ts_half, ts_congr (G := fun u => (mi0 u m).toNat * (g m).toNat) (fun u hu => by
      rw [e1_s, Nat.testBit_lt_two_pow hu, if_neg (by decide)]
      cases mi0 u m <;> cases g m <;> rfl), ts_mul, ts_e0, ts_congr (F := fun u => (mi1 g (2 ^ m + u) (m + 1)).toNat) (G := fun u => (mi1 g u m).toNat) (fun u hu => by rw [e1_s, bt_hi hu, if_pos rfl, e1_c m (fun i h => bt_lo h)]), ih]
    show (10 - p) ^ m * (g m).toNat * p + cnt g m * p * (10 - p) ^ (m - 1) * (10 - p) = (cnt g m + (g m).toNat) * p * (10 - p) ^ m
    have e : cnt g m * p * (10 - p) ^ (m - 1) * (10 - p) = cnt g m * p * (10 - p) ^ m := by
      cases m with
      | zero => show 0 * p * _ * _ = 0 * p * _; simp
      | succ m => rw [Nat.mul_assoc, show m + 1 - 1 = m from rfl, ← Nat.pow_succ]
    rw [e]
    generalize (10 - p) ^ m = P
    generalize (g m).toNat = b
    generalize cnt g m = c
    rw [Nat.add_mul, Nat.add_mul, Nat.mul_assoc, Nat.mul_comm P (b * p)]
    omega
def prs (h : Nat → Nat → Bool) : Nat → Nat
  | 0 => 0
  | k + 1 => prs h k + cnt (h k) k
theorem ts_e2 (h : Nat → Nat → Bool) (p : Nat) : ∀ m, ts (fun u => (mi2 h u m).toNat) p m (2 ^ m) = prs h m * p * p * (10 - p) ^ (m - 2) := by
  intro m
  induction m with
  | zero => show 0 + 0 * 1 = 0 * p * p * _; simp
  | succ m ih =>
    rw [ts_half, ts_congr (G := fun u => (mi1 (h m) u m).toNat) (fun u hu => by rw [e2_s, Nat.testBit_lt_two_pow hu, if_neg (by decide)]), ts_e1, ts_congr (F := fun u => (mi2 h (2 ^ m + u) (m + 1)).toNat) (G := fun u => (mi2 h u m).toNat) (fun u hu => by rw [e2_s, bt_hi hu, if_pos rfl, e2_c m (fun i h => bt_lo h)]), ih]
    show cnt (h m) m * p * (10 - p) ^ (m - 1) * p + prs h m * p * p * (10 - p) ^ (m - 2) * (10 - p) = (prs h m + cnt (h m) m) * p * p * (10 - p) ^ (m + 1 - 2)
    have e : prs h m * p * p * (10 - p) ^ (m - 2) * (10 - p) = prs h m * p * p * (10 - p) ^ (m - 1) := by
      rcases (show m = 0 ∨ m = 1 ∨ ∃ i, m = i + 2 from by
        by_cases c : m < 2
        · omega
        · exact Or.inr (Or.inr ⟨m - 2, by omega⟩)) with c | c | ⟨i, c⟩
      · rw [c]; show 0 * p * p * _ * _ = 0 * p * p * _; simp
      · rw [c]; show (0 + 0) * p * p * _ * _ = (0 + 0) * p * p * _; simp
      · rw [c, Nat.mul_assoc, show i + 2 - 2 = i from rfl, show i + 2 - 1 = i + 1 from rfl, ← Nat.pow_succ]
    rw [e, show m + 1 - 2 = m - 1 by omega]
    generalize (10 - p) ^ (m - 1) = P
    generalize cnt (h m) m = b
    generalize prs h m = c
    rw [Nat.add_mul, Nat.add_mul, Nat.add_mul, Nat.mul_right_comm (b * p) P p]
    omega
end
