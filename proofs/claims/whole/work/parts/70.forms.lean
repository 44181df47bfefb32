/-! sums -/
def sm (n : Nat) (f : Nat → Int) : Int := match n with
  | 0 => 0
  | n + 1 => sm n f + f n
theorem sm_0 (f : Nat → Int) : sm 0 f = 0 := rfl
theorem sm_s (n : Nat) (f : Nat → Int) : sm (n + 1) f = sm n f + f n := rfl
theorem sm_congr {n : Nat} {f g : Nat → Int} (h : ∀ i, i < n → f i = g i) : sm n f = sm n g := by
  induction n with
  | zero => rfl
  | succ n ih => rw [sm_s, sm_s, ih (fun i hi => h i (by omega)), h n (by omega)]
theorem sm_zero {n : Nat} {f : Nat → Int} (h : ∀ i, i < n → f i = 0) : sm n f = 0 := by
  induction n with
  | zero => rfl
  | succ n ih => rw [sm_s, ih (fun i hi => h i (by omega)), h n (by omega)]; rfl
theorem sm_add (n : Nat) (f g : Nat → Int) : sm n (fun i => f i + g i) = sm n f + sm n g := by
  induction n with
  | zero => rfl
  | succ n ih => simp only [sm_s, ih]; omega
theorem sm_sub (n : Nat) (f g : Nat → Int) : sm n (fun i => f i - g i) = sm n f - sm n g := by
  induction n with
  | zero => rfl
  | succ n ih => simp only [sm_s, ih]; omega
theorem sm_neg (n : Nat) (f : Nat → Int) : sm n (fun i => - f i) = - sm n f := by
  induction n with
  | zero => rfl
  | succ n ih => simp only [sm_s, ih]; omega
theorem sm_mul (n : Nat) (a : Int) (f : Nat → Int) : sm n (fun i => a * f i) = a * sm n f := by
  induction n with
  | zero => simp [sm_0]
  | succ n ih => simp only [sm_s, ih, Int.mul_add]
theorem sm_mulr (n : Nat) (a : Int) (f : Nat → Int) : sm n (fun i => f i * a) = sm n f * a := by
  induction n with
  | zero => simp [sm_0]
  | succ n ih => simp only [sm_s, ih, Int.add_mul]
theorem sm_lin (n : Nat) (a b : Int) (f g : Nat → Int) : sm n (fun i => a * f i + b * g i) = a * sm n f + b * sm n g := by rw [sm_add, sm_mul, sm_mul]
/-- one summand alone -/
theorem sm_one {n k : Nat} {f : Nat → Int} (hk : k < n) (h : ∀ i, i < n → i ≠ k → f i = 0) : sm n f = f k := by
  induction n with
  | zero => omega
  | succ n ih =>
    rw [sm_s]
    by_cases e : k = n
    · subst e; rw [sm_zero (fun i hi => h i (by omega) (by omega))]; omega
    · rw [ih (by omega) (fun i hi hne => h i (by omega) hne), h n (by omega) (by omega)]; omega
/-- two summands alone -/
theorem sm_two {n k l : Nat} {f : Nat → Int} (hk : k < n) (hl : l < n) (hkl : k ≠ l) (h : ∀ i, i < n → i ≠ k → i ≠ l → f i = 0) : sm n f = f k + f l := by
  have e : sm n f = sm n (fun i => (if i = k then f k else 0) + (if i = l then f l else 0)) := sm_congr fun i hi => by
    by_cases h1 : i = k
    · subst h1; rw [if_pos rfl, if_neg hkl]; omega
    · by_cases h2 : i = l
      · subst h2; rw [if_neg h1, if_pos rfl]; omega
      · rw [if_neg h1, if_neg h2, h i hi h1 h2]; rfl
  rw [e, sm_add, sm_one hk (fun i _ hne => if_neg hne), sm_one hl (fun i _ hne => if_neg hne), if_pos rfl, if_pos rfl]
theorem sm_swap (n m : Nat) (f : Nat → Nat → Int) : sm n (fun i => sm m (fun j => f i j)) = sm m (fun j => sm n (fun i => f i j)) := by
  induction n with
  | zero => simp only [sm_0]; rw [sm_zero (fun _ _ => rfl)]
  | succ n ih => simp only [sm_s, ih, sm_add]
/-! forms: alternating in the columns, by the rows of a list -/
def cu (c : Nat → Nat → Int) (l : Nat) (v : Nat → Int) : Nat → Nat → Int := fun j => if j = l then v else c j
theorem cu_s (c : Nat → Nat → Int) (l : Nat) (v : Nat → Int) : cu c l v l = v := if_pos rfl
theorem cu_n {c : Nat → Nat → Int} {l j : Nat} {v : Nat → Int} (h : j ≠ l) : cu c l v j = c j := if_neg h
theorem cu_cu (c : Nat → Nat → Int) (l : Nat) (v w : Nat → Int) : cu (cu c l v) l w = cu c l w := by
  funext j
  by_cases h : j = l
  · subst h; rw [cu_s, cu_s]
  · rw [cu_n h, cu_n h, cu_n h]
theorem cu_comm {c : Nat → Nat → Int} {l m : Nat} {v w : Nat → Int} (h : l ≠ m) : cu (cu c l v) m w = cu (cu c m w) l v := by
  funext j
  by_cases h1 : j = m
  · subst h1; rw [cu_s, cu_n (Ne.symm h), cu_s]
  · rw [cu_n h1]
    by_cases h2 : j = l
    · subst h2; rw [cu_s, cu_s]
    · rw [cu_n h2, cu_n h2, cu_n h1]
theorem cu_self (c : Nat → Nat → Int) (l : Nat) : cu c l (c l) = c := by
  funext j
  by_cases h : j = l
  · subst h; rw [cu_s]
  · rw [cu_n h]
def Dt : List Nat → (Nat → Nat → Int) → Int
  | [], _ => 1
  | p :: R, c => c R.length p * Dt R c - sm R.length (fun l => c l p * Dt R (cu c l (c R.length)))
theorem Dt_cons (p : Nat) (R : List Nat) (c : Nat → Nat → Int) : Dt (p :: R) c = c R.length p * Dt R c - sm R.length (fun l => c l p * Dt R (cu c l (c R.length))) := rfl
theorem Dt_congr {R : List Nat} : ∀ {c c' : Nat → Nat → Int}, (∀ j, j < R.length → ∀ r, r ∈ R → c j r = c' j r) → Dt R c = Dt R c' := by
  induction R with
  | nil => intros; rfl
  | cons p R ih =>
    intro c c' h
    have hl : ∀ j, j < R.length + 1 → ∀ r, r ∈ p :: R → c j r = c' j r := h
    rw [Dt_cons, Dt_cons, hl R.length (by omega) p List.mem_cons_self, ih (fun j hj r hr => hl j (by omega) r (List.mem_cons_of_mem _ hr))]
    congr 1
    refine sm_congr fun l hlt => ?_
    rw [hl l (by omega) p List.mem_cons_self]
    congr 1
    refine ih fun j hj r hr => ?_
    by_cases e : j = l
    · subst e; rw [cu_s, cu_s]; exact hl _ (by omega) r (List.mem_cons_of_mem _ hr)
    · rw [cu_n e, cu_n e]; exact hl j (by omega) r (List.mem_cons_of_mem _ hr)
theorem Dt_lin {R : List Nat} : ∀ (c : Nat → Nat → Int) (i : Nat) (a b : Int) (v w : Nat → Int), i < R.length → Dt R (cu c i (fun r => a * v r + b * w r)) = a * Dt R (cu c i v) + b * Dt R (cu c i w) := by
  induction R with
  | nil => intro c i a b v w h; exact absurd h (Nat.not_lt_zero _)
  | cons p R ih =>
    intro c i a b v w h
    have h : i < R.length + 1 := h
    rw [Dt_cons, Dt_cons, Dt_cons]
    by_cases e : i = R.length
    · subst e
      rw [cu_s, cu_s, cu_s]
      have k1 : ∀ u, Dt R (cu c R.length u) = Dt R c := fun u => Dt_congr fun j hj r _ => by rw [cu_n (by omega)]
      rw [k1, k1, k1]
      have k2 : ∀ (u x : Nat → Int) (l : Nat), l < R.length → Dt R (cu (cu c R.length u) l x) = Dt R (cu c l x) := fun u x l hl => Dt_congr fun j hj r _ => by
        by_cases e : j = l
        · subst e; rw [cu_s, cu_s]
        · rw [cu_n e, cu_n e, cu_n (by omega)]
      have k3 : sm R.length (fun l => cu c R.length (fun r => a * v r + b * w r) l p * Dt R (cu (cu c R.length (fun r => a * v r + b * w r)) l (fun r => a * v r + b * w r))) = a * sm R.length (fun l => cu c R.length v l p * Dt R (cu (cu c R.length v) l v)) + b * sm R.length (fun l => cu c R.length w l p * Dt R (cu (cu c R.length w) l w)) := by
        rw [← sm_lin]
        refine sm_congr fun l hl => ?_
        rw [k2 _ _ l hl, k2 _ _ l hl, k2 _ _ l hl, ih c l a b v w hl, cu_n (by omega), cu_n (by omega), cu_n (by omega)]
        grind
      rw [k3]
      grind
    · have hi : i < R.length := by omega
      rw [cu_n (by omega), cu_n (by omega), cu_n (by omega), ih c i a b v w hi]
      have k3 : sm R.length (fun l => cu c i (fun r => a * v r + b * w r) l p * Dt R (cu (cu c i (fun r => a * v r + b * w r)) l (c R.length))) = a * sm R.length (fun l => cu c i v l p * Dt R (cu (cu c i v) l (c R.length))) + b * sm R.length (fun l => cu c i w l p * Dt R (cu (cu c i w) l (c R.length))) := by
        rw [← sm_lin]
        refine sm_congr fun l hl => ?_
        by_cases e2 : l = i
        · subst e2
          rw [cu_cu, cu_cu, cu_cu, cu_s, cu_s, cu_s]
          grind
        · rw [cu_comm (Ne.symm e2), cu_comm (Ne.symm e2), cu_comm (Ne.symm e2), ih _ i a b v w hi, cu_n e2, cu_n e2, cu_n e2]
          grind
      rw [k3]
      grind
theorem Dt_swap_of {R : List Nat} (halt : ∀ (c : Nat → Nat → Int) (i j : Nat), i < R.length → j < R.length → i ≠ j → c i = c j → Dt R c = 0) (c : Nat → Nat → Int) (i j : Nat) (hi : i < R.length) (hj : j < R.length) (hij : i ≠ j) (v w : Nat → Int) : Dt R (cu (cu c i v) j w) = - Dt R (cu (cu c i w) j v) := by
  have h0 := halt (cu (cu c i (fun r => 1 * v r + 1 * w r)) j (fun r => 1 * v r + 1 * w r)) i j hi hj hij (by rw [cu_s, cu_n hij, cu_s])
  have hv := halt (cu (cu c i v) j v) i j hi hj hij (by rw [cu_s, cu_n hij, cu_s])
  have hw := halt (cu (cu c i w) j w) i j hi hj hij (by rw [cu_s, cu_n hij, cu_s])
  rw [Dt_lin _ j 1 1 v w hj, cu_comm hij, cu_comm hij, Dt_lin _ i 1 1 v w hi, Dt_lin _ i 1 1 v w hi, cu_comm (Ne.symm hij), cu_comm (Ne.symm hij), cu_comm (Ne.symm hij), cu_comm (Ne.symm hij)] at h0
  omega
theorem Dt_alt {R : List Nat} : ∀ (c : Nat → Nat → Int) (i j : Nat), i < R.length → j < R.length → i ≠ j → c i = c j → Dt R c = 0 := by
  induction R with
  | nil => intro c i j h; exact absurd h (Nat.not_lt_zero _)
  | cons p R ih =>
    have main : ∀ (c : Nat → Nat → Int) (i j : Nat), i < j → j < R.length + 1 → c i = c j → Dt (p :: R) c = 0 := by
      intro c i j hij hj he
      rw [Dt_cons]
      by_cases e : j = R.length
      · subst e
        rw [sm_one (k := i) hij (fun l hl hne => by rw [ih _ l i hl hij hne (by rw [cu_s, cu_n (Ne.symm hne), he])]; simp), he]
        rw [show cu c i (c R.length) = c by rw [← he, cu_self]]
        omega
      · rw [ih c i j (by omega) (by omega) (by omega) he, sm_two (k := i) (l := j) (by omega) (by omega) (by omega) (fun l hl h1 h2 => by
          rw [ih _ i j (by omega) (by omega) (by omega) (by rw [cu_n (Ne.symm h1), cu_n (Ne.symm h2), he])]; simp)]
        have s := Dt_swap_of ih c i j (by omega) (by omega) (by omega) (c R.length) (c i)
        have e1 : cu (cu c i (c R.length)) j (c i) = cu c i (c R.length) := by
          funext t
          by_cases h : t = j
          · subst h; rw [cu_s, cu_n (by omega), he]
          · rw [cu_n h]
        have e2 : cu (cu c i (c i)) j (c R.length) = cu c j (c R.length) := by rw [cu_self]
        rw [e1, e2] at s
        rw [s, he]
        grind
    intro c i j hi hj hij he
    have hi : i < R.length + 1 := hi
    have hj : j < R.length + 1 := hj
    by_cases h : i < j
    · exact main c i j h hj he
    · exact main c j i (by omega) hi he.symm
theorem Dt_swap {R : List Nat} (c : Nat → Nat → Int) {i j : Nat} (hi : i < R.length) (hj : j < R.length) (hij : i ≠ j) (v w : Nat → Int) : Dt R (cu (cu c i v) j w) = - Dt R (cu (cu c i w) j v) := Dt_swap_of Dt_alt c i j hi hj hij v w
theorem Dt_sm {R : List Nat} (c : Nat → Nat → Int) {i : Nat} (hi : i < R.length) (a : Nat → Int) (v : Nat → Nat → Int) (n : Nat) : Dt R (cu c i (fun r => sm n (fun m => a m * v m r))) = sm n (fun m => a m * Dt R (cu c i (v m))) := by
  induction n with
  | zero =>
    have := Dt_lin (R := R) c i 0 0 (fun _ => 0) (fun _ => 0) hi
    simp only [Int.zero_mul, Int.add_zero] at this
    exact this
  | succ n ih =>
    rw [sm_s, ← ih]
    have := Dt_lin (R := R) c i 1 (a n) (fun r => sm n (fun m => a m * v m r)) (v n) hi
    rw [Int.one_mul] at this
    rw [← this]
    congr 1
    funext j r
    by_cases e : j = i
    · subst e; rw [cu_s, cu_s, sm_s, Int.one_mul]
    · rw [cu_n e, cu_n e]
/-! one row and one column more -/
def Ph (R : List Nat) (c : Nat → Nat → Int) (l : Nat) (v : Nat → Int) : Int := Dt R (cu c l v)
def Ps (R : List Nat) (c : Nat → Nat → Int) (r : Nat) (v : Nat → Int) : Int := v r * Dt R c - sm R.length (fun l => c l r * Ph R c l v)
def Cram (R : List Nat) (c : Nat → Nat → Int) : Prop := ∀ (v : Nat → Int) (r : Nat), r ∈ R → Dt R c * v r = sm R.length (fun l => Ph R c l v * c l r)
theorem Ps_eq (R : List Nat) (c : Nat → Nat → Int) (r : Nat) (v : Nat → Int) : Dt (r :: R) (cu c R.length v) = Ps R c r v := by
  rw [Dt_cons, cu_s]
  unfold Ps Ph
  congr 1
  · congr 1
    exact Dt_congr fun j hj r _ => by rw [cu_n (by omega)]
  · refine sm_congr fun l hl => ?_
    rw [cu_n (by omega)]
    congr 1
    exact Dt_congr fun j hj r _ => by
      by_cases e : j = l
      · subst e; rw [cu_s, cu_s]
      · rw [cu_n e, cu_n e, cu_n (by omega)]
theorem Cram_pl {R : List Nat} {c : Nat → Nat → Int} (h : Cram R c) {i l : Nat} (hi : i < R.length) (hl : l < R.length) (hil : i ≠ l) (v k : Nat → Int) : Dt R c * Dt R (cu (cu c i v) l k) = Ph R c i v * Ph R c l k - Ph R c i k * Ph R c l v := by
  have e1 : Dt R c * Dt R (cu (cu c i v) l k) = Dt R (cu (cu c l k) i (fun r => sm R.length (fun m => Ph R c m v * c m r))) := by
    have := Dt_lin (R := R) (cu c l k) i (Dt R c) 0 v v hi
    rw [cu_comm hil]
    rw [Int.zero_mul, Int.add_zero] at this
    rw [← this]
    refine Dt_congr fun j hj r hr => ?_
    by_cases e : j = i
    · subst e; rw [cu_s, cu_s, ← h v r hr]; omega
    · rw [cu_n e, cu_n e]
  rw [e1, Dt_sm _ hi, sm_two hi hl hil (fun m hm h1 h2 => by
    rw [Dt_alt _ i m hi hm (Ne.symm h1) (by rw [cu_s, cu_n h1, cu_n h2])]; simp)]
  have e2 : cu (cu c l k) i (c i) = cu c l k := by
    have : (cu c l k) i = c i := cu_n hil
    rw [← this, cu_self]
  have e3 : Dt R (cu (cu c l k) i (c l)) = - Dt R (cu c i k) := by
    rw [cu_comm (Ne.symm hil), Dt_swap c hi hl hil (c l) k]
    have : cu (cu c i k) l (c l) = cu c i k := by
      have : (cu c i k) l = c l := cu_n (Ne.symm hil)
      rw [← this, cu_self]
    rw [this]
  rw [e2, e3]
  unfold Ph
  grind
