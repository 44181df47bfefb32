section
variable {R : List Nat} {c : Nat → Nat → Int}
theorem Ph_c (i l : Nat) (hi : i < R.length) (hl : l < R.length) : Ph R c i (c l) = if i = l then Dt R c else 0 := by
  unfold Ph
  by_cases h : i = l
  · subst h; rw [if_pos rfl, cu_self]
  · rw [if_neg h]; exact Dt_alt _ i l hi hl h (by rw [cu_s, cu_n (Ne.symm h)])
theorem Ps_c (r l : Nat) (hl : l < R.length) : Ps R c r (c l) = 0 := by
  unfold Ps
  rw [sm_one hl (fun i hi hne => by rw [Ph_c i l hi hl, if_neg hne]; simp), Ph_c l l hl hl, if_pos rfl]
  omega
theorem Ps_in (h : Cram R c) {r : Nat} (hr : r ∈ R) (v : Nat → Int) : Ps R c r v = 0 := by
  have := h v r hr
  unfold Ps
  rw [Int.mul_comm, this, sm_congr (g := fun l => c l r * Ph R c l v) (fun i _ => Int.mul_comm _ _)]
  omega
variable {p : Nat} {k : Nat → Int}
theorem Dt_n : Dt (p :: R) (cu c R.length k) = Ps R c p k := Ps_eq R c p k
theorem Ph_n (v : Nat → Int) : Ph (p :: R) (cu c R.length k) R.length v = Ps R c p v := by
  unfold Ph
  rw [cu_cu, Ps_eq]
theorem Ph_o (h : Cram R c) {i : Nat} (hi : i < R.length) (v : Nat → Int) : Dt R c * Ph (p :: R) (cu c R.length k) i v = Ps R c p k * Ph R c i v - Ph R c i k * Ps R c p v := by
  have hip : i ≠ R.length := by omega
  have e1 : Ph (p :: R) (cu c R.length k) i v = k p * Ph R c i v - sm R.length (fun l => if l = i then v p * Ph R c i k else c l p * Dt R (cu (cu c i v) l k)) := by
    unfold Ph
    rw [Dt_cons, cu_n (Ne.symm hip), cu_s]
    congr 1
    · congr 1
      rw [← cu_comm hip]
      exact Dt_congr fun j hj r _ => by rw [cu_n (by omega)]
    · refine sm_congr fun l hl => ?_
      by_cases e : l = i
      · subst e
        rw [if_pos rfl, cu_s, cu_cu]
        congr 1
        rw [← cu_comm hip]
        exact Dt_congr fun j hj r _ => by rw [cu_n (by omega)]
      · rw [if_neg e, cu_n e, cu_n (by omega)]
        congr 1
        exact Dt_congr fun j hj r _ => by
          by_cases e2 : j = l
          · subst e2; rw [cu_s, cu_s]
          · rw [cu_n e2, cu_n e2]
            by_cases e3 : j = i
            · subst e3; rw [cu_s, cu_s]
            · rw [cu_n e3, cu_n e3, cu_n (by omega)]
  have e2 : Dt R c * sm R.length (fun l => if l = i then v p * Ph R c i k else c l p * Dt R (cu (cu c i v) l k)) = Ph R c i v * sm R.length (fun l => c l p * Ph R c l k) - Ph R c i k * sm R.length (fun l => c l p * Ph R c l v) + Dt R c * (v p * Ph R c i k) := by
    have e3 : Dt R c * (v p * Ph R c i k) = sm R.length (fun l => if l = i then Dt R c * (v p * Ph R c i k) else 0) := by
      rw [sm_one (k := i) hi (fun l _ hne => if_neg hne), if_pos rfl]
    rw [e3, ← sm_mul, ← sm_mul, ← sm_mul, ← sm_sub, ← sm_add]
    refine sm_congr fun l hl => ?_
    by_cases e : l = i
    · subst e; rw [if_pos rfl, if_pos rfl]; grind
    · rw [if_neg e, if_neg e]
      have := Cram_pl h hi hl (Ne.symm e) v k
      grind
  rw [e1, Int.mul_sub, e2]
  unfold Ps
  grind
theorem Ps_o (h : Cram R c) (r : Nat) (v : Nat → Int) : Dt R c * Ps (p :: R) (cu c R.length k) r v = Ps R c p k * Ps R c r v - Ps R c r k * Ps R c p v := by
  have e1 : Ps (p :: R) (cu c R.length k) r v = v r * Ps R c p k - (sm R.length (fun l => c l r * Ph (p :: R) (cu c R.length k) l v) + k r * Ps R c p v) := by
    show v r * Dt (p :: R) (cu c R.length k) - sm (R.length + 1) (fun l => cu c R.length k l r * Ph (p :: R) (cu c R.length k) l v) = _
    rw [Dt_n, sm_s, Ph_n, cu_s]
    congr 2
    exact sm_congr fun l hl => by rw [cu_n (by omega)]
  have e2 : Dt R c * sm R.length (fun l => c l r * Ph (p :: R) (cu c R.length k) l v) = Ps R c p k * sm R.length (fun l => c l r * Ph R c l v) - sm R.length (fun l => c l r * Ph R c l k) * Ps R c p v := by
    rw [← sm_mul, ← sm_mul, ← sm_mulr, ← sm_sub]
    refine sm_congr fun l hl => ?_
    have := Ph_o (p := p) (k := k) h hl v
    grind
  rw [e1, Int.mul_sub, Int.mul_add, e2]
  conv => rhs; rw [show Ps R c r v = v r * Dt R c - sm R.length (fun l => c l r * Ph R c l v) from rfl, show Ps R c r k = k r * Dt R c - sm R.length (fun l => c l r * Ph R c l k) from rfl]
  grind
theorem Cram_n (h : Cram R c) (h0 : Dt R c ≠ 0) : Cram (p :: R) (cu c R.length k) := by
  intro v r hr
  have e1 : sm (R.length + 1) (fun l => Ph (p :: R) (cu c R.length k) l v * cu c R.length k l r) = sm R.length (fun l => Ph (p :: R) (cu c R.length k) l v * c l r) + Ps R c p v * k r := by
    rw [sm_s, Ph_n, cu_s]
    congr 1
    exact sm_congr fun l hl => by rw [cu_n (by omega)]
  have e2 : Dt R c * sm R.length (fun l => Ph (p :: R) (cu c R.length k) l v * c l r) = Ps R c p k * sm R.length (fun l => Ph R c l v * c l r) - sm R.length (fun l => Ph R c l k * c l r) * Ps R c p v := by
    rw [← sm_mul, ← sm_mul, ← sm_mulr, ← sm_sub]
    refine sm_congr fun l hl => ?_
    have := Ph_o (p := p) (k := k) h hl v
    grind
  show Dt (p :: R) (cu c R.length k) * v r = sm (R.length + 1) _
  rw [Dt_n, e1]
  refine Int.eq_of_mul_eq_mul_left h0 ?_
  rw [Int.mul_add, e2]
  rcases List.mem_cons.mp hr with rfl | hr
  · have k1 : ∀ u : Nat → Int, sm R.length (fun l => Ph R c l u * c l r) = u r * Dt R c - Ps R c r u := by
      intro u
      unfold Ps
      rw [sm_congr (g := fun l => c l r * Ph R c l u) (fun i _ => Int.mul_comm _ _)]
      omega
    rw [k1, k1]
    grind
  · rw [← h v r hr, ← h k r hr]
    grind
theorem Cram_0 (c : Nat → Nat → Int) : Cram [] c := fun v r hr => absurd hr (List.not_mem_nil)
end
/-! how large a form may be -/
def tv (i j : Nat) : Nat → Int := fun r => (if r = i then 1 else 0) - (if r = j then 1 else 0)
theorem Dt_w {R : List Nat} (c : Nat → Nat → Int) (t : Nat → Int) (w : Nat → Int) {m : Nat} (hm : m < R.length) : ∀ n, Dt R (cu (fun l => if l < n then (fun r => 1 * c l r + t l * w r) else c l) m w) = Dt R (cu c m w) := by
  intro n
  induction n with
  | zero => exact congrArg (fun x => Dt R (cu x m w)) (funext fun l => if_neg (by omega))
  | succ n ih =>
    rw [← ih]
    have e0 : (fun l => if l < n + 1 then (fun r => 1 * c l r + t l * w r) else c l) = cu (fun l => if l < n then (fun r => 1 * c l r + t l * w r) else c l) n (fun r => 1 * c n r + t n * w r) := by
      funext l
      by_cases e : l = n
      · subst e; rw [cu_s, if_pos (by omega)]
      · rw [cu_n e]
        by_cases h : l < n
        · rw [if_pos h, if_pos (by omega)]
        · rw [if_neg h, if_neg (by omega)]
    rw [e0]
    by_cases hmn : n = m
    · subst hmn; rw [cu_cu]
    · by_cases hn : n < R.length
      · rw [cu_comm hmn, Dt_lin _ n 1 (t n) (c n) w hn, Dt_alt (cu (cu _ m w) n w) n m hn hm hmn (by rw [cu_s, cu_n (Ne.symm hmn), cu_s])]
        rw [Int.one_mul, Int.mul_zero, Int.add_zero, cu_comm (Ne.symm hmn)]
        congr 2
        have : (fun l => if l < n then (fun r => 1 * c l r + t l * w r) else c l) n = c n := if_neg (by omega)
        rw [← this, cu_self]
      · refine Dt_congr fun j hj r _ => ?_
        by_cases e : j = m
        · subst e; rw [cu_s, cu_s]
        · rw [cu_n e, cu_n e, cu_n (by omega)]
theorem Dt_sh {R : List Nat} (c : Nat → Nat → Int) (t : Nat → Int) (w : Nat → Int) : ∀ n, n ≤ R.length → Dt R (fun l => if l < n then (fun r => 1 * c l r + t l * w r) else c l) = Dt R c + sm n (fun l => t l * Dt R (cu c l w)) := by
  intro n
  induction n with
  | zero =>
    intro _
    rw [sm_0, Int.add_zero]
    exact congrArg (Dt R) (funext fun l => if_neg (by omega))
  | succ n ih =>
    intro hn
    have e0 : (fun l => if l < n + 1 then (fun r => 1 * c l r + t l * w r) else c l) = cu (fun l => if l < n then (fun r => 1 * c l r + t l * w r) else c l) n (fun r => 1 * c n r + t n * w r) := by
      funext l
      by_cases e : l = n
      · subst e; rw [cu_s, if_pos (by omega)]
      · rw [cu_n e]
        by_cases h : l < n
        · rw [if_pos h, if_pos (by omega)]
        · rw [if_neg h, if_neg (by omega)]
    have e1 : (fun l => if l < n then (fun r => 1 * c l r + t l * w r) else c l) n = c n := if_neg (by omega)
    rw [e0, Dt_lin _ n 1 (t n) (c n) w (by omega), Dt_w c t w (by omega) n]
    conv => lhs; rw [← e1, cu_self]
    rw [ih (by omega), sm_s]
    omega
/-- of columns that each go from one place to another -/
theorem Dt_tu (R : List Nat) : ∀ c : Nat → Nat → Int, (∀ l, l < R.length → ∃ i j, c l = tv i j) → -1 ≤ Dt R c ∧ Dt R c ≤ 1 := by
  induction R with
  | nil => intro c _; exact ⟨by show (-1 : Int) ≤ 1; decide, by show (1 : Int) ≤ 1; decide⟩
  | cons p R ih =>
    -- the last column is not 0 in this row
    have last : ∀ c : Nat → Nat → Int, (∀ l, l < R.length + 1 → ∃ i j, c l = tv i j) → c R.length p ≠ 0 → -1 ≤ Dt (p :: R) c ∧ Dt (p :: R) c ≤ 1 := by
      intro c hc h0
      obtain ⟨i0, j0, e0⟩ := hc R.length (by omega)
      have sh := Dt_sh (R := R) c (fun l => - (c R.length p * c l p)) (c R.length) R.length (Nat.le_refl _)
      have hT : ∀ l, l < R.length → ∃ i j, (fun r => 1 * c l r + - (c R.length p * c l p) * c R.length r) = tv i j := by
        intro l hl
        obtain ⟨i, j, e⟩ := hc l (by omega)
        have tp : ∀ a b : Nat, tv a b p = (if p = a then 1 else 0) - (if p = b then 1 else 0) := fun _ _ => rfl
        rw [e0] at h0
        rw [e, e0, tp, tp]
        rw [tp] at h0
        by_cases q1 : p = i <;> by_cases q2 : p = j
        · rw [if_pos q1, if_pos q2]; exact ⟨i, j, by funext r; simp⟩
        · by_cases q3 : p = i0 <;> by_cases q4 : p = j0
          · rw [if_pos q3, if_pos q4] at h0; omega
          · refine ⟨j0, j, ?_⟩
            rw [if_pos q1, if_neg q2, if_pos q3, if_neg q4, ← q1, ← q3]; funext r; unfold tv; omega
          · refine ⟨i0, j, ?_⟩
            rw [if_pos q1, if_neg q2, if_neg q3, if_pos q4, ← q1, ← q4]; funext r; unfold tv; omega
          · rw [if_neg q3, if_neg q4] at h0; omega
        · by_cases q3 : p = i0 <;> by_cases q4 : p = j0
          · rw [if_pos q3, if_pos q4] at h0; omega
          · refine ⟨i, j0, ?_⟩
            rw [if_neg q1, if_pos q2, if_pos q3, if_neg q4, ← q2, ← q3]; funext r; unfold tv; omega
          · refine ⟨i, i0, ?_⟩
            rw [if_neg q1, if_pos q2, if_neg q3, if_pos q4, ← q2, ← q4]; funext r; unfold tv; omega
          · rw [if_neg q3, if_neg q4] at h0; omega
        · rw [if_neg q1, if_neg q2]; exact ⟨i, j, by funext r; simp⟩
      have := ih (fun l => if l < R.length then (fun r => 1 * c l r + - (c R.length p * c l p) * c R.length r) else c l) (fun l hl => by rw [if_pos hl]; exact hT l hl)
      rw [sh] at this
      rw [Dt_cons]
      have hs : c R.length p = 1 ∨ c R.length p = -1 := by
        rw [e0] at h0 ⊢
        unfold tv at h0 ⊢
        split at h0 <;> split at h0 <;> simp_all
      have e3 : sm R.length (fun l => - (c R.length p * c l p) * Dt R (cu c l (c R.length))) = - (c R.length p * sm R.length (fun l => c l p * Dt R (cu c l (c R.length)))) := by
        rw [← sm_mul, ← sm_neg]
        exact sm_congr fun l _ => by grind
      rw [e3] at this
      rcases hs with hs | hs <;> rw [hs] at this ⊢ <;> omega
    intro c hc
    have hc : ∀ l, l < R.length + 1 → ∃ i j, c l = tv i j := hc
    by_cases h0 : c R.length p = 0
    · by_cases h1 : ∀ l, l < R.length → c l p = 0
      · rw [Dt_cons, h0, sm_zero (fun l hl => by rw [h1 l hl, Int.zero_mul])]
        exact ⟨by omega, by omega⟩
      · obtain ⟨l, hl, h2⟩ : ∃ l, l < R.length ∧ c l p ≠ 0 := by
          refine Classical.byContradiction fun h => h1 fun l hl => ?_
          exact Classical.byContradiction fun h2 => h ⟨l, hl, h2⟩
        have s := Dt_swap (R := p :: R) c (i := l) (j := R.length) (show l < R.length + 1 by omega) (show R.length < R.length + 1 by omega) (by omega) (c l) (c R.length)
        rw [cu_self, cu_self] at s
        rw [s]
        have := last (cu (cu c l (c R.length)) R.length (c l)) (fun m hm => by
          by_cases e1 : m = R.length
          · subst e1; rw [cu_s]; exact hc l (by omega)
          · rw [cu_n e1]
            by_cases e2 : m = l
            · subst e2; rw [cu_s]; exact hc _ (by omega)
            · rw [cu_n e2]; exact hc m hm) (by rw [cu_s]; exact h2)
        omega
    · exact last c hc h0
/-- a column of a bar: a step across and one up, from joint to joint -/
def Col (v : Nat → Int) : Prop := ∃ (x y : Int) (a b a' b' : Nat), x.natAbs + y.natAbs ≤ 10 ∧ ∀ r, v r = x * tv a b r + y * tv a' b' r
theorem Dt_bd (R : List Nat) : ∀ (n : Nat) (c : Nat → Nat → Int), n ≤ R.length → (∀ l, l < n → Col (c l)) → (∀ l, n ≤ l → l < R.length → ∃ i j, c l = tv i j) → (Dt R c).natAbs ≤ 10 ^ n := by
  intro n
  induction n with
  | zero =>
    intro c _ _ h
    have := Dt_tu R c (fun l hl => h l (Nat.zero_le _) hl)
    simp only [Nat.pow_zero]
    omega
  | succ n ih =>
    intro c hn hc ht
    obtain ⟨x, y, a, b, a', b', hxy, hv⟩ := hc n (by omega)
    have e : Dt R c = x * Dt R (cu c n (tv a b)) + y * Dt R (cu c n (tv a' b')) := by
      rw [← Dt_lin c n x y _ _ (by omega)]
      refine Dt_congr fun j hj r _ => ?_
      by_cases e : j = n
      · subst e; rw [cu_s]; exact hv r
      · rw [cu_n e]
    have k : ∀ i j : Nat, (Dt R (cu c n (tv i j))).natAbs ≤ 10 ^ n := fun i j => ih _ (by omega) (fun l hl => by rw [cu_n (by omega)]; exact hc l (by omega)) (fun l hl h2 => by
      by_cases e : l = n
      · subst e; rw [cu_s]; exact ⟨i, j, rfl⟩
      · rw [cu_n e]; exact ht l (by omega) h2)
    rw [e]
    have m1 := Nat.mul_le_mul_left x.natAbs (k a b)
    have m2 := Nat.mul_le_mul_left y.natAbs (k a' b')
    have m3 := Nat.mul_le_mul_right (10 ^ n) hxy
    have t := Int.natAbs_add_le (x * Dt R (cu c n (tv a b))) (y * Dt R (cu c n (tv a' b')))
    rw [Int.natAbs_mul, Int.natAbs_mul] at t
    rw [Nat.pow_succ, Nat.mul_comm]
    rw [Nat.add_mul] at m3
    omega
theorem Dt_col {R : List Nat} {c : Nat → Nat → Int} (hc : ∀ l, l < R.length → Col (c l)) : (Dt R c).natAbs ≤ 10 ^ R.length := Dt_bd R R.length c (Nat.le_refl _) hc (fun l h1 h2 => by omega)
theorem Ph_col {R : List Nat} {c : Nat → Nat → Int} {v : Nat → Int} (i : Nat) (hc : ∀ l, l < R.length → Col (c l)) (hv : Col v) : (Ph R c i v).natAbs ≤ 10 ^ R.length := Dt_col fun l hl => by
  by_cases e : l = i
  · subst e; rw [cu_s]; exact hv
  · rw [cu_n e]; exact hc l hl
theorem Ps_col {R : List Nat} {c : Nat → Nat → Int} {v : Nat → Int} (r : Nat) (hc : ∀ l, l < R.length → Col (c l)) (hv : Col v) : (Ps R c r v).natAbs ≤ 10 ^ (R.length + 1) := by
  rw [← Ps_eq]
  refine Dt_col (R := r :: R) fun l hl => ?_
  have hl : l < R.length + 1 := hl
  by_cases e : l = R.length
  · subst e; rw [cu_s]; exact hv
  · rw [cu_n e]; exact hc l (by omega)
