/-! the elimination on whole numbers -/
abbrev BS : Type := (Nat → Nat → Int) × Int × Nat × (Nat → Nat)
def sr (G : Nat → Nat → Int) (k : Nat) : Nat → Nat → Nat
  | 0, r => r
  | n + 1, r => if G r k = 0 then sr G k n (r + 1) else r
def swp (G : Nat → Nat → Int) (r q : Nat) : Nat → Nat → Int := fun i => if i = q then G r else if i = r then G q else G i
def elm (G : Nat → Nat → Int) (d : Int) (p k : Nat) : Nat → Nat → Int := fun i j => if i = p then G i j else (G p k * G i j - G i k * G p j).tdiv d
def rwA (s : BS) (k : Nat) : Nat := sr s.1 k (12 - s.2.2.1) s.2.2.1
def bst (s : BS) (k : Nat) : BS := if rwA s k < 12 then (elm (swp s.1 (rwA s k) s.2.2.1) s.2.1 s.2.2.1 k, s.1 (rwA s k) k, s.2.2.1 + 1, va_up s.2.2.2 s.2.2.1 k) else s
def brun : Nat → BS → BS
  | 0, s => s
  | k + 1, s => brun k (bst s k)
theorem sr_s (G : Nat → Nat → Int) (k n r : Nat) : sr G k (n + 1) r = if G r k = 0 then sr G k n (r + 1) else r := rfl
theorem sr_spec (G : Nat → Nat → Int) (k : Nat) : ∀ n r, r ≤ sr G k n r ∧ sr G k n r ≤ r + n ∧ (∀ i, r ≤ i → i < sr G k n r → G i k = 0) ∧ (sr G k n r < r + n → G (sr G k n r) k ≠ 0) := by
  intro n
  induction n with
  | zero => intro r; exact ⟨Nat.le_refl _, Nat.le_refl _, fun i h1 h2 => absurd (show i < r from h2) (by omega), fun h => absurd (show r < r + 0 from h) (by omega)⟩
  | succ n ih =>
    intro r
    rw [sr_s]
    by_cases h : G r k = 0
    · simp only [h, if_true]
      obtain ⟨h1, h2, h3, h4⟩ := ih (r + 1)
      refine ⟨by omega, by omega, fun i hi1 hi2 => ?_, fun hh => h4 (by omega)⟩
      by_cases e : i = r
      · subst e; exact h
      · exact h3 i (by omega) hi2
    · simp only [h, if_false]
      exact ⟨Nat.le_refl _, by omega, fun i h1 h2 => by omega, fun _ => h⟩
def cA (a : Nat → Nat → Int) (j : Nat) : Nat → Int := fun r => a r j
def cP (a : Nat → Nat → Int) (s : BS) : Nat → Nat → Int := fun l => cA a (s.2.2.2 l)
def BI (a : Nat → Nat → Int) (m k : Nat) (s : BS) : Prop := ∃ (R : List Nat) (pi : Nat → Nat), (R.length = s.2.2.1 ∧ s.2.2.1 + k ≤ m) ∧ Cram R (cP a s) ∧ (Dt R (cP a s) = s.2.1 ∧ s.2.1 ≠ 0) ∧ ((∀ i, i < 12 → pi i < 12) ∧ ∀ r, r < 12 → ∃ i, i < 12 ∧ pi i = r) ∧ ((∀ i, i < s.2.2.1 → pi i ∈ R) ∧ ∀ r, r ∈ R → r < 12) ∧ (∀ i, i < s.2.2.1 → ∀ j, j < 9 → s.1 i j = Ph R (cP a s) i (cA a j)) ∧ (∀ i, s.2.2.1 ≤ i → i < 12 → ∀ j, j < 9 → s.1 i j = Ps R (cP a s) (pi i) (cA a j)) ∧ (∀ l, l < s.2.2.1 → k ≤ s.2.2.2 l ∧ s.2.2.2 l < m) ∧ ∀ j, k ≤ j → j < m → ∀ i, s.2.2.1 ≤ i → i < 12 → s.1 i j = 0
section
variable {a : Nat → Nat → Int} {m k : Nat} {s : BS}
theorem BI_0 (hm : m ≤ 9) (f : Nat → Nat) : BI a m m (a, 1, 0, f) := by
  refine ⟨[], id, ⟨rfl, by show 0 + m ≤ m; omega⟩, Cram_0 _, ⟨rfl, by show (1 : Int) ≠ 0; decide⟩, ⟨fun i h => h, fun r h => ⟨r, h, rfl⟩⟩, ⟨fun i h => absurd h (Nat.not_lt_zero _), fun r h => absurd h List.not_mem_nil⟩, fun i h => absurd h (Nat.not_lt_zero _), fun i _ h j _ => ?_, fun l h => absurd h (Nat.not_lt_zero _), fun j h1 h2 => by omega⟩
  show a i j = cA a j i * 1 - 0
  rw [Int.mul_one, Int.sub_zero]; rfl
/-- entries of the grid are small -/
theorem BI_le (ha : ∀ j, j < 9 → Col (cA a j)) (hm : m ≤ 9) (h : BI a m k s) {i j : Nat} (hi : i < 12) (hj : j < 9) : (s.1 i j).natAbs ≤ 10 ^ (s.2.2.1 + 1) := by
  obtain ⟨R, pi, ⟨h1, h1'⟩, h2, h3, h4, h5, h6, h7, h8, h9⟩ := h
  have hc : ∀ l, l < R.length → Col (cP a s l) := fun l hl => ha _ (by have := h8 l (by omega); omega)
  by_cases e : i < s.2.2.1
  · rw [h6 i e j hj]
    have := Ph_col i hc (ha j hj)
    rw [h1] at this
    exact Nat.le_trans this (Nat.pow_le_pow_right (by omega) (by omega))
  · rw [h7 i (by omega) hi j hj]
    have := Ps_col (pi i) hc (ha j hj)
    rw [h1] at this
    exact this
theorem BI_pl (ha : ∀ j, j < 9 → Col (cA a j)) (hm : m ≤ 9) (h : BI a m k s) {i j : Nat} (hi : i < s.2.2.1) (hj : j < 9) : (s.1 i j).natAbs ≤ 10 ^ s.2.2.1 := by
  obtain ⟨R, pi, ⟨h1, h1'⟩, h2, h3, h4, h5, h6, h7, h8, h9⟩ := h
  have hc : ∀ l, l < R.length → Col (cP a s l) := fun l hl => ha _ (by have := h8 l (by omega); omega)
  rw [h6 i hi j hj, ← h1]
  exact Ph_col i hc (ha j hj)
theorem BI_d (ha : ∀ j, j < 9 → Col (cA a j)) (hm : m ≤ 9) (h : BI a m k s) : s.2.1.natAbs ≤ 10 ^ s.2.2.1 := by
  obtain ⟨R, pi, ⟨h1, h1'⟩, h2, h3, h4, h5, h6, h7, h8, h9⟩ := h
  rw [← h3.1, ← h1]
  exact Dt_col fun l hl => ha _ (by have := h8 l (by omega); omega)
theorem BI_st (hm : m ≤ 9) (h : BI a m (k + 1) s) : BI a m k (bst s k) ∧ (rwA s k < 12 → ∀ i, i < 12 → ∀ j, j < 9 → i ≠ s.2.2.1 → s.2.1 * elm (swp s.1 (rwA s k) s.2.2.1) s.2.1 s.2.2.1 k i j = s.1 (rwA s k) k * swp s.1 (rwA s k) s.2.2.1 i j - swp s.1 (rwA s k) s.2.2.1 i k * s.1 (rwA s k) j) := by
  obtain ⟨R, pi, ⟨h1, h1'⟩, h2, h3, h4, h5, h6, h7, h8, h9⟩ := h
  have hsr := sr_spec s.1 k (12 - s.2.2.1) s.2.2.1
  have hp12 : s.2.2.1 + (12 - s.2.2.1) = 12 := by omega
  rw [hp12] at hsr
  obtain ⟨q1, q2, q3, q4⟩ := hsr
  change s.2.2.1 ≤ rwA s k at q1
  change rwA s k ≤ 12 at q2
  change ∀ i, s.2.2.1 ≤ i → i < rwA s k → s.1 i k = 0 at q3
  change rwA s k < 12 → s.1 (rwA s k) k ≠ 0 at q4
  by_cases hr : rwA s k < 12
  · have hbst : bst s k = (elm (swp s.1 (rwA s k) s.2.2.1) s.2.1 s.2.2.1 k, s.1 (rwA s k) k, s.2.2.1 + 1, va_up s.2.2.2 s.2.2.1 k) := if_pos hr
    generalize rwA s k = r at *
    have q4 := q4 hr
    have hcp : ∀ (X : Nat → Nat → Int) (Y : Int), cP a (X, Y, s.2.2.1 + 1, va_up s.2.2.2 s.2.2.1 k) = cu (cP a s) R.length (cA a k) := by
      intro X Y
      funext l
      show cA a (va_up s.2.2.2 s.2.2.1 k l) = _
      rw [h1]
      by_cases e : l = s.2.2.1
      · subst e; rw [va_up_self, cu_s]
      · rw [va_up_ne _ _ e, cu_n e]; rfl
    obtain ⟨sw, hsw⟩ : ∃ sw : Nat → Nat, sw = fun i => if i = s.2.2.1 then r else if i = r then s.2.2.1 else i := ⟨_, rfl⟩
    have sw1 : sw s.2.2.1 = r := by rw [hsw]; exact if_pos rfl
    have sw2 : sw r = s.2.2.1 := by
      rw [hsw]
      by_cases e : r = s.2.2.1
      · simp [e]
      · simp [e]
    have sw3 : ∀ i, i ≠ s.2.2.1 → i ≠ r → sw i = i := fun i e1 e2 => by rw [hsw]; simp [e1, e2]
    have swl : ∀ i, i < 12 → sw i < 12 := fun i hi => by
      by_cases e1 : i = s.2.2.1
      · subst e1; rw [sw1]; exact hr
      · by_cases e2 : i = r
        · subst e2; rw [sw2]; omega
        · rw [sw3 i e1 e2]; exact hi
    have sws : ∀ i, sw (sw i) = i := fun i => by
      by_cases e1 : i = s.2.2.1
      · subst e1; rw [sw1, sw2]
      · by_cases e2 : i = r
        · subst e2; rw [sw2, sw1]
        · rw [sw3 i e1 e2, sw3 i e1 e2]
    have swg : ∀ i, s.2.2.1 ≤ i → s.2.2.1 ≤ sw i := fun i hi => by
      by_cases e1 : i = s.2.2.1
      · subst e1; rw [sw1]; exact q1
      · by_cases e2 : i = r
        · subst e2; rw [sw2]; exact Nat.le_refl _
        · rw [sw3 i e1 e2]; exact hi
    have hS : ∀ i, swp s.1 r s.2.2.1 i = s.1 (sw i) := fun i => by
      unfold swp
      by_cases e1 : i = s.2.2.1
      · rw [if_pos e1, e1, sw1]
      · rw [if_neg e1]
        by_cases e2 : i = r
        · rw [if_pos e2, e2, sw2]
        · rw [if_neg e2, sw3 i e1 e2]
    have hlead : s.1 r k = Ps R (cP a s) (pi r) (cA a k) := h7 r q1 hr k (by omega)
    have hSp : swp s.1 r s.2.2.1 s.2.2.1 = s.1 r := by rw [hS, sw1]
    -- what division leaves
    have x1 : ∀ i, i < s.2.2.1 → ∀ j, j < 9 → elm (swp s.1 r s.2.2.1) s.2.1 s.2.2.1 k i j = Ph (pi r :: R) (cu (cP a s) R.length (cA a k)) i (cA a j) ∧ s.2.1 * elm (swp s.1 r s.2.2.1) s.2.1 s.2.2.1 k i j = s.1 r k * swp s.1 r s.2.2.1 i j - swp s.1 r s.2.2.1 i k * s.1 r j := by
      intro i hi j hj
      have e := Ph_o (p := pi r) (k := cA a k) h2 (i := i) (by omega) (cA a j)
      rw [← hlead, ← h6 i hi j hj, ← h6 i hi k (by omega), ← h7 r q1 hr j hj, h3.1] at e
      have e2 : swp s.1 r s.2.2.1 i = s.1 i := by rw [hS, sw3 i (by omega) (by omega)]
      have e3 : elm (swp s.1 r s.2.2.1) s.2.1 s.2.2.1 k i j = Ph (pi r :: R) (cu (cP a s) R.length (cA a k)) i (cA a j) := by
        unfold elm
        rw [if_neg (by omega), hSp, e2, ← e, Int.mul_tdiv_cancel_left _ h3.2]
      refine ⟨e3, ?_⟩
      rw [e3, e, e2]
    have x2 : ∀ i, s.2.2.1 < i → i < 12 → ∀ j, j < 9 → elm (swp s.1 r s.2.2.1) s.2.1 s.2.2.1 k i j = Ps (pi r :: R) (cu (cP a s) R.length (cA a k)) (pi (sw i)) (cA a j) ∧ s.2.1 * elm (swp s.1 r s.2.2.1) s.2.1 s.2.2.1 k i j = s.1 r k * swp s.1 r s.2.2.1 i j - swp s.1 r s.2.2.1 i k * s.1 r j := by
      intro i hi hi2 j hj
      have e := Ps_o (p := pi r) (k := cA a k) h2 (pi (sw i)) (cA a j)
      rw [← hlead, ← h7 (sw i) (swg i (by omega)) (swl i hi2) j hj, ← h7 (sw i) (swg i (by omega)) (swl i hi2) k (by omega), ← h7 r q1 hr j hj, h3.1] at e
      have e3 : elm (swp s.1 r s.2.2.1) s.2.1 s.2.2.1 k i j = Ps (pi r :: R) (cu (cP a s) R.length (cA a k)) (pi (sw i)) (cA a j) := by
        unfold elm
        rw [if_neg (by omega), hSp, hS, ← e, Int.mul_tdiv_cancel_left _ h3.2]
      refine ⟨e3, ?_⟩
      rw [e3, e, hS]
    constructor
    · rw [hbst]
      refine ⟨pi r :: R, fun i => pi (sw i), ⟨?_, ?_⟩, ?_, ⟨?_, q4⟩, ⟨fun i hi => h4.1 _ (swl i hi), fun t ht => ?_⟩, ⟨fun i hi => ?_, fun t ht => ?_⟩, fun i hi j hj => ?_, fun i hi hi2 j hj => ?_, fun l hl => ?_, fun j hj hj2 i hi hi2 => ?_⟩
      · show R.length + 1 = s.2.2.1 + 1; omega
      · show s.2.2.1 + 1 + k ≤ m; omega
      · rw [hcp]; exact Cram_n h2 (by rw [h3.1]; exact h3.2)
      · rw [hcp, Dt_n]; exact hlead.symm
      · obtain ⟨i, hi, e⟩ := h4.2 t ht
        exact ⟨sw i, swl i hi, by show pi (sw (sw i)) = t; rw [sws]; exact e⟩
      · have hi : i < s.2.2.1 + 1 := hi
        show pi (sw i) ∈ pi r :: R
        by_cases e : i = s.2.2.1
        · subst e; rw [sw1]; exact List.mem_cons_self
        · rw [sw3 i e (by omega)]; exact List.mem_cons_of_mem _ (h5.1 i (by omega))
      · rcases List.mem_cons.mp ht with rfl | ht
        · exact h4.1 r hr
        · exact h5.2 t ht
      · have hi : i < s.2.2.1 + 1 := hi
        rw [hcp]
        show elm (swp s.1 r s.2.2.1) s.2.1 s.2.2.1 k i j = _
        by_cases e : i = s.2.2.1
        · subst e
          unfold elm
          rw [if_pos rfl, hSp]
          rw [h7 r q1 hr j hj]
          have := Ph_n (R := R) (c := cP a s) (p := pi r) (k := cA a k) (cA a j)
          rw [h1] at this ⊢
          exact this.symm
        · exact (x1 i (by omega) j hj).1
      · have hi : s.2.2.1 + 1 ≤ i := hi
        rw [hcp]
        exact (x2 i (by omega) hi2 j hj).1
      · have hl : l < s.2.2.1 + 1 := hl
        show k ≤ va_up s.2.2.2 s.2.2.1 k l ∧ va_up s.2.2.2 s.2.2.1 k l < m
        by_cases e : l = s.2.2.1
        · subst e; rw [va_up_self]; omega
        · rw [va_up_ne _ _ e]; have := h8 l (by omega); omega
      · have hi : s.2.2.1 + 1 ≤ i := hi
        show elm (swp s.1 r s.2.2.1) s.2.1 s.2.2.1 k i j = 0
        by_cases e : j = k
        · subst e
          rw [(x2 i (by omega) hi2 j (by omega)).1]
          have := Ps_c (R := pi r :: R) (c := cu (cP a s) R.length (cA a j)) (pi (sw i)) R.length (by show R.length < R.length + 1; omega)
          rw [cu_s] at this
          exact this
        · unfold elm
          rw [if_neg (by omega), hSp, hS, h9 j (by omega) hj2 (sw i) (swg i (by omega)) (swl i hi2), h9 j (by omega) hj2 r q1 hr]
          simp
    · intro _ i hi j hj hne
      by_cases e : i < s.2.2.1
      · exact (x1 i e j hj).2
      · exact (x2 i (by omega) hi j hj).2
  · refine ⟨?_, fun h => absurd h hr⟩
    have hbst : bst s k = s := if_neg hr
    rw [hbst]
    refine ⟨R, pi, ⟨h1, by omega⟩, h2, h3, h4, h5, h6, h7, fun l hl => by have := h8 l hl; omega, fun j hj hj2 i hi hi2 => ?_⟩
    by_cases e : j = k
    · subst e; exact q3 i hi (by omega)
    · exact h9 j (by omega) hj2 i hi hi2
theorem BI_run (hm : m ≤ 9) : ∀ (k : Nat) (s : BS), BI a m k s → BI a m 0 (brun k s) := by
  intro k
  induction k with
  | zero => exact fun s h => h
  | succ k ih => exact fun s h => ih _ (BI_st hm h).1
/-- all columns by those of the pivots -/
theorem BI_end (hm : m ≤ 9) (h : BI a m 0 s) {j r : Nat} (hj : j < m) (hr : r < 12) : s.2.1 * a r j = sm s.2.2.1 (fun l => s.1 l j * a r (s.2.2.2 l)) := by
  obtain ⟨R, pi, ⟨h1, h1'⟩, h2, h3, h4, h5, h6, h7, h8, h9⟩ := h
  obtain ⟨i, hi, rfl⟩ := h4.2 r hr
  have e : sm s.2.2.1 (fun l => s.1 l j * a (pi i) (s.2.2.2 l)) = sm R.length (fun l => Ph R (cP a s) l (cA a j) * cP a s l (pi i)) := by
    rw [h1]
    exact sm_congr fun l hl => by rw [h6 l hl j (by omega)]; rfl
  rw [e]
  by_cases c : i < s.2.2.1
  · rw [← h2 (cA a j) (pi i) (h5.1 i c), h3.1]; rfl
  · have z := h9 j (by omega) hj i (by omega) hi
    rw [h7 i (by omega) hi j (by omega)] at z
    unfold Ps at z
    rw [h3.1] at z
    have e2 : sm R.length (fun l => cP a s l (pi i) * Ph R (cP a s) l (cA a j)) = sm R.length (fun l => Ph R (cP a s) l (cA a j) * cP a s l (pi i)) := sm_congr fun l _ => Int.mul_comm _ _
    rw [e2] at z
    have : cA a j (pi i) = a (pi i) j := rfl
    rw [this] at z
    rw [Int.mul_comm]
    omega
/-- pivots: one number in a column of each -/
theorem BI_piv (hm : m ≤ 9) (h : BI a m 0 s) {i l : Nat} (hi : i < s.2.2.1) (hl : l < s.2.2.1) : s.1 i (s.2.2.2 l) = if i = l then s.2.1 else 0 := by
  obtain ⟨R, pi, ⟨h1, h1'⟩, h2, h3, h4, h5, h6, h7, h8, h9⟩ := h
  rw [h6 i hi _ (by have := h8 l hl; omega)]
  have := Ph_c (R := R) (c := cP a s) i l (by omega) (by omega)
  rw [h3.1] at this
  exact this
theorem BI_inj (hm : m ≤ 9) (h : BI a m 0 s) {i l : Nat} (hi : i < s.2.2.1) (hl : l < s.2.2.1) (e : s.2.2.2 i = s.2.2.2 l) : i = l := by
  have h0 : s.2.1 ≠ 0 := by obtain ⟨R, pi, h1, h2, h3, h4⟩ := h; exact h3.2
  have e1 := BI_piv hm h hi hi
  have e2 := BI_piv hm h hi hl
  rw [← e, e1, if_pos rfl] at e2
  exact Classical.byContradiction fun hne => h0 (by rw [e2, if_neg hne])
theorem BI_p (h : BI a m 0 s) : s.2.2.1 ≤ m ∧ s.2.1 ≠ 0 ∧ ∀ l, l < s.2.2.1 → s.2.2.2 l < m := by
  obtain ⟨R, pi, ⟨h1, h1'⟩, h2, h3, h4, h5, h6, h7, h8, h9⟩ := h
  exact ⟨by omega, h3.2, fun l hl => (h8 l hl).2⟩
/-- numbers by which the pivots' columns are told apart -/
theorem BI_ind (hm : m ≤ 9) (h : BI a m 0 s) {x : Nat → Int} (hx : ∀ r, r < 12 → sm s.2.2.1 (fun l => x l * a r (s.2.2.2 l)) = 0) : ∀ i, i < s.2.2.1 → x i = 0 := by
  obtain ⟨R, pi, ⟨h1, h1'⟩, h2, h3, h4, h5, h6, h7, h8, h9⟩ := h
  intro i hi
  have e1 := Dt_sm (R := R) (cP a s) (i := i) (by omega) x (cP a s) s.2.2.1
  have e2 : Dt R (cu (cP a s) i (fun r => sm s.2.2.1 (fun m => x m * cP a s m r))) = Dt R (cu (cP a s) i (fun r => 0 * cP a s 0 r + 0 * cP a s 0 r)) := Dt_congr fun j hj r hr => by
    by_cases e : j = i
    · subst e; rw [cu_s, cu_s]; rw [hx r (h5.2 r hr) |> (fun h => (show sm s.2.2.1 (fun m => x m * cP a s m r) = 0 from h))]; omega
    · rw [cu_n e, cu_n e]
  rw [e2, Dt_lin _ i 0 0 _ _ (by omega), sm_one (k := i) hi (fun m hm hne => by
    have := Ph_c (R := R) (c := cP a s) i m (by omega) (by omega)
    rw [if_neg (Ne.symm hne)] at this
    unfold Ph at this
    rw [this, Int.mul_zero])] at e1
  have := Ph_c (R := R) (c := cP a s) i i (by omega) (by omega)
  rw [if_pos rfl] at this
  unfold Ph at this
  rw [this, h3.1] at e1
  have e3 : x i * s.2.1 = 0 := by rw [← e1]; omega
  rcases Int.mul_eq_zero.mp e3 with h | h
  · exact h
  · exact absurd h h3.2
end
