def ro (f : Nat → Nat) (k : Nat) : Nat → Option Nat
  | 0 => none
  | n + 1 => if f n = k then some n else ro f k n
theorem ro_s (f : Nat → Nat) (k n : Nat) : ro f k (n + 1) = if f n = k then some n else ro f k n := rfl
theorem ro_none {f : Nat → Nat} {k n : Nat} (h : ∀ l, l < n → f l ≠ k) : ro f k n = none := by
  induction n with
  | zero => rfl
  | succ n ih => rw [ro_s, if_neg (h n (by omega))]; exact ih (fun l hl => h l (by omega))
theorem ro_congr {f g : Nat → Nat} {k n : Nat} (h : ∀ l, l < n → f l = g l) : ro f k n = ro g k n := by
  induction n with
  | zero => rfl
  | succ n ih => rw [ro_s, ro_s, h n (by omega), ih (fun l hl => h l (by omega))]
theorem ro_lt {f : Nat → Nat} {k n r : Nat} (h : ro f k n = some r) : r < n ∧ f r = k := by
  induction n with
  | zero => cases h
  | succ n ih =>
    rw [ro_s] at h
    by_cases c : f n = k
    · rw [if_pos c] at h; cases h; exact ⟨by omega, c⟩
    · rw [if_neg c] at h; have := ih h; exact ⟨by omega, this.2⟩
theorem ro_no {f : Nat → Nat} {k n : Nat} (h : ro f k n = none) : ∀ l, l < n → f l ≠ k := by
  induction n with
  | zero => intro l hl; omega
  | succ n ih =>
    rw [ro_s] at h
    by_cases c : f n = k
    · rw [if_pos c] at h; cases h
    · rw [if_neg c] at h
      intro l hl
      by_cases e : l = n
      · subst e; exact c
      · exact ih h l (by omega)
/-- the row in which a bar is told -/
def rO (s : BS) (k : Nat) : Option Nat := ro s.2.2.2 k s.2.2.1
def oI (o : Option Nat) : Int32 := match o with
  | some r => nI r
  | none => -1
section
variable {A : Fm} {q : Nat → Bool} {z : Sto} {n m : Nat}
theorem c_reduceL (hB : BF A) (hn : n ≤ 6) (hm : m ≤ 9) : ∀ (k fl : Nat) (s : BS) (y : Sto), BI (mA A q) m k s → Zr n m s.1 → k ≤ m → k < fl → y.1 95 1 = nI m → y.1 95 2 = nI (2 * n) → y.2 95 3 = iL s.2.1 → RG (y.2 98) s.1 → (∀ j, k ≤ j → j < m → y.1 99 j = oI (rO s j)) → ∃ y', wl3 b_X4_reduce_14 fl (nI s.2.2.1) (iI ((k : Int) - 1)) y = some y' ∧ Ke [95, 98, 99] y y' ∧ y'.1 95 = y.1 95 ∧ y'.2 95 3 = iL (brun k s).2.1 ∧ RG (y'.2 98) (brun k s).1 ∧ ∀ j, j < m → y'.1 99 j = oI (rO (brun k s) j) := by
  intro k
  induction k with
  | zero =>
    intro fl s y hI hz hk hfl y1 y2 y3 y4 y5
    obtain ⟨fl, rfl⟩ : ∃ t, fl = t + 1 := ⟨fl - 1, by omega⟩
    refine ⟨y, ?_, Ke.rf, rfl, y3, y4, fun j hj => y5 j (by omega) hj⟩
    show b_X4_reduce_14 _ _ _ _ = _
    unfold b_X4_reduce_14
    rw [if_pos (by decide)]
  | succ k ih =>
    intro fl s y hI hz hk hfl y1 y2 y3 y4 y5
    obtain ⟨fl, rfl⟩ : ∃ t, fl = t + 1 := ⟨fl - 1, by omega⟩
    obtain ⟨hI', hx⟩ := BI_st hm hI
    have hz' := Zr_st hz (k := k) (by omega)
    obtain ⟨hsm, hd⟩ := BI_sml hB hm hI
    have hpk : s.2.2.1 + (k + 1) ≤ m ∧ s.2.1 ≠ 0 ∧ ∀ l, l < s.2.2.1 → k + 1 ≤ s.2.2.2 l := by
      obtain ⟨R, pi, ⟨_, h1⟩, _, h3, _, _, _, _, h8, _⟩ := hI
      exact ⟨h1, h3.2, fun l hl => (h8 l hl).1⟩
    have hself : stL y 98 (y.2 98) = y := stL_self
    have rw1 := c_rowWith (z := y) (f := y.2 98) hn y4 hsm hz y2 (k := k) (p := s.2.2.1) (by omega) (by omega)
    rw [hself] at rw1
    change f_X4_rowWith (nI k) (nI s.2.2.1) y = some (if rwA s k < 12 then nI (rwA s k) else -1) at rw1
    have hm1 : nI k + (-1 : Int32) = iI ((k : Int) - 1) := by rw [nI_iI, iIm1, iI_add]; rfl
    rw [iI_pred]
    show ∃ y', b_X4_reduce_14 (wl3 b_X4_reduce_14 fl) (nI s.2.2.1) (nI k) y = some y' ∧ _
    unfold b_X4_reduce_14
    rw [if_neg (nI_pos (by omega)), rw1, bds, wrI_nI (by omega) (by omega), bds]
    show ∃ y' : Sto, _ ∧ _ ∧ _ ∧ y'.2 95 3 = iL (brun k (bst s k)).2.1 ∧ RG (y'.2 98) (brun k (bst s k)).1 ∧ ∀ j, j < m → y'.1 99 j = oI (rO (brun k (bst s k)) j)
    by_cases hr : rwA s k < 12
    · have hb : bst s k = (elm (swp s.1 (rwA s k) s.2.2.1) s.2.1 s.2.2.1 k, s.1 (rwA s k) k, s.2.2.1 + 1, va_up s.2.2.2 s.2.2.1 k) := if_pos hr
      have hne : s.1 (rwA s k) k ≠ 0 := (sr_spec s.1 k (12 - s.2.2.1) s.2.2.1).2.2.2 (by show rwA s k < _; omega)
      have hr2 : rwA s k < 2 * n := Classical.byContradiction fun c => hne (hz.1 _ _ (by omega))
      have hpr : s.2.2.1 ≤ rwA s k := (sr_spec s.1 k (12 - s.2.2.1) s.2.2.1).1
      rw [if_pos hr, if_neg (nI_pos (by omega))]
      obtain ⟨w0, hw0⟩ : ∃ w0, w0 = upI y 99 k (-1) := ⟨_, rfl⟩
      have g98 : w0.2 98 = y.2 98 := by rw [hw0]; rfl
      have g95 : w0.1 95 = y.1 95 := by rw [hw0]; exact upI_ne (by decide)
      have g95' : w0.2 95 = y.2 95 := by rw [hw0]; rfl
      obtain ⟨f1, p1, p2⟩ := c_swapRows (z := w0) (f := y.2 98) (m := m) (n := n) y4 hz hm (by rw [g95]; exact y1) (r := rwA s k) (p := s.2.2.1) hr (by omega)
      rw [← g98, stL_self] at p1
      have hzs : Zr n m (swp s.1 (rwA s k) s.2.2.1) := by
        refine ⟨fun i j hi => ?_, fun i j hj => ?_⟩
        · unfold swp; rw [if_neg (by omega), if_neg (by omega)]; exact hz.1 i j hi
        · unfold swp; split
          · exact hz.2 _ j hj
          · split
            · exact hz.2 _ j hj
            · exact hz.2 _ j hj
      obtain ⟨f2, p3, p4⟩ := c_clearColumn (z := w0) (f := f1) (m := m) (n := n) hn p2 (swp_sml hsm hr (by omega)) hd hpk.2.1 hzs hm (by rw [g95]; exact y1) (by rw [g95]; exact y2) (by rw [g95']; exact y3) (p := s.2.2.1) (k := k) (by omega) (by omega)
      have hpp : swp s.1 (rwA s k) s.2.2.1 s.2.2.1 = s.1 (rwA s k) := if_pos rfl
      have p5 : f2 (s.2.2.1 * 9 + k) = iL (s.1 (rwA s k) k) := by
        rw [show s.2.2.1 * 9 + k = 9 * s.2.2.1 + k by omega, p4 _ (by omega) _ (by omega)]
        unfold elm
        rw [if_pos rfl, hpp]
      rw [← hw0, p1, bds, p3, bds]
      obtain ⟨w1, hw1⟩ : ∃ w1, w1 = upI (upL (stL w0 98 f2) 95 3 (iL (s.1 (rwA s k) k))) 99 k (nI s.2.2.1) := ⟨_, rfl⟩
      have t99 : ∀ j, w1.1 99 j = if j = k then nI s.2.2.1 else y.1 99 j := fun j => by
        rw [hw1, upI_at, hw0]
        by_cases c : j = k
        · rw [if_pos ⟨rfl, c⟩, if_pos c]
        · rw [if_neg (fun e => c e.2), if_neg c]
          show (upI y 99 k (-1)).1 99 j = _
          rw [upI_at, if_neg (fun e => c e.2)]
      obtain ⟨y', r1, r2, r3, r4, r5, r6⟩ := ih fl (bst s k) w1 hI' hz' (by omega) (by omega) (by rw [hw1, upI_ne (by decide)]; show w0.1 95 1 = _; rw [g95]; exact y1) (by rw [hw1, upI_ne (by decide)]; show w0.1 95 2 = _; rw [g95]; exact y2) (by rw [hw1, hb]; show (upL (stL w0 98 f2) 95 3 (iL (s.1 (rwA s k) k))).2 95 3 = _; rw [upL_at, if_pos ⟨rfl, rfl⟩]) (by
          rw [hw1, hb]
          show RG ((upL (stL w0 98 f2) 95 3 (iL (s.1 (rwA s k) k))).2 98) _
          rw [upL_ne (by decide), stL_same]
          exact p4) (fun j h1 h2 => by
          rw [t99, hb]
          show _ = oI (ro (va_up s.2.2.2 s.2.2.1 k) j (s.2.2.1 + 1))
          rw [ro_s, va_up_self]
          by_cases c : j = k
          · rw [if_pos c, if_pos c.symm]; rfl
          · rw [if_neg c, if_neg (fun e => c e.symm), ro_congr (g := s.2.2.2) (fun l hl => va_up_ne _ _ (by omega))]
            exact y5 j (by omega) h2)
      refine ⟨y', ?_, ?_, ?_, r4, r5, r6⟩
      · simp (disch := omega) only [bds, bds2, lts, lit, nI_add, pk_mul, nI_leI, nI_ltI, nI_eq, rdI_nI, rdL_nI, wrI_nI, wrL_nI, rdR_nI, if_pos, if_neg, and_true, true_and, and_false, false_and, reduceIte, stL_at, p5]
        rw [hb] at r1
        rw [← hw1]
        have hm2 : nI k + -nI 1 = iI ((k : Int) - 1) := hm1
        rw [hm2]
        exact r1
      · refine Ke.tr ?_ r2
        rw [hw1, hw0]
        exact (((Ke.rf.up (by simp)).stl (by simp)).upl (by simp)).up (by simp)
      · rw [r3, hw1, upI_ne (by decide)]
        exact g95
    · have hb : bst s k = s := if_neg hr
      rw [if_neg hr, if_pos (by decide), lts, hm1]
      obtain ⟨y', r1, r2, r3, r4, r5, r6⟩ := ih fl (bst s k) (upI y 99 k (-1)) hI' hz' (by omega) (by omega) (by rw [upI_ne (by decide)]; exact y1) (by rw [upI_ne (by decide)]; exact y2) (by rw [hb]; exact y3) (by rw [hb]; exact y4) (fun j h1 h2 => by
          rw [hb, upI_at]
          by_cases c : j = k
          · rw [if_pos ⟨rfl, c⟩, c]
            have : rO s k = none := ro_none (fun l hl => by have := hpk.2.2 l hl; omega)
            rw [this]; rfl
          · rw [if_neg (fun e => c e.2)]; exact y5 j (by omega) h2)
      rw [hb] at r1
      exact ⟨y', r1, (Ke.rf.up (by simp)).tr r2, by rw [r3, upI_ne (by decide)], r4, r5, r6⟩
end
