def tch (A : Fm) (j k : Nat) : Bool := decide (fA A k = j) || decide (fB A k = j)
def rmv (j : Nat) : Nat → Fm → Fm
  | 0, A => A
  | k + 1, A => rmv j k (if tch A j k then ot A k else A)
def rnb (A : Fm) (j : Nat) : Fm := ((fN A, fM A), (fX A, fY A), ((fun k => if j < fA A k then fA A k - 1 else fA A k), (fun k => if j < fB A k then fB A k - 1 else fB A k)), fW A, fD A)
def upj (j i : Nat) : Nat := if i < j then i else i + 1
def dj (A : Fm) (j : Nat) : Fm := ((fN A - 1, fM A), ((fun i => fX A (upj j i)), (fun i => fY A (upj j i))), (fA A, fB A), fW A, fD A)
def lsF (A : Fm) (j : Nat) : Fm := dj (rnb (rmv j (fM A) A) j) j
theorem rmv_N (j k : Nat) (A : Fm) : fN (rmv j k A) = fN A := by
  induction k generalizing A with
  | zero => rfl
  | succ k ih => simp only [rmv]; rw [ih]; split <;> rfl
theorem rmv_X (j k : Nat) (A : Fm) : fX (rmv j k A) = fX A ∧ fY (rmv j k A) = fY A ∧ fW (rmv j k A) = fW A ∧ fD (rmv j k A) = fD A := by
  induction k generalizing A with
  | zero => exact ⟨rfl, rfl, rfl, rfl⟩
  | succ k ih =>
    simp only [rmv]
    obtain ⟨h1, h2, h3, h4⟩ := ih (if tch A j k then ot A k else A)
    rw [h1, h2, h3, h4]
    split <;> exact ⟨rfl, rfl, rfl, rfl⟩
theorem rmv_B (j k : Nat) (A : Fm) (hB : BF A) (hk : k ≤ fM A) : BF (rmv j k A) := by
  induction k generalizing A with
  | zero => exact hB
  | succ k ih =>
    simp only [rmv]
    split
    · exact ih _ (BF_ot hB (by omega)) (by show k ≤ fM A - 1; omega)
    · exact ih _ hB (by omega)
/-- no bar of it comes to j -/
theorem rmv_free (j k : Nat) (A : Fm) (hk : k ≤ fM A) (h : ∀ l, k ≤ l → l < fM A → tch A j l = false) : ∀ l, l < fM (rmv j k A) → tch (rmv j k A) j l = false := by
  induction k generalizing A with
  | zero => intro l hl; exact h l (Nat.zero_le _) hl
  | succ k ih =>
    simp only [rmv]
    cases hc : tch A j k with
    | true =>
      rw [if_pos rfl]
      refine ih _ (by show k ≤ fM A - 1; omega) (fun l h1 h2 => ?_)
      have h2 : l < fM A - 1 := h2
      have := h (l + 1) (by omega) (by omega)
      have e1 : fA (ot A k) l = fA A (l + 1) := by show sk (fA A) k l = _; unfold sk; rw [if_neg (by omega)]
      have e2 : fB (ot A k) l = fB A (l + 1) := by show sk (fB A) k l = _; unfold sk; rw [if_neg (by omega)]
      unfold tch at this ⊢
      rw [e1, e2]; exact this
    | false =>
      rw [if_neg (by decide)]
      refine ih _ (by omega) (fun l h1 h2 => ?_)
      by_cases e : l = k
      · subst e; exact hc
      · exact h l (by omega) h2
section
variable {z : Sto} {q : Nat} {A : Fm}
theorem iIm1 : (-1 : Int32) = iI (-1) := by decide
theorem nI_sub0 (a : Nat) : nI a - (0 : Int32) = nI a := pk_sub (Nat.zero_le a)
theorem nI_sub1 {a : Nat} (h : 1 ≤ a) : nI a - (1 : Int32) = nI (a - 1) := pk_sub h
theorem iI_pred (k : Nat) : iI (((k + 1 : Nat) : Int) - 1) = nI k := by rw [nI_iI]; congr 1; omega
theorem c_lose1 (hk9 : True) : ∀ (k n : Nat) (A : Fm) (z : Sto) (j : Nat), BF A → RepC z q A → k ≤ fM A → k < n → j < fN A → ∃ z', wl3 (b_X1_loseJoint_7 q) n (nI j) (iI ((k : Int) - 1)) z = wl3 (b_X1_loseJoint_44 q) fu (nI j) 0 z' ∧ RepC z' q (rmv j k A) ∧ Fr q z z' := by
  intro k
  induction k with
  | zero =>
    intro n A z j hB hR hk hn hj
    obtain ⟨n, rfl⟩ : ∃ t, n = t + 1 := ⟨n - 1, by omega⟩
    refine ⟨z, ?_, hR, Fr.rf⟩
    show b_X1_loseJoint_7 q _ _ _ _ = _
    unfold b_X1_loseJoint_7
    rw [if_pos (by decide)]
  | succ k ih =>
    intro n A z j hB hR hk hn hj
    obtain ⟨n, rfl⟩ : ∃ t, n = t + 1 := ⟨n - 1, by omega⟩
    have h9 := hB.2.1
    have h6 := hB.1
    have hk2 := hB.2.2.2 k (by omega)
    have em : nI k + (-1 : Int32) = iI ((k : Int) - 1) := by rw [nI_iI, iIm1, iI_add]; rfl
    show ∃ z', b_X1_loseJoint_7 q (wl3 (b_X1_loseJoint_7 q) n) _ _ _ = _ ∧ _
    unfold b_X1_loseJoint_7
    rw [iI_pred, if_neg (nI_pos (by omega)), rdI_nI (by omega) (by omega), rdI_nI (by omega) (by omega), hR.2.2.2.1 k (by omega), hR.2.2.2.2.1 k (by omega)]
    simp only [bd_some, lt_eq]
    have take : tch A j k = true → ∃ z', j_X1_loseJoint_31 q (wl3 (b_X1_loseJoint_7 q) n) (nI j) (nI k) z = wl3 (b_X1_loseJoint_44 q) fu (nI j) 0 z' ∧ RepC z' q (rmv j (k + 1) A) ∧ Fr q z z' := by
      intro hc
      obtain ⟨z1, e1, e2, e3⟩ := c_takeOut hB hR (k := k) (by omega)
      obtain ⟨z2, g1, g2, g3⟩ := ih n (ot A k) z1 j (BF_ot hB (by omega)) e2 (by show k ≤ fM A - 1; omega) (by omega) hj
      refine ⟨z2, ?_, ?_, e3.tr g3⟩
      · unfold j_X1_loseJoint_31
        rw [e1, bd_some, lt_eq, em]
        exact g1
      · simp only [rmv]; rw [hc, if_pos rfl]; exact g2
    by_cases c1 : fA A k = j
    · rw [if_pos (by rw [c1])]
      exact take (by simp [tch, c1])
    · rw [if_neg (fun h => c1 ((nI_eq (by omega) (by omega)).mp h))]
      by_cases c2 : fB A k = j
      · rw [if_pos (by rw [c2])]
        exact take (by simp [tch, c2])
      · rw [if_neg (fun h => c2 ((nI_eq (by omega) (by omega)).mp h)), em]
        obtain ⟨z2, g1, g2, g3⟩ := ih n A z j hB hR (by omega) (by omega) hj
        refine ⟨z2, g1, ?_, g3⟩
        simp only [rmv]; rw [show tch A j k = false by simp [tch, c1, c2], if_neg (by decide)]; exact g2
theorem f_asBit_0 : f_X6_asBit 0 z = some 0 := rfl
theorem f_asBit_1 : f_X6_asBit 1 z = some 1 := rfl
/-- the second loop: numbers behind j get less -/
theorem c_lose2 (hB : BF A) {j : Nat} (hj : j < fN A) : ∀ (d k n : Nat) (y : Sto), k + d = fM A → d < n → Fr q z y → (y.1 q 0 = nI (fN A) ∧ y.1 q 1 = nI (fM A) ∧ y.1 q 2 = iI (fD A)) → (∀ i, i < fN A → y.1 (q + 1) i = iI (fX A i)) → (∀ i, i < fN A → y.1 (q + 2) i = iI (fY A i)) → (∀ i, i < 9 → y.1 (q + 5) i = iI (fW A i)) → (∀ l, l < k → y.1 (q + 3) l = nI (fA (rnb A j) l) ∧ y.1 (q + 4) l = nI (fB (rnb A j) l)) → (∀ l, k ≤ l → l < fM A → y.1 (q + 3) l = nI (fA A l) ∧ y.1 (q + 4) l = nI (fB A l)) → ∃ z', wl3 (b_X1_loseJoint_44 q) n (nI j) (nI k) y = wl2 (b_X1_loseJoint_124 q) fu (nI j) (upI z' q 0 (z'.1 q 0 - 1)) ∧ RepC z' q (rnb A j) ∧ Fr q z z' := by
  have h9 := hB.2.1
  have h6 := hB.1
  intro d
  induction d with
  | zero =>
    intro k n y hk hn hF y0 yx yy yw yl yr
    obtain ⟨n, rfl⟩ : ∃ t, n = t + 1 := ⟨n - 1, by omega⟩
    refine ⟨y, ?_, ⟨y0, yx, yy, fun l hl => (yl l ?_).1, fun l hl => (yl l ?_).2, yw⟩, hF⟩
    · show b_X1_loseJoint_44 q _ _ _ _ = _
      unfold b_X1_loseJoint_44
      rw [y0.2.1, if_pos (nI_le (by omega) (by omega)), lt_eq]
    · have : l < fM A := hl; omega
    · have : l < fM A := hl; omega
  | succ d ih =>
    intro k n y hk hn hF y0 yx yy yw yl yr
    obtain ⟨n, rfl⟩ : ∃ t, n = t + 1 := ⟨n - 1, by omega⟩
    have r1 := yr k (by omega) (by omega)
    have hk2 := hB.2.2.2 k (by omega)
    have step : ∀ (v w : Nat), v = fA (rnb A j) k → w = fB (rnb A j) k → ∀ ag, b_X1_loseJoint_44 q ag (nI j) (nI k) y = ag (nI j) (nI (k + 1)) (upI (upI y (q + 3) k (nI v)) (q + 4) k (nI w)) := by
      intro v w hv hw ag
      unfold b_X1_loseJoint_44
      rw [y0.2.1, if_neg (nI_ge (by omega) (by omega)), rdI_nI (by omega) (by omega), r1.1]
      simp only [bd_some]
      have last : ∀ (y2 : Sto), y2 = upI y (q + 3) k (nI v) → (if nI (fB A k) ≤ nI j then j_X1_loseJoint_101 q ag (nI j) (nI k) 0 (nI (fB A k)) (nI k) y2 else j_X1_loseJoint_101 q ag (nI j) (nI k) 1 (nI (fB A k)) (nI k) y2) = ag (nI j) (nI (k + 1)) (upI (upI y (q + 3) k (nI v)) (q + 4) k (nI w)) := by
        intro y2 hy2
        by_cases c : fB A k ≤ j
        · rw [if_pos (nI_le c (by omega))]
          unfold j_X1_loseJoint_101
          have e : w = fB A k := by rw [hw]; show (if j < fB A k then _ else _) = _; rw [if_neg (by omega)]
          rw [f_asBit_0, bd_some, nI_sub0, wrI_nI (by omega) (by omega), bd_some, lt_eq, nI_1, hy2, e]
        · rw [if_neg (nI_ge (by omega) (by omega))]
          unfold j_X1_loseJoint_101
          have e : w = fB A k - 1 := by rw [hw]; show (if j < fB A k then _ else _) = _; rw [if_pos (by omega)]
          rw [f_asBit_1, bd_some, nI_sub1 (by omega), wrI_nI (by omega) (by omega), bd_some, lt_eq, nI_1, hy2, e]
      by_cases c : fA A k ≤ j
      · rw [if_pos (nI_le c (by omega))]
        unfold j_X1_loseJoint_74
        have e : v = fA A k := by rw [hv]; show (if j < fA A k then _ else _) = _; rw [if_neg (by omega)]
        rw [f_asBit_0, bd_some, nI_sub0, wrI_nI (by omega) (by omega), bd_some, rdI_nI (by omega) (by omega)]
        simp only [bd_some]
        rw [show (upI y (q + 3) k (nI (fA A k))).1 (q + 4) k = nI (fB A k) by rw [upI_at, if_neg (by omega)]; exact r1.2]
        exact last _ (by rw [e])
      · rw [if_neg (nI_ge (by omega) (by omega))]
        unfold j_X1_loseJoint_74
        have e : v = fA A k - 1 := by rw [hv]; show (if j < fA A k then _ else _) = _; rw [if_pos (by omega)]
        rw [f_asBit_1, bd_some, nI_sub1 (by omega), wrI_nI (by omega) (by omega), bd_some, rdI_nI (by omega) (by omega)]
        simp only [bd_some]
        rw [show (upI y (q + 3) k (nI (fA A k - 1))).1 (q + 4) k = nI (fB A k) by rw [upI_at, if_neg (by omega)]; exact r1.2]
        exact last _ (by rw [e])
    obtain ⟨z', g1, g2, g3⟩ := ih (k + 1) n (upI (upI y (q + 3) k (nI (fA (rnb A j) k))) (q + 4) k (nI (fB (rnb A j) k))) (by omega) (by omega) ((hF.up (by omega)).up (by omega))
      ⟨by rw [upI_at, if_neg (by omega), upI_at, if_neg (by omega)]; exact y0.1, by rw [upI_at, if_neg (by omega), upI_at, if_neg (by omega)]; exact y0.2.1, by rw [upI_at, if_neg (by omega), upI_at, if_neg (by omega)]; exact y0.2.2⟩
      (fun i hi => by rw [upI_at, if_neg (by omega), upI_at, if_neg (by omega)]; exact yx i hi)
      (fun i hi => by rw [upI_at, if_neg (by omega), upI_at, if_neg (by omega)]; exact yy i hi)
      (fun i hi => by rw [upI_at, if_neg (by omega), upI_at, if_neg (by omega)]; exact yw i hi)
      (fun l hl => by
        by_cases e : l = k
        · subst e
          exact ⟨by rw [upI_at, if_neg (by omega), upI_at, if_pos ⟨rfl, rfl⟩], by rw [upI_at, if_pos ⟨rfl, rfl⟩]⟩
        · have := yl l (by omega)
          exact ⟨by rw [upI_at, if_neg (by omega), upI_at, if_neg (by omega)]; exact this.1, by rw [upI_at, if_neg (by omega), upI_at, if_neg (by omega)]; exact this.2⟩)
      (fun l h1 h2 => by
        have := yr l (by omega) h2
        exact ⟨by rw [upI_at, if_neg (by omega), upI_at, if_neg (by omega)]; exact this.1, by rw [upI_at, if_neg (by omega), upI_at, if_neg (by omega)]; exact this.2⟩)
    exact ⟨z', (step _ _ rfl rfl _).trans g1, g2, g3⟩
/-- the third loop: joints behind j get numbers less -/
theorem c_lose3 (hB : BF A) {j : Nat} (hj : j < fN A) : ∀ (d i n : Nat) (y : Sto), i + d = fN A - 1 → j ≤ i → d < n → Fr q z y → (y.1 q 0 = nI (fN A - 1) ∧ y.1 q 1 = nI (fM A) ∧ y.1 q 2 = iI (fD A)) → (∀ k, k < fM A → y.1 (q + 3) k = nI (fA A k) ∧ y.1 (q + 4) k = nI (fB A k)) → (∀ i, i < 9 → y.1 (q + 5) i = iI (fW A i)) → (∀ l, l < i → y.1 (q + 1) l = iI (fX (dj A j) l) ∧ y.1 (q + 2) l = iI (fY (dj A j) l)) → (∀ l, i ≤ l → l < fN A → y.1 (q + 1) l = iI (fX A l) ∧ y.1 (q + 2) l = iI (fY A l)) → ∃ z', wl2 (b_X1_loseJoint_124 q) n (nI i) y = some z' ∧ RepC z' q (dj A j) ∧ Fr q z z' := by
  have h6 := hB.1
  intro d
  induction d with
  | zero =>
    intro i n y hi hji hn hF y0 yb yw yl yr
    obtain ⟨n, rfl⟩ : ∃ t, n = t + 1 := ⟨n - 1, by omega⟩
    refine ⟨y, ?_, ⟨y0, fun l hl => (yl l ?_).1, fun l hl => (yl l ?_).2, fun k hk => (yb k hk).1, fun k hk => (yb k hk).2, yw⟩, hF⟩
    · show b_X1_loseJoint_124 q _ _ _ = _
      unfold b_X1_loseJoint_124
      rw [y0.1, if_pos (nI_le (by omega) (by omega))]
    · have : l < fN A - 1 := hl; omega
    · have : l < fN A - 1 := hl; omega
  | succ d ih =>
    intro i n y hi hji hn hF y0 yb yw yl yr
    obtain ⟨n, rfl⟩ : ∃ t, n = t + 1 := ⟨n - 1, by omega⟩
    have r1 := yr (i + 1) (by omega) (by omega)
    have step : ∀ ag, b_X1_loseJoint_124 q ag (nI i) y = ag (nI (i + 1)) (upI (upI y (q + 1) i (iI (fX A (i + 1)))) (q + 2) i (iI (fY A (i + 1)))) := by
      intro ag
      unfold b_X1_loseJoint_124
      rw [y0.1, if_neg (nI_ge (by omega) (by omega)), nI_1, rdI_nI (by omega) (by omega), bd_some, r1.1, wrI_nI (by omega) (by omega), bd_some, rdI_nI (by omega) (by omega), bd_some, upI_at, if_neg (by omega), r1.2, wrI_nI (by omega) (by omega), bd_some, lt_eq]
    have eu : upj j i = i + 1 := by unfold upj; rw [if_neg (by omega)]
    obtain ⟨z', g1, g2, g3⟩ := ih (i + 1) n (upI (upI y (q + 1) i (iI (fX A (i + 1)))) (q + 2) i (iI (fY A (i + 1)))) (by omega) (by omega) (by omega) ((hF.up (by omega)).up (by omega))
      ⟨by rw [upI_at, if_neg (by omega), upI_at, if_neg (by omega)]; exact y0.1, by rw [upI_at, if_neg (by omega), upI_at, if_neg (by omega)]; exact y0.2.1, by rw [upI_at, if_neg (by omega), upI_at, if_neg (by omega)]; exact y0.2.2⟩
      (fun k hk => ⟨by rw [upI_at, if_neg (by omega), upI_at, if_neg (by omega)]; exact (yb k hk).1, by rw [upI_at, if_neg (by omega), upI_at, if_neg (by omega)]; exact (yb k hk).2⟩)
      (fun i hi => by rw [upI_at, if_neg (by omega), upI_at, if_neg (by omega)]; exact yw i hi)
      (fun l hl => by
        by_cases e : l = i
        · subst e
          exact ⟨by rw [upI_at, if_neg (by omega), upI_at, if_pos ⟨rfl, rfl⟩]; show _ = iI (fX A (upj j l)); rw [eu], by rw [upI_at, if_pos ⟨rfl, rfl⟩]; show _ = iI (fY A (upj j l)); rw [eu]⟩
        · have := yl l (by omega)
          exact ⟨by rw [upI_at, if_neg (by omega), upI_at, if_neg (by omega)]; exact this.1, by rw [upI_at, if_neg (by omega), upI_at, if_neg (by omega)]; exact this.2⟩)
      (fun l h1 h2 => by
        have := yr l (by omega) h2
        exact ⟨by rw [upI_at, if_neg (by omega), upI_at, if_neg (by omega)]; exact this.1, by rw [upI_at, if_neg (by omega), upI_at, if_neg (by omega)]; exact this.2⟩)
    exact ⟨z', (step _).trans g1, g2, g3⟩
theorem BF_rnb (hB : BF A) {j : Nat} (hj : j < fN A) (hf : ∀ l, l < fM A → tch A j l = false) : BF (rnb A j) := by
  refine ⟨hB.1, hB.2.1, hB.2.2.1, fun k hk => ?_⟩
  have h1 := hB.2.2.2 k hk
  have h2 := hf k hk
  simp only [tch, Bool.or_eq_false_iff, decide_eq_false_iff_not] at h2
  show (if j < fA A k then fA A k - 1 else fA A k) < (if j < fB A k then fB A k - 1 else fB A k) ∧ (if j < fB A k then fB A k - 1 else fB A k) < fN A
  split <;> split <;> omega
theorem c_loseJoint (hB : BF A) (hR : RepC z q A) {j : Nat} (hj : j < fN A) : ∃ z', f_X1_loseJoint q (nI j) z = some z' ∧ RepC z' q (lsF A j) ∧ Fr q z z' := by
  have h9 := hB.2.1
  have h6 := hB.1
  unfold f_X1_loseJoint
  rw [lt_eq, hR.1.2.1]
  have ei : nI (fM A) - (1 : Int32) = iI ((fM A : Int) - 1) := by rw [nI_iI]; exact iI_sub _ 1
  rw [ei]
  obtain ⟨z1, a1, a2, a3⟩ := c_lose1 (q := q) trivial (fM A) fu A z j hB hR (Nat.le_refl _) (by show fM A < 4096; omega) hj
  rw [a1]
  have hB1 := rmv_B j (fM A) A hB (Nat.le_refl _)
  have hN := rmv_N j (fM A) A
  have hf := rmv_free j (fM A) A (Nat.le_refl _) (fun l h1 h2 => absurd h1 (by omega))
  obtain ⟨z2, b1, b2, b3⟩ := c_lose2 (z := z1) (q := q) hB1 (j := j) (by rw [hN]; exact hj) (fM (rmv j (fM A) A)) 0 fu z1 (by omega) (by have := hB1.2.1; show fM (rmv j (fM A) A) < 4096; omega) Fr.rf a2.1 a2.2.1 a2.2.2.1 a2.2.2.2.2.2 (fun l hl => absurd hl (by omega)) (fun l _ hl => ⟨a2.2.2.2.1 l hl, a2.2.2.2.2.1 l hl⟩)
  rw [show (0 : Int32) = nI 0 from rfl, b1]
  have hB2 := BF_rnb hB1 (by rw [hN]; exact hj) hf
  have en : z2.1 q 0 - (1 : Int32) = nI (fN (rnb (rmv j (fM A) A) j) - 1) := by
    rw [b2.1.1]
    exact nI_sub1 (by show 1 ≤ fN (rmv j (fM A) A); rw [hN]; omega)
  rw [en]
  have hN2 : fN (rnb (rmv j (fM A) A) j) = fN A := hN
  obtain ⟨z3, g1, g2, g3⟩ := c_lose3 (z := z2) (q := q) hB2 (j := j) (by rw [hN2]; exact hj) (fN A - 1 - j) j fu (upI z2 q 0 (nI (fN (rnb (rmv j (fM A) A) j) - 1))) (by rw [hN2]; omega) (Nat.le_refl _) (by show fN A - 1 - j < 4096; omega) (Fr.rf.up (by omega))
    ⟨by rw [upI_at, if_pos ⟨rfl, rfl⟩], by rw [upI_at, if_neg (by omega)]; exact b2.1.2.1, by rw [upI_at, if_neg (by omega)]; exact b2.1.2.2⟩
    (fun k hk => ⟨by rw [upI_at, if_neg (by omega)]; exact b2.2.2.2.1 k hk, by rw [upI_at, if_neg (by omega)]; exact b2.2.2.2.2.1 k hk⟩)
    (fun i hi => by rw [upI_at, if_neg (by omega)]; exact b2.2.2.2.2.2 i hi)
    (fun l hl => by
      have eu : upj j l = l := by unfold upj; rw [if_pos hl]
      exact ⟨by rw [upI_at, if_neg (by omega)]; show _ = iI (fX _ (upj j l)); rw [eu]; exact b2.2.1 l (by rw [hN2]; omega), by rw [upI_at, if_neg (by omega)]; show _ = iI (fY _ (upj j l)); rw [eu]; exact b2.2.2.1 l (by rw [hN2]; omega)⟩)
    (fun l h1 h2 => ⟨by rw [upI_at, if_neg (by omega)]; exact b2.2.1 l h2, by rw [upI_at, if_neg (by omega)]; exact b2.2.2.1 l h2⟩)
  exact ⟨z3, g1, g2, a3.tr (b3.tr g3)⟩
end
