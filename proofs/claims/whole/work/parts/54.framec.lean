theorem e3 : (3 : Int32) = nI 3 := rfl
theorem e4 : (4 : Int32) = nI 4 := rfl
theorem e5 : (5 : Int32) = nI 5 := rfl
theorem e6 : (6 : Int32) = nI 6 := rfl
theorem e9 : (9 : Int32) = nI 9 := rfl
theorem upI_at {z : Sto} {c k : Nat} {x : Int32} {b j : Nat} : (upI z c k x).1 b j = if b = c ∧ j = k then x else z.1 b j := by
  by_cases h : b = c
  · subst h
    rw [upI_same]
    by_cases h2 : j = k
    · subst h2; rw [upd_same, if_pos ⟨rfl, rfl⟩]
    · rw [upd_ne h2, if_neg (fun h => h2 h.2)]
  · rw [upI_ne h, if_neg (fun e => h e.1)]
/-- nothing beside the frame at q has changed -/
def Fr (q : Nat) (z z' : Sto) : Prop := (∀ c, c < q ∨ q + 5 < c → z'.1 c = z.1 c) ∧ z'.2 = z.2
theorem Fr.rf {q : Nat} {z : Sto} : Fr q z z := ⟨fun _ _ => rfl, rfl⟩
theorem Fr.tr {q : Nat} {z z' z'' : Sto} (h : Fr q z z') (h' : Fr q z' z'') : Fr q z z'' := ⟨fun c hc => (h'.1 c hc).trans (h.1 c hc), h'.2.trans h.2⟩
theorem Fr.up {q : Nat} {z z' : Sto} (h : Fr q z z') {c k : Nat} {x : Int32} (hc : q ≤ c ∧ c ≤ q + 5) : Fr q z (upI z' c k x) := ⟨fun b hb => (upI_ne (by omega)).trans (h.1 b hb), h.2⟩
theorem Fr.st {q : Nat} {z z' : Sto} (h : Fr q z z') {c : Nat} {f : Nat → Int32} (hc : q ≤ c ∧ c ≤ q + 5) : Fr q z (stI z' c f) := ⟨fun b hb => (stI_ne (by omega)).trans (h.1 b hb), h.2⟩
def jn (A : Fm) (px py : Int) : Fm := ((fN A + 1, fM A), (va_up (fX A) (fN A) px, va_up (fY A) (fN A) py), (fA A, fB A), fW A, fD A)
def mv (A : Fm) (j : Nat) (px py : Int) : Fm := ((fN A, fM A), (va_up (fX A) j px, va_up (fY A) j py), (fA A, fB A), fW A, fD A)
def br (A : Fm) (a b : Nat) : Fm := ((fN A, fM A + 1), (fX A, fY A), (va_up (fA A) (fM A) (min a b), va_up (fB A) (fM A) (max a b)), fW A, fD A)
def sk (f : Nat → Nat) (k : Nat) : Nat → Nat := fun i => if i < k then f i else f (i + 1)
def ot (A : Fm) (k : Nat) : Fm := ((fN A, fM A - 1), (fX A, fY A), (sk (fA A) k, sk (fB A) k), fW A, fD A)
def wt (A : Fm) (j : Nat) (v : Int) : Fm := ((fN A, fM A), (fX A, fY A), (fA A, fB A), va_up (fW A) j v, fD A)
def dr (A : Fm) (v : Int) : Fm := ((fN A, fM A), (fX A, fY A), (fA A, fB A), fW A, v)
section
variable {z : Sto} {q : Nat} {A : Fm}
theorem c_hasJoint (hB : BF A) (hR : RepC z q A) {j : Nat} (hj : j < fN A) : f_X1_hasJoint q (nI j) z = some 1 := by
  have h6 := hB.1
  unfold f_X1_hasJoint
  rw [if_neg (nI_pos (by omega)), hR.1.1, if_neg (nI_ge hj (by omega))]
theorem c_noJoint (hB : BF A) (hR : RepC z q A) {x : Int32} (hx : x < 0 ∨ nI (fN A) ≤ x) : f_X1_hasJoint q x z = some 0 := by
  unfold f_X1_hasJoint
  by_cases h : x < 0
  · rw [if_pos h]
  · rw [if_neg h, hR.1.1, if_pos (hx.resolve_left h)]
theorem c_hasBar (hB : BF A) (hR : RepC z q A) {j : Nat} (hj : j < fM A) : f_X1_hasBar q (nI j) z = some 1 := by
  have h6 := hB.2.1
  unfold f_X1_hasBar
  rw [if_neg (nI_pos (by omega)), hR.1.2.1, if_neg (nI_ge hj (by omega))]
theorem c_noBar (hB : BF A) (hR : RepC z q A) {x : Int32} (hx : x < 0 ∨ nI (fM A) ≤ x) : f_X1_hasBar q x z = some 0 := by
  unfold f_X1_hasBar
  by_cases h : x < 0
  · rw [if_pos h]
  · rw [if_neg h, hR.1.2.1, if_pos (hx.resolve_left h)]
theorem c_hasHalf (hB : BF A) (hR : RepC z q A) {j : Nat} (hj : j < 2 * fM A) : f_X1_hasHalf q (nI j) z = some 1 := by
  have h6 := hB.2.1
  unfold f_X1_hasHalf
  rw [if_neg (nI_pos (by omega)), hR.1.2.1, e2, pk_mul, if_neg (nI_ge hj (by omega))]
theorem c_noHalf (hB : BF A) (hR : RepC z q A) {x : Int32} (hx : x < 0 ∨ nI (2 * fM A) ≤ x) : f_X1_hasHalf q x z = some 0 := by
  unfold f_X1_hasHalf
  by_cases h : x < 0
  · rw [if_pos h]
  · rw [if_neg h, hR.1.2.1, e2, pk_mul, if_pos (hx.resolve_left h)]
/-- a place of the plane, or not -/
theorem pl_or (x : Int32) : (∃ p : Int, (0 ≤ p ∧ p ≤ 5) ∧ x = iI p) ∨ (x < 0 ∨ 5 < x) := by
  rcases ix_or x 6 (by omega) with ⟨j, hj, rfl⟩ | h | h
  · exact Or.inl ⟨j, ⟨by omega, by omega⟩, nI_iI j⟩
  · exact Or.inr (Or.inl h)
  · refine Or.inr (Or.inr ?_)
    rw [Int32.le_iff_toInt_le] at h
    rw [Int32.lt_iff_toInt_lt]
    have e1 : (nI 6).toInt = 6 := rfl
    have e2 : (5 : Int32).toInt = 5 := rfl
    omega
theorem c_isPlace {p : Int} (hp : 0 ≤ p ∧ p ≤ 5) : f_X1_isPlace (iI p) z = some 1 := by
  unfold f_X1_isPlace
  rw [if_neg (fun h => by have := (iI_lt0 (by omega) (by omega)).mp h; omega), if_neg (fun h => by have := (iI_lt (a := 5) (small32 (by omega) (by omega)) (small32 (by omega) (by omega))).mp h; omega)]
theorem c_noPlace {x : Int32} (hx : x < 0 ∨ 5 < x) : f_X1_isPlace x z = some 0 := by
  unfold f_X1_isPlace
  by_cases h : x < 0
  · rw [if_pos h]
  · rw [if_neg h, if_pos (hx.resolve_left h)]
def tk (A : Fm) (px py : Int) : Bool := ex (fun j => decide (fX A j = px) && decide (fY A j = py)) (fN A)
def ub (A : Fm) (px py : Int) : Bool := ex (fun k => onP A (fA A k) (fB A k) px py) (fM A)
theorem c_isTaken (hB : BF A) (hR : RepC z q A) {px py : Int} (hx : 0 ≤ px ∧ px ≤ 5) (hy : 0 ≤ py ∧ py ≤ 5) : f_X1_isTaken q (iI px) (iI py) z = some (b2i (tk A px py)) := by
  have h6 := hB.1
  have s : f_X1_isTaken q (iI px) (iI py) z = if tk A px py then some 1 else some 0 := by
    refine wl3_any (fun _ => iI px) (fun _ => iI py) (fun k => nI k) _ _ _ _ ?_ ?_ ?_ (by omega)
    · intro k hk hp ag
      have := hB.2.2.1 k hk
      simp only [Bool.and_eq_true, decide_eq_true_eq] at hp
      unfold b_X1_isTaken_2
      rw [hR.1.1, if_neg (nI_ge hk (by omega)), rdI_nI (by omega) (by omega), rdI_nI (by omega) (by omega), hR.2.1 k hk, hR.2.2.1 k hk]
      simp only [bd_some]
      rw [hp.1, hp.2, if_pos rfl, if_pos rfl]
    · intro k hk hp ag
      have := hB.2.2.1 k hk
      unfold b_X1_isTaken_2
      rw [hR.1.1, if_neg (nI_ge hk (by omega)), rdI_nI (by omega) (by omega), rdI_nI (by omega) (by omega), hR.2.1 k hk, hR.2.2.1 k hk]
      simp only [bd_some, lt_eq, nI_1]
      by_cases c1 : fX A k = px
      · rw [if_pos (by rw [c1])]
        by_cases c2 : fY A k = py
        · simp [c1, c2] at hp
        · rw [if_neg (fun h => c2 ((iI_eq (small32 (by omega) (by omega)) (small32 (by omega) (by omega))).mp h))]
      · rw [if_neg (fun h => c1 ((iI_eq (small32 (by omega) (by omega)) (small32 (by omega) (by omega))).mp h))]
    · intro ag
      unfold b_X1_isTaken_2
      rw [hR.1.1, if_pos (nI_le (Nat.le_refl _) (by omega))]
  rw [s]
  cases tk A px py <;> rfl
theorem c_isUnderBar (hB : BF A) (hR : RepC z q A) {px py : Int} (hx : 0 ≤ px ∧ px ≤ 5) (hy : 0 ≤ py ∧ py ≤ 5) : f_X1_isUnderBar q (iI px) (iI py) z = some (b2i (ub A px py)) := by
  have h6 := hB.1
  have h9 := hB.2.1
  have s : f_X1_isUnderBar q (iI px) (iI py) z = if ub A px py then some 1 else some 0 := by
    refine wl3_any (fun _ => iI px) (fun _ => iI py) (fun k => nI k) _ _ _ _ ?_ ?_ ?_ (by omega)
    · intro k hk hp ag
      have hk2 := hB.2.2.2 k hk
      unfold b_X1_isUnderBar_2
      rw [hR.1.2.1, if_neg (nI_ge hk (by omega)), rdI_nI (by omega) (by omega), rdI_nI (by omega) (by omega), hR.2.2.2.1 k hk, hR.2.2.2.2.1 k hk]
      simp only [bd_some]
      rw [c_isBetween hB hR (by omega) hk2.2 hx hy, hp, bd_some, b2i_t, if_neg (by decide)]
    · intro k hk hp ag
      have hk2 := hB.2.2.2 k hk
      unfold b_X1_isUnderBar_2
      rw [hR.1.2.1, if_neg (nI_ge hk (by omega)), rdI_nI (by omega) (by omega), rdI_nI (by omega) (by omega), hR.2.2.2.1 k hk, hR.2.2.2.2.1 k hk]
      simp only [bd_some]
      rw [c_isBetween hB hR (by omega) hk2.2 hx hy, hp, bd_some, b2i_f, if_pos rfl, lt_eq, nI_1]
    · intro ag
      unfold b_X1_isUnderBar_2
      rw [hR.1.2.1, if_pos (nI_le (Nat.le_refl _) (by omega))]
  rw [s]
  cases ub A px py <;> rfl
/-- what joint answers if it is refused; 0: it isn't -/
def rfJ (A : Fm) (px py : Int) : Int32 := if tk A px py || ub A px py then -2 else if 6 ≤ fN A then -3 else 0
theorem c_refuseJoint (hB : BF A) (hR : RepC z q A) {px py : Int} (hx : 0 ≤ px ∧ px ≤ 5) (hy : 0 ≤ py ∧ py ≤ 5) : f_X1_refuseJoint q (iI px) (iI py) z = some (rfJ A px py) := by
  have h6 := hB.1
  unfold f_X1_refuseJoint
  rw [c_isPlace hx, c_isPlace hy, c_isTaken hB hR hx hy, c_isUnderBar hB hR hx hy]
  simp only [bd_some]
  rw [if_neg (by decide), if_neg (by decide), hR.1.1]
  unfold rfJ
  cases tk A px py with
  | true => rfl
  | false =>
    rw [b2i_f, if_pos rfl]
    cases ub A px py with
    | true => rfl
    | false =>
      rw [b2i_f, if_pos rfl]
      show _ = some (if 6 ≤ fN A then (-3 : Int32) else 0)
      by_cases h : 6 ≤ fN A
      · rw [if_pos h, e6, if_pos (nI_le h (by omega))]
      · rw [if_neg h, e6, if_neg (nI_ge (by omega) (by omega))]
theorem c_refuseJoint_bad {x y : Int32} (h : (x < 0 ∨ 5 < x) ∨ (y < 0 ∨ 5 < y)) : f_X1_refuseJoint q x y z = some (-1) := by
  unfold f_X1_refuseJoint
  rcases pl_or x with ⟨p, hp, rfl⟩ | hx
  · rw [c_isPlace hp]
    rw [bd_some, if_neg (by decide)]
    rcases h with h | h
    · have h3 := c_isPlace (z := z) hp
      rw [c_noPlace h] at h3
      cases h3
    · rw [c_noPlace h]; rfl
  · rw [c_noPlace hx]; rfl
theorem c_putJoint (hB : BF A) (hR : RepC z q A) (hn : fN A < 6) (px py : Int) : ∃ z', f_X1_putJoint q (iI px) (iI py) z = some (nI (fN A), z') ∧ RepC z' q (jn A px py) ∧ Fr q z z' := by
  have n0 : (upI z (q + 1) (fN A) (iI px)).1 q 0 = nI (fN A) := by rw [upI_at, if_neg (by omega)]; exact hR.1.1
  have n1 : (upI (upI z (q + 1) (fN A) (iI px)) (q + 2) (fN A) (iI py)).1 q 0 = nI (fN A) := by rw [upI_at, if_neg (by omega)]; exact n0
  refine ⟨upI (upI (upI z (q + 1) (fN A) (iI px)) (q + 2) (fN A) (iI py)) q 0 (nI (fN A + 1)), ?_, ?_, ?_⟩
  · unfold f_X1_putJoint
    rw [hR.1.1, wrI_nI hn (by omega), bd_some, n0, wrI_nI hn (by omega), bd_some, n1, lt_eq, nI_1, upI_at, if_pos ⟨rfl, rfl⟩, nI_pred]
  · refine ⟨⟨?_, ?_, ?_⟩, fun j hj => ?_, fun j hj => ?_, fun k hk => ?_, fun k hk => ?_, fun j hj => ?_⟩
    · rw [upI_at, if_pos ⟨rfl, rfl⟩]; rfl
    · rw [upI_at, if_neg (by omega), upI_at, if_neg (by omega), upI_at, if_neg (by omega)]; exact hR.1.2.1
    · rw [upI_at, if_neg (by omega), upI_at, if_neg (by omega), upI_at, if_neg (by omega)]; exact hR.1.2.2
    · have hj : j < fN A + 1 := hj
      rw [upI_at, if_neg (by omega), upI_at, if_neg (by omega), upI_at]
      show _ = iI (va_up (fX A) (fN A) px j)
      by_cases e : j = fN A
      · rw [if_pos ⟨rfl, e⟩, e, va_up_self]
      · rw [if_neg (by omega), va_up_ne _ _ e]; exact hR.2.1 j (by omega)
    · have hj : j < fN A + 1 := hj
      rw [upI_at, if_neg (by omega), upI_at]
      show _ = iI (va_up (fY A) (fN A) py j)
      by_cases e : j = fN A
      · rw [if_pos ⟨rfl, e⟩, e, va_up_self]
      · rw [if_neg (by omega), upI_at, if_neg (by omega), va_up_ne _ _ e]; exact hR.2.2.1 j (by omega)
    · rw [upI_at, if_neg (by omega), upI_at, if_neg (by omega), upI_at, if_neg (by omega)]; exact hR.2.2.2.1 k hk
    · rw [upI_at, if_neg (by omega), upI_at, if_neg (by omega), upI_at, if_neg (by omega)]; exact hR.2.2.2.2.1 k hk
    · rw [upI_at, if_neg (by omega), upI_at, if_neg (by omega), upI_at, if_neg (by omega)]; exact hR.2.2.2.2.2 j hj
  · exact ((Fr.rf.up (by omega)).up (by omega)).up (by omega)
theorem c_putAt (hB : BF A) (hR : RepC z q A) {j : Nat} (hj : j < fN A) (px py : Int) : ∃ z', f_X1_putAt q (nI j) (iI px) (iI py) z = some z' ∧ RepC z' q (mv A j px py) ∧ Fr q z z' := by
  have h6 := hB.1
  refine ⟨upI (upI z (q + 1) j (iI px)) (q + 2) j (iI py), ?_, ?_, ?_⟩
  · unfold f_X1_putAt
    rw [wrI_nI (by omega) (by omega), bd_some, wrI_nI (by omega) (by omega), bd_some]
  · refine ⟨⟨?_, ?_, ?_⟩, fun i hi => ?_, fun i hi => ?_, fun k hk => ?_, fun k hk => ?_, fun i hi => ?_⟩
    · rw [upI_at, if_neg (by omega), upI_at, if_neg (by omega)]; exact hR.1.1
    · rw [upI_at, if_neg (by omega), upI_at, if_neg (by omega)]; exact hR.1.2.1
    · rw [upI_at, if_neg (by omega), upI_at, if_neg (by omega)]; exact hR.1.2.2
    · rw [upI_at, if_neg (by omega), upI_at]
      show _ = iI (va_up (fX A) j px i)
      by_cases e : i = j
      · rw [if_pos ⟨rfl, e⟩, e, va_up_self]
      · rw [if_neg (by omega), va_up_ne _ _ e]; exact hR.2.1 i hi
    · rw [upI_at]
      show _ = iI (va_up (fY A) j py i)
      by_cases e : i = j
      · rw [if_pos ⟨rfl, e⟩, e, va_up_self]
      · rw [if_neg (by omega), upI_at, if_neg (by omega), va_up_ne _ _ e]; exact hR.2.2.1 i hi
    · rw [upI_at, if_neg (by omega), upI_at, if_neg (by omega)]; exact hR.2.2.2.1 k hk
    · rw [upI_at, if_neg (by omega), upI_at, if_neg (by omega)]; exact hR.2.2.2.2.1 k hk
    · rw [upI_at, if_neg (by omega), upI_at, if_neg (by omega)]; exact hR.2.2.2.2.2 i hi
  · exact (Fr.rf.up (by omega)).up (by omega)
end
