/-! an abstract frame, and what it is to hold one -/
abbrev Fm : Type := (Nat × Nat) × ((Nat → Int) × (Nat → Int)) × ((Nat → Nat) × (Nat → Nat)) × (Nat → Int) × Int
def fN (A : Fm) : Nat := A.1.1
def fM (A : Fm) : Nat := A.1.2
def fX (A : Fm) (j : Nat) : Int := A.2.1.1 j
def fY (A : Fm) (j : Nat) : Int := A.2.1.2 j
def fA (A : Fm) (k : Nat) : Nat := A.2.2.1.1 k
def fB (A : Fm) (k : Nat) : Nat := A.2.2.1.2 k
def fW (A : Fm) (j : Nat) : Int := A.2.2.2.1 j
def fD (A : Fm) : Int := A.2.2.2.2
def fS (A : Fm) (h : Nat) : Nat := if h % 2 = 0 then fA A (h / 2) else fB A (h / 2)
def fE (A : Fm) (h : Nat) : Nat := if h % 2 = 0 then fB A (h / 2) else fA A (h / 2)
def sX (A : Fm) (h : Nat) : Int := fX A (fE A h) - fX A (fS A h)
def sY (A : Fm) (h : Nat) : Int := fY A (fE A h) - fY A (fS A h)
def b2i (b : Bool) : Int32 := if b then 1 else 0
theorem b2i_t : b2i true = 1 := rfl
theorem b2i_f : b2i false = 0 := rfl
theorem b2i_0 {b : Bool} : b2i b = 0 ↔ b = false := by cases b <;> decide
theorem b2i_1 {b : Bool} : b2i b = 1 ↔ b = true := by cases b <;> decide
theorem bz_b {b : Bool} : bz (b2i b) = some (b2i b) := by cases b <;> rfl
def tn (A : Fm) (a b c : Nat) : Int := (fX A b - fX A a) * (fY A c - fY A a) - (fY A b - fY A a) * (fX A c - fX A a)
def tnP (A : Fm) (a b : Nat) (px py : Int) : Int := (fX A b - fX A a) * (py - fY A a) - (fY A b - fY A a) * (px - fX A a)
def dtP (A : Fm) (a b : Nat) (px py : Int) : Int := (fX A a - px) * (fX A b - px) + (fY A a - py) * (fY A b - py)
/-- a place lies between two joints -/
def onP (A : Fm) (a b : Nat) (px py : Int) : Bool := decide (tnP A a b px py = 0) && decide (dtP A a b px py < 0)
def crB (A : Fm) (a b c d : Nat) : Bool := decide (tn A a b c * tn A a b d < 0) && decide (tn A c d a * tn A c d b < 0)
/-- what is ahead of a bar of joints a and b -/
def blk (A : Fm) (a b : Nat) : Bool := ex (fun j => onP A a b (fX A j) (fY A j)) (fN A) || ex (fun k => crB A a b (fA A k) (fB A k)) (fM A)
def BF (A : Fm) : Prop := fN A ≤ 6 ∧ fM A ≤ 9 ∧ (∀ j, j < fN A → (0 ≤ fX A j ∧ fX A j ≤ 5) ∧ 0 ≤ fY A j ∧ fY A j ≤ 5) ∧ ∀ k, k < fM A → fA A k < fB A k ∧ fB A k < fN A
def WF (A : Fm) : Prop := BF A ∧ (∀ i j, i < fN A → j < fN A → fX A i = fX A j → fY A i = fY A j → i = j) ∧ (∀ k l, k < fM A → l < fM A → fA A k = fA A l → fB A k = fB A l → k = l) ∧ (∀ k, k < fM A → blk A (fA A k) (fB A k) = false) ∧ (∀ j, j < 9 → -9 ≤ fW A j ∧ fW A j ≤ 9) ∧ 0 ≤ fD A ∧ fD A ≤ 2147483647
def RepC (z : Sto) (q : Nat) (A : Fm) : Prop := (z.1 q 0 = nI (fN A) ∧ z.1 q 1 = nI (fM A) ∧ z.1 q 2 = iI (fD A)) ∧ (∀ j, j < fN A → z.1 (q + 1) j = iI (fX A j)) ∧ (∀ j, j < fN A → z.1 (q + 2) j = iI (fY A j)) ∧ (∀ k, k < fM A → z.1 (q + 3) k = nI (fA A k)) ∧ (∀ k, k < fM A → z.1 (q + 4) k = nI (fB A k)) ∧ ∀ j, j < 9 → z.1 (q + 5) j = iI (fW A j)
def RepM (f : Nat → Int32) (o : Nat) (A : Fm) : Prop := (f (o + 0) = nI (fN A) ∧ f (o + 1) = nI (fM A) ∧ f (o + 2) = iI (fD A)) ∧ (∀ j, j < fN A → f (o + (3 + 2 * j)) = iI (fX A j)) ∧ (∀ j, j < fN A → f (o + (3 + 2 * j + 1)) = iI (fY A j)) ∧ (∀ k, k < fM A → f (o + (15 + 2 * k)) = nI (fA A k)) ∧ (∀ k, k < fM A → f (o + (15 + 2 * k + 1)) = nI (fB A k)) ∧ ∀ j, j < 9 → f (o + (33 + j)) = iI (fW A j)
/-! the class's Frame -/
section
variable {z : Sto} {q : Nat} {A : Fm}
theorem e0 : (0 : Int32) = nI 0 := rfl
theorem e1 : (1 : Int32) = nI 1 := rfl
theorem e2 : (2 : Int32) = nI 2 := rfl
theorem hd2 {h : Nat} (hh : h < 100) : nI h / (2 : Int32) = nI (h / 2) := pk_div (d := 2) (by omega) (by decide) (by decide)
theorem hr2 {h : Nat} (hh : h < 100) : nI h - nI h / (2 : Int32) * (2 : Int32) = nI (h % 2) := pk_rem (d := 2) (by omega) (by decide) (by decide)
theorem c_startOf (hB : BF A) (hR : RepC z q A) {h : Nat} (hh : h < 2 * fM A) : f_X1_startOf q (nI h) z = some (nI (fS A h)) := by
  have h9 := hB.2.1
  unfold f_X1_startOf
  rw [hr2 (by omega), hd2 (by omega), rdI_nI (by omega) (by omega), rdI_nI (by omega) (by omega), hR.2.2.2.1 (h / 2) (by omega), hR.2.2.2.2.1 (h / 2) (by omega)]
  simp only [bd_some]
  unfold fS
  by_cases e : h % 2 = 0
  · rw [if_pos e, e, if_pos (show nI 0 = 0 from rfl)]
  · rw [if_neg e, if_neg (by rw [show h % 2 = 1 by omega]; decide)]
theorem c_endOf (hB : BF A) (hR : RepC z q A) {h : Nat} (hh : h < 2 * fM A) : f_X1_endOf q (nI h) z = some (nI (fE A h)) := by
  have h9 := hB.2.1
  unfold f_X1_endOf
  rw [hr2 (by omega), hd2 (by omega), rdI_nI (by omega) (by omega), rdI_nI (by omega) (by omega), hR.2.2.2.1 (h / 2) (by omega), hR.2.2.2.2.1 (h / 2) (by omega)]
  simp only [bd_some]
  unfold fE
  by_cases e : h % 2 = 0
  · rw [if_pos e, e, if_pos (show nI 0 = 0 from rfl)]
  · rw [if_neg e, if_neg (by rw [show h % 2 = 1 by omega]; decide)]
theorem fS_lt (hB : BF A) {h : Nat} (hh : h < 2 * fM A) : fS A h < fN A := by
  have := hB.2.2.2 (h / 2) (by omega)
  unfold fS
  split <;> omega
theorem fE_lt (hB : BF A) {h : Nat} (hh : h < 2 * fM A) : fE A h < fN A := by
  have := hB.2.2.2 (h / 2) (by omega)
  unfold fE
  split <;> omega
theorem fS_ne (hB : BF A) {h : Nat} (hh : h < 2 * fM A) : fS A h ≠ fE A h := by
  have := hB.2.2.2 (h / 2) (by omega)
  unfold fE fS
  split <;> omega
theorem c_stepX (hB : BF A) (hR : RepC z q A) {h : Nat} (hh : h < 2 * fM A) : f_X1_stepX q (nI h) z = some (iI (sX A h)) := by
  have h6 := hB.1
  have l1 := fS_lt hB hh
  have l2 := fE_lt hB hh
  unfold f_X1_stepX
  rw [c_endOf hB hR hh, c_startOf hB hR hh]
  simp only [bd_some]
  rw [rdI_nI (by omega) (by omega), bd_some, rdI_nI (by omega) (by omega), bd_some, hR.2.1 _ l1, hR.2.1 _ l2, iI_sub]
  rfl
theorem c_stepY (hB : BF A) (hR : RepC z q A) {h : Nat} (hh : h < 2 * fM A) : f_X1_stepY q (nI h) z = some (iI (sY A h)) := by
  have h6 := hB.1
  have l1 := fS_lt hB hh
  have l2 := fE_lt hB hh
  unfold f_X1_stepY
  rw [c_endOf hB hR hh, c_startOf hB hR hh]
  simp only [bd_some]
  rw [rdI_nI (by omega) (by omega), bd_some, rdI_nI (by omega) (by omega), bd_some, hR.2.2.1 _ l1, hR.2.2.1 _ l2, iI_sub]
  rfl
/-- how many bars a joint has -/
def dg (A : Fm) (j : Nat) : Nat := cnt (fun k => decide (fA A k = j) || decide (fB A k = j)) (fM A)
theorem c_barsOf (hB : BF A) (hR : RepC z q A) {j : Nat} (hj : j < fN A) : f_X1_barsOf q (nI j) z = some (nI (dg A j)) := by
  have h9 := hB.2.1
  have h6 := hB.1
  refine wl3_go (fun _ => nI j) (fun k => nI (cnt (fun k => decide (fA A k = j) || decide (fB A k = j)) k)) (fun k => nI k) (fM A) _ ?_ ?_ (by omega)
  · intro k hk ag
    have hb := hB.2.2.2 k hk
    unfold b_X1_barsOf_4
    rw [hR.1.2.1, if_neg (nI_ge hk (by omega)), rdI_nI (by omega) (by omega), rdI_nI (by omega) (by omega), hR.2.2.2.1 k hk, hR.2.2.2.2.1 k hk]
    simp only [bd_some, lt_eq, nI_1]
    by_cases c1 : fA A k = j
    · rw [if_pos (by rw [c1]), cnt_t (by simp [c1])]
    · rw [if_neg (fun h => c1 ((nI_eq (by omega) (by omega)).mp h))]
      by_cases c2 : fB A k = j
      · rw [if_pos (by rw [c2]), cnt_t (by simp [c2])]
      · rw [if_neg (fun h => c2 ((nI_eq (by omega) (by omega)).mp h)), cnt_f (by simp [c1, c2])]
  · intro ag
    unfold b_X1_barsOf_4
    rw [hR.1.2.1, if_pos (nI_le (Nat.le_refl _) (by omega))]
    rfl
end
