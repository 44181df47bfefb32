/-! sets of joints as bits -/
theorem bit_sh {e : Nat} (he : e < 6) : ((1 : Int32) <<< (nI e &&& 31)).toBitVec = BitVec.ofNat 32 (2 ^ e) := by
  match e, he with
  | 0, _ => decide
  | 1, _ => decide
  | 2, _ => decide
  | 3, _ => decide
  | 4, _ => decide
  | 5, _ => decide
def bitAt (x : Int32) (b : Nat) : Bool := x.toBitVec.getLsbD b
theorem bitAt_0 (b : Nat) : bitAt 0 b = false := by simp [bitAt]
theorem bitAt_or {x : Int32} {e b : Nat} (he : e < 6) (hb : b < 6) : bitAt (x ||| ((1 : Int32) <<< (nI e &&& 31))) b = (bitAt x b || decide (e = b)) := by
  unfold bitAt
  rw [Int32.toBitVec_or, BitVec.getLsbD_or, bit_sh he]
  congr 1
  have : ∀ e, e < 6 → ∀ b, b < 6 → (BitVec.ofNat 32 (2 ^ e)).getLsbD b = decide (e = b) := by decide
  exact this e he b hb
theorem bit_test {x : Int32} {b : Nat} (hb : b < 6) : ((x >>> (nI b &&& 31)) &&& (1 : Int32)) = (1 : Int32) ↔ bitAt x b = true := by
  have key : ((x >>> (nI b &&& 31)) &&& (1 : Int32)).toBitVec.getLsbD 0 = bitAt x b := by
    rw [Int32.toBitVec_and, BitVec.getLsbD_and]
    have e1 : (1 : Int32).toBitVec.getLsbD 0 = true := by decide
    rw [e1, Bool.and_true, Int32.toBitVec_shiftRight]
    unfold bitAt
    have e2 : ∀ b, b < 6 → ((nI b &&& 31).toBitVec.smod 32).toNat = b := by decide
    show (BitVec.sshiftRight x.toBitVec ((nI b &&& 31).toBitVec.smod 32).toNat).getLsbD 0 = _
    rw [e2 b hb, BitVec.getLsbD_sshiftRight]
    simp
    omega
  constructor
  · intro h
    rw [← key, h]
    decide
  · intro h
    rw [h] at key
    apply Int32.toBitVec.inj
    apply BitVec.eq_of_getLsbD_eq
    intro i hi
    by_cases h0 : i = 0
    · subst h0; rw [key]; decide
    · rw [Int32.toBitVec_and, BitVec.getLsbD_and]
      have e1 : ∀ i, i < 32 → i ≠ 0 → (1 : Int32).toBitVec.getLsbD i = false := by decide
      rw [e1 i hi h0, Bool.and_false]
section
variable {z : Sto} {q : Nat} {A : Fm}
/-- the joints at the other ends, of the first h half bars -/
def nb (A : Fm) (j : Nat) : Nat → Int32
  | 0 => 0
  | h + 1 => if fS A h = j then nb A j h ||| ((1 : Int32) <<< (nI (fE A h) &&& 31)) else nb A j h
theorem c_neighbours (hB : BF A) (hR : RepC z q A) {j : Nat} (hj : j < fN A) : f_X1_neighbours q (nI j) z = some (nb A j (2 * fM A)) := by
  have h9 := hB.2.1
  have h6 := hB.1
  refine wl3_go (fun _ => nI j) (fun h => nb A j h) (fun h => nI h) (2 * fM A) _ ?_ ?_ (by omega)
  · intro h hh ag
    have l1 := fS_lt hB hh
    unfold b_X1_neighbours_4
    rw [hR.1.2.1, e2, pk_mul, if_neg (nI_ge hh (by omega)), c_startOf hB hR hh, c_endOf hB hR hh]
    simp only [bd_some, lt_eq, nI_1]
    simp only [nb]
    by_cases c : fS A h = j
    · rw [if_pos (by rw [c]), if_pos c]
    · rw [if_neg (fun e => c ((nI_eq (by omega) (by omega)).mp e)), if_neg c]
  · intro ag
    unfold b_X1_neighbours_4
    rw [hR.1.2.1, e2, pk_mul, if_pos (nI_le (Nat.le_refl _) (by omega))]
/-- a bar of a and b is there -/
def isb (A : Fm) (a b : Nat) : Bool := ex (fun k => (decide (fA A k = a) && decide (fB A k = b)) || (decide (fA A k = b) && decide (fB A k = a))) (fM A)
theorem nb_bit (hB : BF A) (a : Nat) {b : Nat} (hb : b < 6) : ∀ h, h ≤ 2 * fM A → (bitAt (nb A a h) b = true ↔ ∃ i, i < h ∧ fS A i = a ∧ fE A i = b) := by
  have h6 := hB.1
  intro h
  induction h with
  | zero => intro _; simp only [nb]; rw [bitAt_0]; exact ⟨fun h => (by cases h), fun ⟨i, h, _⟩ => absurd h (by omega)⟩
  | succ h ih =>
    intro hh
    have l2 := fE_lt hB (h := h) (by omega)
    have ih := ih (by omega)
    simp only [nb]
    by_cases c : fS A h = a
    · rw [if_pos c, bitAt_or (by omega) hb, Bool.or_eq_true, ih, decide_eq_true_eq]
      constructor
      · rintro (⟨i, h1, h2⟩ | h1)
        · exact ⟨i, by omega, h2⟩
        · exact ⟨h, by omega, c, h1⟩
      · rintro ⟨i, h1, h2, h3⟩
        by_cases e : i = h
        · subst e; exact Or.inr h3
        · exact Or.inl ⟨i, by omega, h2, h3⟩
    · rw [if_neg c, ih]
      constructor
      · rintro ⟨i, h1, h2⟩
        exact ⟨i, by omega, h2⟩
      · rintro ⟨i, h1, h2, h3⟩
        by_cases e : i = h
        · subst e; exact absurd h2 c
        · exact ⟨i, by omega, h2, h3⟩
theorem nb_isb (hB : BF A) {a b : Nat} (hb : b < 6) : bitAt (nb A a (2 * fM A)) b = isb A a b := by
  rw [Bool.eq_iff_iff, nb_bit hB a hb _ (Nat.le_refl _)]
  unfold isb
  rw [ex_iff]
  simp only [Bool.or_eq_true, Bool.and_eq_true, decide_eq_true_eq]
  constructor
  · rintro ⟨i, h1, h2, h3⟩
    refine ⟨i / 2, by omega, ?_⟩
    unfold fS at h2
    unfold fE at h3
    by_cases e : i % 2 = 0
    · rw [if_pos e] at h2 h3; exact Or.inl ⟨h2, h3⟩
    · rw [if_neg e] at h2 h3; exact Or.inr ⟨h3, h2⟩
  · rintro ⟨k, h1, h2 | h2⟩
    · refine ⟨2 * k, by omega, ?_, ?_⟩
      · unfold fS; rw [if_pos (by omega), show 2 * k / 2 = k by omega]; exact h2.1
      · unfold fE; rw [if_pos (by omega), show 2 * k / 2 = k by omega]; exact h2.2
    · refine ⟨2 * k + 1, by omega, ?_, ?_⟩
      · unfold fS; rw [if_neg (by omega), show (2 * k + 1) / 2 = k by omega]; exact h2.2
      · unfold fE; rw [if_neg (by omega), show (2 * k + 1) / 2 = k by omega]; exact h2.1
/-- what bar answers if it is refused (joints a, b that differ) -/
def rfB (A : Fm) (a b : Nat) : Int32 := if isb A a b || blk A a b then -2 else if 9 ≤ fM A then -3 else 0
theorem c_refuseBar (hB : BF A) (hR : RepC z q A) {a b : Nat} (ha : a < fN A) (hb : b < fN A) (hab : a ≠ b) : f_X1_refuseBar q (nI a) (nI b) z = some (rfB A a b) := by
  have h6 := hB.1
  have h9 := hB.2.1
  unfold f_X1_refuseBar
  rw [c_hasJoint hB hR ha, c_hasJoint hB hR hb, c_neighbours hB hR ha, c_isClear hB hR ha hb]
  simp only [bd_some]
  rw [if_neg (by decide), if_neg (by decide), if_neg (fun e => hab ((nI_eq (by omega) (by omega)).mp e)), hR.1.2.1]
  unfold rfB
  have hbt := bit_test (x := nb A a (2 * fM A)) (b := b) (by omega)
  rw [nb_isb hB (by omega)] at hbt
  cases h1 : isb A a b with
  | true => rw [if_pos (hbt.mpr h1)]; rfl
  | false =>
    rw [if_neg (fun e => by rw [hbt.mp e] at h1; cases h1)]
    cases blk A a b with
    | true => rfl
    | false =>
      rw [if_neg (by decide)]
      show _ = some (if 9 ≤ fM A then (-3 : Int32) else 0)
      by_cases h : 9 ≤ fM A
      · rw [if_pos h, e9, if_pos (nI_le h (by omega))]
      · rw [if_neg h, e9, if_neg (nI_ge (by omega) (by omega))]
theorem c_refuseBar_bad (hB : BF A) (hR : RepC z q A) {x y : Int32} (h : (x < 0 ∨ nI (fN A) ≤ x) ∨ (y < 0 ∨ nI (fN A) ≤ y) ∨ x = y) : f_X1_refuseBar q x y z = some (-1) := by
  have h6 := hB.1
  unfold f_X1_refuseBar
  rcases ix_or x (fN A) (by omega) with ⟨a, ha, rfl⟩ | hx
  · rw [c_hasJoint hB hR ha, bd_some, if_neg (by decide)]
    rcases ix_or y (fN A) (by omega) with ⟨b, hb, rfl⟩ | hy
    · rw [c_hasJoint hB hR hb, bd_some, if_neg (by decide)]
      rcases h with h | h | h
      · have := c_hasJoint hB hR ha; rw [c_noJoint hB hR h] at this; cases this
      · have := c_hasJoint hB hR hb; rw [c_noJoint hB hR h] at this; cases this
      · rw [if_pos h]
    · rw [c_noJoint hB hR hy]; rfl
  · rw [c_noJoint hB hR hx]; rfl
end
