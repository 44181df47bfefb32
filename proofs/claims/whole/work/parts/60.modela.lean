/-! the model's row of 42 -/
def RowM (f : Nat → Int32) (A : Fm) : Prop := (f 0 = nI (fN A) ∧ f 1 = nI (fM A) ∧ f 2 = iI (fD A)) ∧ (∀ j, j < fN A → f (3 + 2 * j) = iI (fX A j)) ∧ (∀ j, j < fN A → f (3 + 2 * j + 1) = iI (fY A j)) ∧ (∀ k, k < fM A → f (15 + 2 * k) = nI (fA A k)) ∧ (∀ k, k < fM A → f (15 + 2 * k + 1) = nI (fB A k)) ∧ ∀ j, j < 9 → f (33 + j) = iI (fW A j)
theorem e15 : (15 : Int32) = nI 15 := rfl
theorem e33 : (33 : Int32) = nI 33 := rfl
theorem e42 : (42 : Int32) = nI 42 := rfl
theorem l0 : (0 : Int64) = iL 0 := rfl
section
variable {z : Sto} {A : Fm}
/-- in, of whole numbers -/
theorem m_in {v a b : Int} (hv : in64 v) (ha : in64 a) (hb : in64 b) : f_X7_in (iL v) (iL a) (iL b) z = some (b2i (decide (a ≤ v) && decide (v ≤ b))) := by
  unfold f_X7_in
  by_cases c1 : v < a
  · rw [if_pos ((lg_cmp_lt _ _).mpr ((iL_lt hv ha).mpr c1)), show decide (a ≤ v) = false from decide_eq_false (by omega)]; rfl
  · rw [if_neg (fun h => c1 ((iL_lt hv ha).mp ((lg_cmp_lt _ _).mp h))), show decide (a ≤ v) = true from decide_eq_true (by omega)]
    by_cases c2 : b < v
    · rw [if_pos ((lg_cmp_gt _ _).mpr ((iL_lt hb hv).mpr c2)), show decide (v ≤ b) = false from decide_eq_false (by omega)]; rfl
    · rw [if_neg (fun h => c2 ((iL_lt hb hv).mp ((lg_cmp_gt _ _).mp h))), show decide (v ≤ b) = true from decide_eq_true (by omega)]; rfl
theorem sm64 {v : Int} (h1 : -9000000000000000000 ≤ v) (h2 : v ≤ 9000000000000000000) : in64 v := ⟨by omega, by omega⟩
theorem x_long (x : Int32) : x.toInt64 = iL x.toInt := by rw [← iI_of x, iI_long (toInt_in32 x), iI_toInt (toInt_in32 x)]
/-- in, of an int -/
theorem m_inI (x : Int32) {a b : Int} (ha : -9000000000000000000 ≤ a ∧ a ≤ 9000000000000000000) (hb : -9000000000000000000 ≤ b ∧ b ≤ 9000000000000000000) : f_X7_in x.toInt64 (iL a) (iL b) z = some (b2i (decide (a ≤ x.toInt) && decide (x.toInt ≤ b))) := by
  have := toInt_in32 x
  rw [x_long]
  exact m_in (sm64 (by have := this.1; omega) (by have := this.2; omega)) (sm64 ha.1 ha.2) (sm64 hb.1 hb.2)
theorem m_x (hB : BF A) (hR : RowM (z.1 123) A) {j : Nat} (hj : j < fN A) : f_X7_x (nI j) z = some (iI (fX A j)) := by
  have h6 := hB.1
  unfold f_X7_x
  rw [e3, e2, pk_mul, nI_add, rdI_nI (by omega) (by omega), bd_some, hR.2.1 j hj]
theorem m_y (hB : BF A) (hR : RowM (z.1 123) A) {j : Nat} (hj : j < fN A) : f_X7_y (nI j) z = some (iI (fY A j)) := by
  have h6 := hB.1
  unfold f_X7_y
  rw [e3, e2, pk_mul, nI_add, nI_1, rdI_nI (by omega) (by omega), bd_some, hR.2.2.1 j hj]
theorem m_from (hB : BF A) (hR : RowM (z.1 123) A) {h : Nat} (hh : h < 2 * fM A) : f_X7_from (nI h) z = some (nI (fS A h)) := by
  have h9 := hB.2.1
  unfold f_X7_from
  rw [e15, nI_add, rdI_nI (by omega) (by omega), bd_some]
  unfold fS
  by_cases e : h % 2 = 0
  · rw [if_pos e, show 15 + h = 15 + 2 * (h / 2) by omega, hR.2.2.2.1 (h / 2) (by omega)]
  · rw [if_neg e, show 15 + h = 15 + 2 * (h / 2) + 1 by omega, hR.2.2.2.2.1 (h / 2) (by omega)]
theorem m_to (hB : BF A) (hR : RowM (z.1 123) A) {h : Nat} (hh : h < 2 * fM A) : f_X7_to (nI h) z = some (nI (fE A h)) := by
  have h9 := hB.2.1
  unfold f_X7_to
  rw [hr2 (by omega)]
  unfold fE
  by_cases e : h % 2 = 0
  · rw [if_pos e, e, if_pos (show nI 0 = 0 from rfl), nI_1, e15, nI_add, rdI_nI (by omega) (by omega), bd_some, show 15 + (h + 1) = 15 + 2 * (h / 2) + 1 by omega, hR.2.2.2.2.1 (h / 2) (by omega)]
  · rw [if_neg e, show h % 2 = 1 by omega, if_neg (show ¬ nI 1 = 0 by decide), nI_sub1 (by omega), e15, nI_add, rdI_nI (by omega) (by omega), bd_some, show 15 + (h - 1) = 15 + 2 * (h / 2) by omega, hR.2.2.2.1 (h / 2) (by omega)]
theorem m_turn (hB : BF A) (hR : RowM (z.1 123) A) {a b c : Nat} (ha : a < fN A) (hb : b < fN A) (hc : c < fN A) : f_X7_turn (nI a) (nI b) (nI c) z = some (iI (tn A a b c)) := by
  unfold f_X7_turn
  rw [m_x hB hR ha, m_x hB hR hb, m_x hB hR hc, m_y hB hR ha, m_y hB hR hb, m_y hB hR hc]
  simp only [bd_some, iI_sub, iI_mul]
  rfl
def sg (v : Int) : Int := if v < 0 then -1 else if 0 < v then 1 else 0
theorem m_sign {v : Int} (hv : in64 v) : f_X7_sign (iL v) z = some (iI (sg v)) := by
  unfold f_X7_sign sg
  have h0 : in64 0 := sm64 (by omega) (by omega)
  rw [l0]
  by_cases c1 : v < 0
  · rw [if_neg (fun h => by have := (iL_le h0 hv).mp ((lg_cmp_ge _ _).mp h); omega), if_pos c1]; rfl
  · rw [if_pos ((lg_cmp_ge _ _).mpr ((iL_le h0 hv).mpr (by omega))), if_neg c1]
    by_cases c2 : 0 < v
    · rw [if_neg (fun h => by have := (iL_le hv h0).mp ((lg_cmp_le _ _).mp h); omega), if_pos c2]; rfl
    · rw [if_pos ((lg_cmp_le _ _).mpr ((iL_le hv h0).mpr (by omega))), if_neg c2]; rfl
theorem sg_mul (a b : Int) : sg a * sg b < 0 ↔ a * b < 0 := by
  unfold sg
  rcases Int.lt_trichotomy a 0 with ha | ha | ha
  · rcases Int.lt_trichotomy b 0 with hb | hb | hb
    · have := Int.mul_pos_of_neg_of_neg ha hb
      rw [if_pos ha, if_pos hb]; omega
    · subst hb; simp
    · have := Int.mul_neg_of_neg_of_pos ha hb
      rw [if_pos ha, if_neg (by omega), if_pos hb]; omega
  · subst ha; simp
  · rcases Int.lt_trichotomy b 0 with hb | hb | hb
    · have := Int.mul_neg_of_pos_of_neg ha hb
      rw [if_neg (by omega), if_pos ha, if_pos hb]; omega
    · subst hb; simp
    · have := Int.mul_pos ha hb
      rw [if_neg (by omega), if_pos ha, if_neg (by omega), if_pos hb]; omega
theorem sg_le (a : Int) : -1 ≤ sg a ∧ sg a ≤ 1 := by unfold sg; split <;> (try split) <;> omega
theorem sgm_le (a b : Int) : -1 ≤ sg a * sg b ∧ sg a * sg b ≤ 1 := by
  have h1 := sg_le a
  have h2 := sg_le b
  rcases (show sg a = -1 ∨ sg a = 0 ∨ sg a = 1 by omega) with h | h | h <;> rw [h] <;> omega
theorem m_doCross (hB : BF A) (hR : RowM (z.1 123) A) {a b c d : Nat} (ha : a < fN A) (hb : b < fN A) (hc : c < fN A) (hd : d < fN A) : f_X7_doCross (nI a) (nI b) (nI c) (nI d) z = some (b2i (crB A a b c d)) := by
  have t1 := tn_le hB ha hb hc
  have t2 := tn_le hB ha hb hd
  have t3 := tn_le hB hc hd ha
  have t4 := tn_le hB hc hd hb
  have s1 := sgm_le (tn A a b c) (tn A a b d)
  have s2 := sgm_le (tn A c d a) (tn A c d b)
  unfold f_X7_doCross
  rw [m_turn hB hR ha hb hc, m_turn hB hR ha hb hd, m_turn hB hR hc hd ha, m_turn hB hR hc hd hb]
  simp only [bd_some]
  rw [iI_long (small32 (by omega) (by omega)), iI_long (small32 (by omega) (by omega)), iI_long (small32 (by omega) (by omega)), iI_long (small32 (by omega) (by omega)), m_sign (sm64 (by omega) (by omega)), m_sign (sm64 (by omega) (by omega)), m_sign (sm64 (by omega) (by omega)), m_sign (sm64 (by omega) (by omega))]
  simp only [bd_some, iI_mul]
  unfold crB
  by_cases c1 : tn A a b c * tn A a b d < 0
  · have := (sg_mul _ _).mpr c1
    rw [if_neg (fun h => by have := (iI_ge0 (by omega) (by omega)).mp h; omega)]
    by_cases c2 : tn A c d a * tn A c d b < 0
    · have := (sg_mul _ _).mpr c2
      rw [if_neg (fun h => by have := (iI_ge0 (by omega) (by omega)).mp h; omega)]
      simp [c1, c2, b2i]
    · have : ¬ sg (tn A c d a) * sg (tn A c d b) < 0 := fun h => c2 ((sg_mul _ _).mp h)
      rw [if_pos ((iI_ge0 (by omega) (by omega)).mpr (by omega))]
      simp [c2, b2i]
  · have : ¬ sg (tn A a b c) * sg (tn A a b d) < 0 := fun h => c1 ((sg_mul _ _).mp h)
    rw [if_pos ((iI_ge0 (by omega) (by omega)).mpr (by omega))]
    simp [c1, b2i]
theorem m_isOver (hB : BF A) (hR : RowM (z.1 123) A) {a b c : Nat} (ha : a < fN A) (hb : b < fN A) (hc : c < fN A) : f_X7_isOver (nI a) (nI b) (nI c) z = some (b2i (onP A a b (fX A c) (fY A c))) := by
  have h6 := hB.1
  have hc2 := hB.2.2.1 c hc
  have t1 := tn_le hB ha hb hc
  have t2 := dtP_le hB ha hb (px := fX A c) (py := fY A c) (by omega) (by omega)
  unfold f_X7_isOver
  rw [m_x hB hR ha, m_x hB hR hb, m_x hB hR hc, m_y hB hR ha, m_y hB hR hb, m_y hB hR hc, m_turn hB hR ha hb hc]
  simp only [bd_some, lt_eq, iI_sub, iI_mul, iI_add]
  have e : (fX A a - fX A c) * (fX A b - fX A c) + (fY A a - fY A c) * (fY A b - fY A c) = dtP A a b (fX A c) (fY A c) := rfl
  rw [e]
  have et : tnP A a b (fX A c) (fY A c) = tn A a b c := rfl
  unfold onP
  rw [et]
  by_cases c1 : c = a
  · subst c1
    have : dtP A c b (fX A c) (fY A c) = 0 := by unfold dtP; simp
    rw [if_pos rfl, this]; simp [b2i]
  · rw [if_neg (fun h => c1 ((nI_eq (by omega) (by omega)).mp h))]
    by_cases c2 : c = b
    · subst c2
      have : dtP A a c (fX A c) (fY A c) = 0 := by unfold dtP; simp
      rw [if_pos rfl, this]; simp [b2i]
    · rw [if_neg (fun h => c2 ((nI_eq (by omega) (by omega)).mp h))]
      by_cases c3 : tn A a b c = 0
      · rw [if_pos ((iI_eq0 (by omega) (by omega)).mpr c3)]
        by_cases c4 : 0 ≤ dtP A a b (fX A c) (fY A c)
        · rw [if_pos ((iI_ge0 (by omega) (by omega)).mpr c4)]; simp [c4, b2i]
        · rw [if_neg (fun h => c4 ((iI_ge0 (by omega) (by omega)).mp h))]
          have : dtP A a b (fX A c) (fY A c) < 0 := by omega
          simp [c3, this, b2i]
      · rw [if_neg (fun h => c3 ((iI_eq0 (by omega) (by omega)).mp h))]; simp [c3, b2i]
end
