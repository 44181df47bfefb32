theorem stI_self {z : Sto} {c : Nat} : stI z c (z.1 c) = z := by
  unfold stI
  have : va_up z.1 c (z.1 c) = z.1 := by
    funext b
    unfold va_up
    split
    · rename_i h; rw [h]
    · rfl
  rw [this]
theorem upI_st {z : Sto} {c k : Nat} {g : Nat → Int32} {x : Int32} : upI (stI z c g) c k x = stI z c (upd g k x) := by
  unfold upI
  rw [stI_same]
  unfold stI
  have : va_up (va_up z.1 c g) c (upd g k x) = va_up z.1 c (upd g k x) := by
    funext b
    unfold va_up
    split <;> rfl
  rw [this]
theorem upI_eq {z : Sto} {c k : Nat} {x : Int32} : upI z c k x = stI z c (upd (z.1 c) k x) := rfl
section
variable {z : Sto} {A : Fm}
theorem m_isPlace {px py : Int} (hx : 0 ≤ px ∧ px ≤ 5) (hy : 0 ≤ py ∧ py ≤ 5) : f_X7_isPlace (iI px) (iI py) z = some 1 := by
  unfold f_X7_isPlace
  rw [show (0 : Int64) = iL 0 from rfl, show (5 : Int64) = iL 5 from rfl, m_inI _ (by omega) (by omega), m_inI _ (by omega) (by omega), iI_toInt (small32 (by omega) (by omega)), iI_toInt (small32 (by omega) (by omega))]
  simp only [bd_some]
  rw [show (decide (0 ≤ px) && decide (px ≤ 5)) = true by simp [hx], show (decide (0 ≤ py) && decide (py ≤ 5)) = true by simp [hy]]
  rfl
theorem m_noPlace {x y : Int32} (h : (x < 0 ∨ 5 < x) ∨ (y < 0 ∨ 5 < y)) : f_X7_isPlace x y z = some 0 := by
  have no : ∀ {x : Int32}, (x < 0 ∨ 5 < x) → f_X7_in x.toInt64 0 5 z = some 0 := by
    intro x hx
    rw [show (0 : Int64) = iL 0 from rfl, show (5 : Int64) = iL 5 from rfl, m_inI _ (by omega) (by omega)]
    have : (decide (0 ≤ x.toInt) && decide (x.toInt ≤ 5)) = false := by
      have a0 : (0 : Int32).toInt = 0 := by decide
      have a5 : (5 : Int32).toInt = 5 := by decide
      rcases hx with hx | hx
      · rw [Int32.lt_iff_toInt_lt] at hx
        have : ¬ 0 ≤ x.toInt := by omega
        simp [this]
      · rw [Int32.lt_iff_toInt_lt] at hx
        have : ¬ x.toInt ≤ 5 := by omega
        simp [this]
    rw [this]; rfl
  unfold f_X7_isPlace
  rcases pl_or x with ⟨p, hp, rfl⟩ | hx
  · have h1 : f_X7_in (iI p).toInt64 0 5 z = some 1 := by
      rw [show (0 : Int64) = iL 0 from rfl, show (5 : Int64) = iL 5 from rfl, m_inI _ (by omega) (by omega), iI_toInt (small32 (by omega) (by omega)), show (decide (0 ≤ p) && decide (p ≤ 5)) = true by simp [hp]]; rfl
    rw [h1, bd_some, if_neg (by decide)]
    rcases h with h | h
    · rw [no h] at h1; cases h1
    · rw [no h]; rfl
  · rw [no hx]; rfl
theorem m_isIn {m : Nat} (hm : m < 1000) {j : Nat} (hj : j < m) : f_X7_in (nI j).toInt64 0 ((nI m) - (1 : Int32)).toInt64 z = some 1 := by
  rw [nI_sub1 (by omega), nI_long (n := m - 1) (by omega), nI_long (by omega), show (0 : Int64) = iL 0 from rfl, m_in (sm64 (by omega) (by omega)) (sm64 (by omega) (by omega)) (sm64 (by omega) (by omega))]
  rw [show (decide ((0 : Int) ≤ (j : Int)) && decide ((j : Int) ≤ ((m - 1 : Nat) : Int))) = true by simp; omega]; rfl
theorem m_notIn {m : Nat} (hm : m < 1000) {x : Int32} (hx : x < 0 ∨ nI m ≤ x) : f_X7_in x.toInt64 0 ((nI m) - (1 : Int32)).toInt64 z = some 0 := by
  have e : (nI m - (1 : Int32)).toInt64 = iL ((m : Int) - 1) := by
    have : nI m - (1 : Int32) = iI ((m : Int) - 1) := by rw [nI_iI]; exact iI_sub _ 1
    rw [this, iI_long (small32 (by omega) (by omega))]
  rw [e, show (0 : Int64) = iL 0 from rfl, m_inI _ (by omega) (by omega)]
  have : (decide ((0 : Int) ≤ x.toInt) && decide (x.toInt ≤ (m : Int) - 1)) = false := by
    have a0 : (0 : Int32).toInt = 0 := by decide
    rcases hx with hx | hx
    · rw [Int32.lt_iff_toInt_lt] at hx
      have : ¬ 0 ≤ x.toInt := by omega
      simp [this]
    · rw [Int32.le_iff_toInt_le, nI_toInt (by omega)] at hx
      have : ¬ x.toInt ≤ (m : Int) - 1 := by omega
      simp [this]
  rw [this]; rfl
theorem m_isJoint (hB : BF A) (hR : RowM (z.1 123) A) {j : Nat} (hj : j < fN A) : f_X7_isJoint (nI j) z = some 1 := by
  have h6 := hB.1
  unfold f_X7_isJoint
  rw [show rdI z 123 42 0 = some (z.1 123 0) from rdI_nI (i := 0) (by omega) (by omega), bd_some, hR.1.1, m_isIn (by omega) hj]; rfl
theorem m_noJoint (hB : BF A) (hR : RowM (z.1 123) A) {x : Int32} (hx : x < 0 ∨ nI (fN A) ≤ x) : f_X7_isJoint x z = some 0 := by
  have h6 := hB.1
  unfold f_X7_isJoint
  rw [show rdI z 123 42 0 = some (z.1 123 0) from rdI_nI (i := 0) (by omega) (by omega), bd_some, hR.1.1, m_notIn (by omega) hx]; rfl
theorem m_isBar (hB : BF A) (hR : RowM (z.1 123) A) {j : Nat} (hj : j < fM A) : f_X7_isBar (nI j) z = some 1 := by
  have h6 := hB.2.1
  unfold f_X7_isBar
  rw [show rdI z 123 42 1 = some (z.1 123 1) from rdI_nI (i := 1) (by omega) (by omega), bd_some, hR.1.2.1, m_isIn (by omega) hj]; rfl
theorem m_noBar (hB : BF A) (hR : RowM (z.1 123) A) {x : Int32} (hx : x < 0 ∨ nI (fM A) ≤ x) : f_X7_isBar x z = some 0 := by
  have h6 := hB.2.1
  unfold f_X7_isBar
  rw [show rdI z 123 42 1 = some (z.1 123 1) from rdI_nI (i := 1) (by omega) (by omega), bd_some, hR.1.2.1, m_notIn (by omega) hx]; rfl
theorem m_rd {k : Nat} (hk : k < 42) : rdI z 123 42 (nI k) = some (z.1 123 k) := rdI_nI hk (by omega)
theorem m_rd0 : rdI z 123 42 0 = some (z.1 123 0) := rdI_nI (i := 0) (by omega) (by omega)
theorem m_rd1 : rdI z 123 42 1 = some (z.1 123 1) := rdI_nI (i := 1) (by omega) (by omega)
theorem m_rd2 : rdI z 123 42 2 = some (z.1 123 2) := rdI_nI (i := 2) (by omega) (by omega)
theorem m_isHalf (hB : BF A) (hR : RowM (z.1 123) A) {j : Nat} (hj : j < 2 * fM A) : f_X7_isHalf (nI j) z = some 1 := by
  have h6 := hB.2.1
  unfold f_X7_isHalf
  rw [m_rd1, bd_some, hR.1.2.1, e2, pk_mul, m_isIn (by omega) hj]; rfl
theorem m_noHalf (hB : BF A) (hR : RowM (z.1 123) A) {x : Int32} (hx : x < 0 ∨ nI (2 * fM A) ≤ x) : f_X7_isHalf x z = some 0 := by
  have h6 := hB.2.1
  unfold f_X7_isHalf
  rw [m_rd1, bd_some, hR.1.2.1, e2, pk_mul, m_notIn (by omega) hx]; rfl
/-- find: the last joint there, or none -/
theorem m_find (hB : BF A) (hR : RowM (z.1 123) A) {px py : Int} (hx : 0 ≤ px ∧ px ≤ 5) (hy : 0 ≤ py ∧ py ≤ 5) : ∃ r, f_X7_find (iI px) (iI py) z = some r ∧ (r < 0 ↔ tk A px py = false) := by
  have h6 := hB.1
  obtain ⟨p, hp⟩ : ∃ p : Nat → Bool, p = fun j => decide (fX A j = px) && decide (fY A j = py) := ⟨_, rfl⟩
  obtain ⟨F, hF⟩ : ∃ F : Nat → Int32, F 0 = -4 ∧ ∀ k, F (k + 1) = if p k then nI k else F k := ⟨fun k => Nat.rec (-4) (fun k r => if p k then nI k else r) k, rfl, fun k => rfl⟩
  refine ⟨F (fN A), ?_, ?_⟩
  · have := wl4_go (body := b_X7_find_6 z) (fun _ => iI px) (fun _ => iI py) F (fun k => nI k) (fN A) (some (F (fN A))) ?_ ?_ (by omega)
    · rw [hF.1] at this; exact this
    · intro k hk ag
      have hk2 := hB.2.2.1 k hk
      unfold b_X7_find_6
      rw [m_rd0, bd_some, hR.1.1, if_neg (nI_ge hk (by omega)), m_x hB hR hk, m_y hB hR hk]
      simp only [bd_some, lt_eq, nI_1]
      rw [hF.2 k]
      have hpk : p k = (decide (fX A k = px) && decide (fY A k = py)) := by rw [hp]
      by_cases c1 : fX A k = px
      · rw [if_pos (by rw [c1])]
        by_cases c2 : fY A k = py
        · rw [if_pos (by rw [c2]), if_pos (by rw [hpk]; simp [c1, c2])]
        · rw [if_neg (fun h => c2 ((iI_eq (small32 (by omega) (by omega)) (small32 (by omega) (by omega))).mp h)), if_neg (by rw [hpk]; simp [c2])]
      · rw [if_neg (fun h => c1 ((iI_eq (small32 (by omega) (by omega)) (small32 (by omega) (by omega))).mp h)), if_neg (by rw [hpk]; simp [c1])]
    · intro ag
      unfold b_X7_find_6
      rw [m_rd0, bd_some, hR.1.1, if_pos (nI_le (Nat.le_refl _) (by omega))]
  · have key : ∀ k, k ≤ fN A → (F k < 0 ↔ ex p k = false) := by
      intro k
      induction k with
      | zero => intro _; rw [hF.1]; exact ⟨fun _ => rfl, fun _ => by decide⟩
      | succ k ih =>
        intro hk
        rw [hF.2 k]
        simp only [ex]
        cases p k with
        | true => rw [if_pos rfl]; exact ⟨fun h => absurd h (nI_pos (by omega)), fun h => by simp at h⟩
        | false => rw [if_neg (by decide), Bool.or_false]; exact ih (by omega)
    rw [key _ (Nat.le_refl _), hp]; rfl
theorem m_findBar (hB : BF A) (hR : RowM (z.1 123) A) {a b : Nat} (ha : a < fN A) (hb : b < fN A) : ∃ r, f_X7_findBar (nI a) (nI b) z = some r ∧ (r < 0 ↔ isb A a b = false) := by
  have h6 := hB.1
  have h9 := hB.2.1
  obtain ⟨p, hp⟩ : ∃ p : Nat → Bool, p = fun k => (decide (fA A k = a) && decide (fB A k = b)) || (decide (fA A k = b) && decide (fB A k = a)) := ⟨_, rfl⟩
  obtain ⟨F, hF⟩ : ∃ F : Nat → Int32, F 0 = -4 ∧ ∀ k, F (k + 1) = if p k then nI k else F k := ⟨fun k => Nat.rec (-4) (fun k r => if p k then nI k else r) k, rfl, fun k => rfl⟩
  refine ⟨F (fM A), ?_, ?_⟩
  · have := wl4_go (body := b_X7_findBar_6 z) (fun _ => nI a) (fun _ => nI b) F (fun k => nI k) (fM A) (some (F (fM A))) ?_ ?_ (by omega)
    · rw [hF.1] at this; exact this
    · intro k hk ag
      have hk2 := hB.2.2.2 k hk
      have eS : fS A (2 * k) = fA A k := by unfold fS; rw [if_pos (by omega), show 2 * k / 2 = k by omega]
      have eE : fE A (2 * k) = fB A k := by unfold fE; rw [if_pos (by omega), show 2 * k / 2 = k by omega]
      have q0 : ∀ {x y : Nat}, x < 100 → y < 100 → (nI x = nI y ↔ x = y) := fun h1 h2 => nI_eq (by omega) (by omega)
      have hpk : p k = ((decide (fA A k = a) && decide (fB A k = b)) || (decide (fA A k = b) && decide (fB A k = a))) := by rw [hp]
      unfold b_X7_findBar_6 j_X7_findBar_41 j_X7_findBar_65 j_X7_findBar_69 j_X7_findBar_70
      rw [m_rd1, bd_some, hR.1.2.1, if_neg (nI_ge hk (by omega)), e2, pk_mul, m_from hB hR (by omega), m_to hB hR (by omega), eS, eE]
      simp only [bd_some, lt_eq, nI_1]
      rw [hF.2 k]
      simp only [if_true]
      rw [if_neg (show ¬ (1 : Int32) = 0 by decide)]
      by_cases c1 : fA A k = a
      · rw [if_pos (by rw [c1])]
        by_cases c2 : fB A k = b
        · rw [if_pos (by rw [c2]), if_pos (by rw [hpk]; simp [c1, c2])]
        · rw [if_neg (fun h => c2 ((q0 (by omega) (by omega)).mp h))]
          by_cases c3 : fA A k = b
          · rw [if_pos (by rw [c3])]
            by_cases c4 : fB A k = a
            · rw [if_pos (by rw [c4]), if_pos (by rw [hpk]; simp [c3, c4])]
            · rw [if_neg (fun h => c4 ((q0 (by omega) (by omega)).mp h)), if_neg (by rw [hpk]; simp [c2, c4])]
          · rw [if_neg (fun h => c3 ((q0 (by omega) (by omega)).mp h)), if_neg (by rw [hpk]; simp [c2, c3])]
      · rw [if_neg (fun h => c1 ((q0 (by omega) (by omega)).mp h))]
        by_cases c3 : fA A k = b
        · rw [if_pos (by rw [c3])]
          by_cases c4 : fB A k = a
          · rw [if_pos (by rw [c4]), if_pos (by rw [hpk]; simp [c3, c4])]
          · rw [if_neg (fun h => c4 ((q0 (by omega) (by omega)).mp h)), if_neg (by rw [hpk]; simp [c1, c4])]
        · rw [if_neg (fun h => c3 ((q0 (by omega) (by omega)).mp h)), if_neg (by rw [hpk]; simp [c1, c3])]
    · intro ag
      unfold b_X7_findBar_6
      rw [m_rd1, bd_some, hR.1.2.1, if_pos (nI_le (Nat.le_refl _) (by omega))]
  · have key : ∀ k, k ≤ fM A → (F k < 0 ↔ ex p k = false) := by
      intro k
      induction k with
      | zero => intro _; rw [hF.1]; exact ⟨fun _ => rfl, fun _ => by decide⟩
      | succ k ih =>
        intro hk
        rw [hF.2 k]
        simp only [ex]
        cases p k with
        | true => rw [if_pos rfl]; exact ⟨fun h => absurd h (nI_pos (by omega)), fun h => by simp at h⟩
        | false => rw [if_neg (by decide), Bool.or_false]; exact ih (by omega)
    rw [key _ (Nat.le_refl _), hp]; rfl
theorem m_isUnder (hB : BF A) (hR : RowM (z.1 123) A) {px py : Int} (hx : 0 ≤ px ∧ px ≤ 5) (hy : 0 ≤ py ∧ py ≤ 5) : f_X7_isUnder (iI px) (iI py) z = some (b2i (ub A px py)) := by
  have h6 := hB.1
  have h9 := hB.2.1
  refine wl4_go (fun _ => iI px) (fun _ => iI py) (fun k => b2i (ex (fun k => onP A (fA A k) (fB A k) px py) k)) (fun k => nI k) (fM A) _ ?_ ?_ (by omega)
  · intro k hk ag
    have hk2 := hB.2.2.2 k hk
    have la : fA A k < fN A := by omega
    have l1 := tnP_le hB la hk2.2 hx hy
    have l2 := dtP_le hB la hk2.2 hx hy
    have eS : fS A (2 * k) = fA A k := by unfold fS; rw [if_pos (by omega), show 2 * k / 2 = k by omega]
    have eE : fE A (2 * k) = fB A k := by unfold fE; rw [if_pos (by omega), show 2 * k / 2 = k by omega]
    unfold b_X7_isUnder_5 j_X7_isUnder_134
    rw [m_rd1, bd_some, hR.1.2.1, if_neg (nI_ge hk (by omega)), e2, pk_mul, m_from hB hR (by omega), m_to hB hR (by omega), eS, eE]
    simp only [bd_some]
    rw [m_x hB hR la, m_x hB hR hk2.2, m_y hB hR la, m_y hB hR hk2.2]
    simp only [bd_some, lt_eq, nI_1, iI_sub, iI_mul, iI_add]
    have et : (fX A (fB A k) - fX A (fA A k)) * (py - fY A (fA A k)) - (fY A (fB A k) - fY A (fA A k)) * (px - fX A (fA A k)) = tnP A (fA A k) (fB A k) px py := rfl
    have ed : (fX A (fA A k) - px) * (fX A (fB A k) - px) + (fY A (fA A k) - py) * (fY A (fB A k) - py) = dtP A (fA A k) (fB A k) px py := rfl
    rw [et, ed]
    simp only [ex]
    cases ex (fun k => onP A (fA A k) (fB A k) px py) k with
    | true => rw [if_neg (by decide)]; rfl
    | false =>
      rw [if_pos (by decide)]
      unfold onP
      by_cases c1 : tnP A (fA A k) (fB A k) px py = 0
      · rw [if_pos ((iI_eq0 (by omega) (by omega)).mpr c1)]
        by_cases c2 : 0 ≤ dtP A (fA A k) (fB A k) px py
        · rw [if_pos ((iI_ge0 (by omega) (by omega)).mpr c2)]
          have : ¬ dtP A (fA A k) (fB A k) px py < 0 := by omega
          simp [this, b2i]
        · rw [if_neg (fun h => c2 ((iI_ge0 (by omega) (by omega)).mp h))]
          have : dtP A (fA A k) (fB A k) px py < 0 := by omega
          simp [c1, this, b2i]
      · rw [if_neg (fun h => c1 ((iI_eq0 (by omega) (by omega)).mp h))]; simp [c1, b2i]
  · intro ag
    unfold b_X7_isUnder_5
    rw [m_rd1, bd_some, hR.1.2.1, if_pos (nI_le (Nat.le_refl _) (by omega)), bz_b, bd_some]
    rfl
end
