section
variable {z : Sto} {q : Nat} {A : Fm}
def rfW (A : Fm) (j : Nat) (v : Int) : Int32 := if fW A j = v then -2 else 0
theorem c_refuseWeight (hW : ∀ j, j < 9 → -9 ≤ fW A j ∧ fW A j ≤ 9) (hR : RepC z q A) {j : Nat} (hj : j < 9) {v : Int} (hv : -9 ≤ v ∧ v ≤ 9) : f_X1_refuseWeight q (nI j) (iI v) z = some (rfW A j v) := by
  have w := hW j hj
  unfold f_X1_refuseWeight
  have n9 : ¬ (9 : Int32) ≤ nI j := nI_ge (b := 9) hj (by omega)
  rw [if_neg (nI_pos (by omega)), if_neg n9, if_neg (fun h => by have := (iI_lt (b := -9) (small32 (by omega) (by omega)) (small32 (by omega) (by omega))).mp h; omega), if_pos (show iI v ≤ 9 from (iI_le (b := 9) (small32 (by omega) (by omega)) (small32 (by omega) (by omega))).mpr hv.2), rdI_nI hj (by omega), bd_some, hR.2.2.2.2.2 j hj]
  unfold rfW
  by_cases c : fW A j = v
  · rw [if_pos (by rw [c]), if_pos c]
  · rw [if_neg (fun h => c ((iI_eq (small32 (by omega) (by omega)) (small32 (by omega) (by omega))).mp h)), if_neg c]
theorem c_refuseWeight_bad {x y : Int32} (h : (x < 0 ∨ 9 ≤ x) ∨ (y < -9 ∨ 9 < y)) : f_X1_refuseWeight q x y z = some (-1) := by
  unfold f_X1_refuseWeight
  by_cases c1 : x < 0
  · rw [if_pos c1]
  · rw [if_neg c1]
    by_cases c2 : 9 ≤ x
    · rw [if_pos c2]
    · rw [if_neg c2]
      by_cases c3 : y < -9
      · rw [if_pos c3]
      · rw [if_neg c3]
        have c4 : 9 < y := by
          rcases h with h | h
          · rcases h with h | h
            · exact absurd h c1
            · exact absurd h c2
          · exact h.resolve_left c3
        rw [if_neg (fun e => by rw [Int32.le_iff_toInt_le] at e; rw [Int32.lt_iff_toInt_lt] at c4; omega)]
/-- a weight's number and value, or not -/
theorem wt_or (x y : Int32) : (∃ (j : Nat) (v : Int), j < 9 ∧ (-9 ≤ v ∧ v ≤ 9) ∧ x = nI j ∧ y = iI v) ∨ ((x < 0 ∨ 9 ≤ x) ∨ (y < -9 ∨ 9 < y)) := by
  rcases ix_or x 9 (by omega) with ⟨j, hj, rfl⟩ | h
  · by_cases c : -9 ≤ y.toInt ∧ y.toInt ≤ 9
    · exact Or.inl ⟨j, y.toInt, hj, c, rfl, (iI_of y).symm⟩
    · refine Or.inr (Or.inr ?_)
      rw [Int32.lt_iff_toInt_lt, Int32.lt_iff_toInt_lt]
      have e1 : (-9 : Int32).toInt = -9 := by decide
      have e2 : (9 : Int32).toInt = 9 := by decide
      omega
  · exact Or.inr (Or.inl h)
theorem BF_mv (hB : BF A) {j : Nat} {px py : Int} (hx : 0 ≤ px ∧ px ≤ 5) (hy : 0 ≤ py ∧ py ≤ 5) : BF (mv A j px py) := by
  refine ⟨hB.1, hB.2.1, fun i hi => ?_, hB.2.2.2⟩
  have := hB.2.2.1 i hi
  show (0 ≤ va_up (fX A) j px i ∧ va_up (fX A) j px i ≤ 5) ∧ 0 ≤ va_up (fY A) j py i ∧ va_up (fY A) j py i ≤ 5
  unfold va_up
  split
  · exact ⟨hx, hy⟩
  · exact this
/-- the frame would not be plain -/
def npl (A : Fm) (j : Nat) (px py : Int) : Bool := ex (fun k => blk (mv A j px py) (fA A k) (fB A k)) (fM A)
theorem c_isPlainWith (hB : BF A) (hR : RepC z q A) {j : Nat} (hj : j < fN A) {px py : Int} (hx : 0 ≤ px ∧ px ≤ 5) (hy : 0 ≤ py ∧ py ≤ 5) : ∃ z', f_X1_isPlainWith q (nI j) (iI px) (iI py) z = some (b2i (!npl A j px py), z') ∧ RepC z' q A ∧ Fr q z z' := by
  have h6 := hB.1
  have h9 := hB.2.1
  obtain ⟨z1, a1, a2, a3⟩ := c_putAt hB hR hj px py
  have hB1 := BF_mv (j := j) hB hx hy
  obtain ⟨z2, b1, b2, b3⟩ := c_putAt (A := mv A j px py) hB1 a2 (j := j) hj (fX A j) (fY A j)
  have eM : z1.1 q 1 = nI (fM A) := a2.1.2.1
  have eA : ∀ k, k < fM A → z1.1 (q + 3) k = nI (fA A k) := a2.2.2.2.1
  have eB : ∀ k, k < fM A → z1.1 (q + 4) k = nI (fB A k) := a2.2.2.2.2.1
  refine ⟨z2, ?_, ?_, a3.tr b3⟩
  · unfold f_X1_isPlainWith
    rw [rdI_nI (by omega) (by omega), rdI_nI (by omega) (by omega), hR.2.1 j hj, hR.2.2.1 j hj]
    simp only [bd_some]
    rw [a1, bd_some]
    refine wl6_go (fun _ => nI j) (fun _ => iI (fX A j)) (fun _ => iI (fY A j)) (fun k => b2i (!ex (fun k => blk (mv A j px py) (fA A k) (fB A k)) k)) (fun k => nI k) (fun _ => z1) (fM A) _ ?_ ?_ (by omega)
    · intro k hk ag
      have hk2 := hB.2.2.2 k hk
      unfold b_X1_isPlainWith_29
      rw [eM, if_neg (nI_ge hk (by omega)), rdI_nI (by omega) (by omega), rdI_nI (by omega) (by omega), eA k hk, eB k hk]
      simp only [bd_some, lt_eq, nI_1]
      have hc := c_isClear hB1 a2 (a := fA A k) (b := fB A k) (by show fA A k < fN A; omega) hk2.2
      rw [hc, bd_some]
      simp only [ex]
      cases h1 : ex (fun k => blk (mv A j px py) (fA A k) (fB A k)) k with
      | true => rw [if_pos (by decide)]; rfl
      | false =>
        rw [if_neg (by decide)]
        cases h2 : blk (mv A j px py) (fA A k) (fB A k) with
        | true => rw [if_pos (by decide)]; rfl
        | false => rw [if_neg (by decide)]; rfl
    · intro ag
      unfold b_X1_isPlainWith_29
      rw [eM, if_pos (nI_le (Nat.le_refl _) (by omega)), b1, bd_some, bz_b, bd_some]
      rfl
  · refine ⟨b2.1, fun i hi => ?_, fun i hi => ?_, b2.2.2.2.1, b2.2.2.2.2.1, b2.2.2.2.2.2⟩
    · rw [b2.2.1 i hi]
      show iI (va_up (va_up (fX A) j px) j (fX A j) i) = _
      unfold va_up
      split
      · rename_i e; rw [e]
      · rfl
    · rw [b2.2.2.1 i hi]
      show iI (va_up (va_up (fY A) j py) j (fY A j) i) = _
      unfold va_up
      split
      · rename_i e; rw [e]
      · rfl
def rfM (A : Fm) (j : Nat) (px py : Int) : Int32 := if tk A px py || npl A j px py then -2 else 0
theorem c_refuseMove (hB : BF A) (hR : RepC z q A) {j : Nat} (hj : j < fN A) {px py : Int} (hx : 0 ≤ px ∧ px ≤ 5) (hy : 0 ≤ py ∧ py ≤ 5) : ∃ z', f_X1_refuseMove q (nI j) (iI px) (iI py) z = some (rfM A j px py, z') ∧ RepC z' q A ∧ Fr q z z' := by
  unfold f_X1_refuseMove
  rw [c_hasJoint hB hR hj, c_isPlace hx, c_isPlace hy, c_isTaken hB hR hx hy]
  simp only [bd_some]
  rw [if_neg (by decide), if_neg (by decide), if_neg (by decide)]
  unfold rfM
  cases tk A px py with
  | true => exact ⟨z, rfl, hR, Fr.rf⟩
  | false =>
    rw [b2i_f, if_pos rfl]
    obtain ⟨z', h1, h2, h3⟩ := c_isPlainWith hB hR hj hx hy
    refine ⟨z', ?_, h2, h3⟩
    rw [h1, bd2_some]
    cases npl A j px py <;> rfl
theorem c_refuseMove_bad (hB : BF A) (hR : RepC z q A) {w x y : Int32} (h : (w < 0 ∨ nI (fN A) ≤ w) ∨ (x < 0 ∨ 5 < x) ∨ (y < 0 ∨ 5 < y)) : f_X1_refuseMove q w x y z = some (-1, z) := by
  have h6 := hB.1
  unfold f_X1_refuseMove
  rcases ix_or w (fN A) (by omega) with ⟨a, ha, rfl⟩ | hw
  · rw [c_hasJoint hB hR ha, bd_some, if_neg (by decide)]
    rcases pl_or x with ⟨p, hp, rfl⟩ | hx
    · rw [c_isPlace hp, bd_some, if_neg (by decide)]
      rcases pl_or y with ⟨p2, hp2, rfl⟩ | hy
      · rcases h with h | h | h
        · have := c_hasJoint hB hR ha; rw [c_noJoint hB hR h] at this; cases this
        · have := c_isPlace (z := z) hp; rw [c_noPlace h] at this; cases this
        · have := c_isPlace (z := z) hp2; rw [c_noPlace h] at this; cases this
      · rw [c_noPlace hy]; rfl
    · rw [c_noPlace hx]; rfl
  · rw [c_noJoint hB hR hw]; rfl
theorem stI_at {z : Sto} {c : Nat} {f : Nat → Int32} {b j : Nat} : (stI z c f).1 b j = if b = c then f j else z.1 b j := by
  by_cases h : b = c
  · subst h; rw [stI_same, if_pos rfl]
  · rw [stI_ne h, if_neg h]
theorem cpy0 {α : Type} {f g : Nat → α} {n j : Nat} (h : j < n) : va_cpy f g 0 0 n j = f j := by rw [cpy_in (Nat.zero_le _) (by omega)]; congr 1; omega
/-- the figure of another frame (it lies apart), weights and draw stay -/
def fg (A B : Fm) : Fm := ((fN B, fM B), (fX B, fY B), (fA B, fB B), fW A, fD A)
theorem c_takeFigure {q1 : Nat} {A2 : Fm} (hB2 : BF A2) (hR : RepC z q A) (hR2 : RepC z q1 A2) (hd : q1 + 5 < q ∨ q + 5 < q1) : ∃ z', f_X1_takeFigure q q1 z = some z' ∧ RepC z' q (fg A A2) ∧ Fr q z z' := by
  have h6 := hB2.1
  have h9 := hB2.2.1
  obtain ⟨y1, hy1⟩ : ∃ y, y = upI z q 0 (z.1 q1 0) := ⟨_, rfl⟩
  obtain ⟨y2, hy2⟩ : ∃ y, y = upI y1 q 1 (y1.1 q1 1) := ⟨_, rfl⟩
  obtain ⟨y3, hy3⟩ : ∃ y, y = stI y2 (q + 1) (va_cpy (y2.1 (q1 + 1)) (y2.1 (q + 1)) 0 0 6) := ⟨_, rfl⟩
  obtain ⟨y4, hy4⟩ : ∃ y, y = stI y3 (q + 2) (va_cpy (y3.1 (q1 + 2)) (y3.1 (q + 2)) 0 0 6) := ⟨_, rfl⟩
  obtain ⟨y5, hy5⟩ : ∃ y, y = stI y4 (q + 3) (va_cpy (y4.1 (q1 + 3)) (y4.1 (q + 3)) 0 0 9) := ⟨_, rfl⟩
  obtain ⟨y6, hy6⟩ : ∃ y, y = stI y5 (q + 4) (va_cpy (y5.1 (q1 + 4)) (y5.1 (q + 4)) 0 0 9) := ⟨_, rfl⟩
  have f1 : Fr q z y1 := by rw [hy1]; exact Fr.rf.up (by omega)
  have f2 : Fr q z y2 := by rw [hy2]; exact f1.up (by omega)
  have f3 : Fr q z y3 := by rw [hy3]; exact f2.st (by omega)
  have f4 : Fr q z y4 := by rw [hy4]; exact f3.st (by omega)
  have f5 : Fr q z y5 := by rw [hy5]; exact f4.st (by omega)
  have f6 : Fr q z y6 := by rw [hy6]; exact f5.st (by omega)
  refine ⟨y6, ?_, ⟨⟨?_, ?_, ?_⟩, fun j hj => ?_, fun j hj => ?_, fun k hk => ?_, fun k hk => ?_, fun j hj => ?_⟩, f6⟩
  · unfold f_X1_takeFigure
    rw [lt_eq, ← hy1, lt_eq, ← hy2]
    rw [show cpI y2 (q1 + 1) 6 0 (q + 1) 6 0 6 = some y3 by rw [hy3]; exact cpI_nI (sp := 0) (dp := 0) (n := 6) (by omega) (by omega) (by omega) (by omega), bd_some]
    rw [show cpI y3 (q1 + 2) 6 0 (q + 2) 6 0 6 = some y4 by rw [hy4]; exact cpI_nI (sp := 0) (dp := 0) (n := 6) (by omega) (by omega) (by omega) (by omega), bd_some]
    rw [show cpI y4 (q1 + 3) 9 0 (q + 3) 9 0 9 = some y5 by rw [hy5]; exact cpI_nI (sp := 0) (dp := 0) (n := 9) (by omega) (by omega) (by omega) (by omega), bd_some]
    rw [show cpI y5 (q1 + 4) 9 0 (q + 4) 9 0 9 = some y6 by rw [hy6]; exact cpI_nI (sp := 0) (dp := 0) (n := 9) (by omega) (by omega) (by omega) (by omega), bd_some]
  · rw [hy6, stI_at, if_neg (by omega), hy5, stI_at, if_neg (by omega), hy4, stI_at, if_neg (by omega), hy3, stI_at, if_neg (by omega), hy2, upI_at, if_neg (by omega), hy1, upI_at, if_pos ⟨rfl, rfl⟩]
    exact hR2.1.1
  · rw [hy6, stI_at, if_neg (by omega), hy5, stI_at, if_neg (by omega), hy4, stI_at, if_neg (by omega), hy3, stI_at, if_neg (by omega), hy2, upI_at, if_pos ⟨rfl, rfl⟩, f1.1 q1 (by omega)]
    exact hR2.1.2.1
  · rw [hy6, stI_at, if_neg (by omega), hy5, stI_at, if_neg (by omega), hy4, stI_at, if_neg (by omega), hy3, stI_at, if_neg (by omega), hy2, upI_at, if_neg (by omega), hy1, upI_at, if_neg (by omega)]
    exact hR.1.2.2
  · have hj : j < fN A2 := hj
    rw [hy6, stI_at, if_neg (by omega), hy5, stI_at, if_neg (by omega), hy4, stI_at, if_neg (by omega), hy3, stI_at, if_pos rfl, cpy0 (by omega), f2.1 (q1 + 1) (by omega)]
    exact hR2.2.1 j hj
  · have hj : j < fN A2 := hj
    rw [hy6, stI_at, if_neg (by omega), hy5, stI_at, if_neg (by omega), hy4, stI_at, if_pos rfl, cpy0 (by omega), f3.1 (q1 + 2) (by omega)]
    exact hR2.2.2.1 j hj
  · have hk : k < fM A2 := hk
    rw [hy6, stI_at, if_neg (by omega), hy5, stI_at, if_pos rfl, cpy0 (by omega), f4.1 (q1 + 3) (by omega)]
    exact hR2.2.2.2.1 k hk
  · have hk : k < fM A2 := hk
    rw [hy6, stI_at, if_pos rfl, cpy0 (by omega), f5.1 (q1 + 4) (by omega)]
    exact hR2.2.2.2.2.1 k hk
  · rw [hy6, stI_at, if_neg (by omega), hy5, stI_at, if_neg (by omega), hy4, stI_at, if_neg (by omega), hy3, stI_at, if_neg (by omega), hy2, upI_at, if_neg (by omega), hy1, upI_at, if_neg (by omega)]
    exact hR.2.2.2.2.2 j hj
theorem c_takeAll {q1 : Nat} {A2 : Fm} (hB2 : BF A2) (hR2 : RepC z q1 A2) (hd : q1 + 5 < q ∨ q + 5 < q1) : ∃ z', f_X1_takeAll q q1 z = some z' ∧ RepC z' q A2 ∧ Fr q z z' := by
  have h6 := hB2.1
  have h9 := hB2.2.1
  obtain ⟨y1, hy1⟩ : ∃ y, y = upI z q 0 (z.1 q1 0) := ⟨_, rfl⟩
  obtain ⟨y2, hy2⟩ : ∃ y, y = upI y1 q 1 (y1.1 q1 1) := ⟨_, rfl⟩
  obtain ⟨y3, hy3⟩ : ∃ y, y = stI y2 (q + 1) (va_cpy (y2.1 (q1 + 1)) (y2.1 (q + 1)) 0 0 6) := ⟨_, rfl⟩
  obtain ⟨y4, hy4⟩ : ∃ y, y = stI y3 (q + 2) (va_cpy (y3.1 (q1 + 2)) (y3.1 (q + 2)) 0 0 6) := ⟨_, rfl⟩
  obtain ⟨y5, hy5⟩ : ∃ y, y = stI y4 (q + 3) (va_cpy (y4.1 (q1 + 3)) (y4.1 (q + 3)) 0 0 9) := ⟨_, rfl⟩
  obtain ⟨y6, hy6⟩ : ∃ y, y = stI y5 (q + 4) (va_cpy (y5.1 (q1 + 4)) (y5.1 (q + 4)) 0 0 9) := ⟨_, rfl⟩
  obtain ⟨y7, hy7⟩ : ∃ y, y = upI y6 q 2 (y6.1 q1 2) := ⟨_, rfl⟩
  obtain ⟨y8, hy8⟩ : ∃ y, y = stI y7 (q + 5) (va_cpy (y7.1 (q1 + 5)) (y7.1 (q + 5)) 0 0 9) := ⟨_, rfl⟩
  have f1 : Fr q z y1 := by rw [hy1]; exact Fr.rf.up (by omega)
  have f2 : Fr q z y2 := by rw [hy2]; exact f1.up (by omega)
  have f3 : Fr q z y3 := by rw [hy3]; exact f2.st (by omega)
  have f4 : Fr q z y4 := by rw [hy4]; exact f3.st (by omega)
  have f5 : Fr q z y5 := by rw [hy5]; exact f4.st (by omega)
  have f6 : Fr q z y6 := by rw [hy6]; exact f5.st (by omega)
  have f7 : Fr q z y7 := by rw [hy7]; exact f6.up (by omega)
  have f8 : Fr q z y8 := by rw [hy8]; exact f7.st (by omega)
  refine ⟨y8, ?_, ⟨⟨?_, ?_, ?_⟩, fun j hj => ?_, fun j hj => ?_, fun k hk => ?_, fun k hk => ?_, fun j hj => ?_⟩, f8⟩
  · unfold f_X1_takeAll f_X1_takeFigure
    rw [lt_eq, ← hy1, lt_eq, ← hy2]
    rw [show cpI y2 (q1 + 1) 6 0 (q + 1) 6 0 6 = some y3 by rw [hy3]; exact cpI_nI (sp := 0) (dp := 0) (n := 6) (by omega) (by omega) (by omega) (by omega), bd_some]
    rw [show cpI y3 (q1 + 2) 6 0 (q + 2) 6 0 6 = some y4 by rw [hy4]; exact cpI_nI (sp := 0) (dp := 0) (n := 6) (by omega) (by omega) (by omega) (by omega), bd_some]
    rw [show cpI y4 (q1 + 3) 9 0 (q + 3) 9 0 9 = some y5 by rw [hy5]; exact cpI_nI (sp := 0) (dp := 0) (n := 9) (by omega) (by omega) (by omega) (by omega), bd_some]
    rw [show cpI y5 (q1 + 4) 9 0 (q + 4) 9 0 9 = some y6 by rw [hy6]; exact cpI_nI (sp := 0) (dp := 0) (n := 9) (by omega) (by omega) (by omega) (by omega), bd_some]
    rw [bd_some, lt_eq, ← hy7]
    rw [show cpI y7 (q1 + 5) 9 0 (q + 5) 9 0 9 = some y8 by rw [hy8]; exact cpI_nI (sp := 0) (dp := 0) (n := 9) (by omega) (by omega) (by omega) (by omega), bd_some]
  · rw [hy8, stI_at, if_neg (by omega), hy7, upI_at, if_neg (by omega), hy6, stI_at, if_neg (by omega), hy5, stI_at, if_neg (by omega), hy4, stI_at, if_neg (by omega), hy3, stI_at, if_neg (by omega), hy2, upI_at, if_neg (by omega), hy1, upI_at, if_pos ⟨rfl, rfl⟩]
    exact hR2.1.1
  · rw [hy8, stI_at, if_neg (by omega), hy7, upI_at, if_neg (by omega), hy6, stI_at, if_neg (by omega), hy5, stI_at, if_neg (by omega), hy4, stI_at, if_neg (by omega), hy3, stI_at, if_neg (by omega), hy2, upI_at, if_pos ⟨rfl, rfl⟩, f1.1 q1 (by omega)]
    exact hR2.1.2.1
  · rw [hy8, stI_at, if_neg (by omega), hy7, upI_at, if_pos ⟨rfl, rfl⟩, f6.1 q1 (by omega)]
    exact hR2.1.2.2
  · rw [hy8, stI_at, if_neg (by omega), hy7, upI_at, if_neg (by omega), hy6, stI_at, if_neg (by omega), hy5, stI_at, if_neg (by omega), hy4, stI_at, if_neg (by omega), hy3, stI_at, if_pos rfl, cpy0 (by omega), f2.1 (q1 + 1) (by omega)]
    exact hR2.2.1 j hj
  · rw [hy8, stI_at, if_neg (by omega), hy7, upI_at, if_neg (by omega), hy6, stI_at, if_neg (by omega), hy5, stI_at, if_neg (by omega), hy4, stI_at, if_pos rfl, cpy0 (by omega), f3.1 (q1 + 2) (by omega)]
    exact hR2.2.2.1 j hj
  · rw [hy8, stI_at, if_neg (by omega), hy7, upI_at, if_neg (by omega), hy6, stI_at, if_neg (by omega), hy5, stI_at, if_pos rfl, cpy0 (by omega), f4.1 (q1 + 3) (by omega)]
    exact hR2.2.2.2.1 k hk
  · rw [hy8, stI_at, if_neg (by omega), hy7, upI_at, if_neg (by omega), hy6, stI_at, if_pos rfl, cpy0 (by omega), f5.1 (q1 + 4) (by omega)]
    exact hR2.2.2.2.2.1 k hk
  · rw [hy8, stI_at, if_pos rfl, cpy0 (by omega), f7.1 (q1 + 5) (by omega)]
    exact hR2.2.2.2.2.2 j hj
end
