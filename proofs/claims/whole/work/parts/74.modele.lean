/-! steps that go through, told so that nobody unrolls a loop to see it -/
theorem bds {α β : Type} (a : α) (k : α → Option β) : bd (some a) k = k a := by
  have h : k a = bd (some a) k := rfl
  exact h.symm
theorem bds2 {α β γ : Type} (a : α) (b : β) (k : α → β → Option γ) : bd2 (some (a, b)) k = k a b := by
  have h : k a b = bd2 (some (a, b)) k := rfl
  exact h.symm
theorem lts {α β : Type} (x : α) (k : α → β) : lt x k = k x := by
  have h : k x = lt x k := rfl
  exact h.symm
theorem lit (n : Nat) : (OfNat.ofNat n : Int32) = nI n := by
  have h : nI n = (OfNat.ofNat n : Int32) := rfl
  exact h.symm
theorem upL_at {z : Sto} {c k : Nat} {x : Int64} {b j : Nat} : (upL z c k x).2 b j = if b = c ∧ j = k then x else z.2 b j := by
  by_cases h : b = c
  · subst h
    rw [upL_same]
    by_cases h2 : j = k
    · subst h2; rw [updL_same, if_pos ⟨rfl, rfl⟩]
    · rw [updL_ne h2, if_neg (fun h => h2 h.2)]
  · rw [upL_ne h, if_neg (fun e => h e.1)]
theorem upI_L {z : Sto} {c k : Nat} {x : Int32} {b j : Nat} : (upI z c k x).2 b j = z.2 b j := rfl
theorem upL_I {z : Sto} {c k : Nat} {x : Int64} {b j : Nat} : (upL z c k x).1 b j = z.1 b j := rfl
theorem stI_L {z : Sto} {c : Nat} {f : Nat → Int32} {b j : Nat} : (stI z c f).2 b j = z.2 b j := rfl
theorem stL_I {z : Sto} {c : Nat} {f : Nat → Int64} {b j : Nat} : (stL z c f).1 b j = z.1 b j := rfl
theorem stL_at {z : Sto} {c : Nat} {f : Nat → Int64} {b j : Nat} : (stL z c f).2 b j = if b = c then f j else z.2 b j := by
  by_cases h : b = c
  · subst h; rw [stL_same, if_pos rfl]
  · rw [stL_ne h, if_neg h]
theorem updL_at {f : Nat → Int64} {k j : Nat} {x : Int64} : vp_updL f k x j = if j = k then x else f j := rfl
theorem upL_st {z : Sto} {c k : Nat} {g : Nat → Int64} {x : Int64} : upL (stL z c g) c k x = stL z c (vp_updL g k x) := by
  unfold upL stL
  simp only [va_up_self]
  congr 1
  funext b
  by_cases h : b = c
  · subst h; rw [va_up_self, va_up_self]
  · rw [va_up_ne _ _ h, va_up_ne _ _ h, va_up_ne _ _ h]
theorem stL_self {z : Sto} {c : Nat} : stL z c (z.2 c) = z := by
  unfold stL
  congr 1
  funext b
  by_cases h : b = c
  · subst h; rw [va_up_self]
  · rw [va_up_ne _ _ h]
/-- cells beside those of a list are as they were -/
def Ke (S : List Nat) (z z' : Sto) : Prop := (∀ c, c ∉ S → z'.1 c = z.1 c) ∧ ∀ c, c ∉ S → z'.2 c = z.2 c
theorem Ke.rf {S : List Nat} {z : Sto} : Ke S z z := ⟨fun _ _ => rfl, fun _ _ => rfl⟩
theorem Ke.tr {S : List Nat} {z z' z'' : Sto} (h : Ke S z z') (h' : Ke S z' z'') : Ke S z z'' := ⟨fun c hc => (h'.1 c hc).trans (h.1 c hc), fun c hc => (h'.2 c hc).trans (h.2 c hc)⟩
theorem Ke.mono {S T : List Nat} {z z' : Sto} (h : Ke S z z') (hs : ∀ c, c ∈ S → c ∈ T) : Ke T z z' := ⟨fun c hc => h.1 c (fun e => hc (hs c e)), fun c hc => h.2 c (fun e => hc (hs c e))⟩
theorem Ke.up {S : List Nat} {z z' : Sto} (h : Ke S z z') {c k : Nat} {x : Int32} (hc : c ∈ S) : Ke S z (upI z' c k x) := ⟨fun b hb => (upI_ne (fun e : b = c => hb (by rw [e]; exact hc))).trans (h.1 b hb), h.2⟩
theorem Ke.st {S : List Nat} {z z' : Sto} (h : Ke S z z') {c : Nat} {f : Nat → Int32} (hc : c ∈ S) : Ke S z (stI z' c f) := ⟨fun b hb => (stI_ne (fun e : b = c => hb (by rw [e]; exact hc))).trans (h.1 b hb), h.2⟩
theorem Ke.upl {S : List Nat} {z z' : Sto} (h : Ke S z z') {c k : Nat} {x : Int64} (hc : c ∈ S) : Ke S z (upL z' c k x) := ⟨h.1, fun b hb => (upL_ne (fun e : b = c => hb (by rw [e]; exact hc))).trans (h.2 b hb)⟩
theorem Ke.stl {S : List Nat} {z z' : Sto} (h : Ke S z z') {c : Nat} {f : Nat → Int64} (hc : c ∈ S) : Ke S z (stL z' c f) := ⟨h.1, fun b hb => (stL_ne (fun e : b = c => hb (by rw [e]; exact hc))).trans (h.2 b hb)⟩
theorem RowM_congr {A : Fm} {f g : Nat → Int32} (hB : BF A) (h : ∀ k, k < 42 → g k = f k) (hR : RowM f A) : RowM g A := by
  have h6 := hB.1
  have h9 := hB.2.1
  refine ⟨⟨?_, ?_, ?_⟩, fun j hj => ?_, fun j hj => ?_, fun k hk => ?_, fun k hk => ?_, fun j hj => ?_⟩
  · rw [h _ (by omega)]; exact hR.1.1
  · rw [h _ (by omega)]; exact hR.1.2.1
  · rw [h _ (by omega)]; exact hR.1.2.2
  · rw [h _ (by omega)]; exact hR.2.1 j hj
  · rw [h _ (by omega)]; exact hR.2.2.1 j hj
  · rw [h _ (by omega)]; exact hR.2.2.2.1 k hk
  · rw [h _ (by omega)]; exact hR.2.2.2.2.1 k hk
  · rw [h _ (by omega)]; exact hR.2.2.2.2.2 j hj
theorem RowM_half {A : Fm} {f : Nat → Int32} (hR : RowM f A) {h : Nat} (hh : h < 2 * fM A) : f (15 + h) = nI (fS A h) := by
  unfold fS
  by_cases e : h % 2 = 0
  · rw [if_pos e, ← hR.2.2.2.1 (h / 2) (by omega)]; congr 1; omega
  · rw [if_neg e, ← hR.2.2.2.2.1 (h / 2) (by omega)]; congr 1; omega
section
variable {z : Sto} {A : Fm}
theorem m_holds : ∃ g, f_X7_holds z = some (stI z 132 g) ∧ ∀ k, k < 42 → g k = z.1 123 k := by
  refine wl2_inv (Q := fun o => ∃ g, o = some (stI z 132 g) ∧ ∀ k, k < 42 → g k = z.1 123 k) (fun k x y => x = nI k ∧ ∃ g, y = stI z 132 g ∧ ∀ i, i < k → g i = z.1 123 i) 42 ?_ ?_ (by omega) ⟨rfl, z.1 132, stI_self.symm, fun i hi => by omega⟩
  · rintro k hk _ _ ⟨rfl, g, rfl, hg⟩
    refine Or.inl ⟨nI (k + 1), stI z 132 (upd g k (z.1 123 k)), ⟨rfl, _, rfl, fun i hi => ?_⟩, fun ag => ?_⟩
    · rw [upd_at]
      by_cases e : i = k
      · rw [if_pos e, e]
      · rw [if_neg e]; exact hg i (by omega)
    · unfold b_X7_holds_2
      simp (disch := omega) only [bds, bds2, lts, lit, nI_add, pk_mul, nI_leI, nI_ltI, nI_eq, rdI_nI, rdL_nI, wrI_nI, wrL_nI, rdR_nI, if_pos, if_neg, stI_at, upI_st]
  · rintro _ _ ⟨rfl, g, rfl, hg⟩ ag
    refine ⟨g, ?_, hg⟩
    unfold b_X7_holds_2
    simp (disch := omega) only [bds, bds2, lts, lit, nI_add, pk_mul, nI_leI, nI_ltI, nI_eq, rdI_nI, rdL_nI, wrI_nI, wrL_nI, rdR_nI, if_pos, if_neg]
theorem m_takesBack : ∃ g, f_X7_takesBack z = some (stI z 123 g) ∧ ∀ k, k < 42 → g k = z.1 132 k := by
  refine wl2_inv (Q := fun o => ∃ g, o = some (stI z 123 g) ∧ ∀ k, k < 42 → g k = z.1 132 k) (fun k x y => x = nI k ∧ ∃ g, y = stI z 123 g ∧ ∀ i, i < k → g i = z.1 132 i) 42 ?_ ?_ (by omega) ⟨rfl, z.1 123, stI_self.symm, fun i hi => by omega⟩
  · rintro k hk _ _ ⟨rfl, g, rfl, hg⟩
    refine Or.inl ⟨nI (k + 1), stI z 123 (upd g k (z.1 132 k)), ⟨rfl, _, rfl, fun i hi => ?_⟩, fun ag => ?_⟩
    · rw [upd_at]
      by_cases e : i = k
      · rw [if_pos e, e]
      · rw [if_neg e]; exact hg i (by omega)
    · unfold b_X7_takesBack_2
      simp (disch := omega) only [bds, bds2, lts, lit, nI_add, pk_mul, nI_leI, nI_ltI, nI_eq, rdI_nI, rdL_nI, wrI_nI, wrL_nI, rdR_nI, if_pos, if_neg, stI_at, upI_st]
  · rintro _ _ ⟨rfl, g, rfl, hg⟩ ag
    refine ⟨g, ?_, hg⟩
    unfold b_X7_takesBack_2
    simp (disch := omega) only [bds, bds2, lts, lit, nI_add, pk_mul, nI_leI, nI_ltI, nI_eq, rdI_nI, rdL_nI, wrI_nI, wrL_nI, rdR_nI, if_pos, if_neg]
/-- a joint moves, or not -/
theorem m_moves (hB : BF A) (hR : RowM (z.1 123) A) {j : Nat} (hj : j < fN A) {px py : Int} (hx : 0 ≤ px ∧ px ≤ 5) (hy : 0 ≤ py ∧ py ≤ 5) : ∃ z', Ke [123, 132] z z' ∧ (rfM A j px py ≠ 0 → f_X7_moves (nI j) (iI px) (iI py) z = some (rfM A j px py, z') ∧ RowM (z'.1 123) A) ∧ (rfM A j px py = 0 → f_X7_moves (nI j) (iI px) (iI py) z = some (nI (dg A j), z') ∧ RowM (z'.1 123) (mv A j px py)) := by
  have h6 := hB.1
  have h9 := hB.2.1
  obtain ⟨r, r1, r2⟩ := m_find hB hR hx hy
  unfold f_X7_moves
  rw [m_isJoint hB hR hj, bd_some, if_neg (by decide), m_isPlace hx hy, bd_some, if_neg (by decide), r1, bd_some]
  unfold rfM
  cases ht : tk A px py with
  | true =>
    refine ⟨z, Ke.rf, fun _ => ⟨?_, hR⟩, fun h => absurd h (by simp)⟩
    rw [if_neg (fun h => by rw [r2.mp h] at ht; cases ht)]
    rfl
  | false =>
    obtain ⟨g, g1, g2⟩ := m_holds (z := z)
    have hB2 := BF_mv (A := A) (j := j) hB hx hy
    rw [if_pos (r2.mpr ht), g1]
    obtain ⟨w, hw⟩ : ∃ w, w = upd (upd (z.1 123) (3 + 2 * j) (iI px)) (3 + 2 * j + 1) (iI py) := ⟨_, rfl⟩
    have e1 : upI (upI (stI z 132 g) 123 (3 + 2 * j) (iI px)) 123 (3 + 2 * j + 1) (iI py) = stI (stI z 132 g) 123 w := by
      rw [upI_eq (z := stI z 132 g), upI_st, hw, stI_ne (by decide)]
    have hR2 : RowM ((stI (stI z 132 g) 123 w).1 123) (mv A j px py) := by
      rw [stI_same, hw]
      refine ⟨⟨?_, ?_, ?_⟩, fun i hi => ?_, fun i hi => ?_, fun k hk => ?_, fun k hk => ?_, fun i hi => ?_⟩
      · rw [upd_at, if_neg (by omega), upd_at, if_neg (by omega)]; exact hR.1.1
      · rw [upd_at, if_neg (by omega), upd_at, if_neg (by omega)]; exact hR.1.2.1
      · rw [upd_at, if_neg (by omega), upd_at, if_neg (by omega)]; exact hR.1.2.2
      · have hi : i < fN A := hi
        rw [upd_at, if_neg (by omega), upd_at]
        show _ = iI (va_up (fX A) j px i)
        by_cases e : i = j
        · rw [if_pos (by omega), e, va_up_self]
        · rw [if_neg (by omega), va_up_ne _ _ e]; exact hR.2.1 i hi
      · have hi : i < fN A := hi
        rw [upd_at]
        show _ = iI (va_up (fY A) j py i)
        by_cases e : i = j
        · rw [if_pos (by omega), e, va_up_self]
        · rw [if_neg (by omega), upd_at, if_neg (by omega), va_up_ne _ _ e]; exact hR.2.2.1 i hi
      · have hk : k < fM A := hk
        rw [upd_at, if_neg (by omega), upd_at, if_neg (by omega)]; exact hR.2.2.2.1 k hk
      · have hk : k < fM A := hk
        rw [upd_at, if_neg (by omega), upd_at, if_neg (by omega)]; exact hR.2.2.2.2.1 k hk
      · rw [upd_at, if_neg (by omega), upd_at, if_neg (by omega)]; exact hR.2.2.2.2.2 i hi
    have ke : Ke [123, 132] z (stI (stI z 132 g) 123 w) := (Ke.rf.st (by simp)).st (by simp)
    have hp := m_isPlain hB2 hR2
    have ep : pn (mv A j px py) = npl A j px py := pn_eq _
    simp (disch := omega) only [bds, bds2, lts, lit, nI_add, pk_mul, nI_leI, nI_ltI, nI_eq, rdI_nI, rdL_nI, wrI_nI, wrL_nI, rdR_nI, if_pos, if_neg, e1, hp, ep]
    cases hn : npl A j px py with
    | true =>
      obtain ⟨w2, w3, w4⟩ := m_takesBack (z := stI (stI z 132 g) 123 w)
      refine ⟨_, ke.st (c := 123) (f := w2) (by simp), fun _ => ⟨?_, ?_⟩, fun h => absurd h (by decide)⟩
      · simp (disch := omega) only [bds, bds2, lts, lit, nI_add, pk_mul, nI_leI, nI_ltI, nI_eq, rdI_nI, rdL_nI, wrI_nI, wrL_nI, rdR_nI, if_pos, if_neg, w3, b2i]; rfl
      · rw [stI_same]
        refine RowM_congr hB (fun k hk => ?_) hR
        rw [w4 k hk, stI_ne (by decide), stI_same, g2 k hk]
    | false =>
      refine ⟨_, ke, fun h => absurd (by simp) h, fun _ => ⟨?_, hR2⟩⟩
      have hb := m_barsOf hB2 hR2 (j := j) hj
      simp (disch := omega) only [bds, bds2, lts, lit, nI_add, pk_mul, nI_leI, nI_ltI, nI_eq, rdI_nI, rdL_nI, wrI_nI, wrL_nI, rdR_nI, if_pos, if_neg, hb, b2i]
      rfl
theorem m_moves_bad (hB : BF A) (hR : RowM (z.1 123) A) {w x y : Int32} (h : (w < 0 ∨ nI (fN A) ≤ w) ∨ (x < 0 ∨ 5 < x) ∨ (y < 0 ∨ 5 < y)) : f_X7_moves w x y z = some (-1, z) := by
  have h6 := hB.1
  unfold f_X7_moves
  rcases ix_or w (fN A) (by omega) with ⟨a, ha, rfl⟩ | hw
  · rw [m_isJoint hB hR ha, bd_some, if_neg (by decide)]
    rcases h with h | h
    · have := m_isJoint hB hR ha; rw [m_noJoint hB hR h] at this; cases this
    · rw [m_noPlace h]; rfl
  · rw [m_noJoint hB hR hw]; rfl
theorem m_weighs (hB : BF A) (hW : ∀ j, j < 9 → -9 ≤ fW A j ∧ fW A j ≤ 9) (hR : RowM (z.1 123) A) {j : Nat} (hj : j < 9) {v : Int} (hv : -9 ≤ v ∧ v ≤ 9) : (rfW A j v ≠ 0 → f_X7_weighs (nI j) (iI v) z = some (rfW A j v, z)) ∧ (rfW A j v = 0 → ∃ g, f_X7_weighs (nI j) (iI v) z = some (iI (fW A j + 9), stI z 123 g) ∧ RowM g (wt A j v)) := by
  have hw := hW j hj
  have i1 : f_X7_in (nI j).toInt64 0 8 z = some 1 := by
    rw [show (0 : Int64) = iL 0 from rfl, show (8 : Int64) = iL 8 from rfl, m_inI _ (by omega) (by omega), nI_iI, iI_toInt (small32 (by omega) (by omega))]
    simp [show (j : Int) ≤ 8 by omega, b2i]
  have i2 : f_X7_in (iI v).toInt64 (-9) 9 z = some 1 := by
    rw [show (-9 : Int64) = iL (-9) by decide, show (9 : Int64) = iL 9 from rfl, m_inI _ (by omega) (by omega), iI_toInt (small32 (by omega) (by omega))]
    simp [hv.1, hv.2, b2i]
  have e : f_X7_weighs (nI j) (iI v) z = if fW A j = v then some (-2, z) else some (iI (fW A j + 9), stI z 123 (upd (z.1 123) (33 + j) (iI v))) := by
    unfold f_X7_weighs
    rw [i1, i2]
    simp only [bd_some]
    rw [if_neg (by decide), if_neg (by decide), e33, nI_add, rdI_nI (by omega) (by omega), bd_some, hR.2.2.2.2.2 j hj, wrI_nI (by omega) (by omega), bd_some, show (9 : Int32) = iI 9 from rfl, iI_add, upI_eq]
    by_cases c : fW A j = v
    · rw [if_pos c, if_pos (by rw [c])]
    · rw [if_neg c, if_neg (fun h => c ((iI_eq (small32 (by omega) (by omega)) (small32 (by omega) (by omega))).mp h))]
  rw [e]
  unfold rfW
  by_cases c : fW A j = v
  · rw [if_pos c, if_pos c]; exact ⟨fun _ => rfl, fun h => absurd h (by decide)⟩
  · rw [if_neg c, if_neg c]
    refine ⟨fun h => absurd rfl h, fun _ => ⟨_, rfl, ?_⟩⟩
    refine ⟨⟨?_, ?_, ?_⟩, fun i hi => ?_, fun i hi => ?_, fun k hk => ?_, fun k hk => ?_, fun i hi => ?_⟩
    · rw [upd_at, if_neg (by omega)]; exact hR.1.1
    · rw [upd_at, if_neg (by omega)]; exact hR.1.2.1
    · rw [upd_at, if_neg (by omega)]; exact hR.1.2.2
    · have := hB.1
      have hi : i < fN A := hi
      rw [upd_at, if_neg (by omega)]; exact hR.2.1 i hi
    · have := hB.1
      have hi : i < fN A := hi
      rw [upd_at, if_neg (by omega)]; exact hR.2.2.1 i hi
    · have := hB.2.1
      have hk : k < fM A := hk
      rw [upd_at, if_neg (by omega)]; exact hR.2.2.2.1 k hk
    · have := hB.2.1
      have hk : k < fM A := hk
      rw [upd_at, if_neg (by omega)]; exact hR.2.2.2.2.1 k hk
    · rw [upd_at]
      show _ = iI (va_up (fW A) j v i)
      by_cases e : i = j
      · rw [if_pos (by omega), e, va_up_self]
      · rw [if_neg (by omega), va_up_ne _ _ e]; exact hR.2.2.2.2.2 i hi
theorem m_weighs_bad {x y : Int32} (h : (x < 0 ∨ 9 ≤ x) ∨ (y < -9 ∨ 9 < y)) : f_X7_weighs x y z = some (-1, z) := by
  unfold f_X7_weighs
  rw [show (0 : Int64) = iL 0 from rfl, show (8 : Int64) = iL 8 from rfl, show (-9 : Int64) = iL (-9) by decide, show (9 : Int64) = iL 9 from rfl, m_inI _ (by omega) (by omega), m_inI _ (by omega) (by omega)]
  simp only [bd_some]
  simp only [Int32.lt_iff_toInt_lt, Int32.le_iff_toInt_le] at h
  have z0 : (0 : Int32).toInt = 0 := rfl
  have z9 : (9 : Int32).toInt = 9 := rfl
  have zm : (-9 : Int32).toInt = -9 := by decide
  rw [z0, z9, zm] at h
  by_cases c1 : (decide (0 ≤ x.toInt) && decide (x.toInt ≤ 8)) = true
  · have c1' := c1
    simp only [Bool.and_eq_true, decide_eq_true_eq] at c1
    have c2 : (decide (-9 ≤ y.toInt) && decide (y.toInt ≤ 9)) = false := by
      rw [Bool.and_eq_false_iff, decide_eq_false_iff_not, decide_eq_false_iff_not]; omega
    rw [c1', c2]; rfl
  · rw [Bool.not_eq_true] at c1
    rw [c1]; rfl
end
