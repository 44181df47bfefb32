section
variable {z : Sto} {A : Fm}
theorem eS2 (A : Fm) (k : Nat) : fS A (2 * k) = fA A k := by unfold fS; rw [if_pos (by omega), show 2 * k / 2 = k by omega]
theorem eE2 (A : Fm) (k : Nat) : fE A (2 * k) = fB A k := by unfold fE; rw [if_pos (by omega), show 2 * k / 2 = k by omega]
theorem eS21 (A : Fm) (k : Nat) : fS A (2 * k + 1) = fB A k := by unfold fS; rw [if_neg (by omega), show (2 * k + 1) / 2 = k by omega]
theorem eE21 (A : Fm) (k : Nat) : fE A (2 * k + 1) = fA A k := by unfold fE; rw [if_neg (by omega), show (2 * k + 1) / 2 = k by omega]
theorem dg_half (hB : BF A) (j : Nat) : ∀ k, k ≤ fM A → cnt (fun h => decide (fS A h = j)) (2 * k) = cnt (fun k => decide (fA A k = j) || decide (fB A k = j)) k := by
  intro k
  induction k with
  | zero => intro _; rfl
  | succ k ih =>
    intro hk
    have hb := hB.2.2.2 k (by omega)
    have ih := ih (by omega)
    rw [show 2 * (k + 1) = 2 * k + 1 + 1 by omega]
    simp only [cnt]
    rw [ih, eS2, eS21]
    by_cases c1 : fA A k = j
    · have c2 : ¬ fB A k = j := by omega
      simp [c1, c2]
    · simp [c1]
theorem m_barsOf (hB : BF A) (hR : RowM (z.1 123) A) {j : Nat} (hj : j < fN A) : f_X7_barsOf (nI j) z = some (nI (dg A j)) := by
  have h6 := hB.1
  have h9 := hB.2.1
  have s : f_X7_barsOf (nI j) z = some (nI (cnt (fun h => decide (fS A h = j)) (2 * fM A))) := by
    refine wl3_go (fun _ => nI j) (fun h => nI (cnt (fun h => decide (fS A h = j)) h)) (fun h => nI h) (2 * fM A) _ ?_ ?_ (by omega)
    · intro h hh ag
      have l1 := fS_lt hB hh
      unfold b_X7_barsOf_4
      rw [m_rd1, bd_some, hR.1.2.1, e2, pk_mul, if_neg (nI_ge hh (by omega)), m_from hB hR hh]
      simp only [bd_some, lt_eq, nI_1]
      by_cases c : fS A h = j
      · rw [if_pos (by rw [c]), cnt_t (by simp [c])]
      · rw [if_neg (fun e => c ((nI_eq (by omega) (by omega)).mp e)), cnt_f (by simp [c]), show (0 : Int32) = nI 0 from rfl, nI_add]; rfl
    · intro ag
      unfold b_X7_barsOf_4
      rw [m_rd1, bd_some, hR.1.2.1, e2, pk_mul, if_pos (nI_le (Nat.le_refl _) (by omega))]
  rw [s, dg_half hB j _ (Nat.le_refl _)]
  rfl
def pl1 (A : Fm) (i : Nat) : Bool := ex (fun j => onP A (fA A i) (fB A i) (fX A j) (fY A j)) (fN A) || ex (fun k => crB A (fA A i) (fB A i) (fA A k) (fB A k)) i
def pn (A : Fm) : Bool := ex (pl1 A) (fM A)
theorem crB_comm (A : Fm) (a b c d : Nat) : crB A a b c d = crB A c d a b := by unfold crB; rw [Bool.and_comm]
theorem crB_self (A : Fm) (a b : Nat) : crB A a b a b = false := by
  have : tn A a b a = 0 := by unfold tn; simp
  unfold crB
  rw [this]; simp
theorem pn_eq (A : Fm) : pn A = ex (fun k => blk A (fA A k) (fB A k)) (fM A) := by
  rw [Bool.eq_iff_iff]
  unfold pn
  rw [ex_iff, ex_iff]
  constructor
  · rintro ⟨k, hk, h⟩
    refine ⟨k, hk, ?_⟩
    unfold pl1 at h
    unfold blk
    rw [Bool.or_eq_true] at h ⊢
    rcases h with h | h
    · exact Or.inl h
    · obtain ⟨i, hi, h⟩ := ex_iff.mp h
      exact Or.inr (ex_iff.mpr ⟨i, by omega, h⟩)
  · rintro ⟨k, hk, h⟩
    unfold blk at h
    rw [Bool.or_eq_true] at h
    rcases h with h | h
    · exact ⟨k, hk, by unfold pl1; rw [h]; rfl⟩
    · obtain ⟨i, hi, h⟩ := ex_iff.mp h
      rcases Nat.lt_trichotomy i k with c | c | c
      · exact ⟨k, hk, by unfold pl1; rw [ex_iff.mpr ⟨i, c, h⟩, Bool.or_true]⟩
      · subst c; rw [crB_self] at h; cases h
      · rw [crB_comm] at h
        exact ⟨i, hi, by unfold pl1; rw [ex_iff.mpr ⟨k, c, h⟩, Bool.or_true]⟩
theorem m_isPlain (hB : BF A) (hR : RowM (z.1 123) A) : f_X7_isPlain z = some (b2i (!pn A)) := by
  have h6 := hB.1
  have h9 := hB.2.1
  refine wl2_go (fun i => b2i (!ex (pl1 A) i)) (fun i => nI i) (fM A) _ ?_ ?_ (by omega)
  · intro i hi ag
    have hi2 := hB.2.2.2 i hi
    have la : fA A i < fN A := by omega
    have s2 : ∀ v : Bool, wl3 (b_X7_isPlain_66 z ag) fu (b2i v) (nI i) 0 = ag (b2i (v && !ex (fun k => crB A (fA A i) (fB A i) (fA A k) (fB A k)) i)) (nI (i + 1)) := by
      intro v
      have := wl3_go (body := b_X7_isPlain_66 z ag) (fun k => b2i (v && !ex (fun k => crB A (fA A i) (fB A i) (fA A k) (fB A k)) k)) (fun _ => nI i) (fun k => nI k) i (ag (b2i (v && !ex (fun k => crB A (fA A i) (fB A i) (fA A k) (fB A k)) i)) (nI (i + 1))) ?_ ?_ (by omega)
      · simp only [ex, Bool.not_false, Bool.and_true] at this; exact this
      · intro k hk ag2
        have hk2 := hB.2.2.2 k (by omega)
        unfold b_X7_isPlain_66
        rw [if_neg (nI_ge hk (by omega)), e2, pk_mul, pk_mul, m_from hB hR (by omega), m_to hB hR (by omega), m_from hB hR (by omega), m_to hB hR (by omega), eS2, eE2, eS2, eE2]
        simp only [bd_some, lt_eq, nI_1]
        rw [m_doCross hB hR la hi2.2 (by omega) hk2.2, bd_some]
        simp only [ex]
        cases v <;> cases ex (fun k => crB A (fA A i) (fB A i) (fA A k) (fB A k)) k <;> cases crB A (fA A i) (fB A i) (fA A k) (fB A k) <;> rfl
      · intro ag2
        unfold b_X7_isPlain_66
        rw [if_pos (nI_le (Nat.le_refl _) (by omega)), lt_eq, nI_1]
    have s1 : ∀ v : Bool, wl3 (b_X7_isPlain_16 z ag) fu (b2i v) (nI i) 0 = ag (b2i (v && !pl1 A i)) (nI (i + 1)) := by
      intro v
      have := wl3_go (body := b_X7_isPlain_16 z ag) (fun j => b2i (v && !ex (fun j => onP A (fA A i) (fB A i) (fX A j) (fY A j)) j)) (fun _ => nI i) (fun k => nI k) (fN A) (ag (b2i (v && !pl1 A i)) (nI (i + 1))) ?_ ?_ (by omega)
      · simp only [ex, Bool.not_false, Bool.and_true] at this; exact this
      · intro k hk ag2
        unfold b_X7_isPlain_16
        rw [m_rd0, bd_some, hR.1.1, if_neg (nI_ge hk (by omega)), e2, pk_mul, m_from hB hR (by omega), m_to hB hR (by omega), eS2, eE2]
        simp only [bd_some, lt_eq, nI_1]
        rw [m_isOver hB hR la hi2.2 hk, bd_some]
        simp only [ex]
        cases v <;> cases ex (fun j => onP A (fA A i) (fB A i) (fX A j) (fY A j)) k <;> cases onP A (fA A i) (fB A i) (fX A k) (fY A k) <;> rfl
      · intro ag2
        unfold b_X7_isPlain_16
        rw [m_rd0, bd_some, hR.1.1, if_pos (nI_le (Nat.le_refl _) (by omega)), s2]
        unfold pl1
        congr 1
        cases v <;> cases ex (fun j => onP A (fA A i) (fB A i) (fX A j) (fY A j)) (fN A) <;> cases ex (fun k => crB A (fA A i) (fB A i) (fA A k) (fB A k)) i <;> rfl
    unfold b_X7_isPlain_4
    rw [m_rd1, bd_some, hR.1.2.1, if_neg (nI_ge hi (by omega)), s1]
    simp only [ex]
    congr 1
    cases ex (pl1 A) i <;> cases pl1 A i <;> rfl
  · intro ag
    unfold b_X7_isPlain_4
    rw [m_rd1, bd_some, hR.1.2.1, if_pos (nI_le (Nat.le_refl _) (by omega)), bz_b, bd_some]
    rfl
theorem wrM {k : Nat} {g : Nat → Int32} {x : Int32} (hk : k < 42) : wrI (stI z 123 g) 123 42 (nI k) x = some (stI z 123 (upd g k x)) := by rw [wrI_nI hk (by omega), upI_st]
theorem rdM {k : Nat} {g : Nat → Int32} (hk : k < 42) : rdI (stI z 123 g) 123 42 (nI k) = some (g k) := by rw [rdI_nI hk (by omega), stI_same]
theorem upd_at {f : Nat → Int32} {k j : Nat} {x : Int32} : upd f k x j = if j = k then x else f j := rfl
theorem RowM_st {g : Nat → Int32} : RowM ((stI z 123 g).1 123) A ↔ RowM g A := by rw [stI_same]
theorem m_joins (hB : BF A) (hR : RowM (z.1 123) A) {px py : Int} (hx : 0 ≤ px ∧ px ≤ 5) (hy : 0 ≤ py ∧ py ≤ 5) : (rfJ A px py ≠ 0 → f_X7_joins (iI px) (iI py) z = some (rfJ A px py, z)) ∧ (rfJ A px py = 0 → ∃ g, f_X7_joins (iI px) (iI py) z = some (nI (fN A), stI z 123 g) ∧ RowM g (jn A px py)) := by
  have h6 := hB.1
  have h9 := hB.2.1
  obtain ⟨r, r1, r2⟩ := m_find hB hR hx hy
  have main : f_X7_joins (iI px) (iI py) z = if tk A px py || ub A px py then some (-2, z) else if 6 ≤ fN A then some (-3, z) else some (nI (fN A), stI z 123 (upd (upd (upd (z.1 123) (3 + 2 * fN A) (iI px)) (3 + 2 * fN A + 1) (iI py)) 0 (nI (fN A + 1)))) := by
    unfold f_X7_joins
    rw [m_isPlace hx hy, r1, m_isUnder hB hR hx hy]
    simp only [bd_some]
    rw [if_neg (by decide), m_rd0, bd_some, hR.1.1]
    cases ht : tk A px py with
    | true => rw [if_neg (fun h => by rw [r2.mp h] at ht; cases ht)]; rfl
    | false =>
      rw [if_pos (r2.mpr ht), Bool.false_or]
      by_cases c : fN A = 6
      · rw [if_pos (by rw [c]; rfl)]
        cases ub A px py with
        | true => rfl
        | false => rw [b2i_f, if_pos rfl, if_neg (by decide), if_pos (by omega)]
      · rw [if_neg (show ¬ nI (fN A) = 6 from fun h => c ((nI_eq (b := 6) (by omega) (by omega)).mp h))]
        cases ub A px py with
        | true => rfl
        | false =>
          rw [b2i_f, if_pos rfl, if_neg (by decide), if_neg (by omega)]
          rw [e3, e2, pk_mul, nI_add, wrI_nI (by omega) (by omega), bd_some, upI_eq, nI_1, wrM (by omega), bd_some]
          rw [show (0 : Int32) = nI 0 from rfl, rdM (by omega), bd_some, upd_at, if_neg (by omega), upd_at, if_neg (by omega), hR.1.1, nI_1, wrM (by omega), bd_some]
  constructor
  · intro hne
    rw [main]
    unfold rfJ at hne ⊢
    cases ht : (tk A px py || ub A px py) with
    | true => rfl
    | false =>
      rw [ht, if_neg (show ¬ false = true by decide)] at hne
      by_cases c : 6 ≤ fN A
      · rw [if_neg (show ¬ false = true by decide), if_neg (show ¬ false = true by decide), if_pos c, if_pos c]
      · rw [if_neg c] at hne; exact absurd rfl hne
  · intro h0
    unfold rfJ at h0
    cases ht : (tk A px py || ub A px py) with
    | true => rw [ht, if_pos rfl] at h0; exact absurd h0 (by decide)
    | false =>
      rw [ht, if_neg (by decide)] at h0
      by_cases c : 6 ≤ fN A
      · rw [if_pos c] at h0; exact absurd h0 (by decide)
      · refine ⟨_, by rw [main, ht, if_neg (by decide), if_neg c], ⟨⟨?_, ?_, ?_⟩, fun j hj => ?_, fun j hj => ?_, fun k hk => ?_, fun k hk => ?_, fun j hj => ?_⟩⟩
        · rw [upd_at, if_pos rfl]; rfl
        · rw [upd_at, if_neg (by omega), upd_at, if_neg (by omega), upd_at, if_neg (by omega)]; exact hR.1.2.1
        · rw [upd_at, if_neg (by omega), upd_at, if_neg (by omega), upd_at, if_neg (by omega)]; exact hR.1.2.2
        · have hj : j < fN A + 1 := hj
          rw [upd_at, if_neg (by omega), upd_at, if_neg (by omega), upd_at]
          show _ = iI (va_up (fX A) (fN A) px j)
          by_cases e : j = fN A
          · rw [if_pos (by omega), e, va_up_self]
          · rw [if_neg (by omega), va_up_ne _ _ e]; exact hR.2.1 j (by omega)
        · have hj : j < fN A + 1 := hj
          rw [upd_at, if_neg (by omega), upd_at]
          show _ = iI (va_up (fY A) (fN A) py j)
          by_cases e : j = fN A
          · rw [if_pos (by omega), e, va_up_self]
          · rw [if_neg (by omega), upd_at, if_neg (by omega), va_up_ne _ _ e]; exact hR.2.2.1 j (by omega)
        · have hk : k < fM A := hk
          rw [upd_at, if_neg (by omega), upd_at, if_neg (by omega), upd_at, if_neg (by omega)]; exact hR.2.2.2.1 k hk
        · have hk : k < fM A := hk
          rw [upd_at, if_neg (by omega), upd_at, if_neg (by omega), upd_at, if_neg (by omega)]; exact hR.2.2.2.2.1 k hk
        · rw [upd_at, if_neg (by omega), upd_at, if_neg (by omega), upd_at, if_neg (by omega)]; exact hR.2.2.2.2.2 j hj
theorem m_joins_bad {x y : Int32} (h : (x < 0 ∨ 5 < x) ∨ (y < 0 ∨ 5 < y)) : f_X7_joins x y z = some (-1, z) := by
  unfold f_X7_joins
  rw [m_noPlace h]; rfl
end
