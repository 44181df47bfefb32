theorem mA_all {A : Fm} : mA A (qb (2 ^ fM A - 1)) = mA A all1 := by
  funext r k
  unfold mA
  by_cases h : k < fM A
  · have : qb (2 ^ fM A - 1) k = true := by
      unfold qb
      rw [Nat.testBit_two_pow_sub_one]
      exact decide_eq_true h
    rw [if_pos ⟨h, this⟩, if_pos ⟨h, rfl⟩]
  · rw [if_neg (fun c => h c.1), if_neg (fun c => h c.1)]
theorem bS_all {A : Fm} : bS A (qb (2 ^ fM A - 1)) = bS A all1 := by unfold bS b0; rw [mA_all]
theorem shl9 {m : Nat} (hm : m ≤ 9) : ((1 : Int32) <<< (nI m &&& 31)) - (1 : Int32) = nI (2 ^ m - 1) ∧ 2 ^ m - 1 < 512 := by
  rcases (show m = 0 ∨ m = 1 ∨ m = 2 ∨ m = 3 ∨ m = 4 ∨ m = 5 ∨ m = 6 ∨ m = 7 ∨ m = 8 ∨ m = 9 by omega) with h | h | h | h | h | h | h | h | h | h <;> subst h <;> exact ⟨by decide, by decide⟩
/-- how many are not pivots -/
theorem cnt_piv {m : Nat} {f : Nat → Nat} : ∀ p, (∀ l, l < p → f l < m) → (∀ i l, i < p → l < p → f i = f l → i = l) → cnt (fun k => (ro f k p).isNone) m + p = m := by
  intro p
  induction p with
  | zero =>
    intro _ _
    have : ∀ n, cnt (fun k => (ro f k 0).isNone) n = n := by
      intro n
      induction n with
      | zero => rfl
      | succ n ih => rw [cnt_t rfl, ih]
    rw [this]
    rfl
  | succ p ih =>
    intro h1 h2
    have ih := ih (fun l hl => h1 l (by omega)) (fun i l hi hl e => h2 i l (by omega) (by omega) e)
    have key : ∀ n, cnt (fun k => (ro f k p).isNone) n = cnt (fun k => (ro f k (p + 1)).isNone) n + (if f p < n then 1 else 0) := by
      intro n
      induction n with
      | zero => rw [if_neg (by omega)]; rfl
      | succ n ihn =>
        by_cases c : f p = n
        · have a1 : (ro f n p).isNone = true := by
            rw [ro_none (fun l hl e => by have := h2 l p (by omega) (by omega) (e.trans c.symm); omega)]; rfl
          have a2 : (ro f n (p + 1)).isNone = false := by rw [ro_s, if_pos c]; rfl
          rw [cnt_t a1, cnt_f a2, ihn, if_neg (by omega), if_pos (by omega)]
        · have a : (ro f n (p + 1)) = ro f n p := by rw [ro_s, if_neg c]
          cases b : (ro f n p).isNone with
          | true => rw [cnt_t b, cnt_t (by rw [a]; exact b), ihn]; split <;> split <;> omega
          | false => rw [cnt_f b, cnt_f (by rw [a]; exact b), ihn]; split <;> split <;> omega
    have := key m
    rw [if_pos (h1 p (by omega))] at this
    omega
theorem nS_eq {A : Fm} (hB : BF A) : nS A + (bS A all1).2.2.1 = fM A := cnt_piv _ (fun l hl => (BI_p (bI hB)).2.2 l hl) (fun i l hi hl e => BI_inj hB.2.1 (bI hB) hi hl e)
def StM (y : Sto) (A : Fm) : Prop := (y.1 122 17 = nI (bS A all1).2.2.1 ∧ y.2 122 16 = iL (bS A all1).2.1) ∧ RG (y.2 134) (bS A all1).1 ∧ ∀ r, r < (bS A all1).2.2.1 → y.1 135 r = nI ((bS A all1).2.2.2 r)
section
variable {A : Fm} {z y : Sto}
theorem m_allBars (hB : BF A) (hR : RowM (z.1 123) A) : f_X7_allBars z = some (nI (2 ^ fM A - 1)) := by
  unfold f_X7_allBars
  rw [m_rd1, bds, hR.1.2.1, (shl9 hB.2.1).1]
theorem m_laysAll (hB : BF A) (hR : RowM (z.1 123) A) : ∃ y, f_X7_laysAll z = some y ∧ Ke [122, 134, 135] z y ∧ (∀ j, j ≠ 17 → y.1 122 j = z.1 122 j) ∧ StM y A := by
  obtain ⟨y, p1, p2, p3, p4, p5, p6⟩ := m_solves hB hR (shl9 hB.2.1).2
  rw [bS_all] at p1 p4 p5 p6
  refine ⟨upI y 122 17 (nI (bS A all1).2.2.1), ?_, p2.up (by simp), fun j hj => ?_, ⟨?_, p4⟩, p5, fun r hr => ?_⟩
  · unfold f_X7_laysAll
    rw [m_allBars hB hR, bds, p1, bds2, lts]
  · rw [upI_at, if_neg (by omega), p3]
  · rw [upI_at, if_pos ⟨rfl, rfl⟩]
  · rw [upI_ne (by decide)]; exact p6 r hr
def oM (o : Option Nat) : Int32 := match o with
  | some r => nI r
  | none => -4
theorem oM_ge {o : Option Nat} (h : ∀ r, o = some r → r < 12) : (nI 0 ≤ oM o) ↔ o.isNone = false := by
  cases o with
  | none => exact ⟨fun h => absurd h (by decide), fun h => by cases h⟩
  | some r => exact ⟨fun _ => rfl, fun _ => nI_pos' (by have := h r rfl; omega)⟩
theorem m_rowOf (hB : BF A) (hS : StM y A) {k : Nat} (hk : k < fM A) : f_X7_rowOf (nI k) y = some (oM (rO (bS A all1) k)) := by
  have h9 := hB.2.1
  have hp := bS_p (q := all1) hB
  have hl := (BI_p (bI (q := all1) hB)).2.2
  refine wl3_inv (Q := fun o => o = some (oM (rO (bS A all1) k))) (fun r a b c => a = nI k ∧ b = oM (ro (bS A all1).2.2.2 k r) ∧ c = nI r) (bS A all1).2.2.1 ?_ ?_ (by omega) ⟨rfl, rfl, rfl⟩
  · rintro r hr _ _ _ ⟨rfl, rfl, rfl⟩
    have v := hS.2.2 r hr
    have vl := hl r hr
    have v17 := hS.1.1
    refine Or.inl ⟨_, oM (ro (bS A all1).2.2.2 k (r + 1)), nI (r + 1), ⟨rfl, rfl, rfl⟩, fun ag => ?_⟩
    unfold b_X7_rowOf_5
    rw [ro_s]
    by_cases c : (bS A all1).2.2.2 r = k
    · simp (disch := omega) only [bds, bds2, lts, lit, nI_add, pk_mul, nI_leI, nI_ltI, nI_eq, rdI_nI, rdL_nI, wrI_nI, wrL_nI, rdR_nI, if_pos, if_neg, and_true, true_and, and_false, false_and, reduceIte, v17, v]
      rfl
    · simp (disch := omega) only [bds, bds2, lts, lit, nI_add, pk_mul, nI_leI, nI_ltI, nI_eq, rdI_nI, rdL_nI, wrI_nI, wrL_nI, rdR_nI, if_pos, if_neg, and_true, true_and, and_false, false_and, reduceIte, v17, v]
  · rintro _ _ _ ⟨rfl, rfl, rfl⟩ ag
    have v17 := hS.1.1
    unfold b_X7_rowOf_5
    simp (disch := omega) only [bds, bds2, lts, lit, nI_add, pk_mul, nI_leI, nI_ltI, nI_eq, rdI_nI, rdL_nI, wrI_nI, wrL_nI, rdR_nI, if_pos, if_neg, and_true, true_and, and_false, false_and, reduceIte, v17]
    rfl
theorem m_leader (hB : BF A) (hR : RowM (y.1 123) A) (hS : StM y A) {j : Nat} (hj : j < nS A) : f_X7_leader (nI j) y = some (nI (ldr (lead (bS A all1)) (fM A) j)) := by
  have h9 := hB.2.1
  have hp := bS_p (q := all1) hB
  have hj9 := nS_le hB
  have hm := hR.1.2.1
  refine wl2_inv (Q := fun o => o = some (nI (ldr (lead (bS A all1)) (fM A) j))) (fun k a b => a = nI (j - cnt (lead (bS A all1)) k) ∧ b = nI k ∧ cnt (lead (bS A all1)) k ≤ j) (fM A) ?_ ?_ (by omega) ⟨rfl, rfl, Nat.zero_le _⟩
  · rintro k hk _ _ ⟨rfl, rfl, hc⟩
    have ro := m_rowOf hB hS hk
    have g := oM_ge (o := rO (bS A all1) k) (fun r hr => rO_lt hp hr)
    cases hq : lead (bS A all1) k with
    | false =>
      have g' : nI 0 ≤ oM (rO (bS A all1) k) := g.mpr hq
      refine Or.inl ⟨nI (j - cnt (lead (bS A all1)) (k + 1)), nI (k + 1), ⟨rfl, rfl, by rw [cnt_f hq]; exact hc⟩, fun ag => ?_⟩
      rw [cnt_f hq]
      unfold b_X7_leader_4
      simp (disch := omega) only [bds, bds2, lts, lit, nI_add, pk_mul, nI_leI, nI_ltI, nI_eq, rdI_nI, rdL_nI, wrI_nI, wrL_nI, rdR_nI, if_pos, if_neg, and_true, true_and, and_false, false_and, reduceIte, hm, ro]
    | true =>
      have g' : ¬ nI 0 ≤ oM (rO (bS A all1) k) := fun e => by rw [lead, g.mp e] at hq; cases hq
      by_cases c : cnt (lead (bS A all1)) k = j
      · refine Or.inr fun ag => ?_
        rw [← c, ldr_eq hk hq]
        unfold b_X7_leader_4
        simp (disch := omega) only [bds, bds2, lts, lit, nI_add, pk_mul, nI_leI, nI_ltI, nI_eq, rdI_nI, rdL_nI, wrI_nI, wrL_nI, rdR_nI, if_pos, if_neg, and_true, true_and, and_false, false_and, reduceIte, hm, ro]
      · refine Or.inl ⟨nI (j - cnt (lead (bS A all1)) (k + 1)), nI (k + 1), ⟨rfl, rfl, by rw [cnt_t hq]; omega⟩, fun ag => ?_⟩
        rw [cnt_t hq]
        unfold b_X7_leader_4
        simp (disch := omega) only [bds, bds2, lts, lit, nI_add, pk_mul, nI_leI, nI_ltI, nI_eq, rdI_nI, rdL_nI, wrI_nI, wrL_nI, rdR_nI, if_pos, if_neg, and_true, true_and, and_false, false_and, reduceIte, hm, ro]
        have : nI (j - cnt (lead (bS A all1)) k) + -nI 1 = nI (j - (cnt (lead (bS A all1)) k + 1)) := by
          rw [show j - cnt (lead (bS A all1)) k = (j - (cnt (lead (bS A all1)) k + 1)) + 1 by omega]
          exact pk_m1 _
        rw [this]
  · rintro _ _ ⟨rfl, rfl, hc⟩ ag
    have : cnt (lead (bS A all1)) (fM A) = nS A := rfl
    omega
theorem m_partOf (hB : BF A) (hR : RowM (y.1 123) A) (hS : StM y A) {j k : Nat} (hj : j < nS A) (hk : k < fM A) : f_X7_partOf (nI j) (nI k) y = some (iL (nU A j k)) := by
  have h9 := hB.2.1
  have hp := bS_p (q := all1) hB
  have sp := ldr_spec (q := lead (bS A all1)) (m := fM A) hj
  have g := oM_ge (o := rO (bS A all1) k) (fun r hr => rO_lt hp hr)
  unfold f_X7_partOf
  rw [m_leader hB hR hS hj, bds, m_rowOf hB hS hk, bds]
  unfold nU nB
  cases c : rO (bS A all1) k with
  | none =>
    rw [c] at g
    rw [if_neg (show ¬ (0 : Int32) ≤ oM none from fun e => by have := g.mp e; cases this)]
    by_cases e : k = ldr (lead (bS A all1)) (fM A) j
    · rw [if_pos (by rw [← e]), if_pos e, hS.1.2]
    · rw [if_neg (fun h => e ((nI_eq (by omega) (by omega)).mp h)), if_neg e]; rfl
  | some r =>
    have hr := rO_lt hp c
    rw [c] at g
    rw [if_pos (show (0 : Int32) ≤ oM (some r) from g.mpr rfl)]
    have v := hS.2.1 r hr (ldr (lead (bS A all1)) (fM A) j) (by omega)
    show bd (rdL y 134 108 (9 * nI r + nI (ldr (lead (bS A all1)) (fM A) j))) _ = _
    simp (disch := omega) only [bds, bds2, lts, lit, nI_add, pk_mul, nI_leI, nI_ltI, nI_eq, rdI_nI, rdL_nI, wrI_nI, wrL_nI, rdR_nI, if_pos, if_neg, and_true, true_and, and_false, false_and, reduceIte, v, iL_neg]
theorem m_pullOf (hB : BF A) (hW : ∀ j, j < 9 → -9 ≤ fW A j ∧ fW A j ≤ 9) (hR : RowM (y.1 123) A) (hS : StM y A) {k : Nat} (hk : k < fM A) : f_X7_pullOf (nI k) y = some (iL (pU A k)) := by
  have h9 := hB.2.1
  have hn := nS_eq hB
  have hm := hR.1.2.1
  have v17 := hS.1.1
  have ls : nI (fM A) - nI (bS A all1).2.2.1 = nI (nS A) := by rw [pk_sub (by omega)]; congr 1; omega
  refine wl3_inv (Q := fun o => o = some (iL (pU A k))) (fun j a b c => a = nI k ∧ b = iL (sm j (fun j => fW A j * nU A j k)) ∧ c = nI j) (nS A) ?_ ?_ (by omega) ⟨rfl, rfl, rfl⟩
  · rintro j hj _ _ _ ⟨rfl, rfl, rfl⟩
    have w := hR.2.2.2.2.2 j (by omega)
    have hw := hW j (by omega)
    have pt := m_partOf hB hR hS hj hk
    refine Or.inl ⟨_, iL (sm (j + 1) (fun j => fW A j * nU A j k)), nI (j + 1), ⟨rfl, rfl, rfl⟩, fun ag => ?_⟩
    unfold b_X7_pullOf_5
    simp (disch := omega) only [bds, bds2, lts, lit, nI_add, pk_mul, nI_leI, nI_ltI, nI_eq, rdI_nI, rdL_nI, wrI_nI, wrL_nI, rdR_nI, if_pos, if_neg, and_true, true_and, and_false, false_and, reduceIte, hm, v17, ls, w, pt, iIL, iL_mul, iL_add, sm_s]
  · rintro _ _ _ ⟨rfl, rfl, rfl⟩ ag
    unfold b_X7_pullOf_5
    simp (disch := omega) only [bds, bds2, lts, lit, nI_add, pk_mul, nI_leI, nI_ltI, nI_eq, rdI_nI, rdL_nI, wrI_nI, wrL_nI, rdR_nI, if_pos, if_neg, and_true, true_and, and_false, false_and, reduceIte, hm, v17, ls]
    rfl
def ned (A : Fm) (k : Nat) : Bool := !ex (fun j => decide (nU A j k ≠ 0)) (nS A)
theorem nB_le (hB : BF A) {l k : Nat} (hl : l < fM A) : -1000000000 ≤ nB (bS A all1) l k ∧ nB (bS A all1) l k ≤ 1000000000 := by
  have h9 := hB.2.1
  have hp := bS_p (q := all1) hB
  have hle : 10 ^ (bS A all1).2.2.1 ≤ 10 ^ 9 := Nat.pow_le_pow_right (by omega) hp
  unfold nB
  cases c : rO (bS A all1) k with
  | none =>
    have := BI_d (fun j _ => mA_col hB j) h9 (bI (q := all1) hB)
    show -1000000000 ≤ (if k = l then _ else _) ∧ (if k = l then _ else _) ≤ _
    split <;> omega
  | some r =>
    have hr := (ro_lt c).1
    have := BI_pl (fun j _ => mA_col hB j) h9 (bI (q := all1) hB) hr (show l < 9 by omega)
    show -1000000000 ≤ - (bS A all1).1 r l ∧ - (bS A all1).1 r l ≤ 1000000000
    omega
theorem nU_le (hB : BF A) {j k : Nat} (hj : j < nS A) : -1000000000 ≤ nU A j k ∧ nU A j k ≤ 1000000000 := nB_le hB (ldr_spec hj).1
theorem bd_le (hB : BF A) : -1000000000 ≤ (bS A all1).2.1 ∧ (bS A all1).2.1 ≤ 1000000000 ∧ (bS A all1).2.1 ≠ 0 := by
  have h9 := hB.2.1
  have hp := bS_p (q := all1) hB
  have hle : 10 ^ (bS A all1).2.2.1 ≤ 10 ^ 9 := Nat.pow_le_pow_right (by omega) hp
  have := BI_d (fun j _ => mA_col hB j) h9 (bI (q := all1) hB)
  exact ⟨by omega, by omega, (BI_p (bI hB)).2.1⟩
theorem sm_le {n : Nat} {f : Nat → Int} {b : Int} (h : ∀ i, i < n → -b ≤ f i ∧ f i ≤ b) : -(n * b) ≤ sm n f ∧ sm n f ≤ n * b := by
  induction n with
  | zero => simp [sm_0]
  | succ n ih =>
    have h1 := ih (fun i hi => h i (by omega))
    have h2 := h n (by omega)
    rw [sm_s]
    have : ((n + 1 : Nat) : Int) * b = n * b + b := by
      rw [Int.natCast_add, Int.add_mul]; simp
    rw [this]
    omega
theorem pU_le (hB : BF A) (hW : ∀ j, j < 9 → -9 ≤ fW A j ∧ fW A j ≤ 9) (k : Nat) : -81000000000 ≤ pU A k ∧ pU A k ≤ 81000000000 := by
  have h9 := nS_le hB
  have := sm_le (n := nS A) (f := fun j => fW A j * nU A j k) (b := 9000000000) (fun j hj => by
    have a := hW j (by omega)
    have b := nU_le (k := k) hB hj
    have p1 := Int.mul_nonneg (show 0 ≤ 9 - fW A j by omega) (show 0 ≤ 1000000000 - nU A j k by omega)
    have p2 := Int.mul_nonneg (show 0 ≤ 9 + fW A j by omega) (show 0 ≤ 1000000000 + nU A j k by omega)
    have p3 := Int.mul_nonneg (show 0 ≤ 9 - fW A j by omega) (show 0 ≤ 1000000000 + nU A j k by omega)
    have p4 := Int.mul_nonneg (show 0 ≤ 9 + fW A j by omega) (show 0 ≤ 1000000000 - nU A j k by omega)
    simp only [Int.sub_mul, Int.mul_sub, Int.add_mul, Int.mul_add] at p1 p2 p3 p4
    show _ ≤ fW A j * nU A j k ∧ fW A j * nU A j k ≤ _
    omega)
  unfold pU
  omega
theorem m_isNeeded (hB : BF A) (hR : RowM (y.1 123) A) (hS : StM y A) {k : Nat} (hk : k < fM A) : f_X7_isNeeded (nI k) y = some (b2i (ned A k)) := by
  have h9 := hB.2.1
  have hn := nS_eq hB
  have hm := hR.1.2.1
  have v17 := hS.1.1
  have ls : nI (fM A) - nI (bS A all1).2.2.1 = nI (nS A) := by rw [pk_sub (by omega)]; congr 1; omega
  refine wl3_inv (Q := fun o => o = some (b2i (ned A k))) (fun j a b c => a = nI k ∧ b = b2i (!ex (fun j => decide (nU A j k ≠ 0)) j) ∧ c = nI j) (nS A) ?_ ?_ (by omega) ⟨rfl, rfl, rfl⟩
  · rintro j hj _ _ _ ⟨rfl, rfl, rfl⟩
    have pt := m_partOf hB hR hS hj hk
    have nl := nU_le (k := k) hB hj
    refine Or.inl ⟨_, b2i (!ex (fun j => decide (nU A j k ≠ 0)) (j + 1)), nI (j + 1), ⟨rfl, rfl, rfl⟩, fun ag => ?_⟩
    unfold b_X7_isNeeded_4
    show _ = ag (nI k) (b2i (!(ex (fun j => decide (nU A j k ≠ 0)) j || decide (nU A j k ≠ 0)))) _
    cases ex (fun j => decide (nU A j k ≠ 0)) j with
    | true => simp (disch := omega) only [bds, bds2, lts, lit, nI_add, pk_mul, nI_leI, nI_ltI, nI_eq, rdI_nI, rdL_nI, wrI_nI, wrL_nI, rdR_nI, if_pos, if_neg, and_true, true_and, and_false, false_and, reduceIte, hm, v17, ls, pt, b2i, Bool.not_true, Bool.true_or]
              rfl
    | false =>
      by_cases c : nU A j k = 0
      · simp (disch := omega) only [bds, bds2, lts, lit, nI_add, pk_mul, nI_leI, nI_ltI, nI_eq, rdI_nI, rdL_nI, wrI_nI, wrL_nI, rdR_nI, if_pos, if_neg, and_true, true_and, and_false, false_and, reduceIte, hm, v17, ls, pt, b2i, Bool.not_false, Bool.false_or, lL0, cmE, c]
        rfl
      · simp (disch := omega) only [bds, bds2, lts, lit, nI_add, pk_mul, nI_leI, nI_ltI, nI_eq, rdI_nI, rdL_nI, wrI_nI, wrL_nI, rdR_nI, if_pos, if_neg, and_true, true_and, and_false, false_and, reduceIte, hm, v17, ls, pt, b2i, Bool.not_false, Bool.false_or, lL0, cmE, c]
        simp [c]
  · rintro _ _ _ ⟨rfl, rfl, rfl⟩ ag
    unfold b_X7_isNeeded_4
    simp (disch := omega) only [bds, bds2, lts, lit, nI_add, pk_mul, nI_leI, nI_ltI, nI_eq, rdI_nI, rdL_nI, wrI_nI, wrL_nI, rdR_nI, if_pos, if_neg, and_true, true_and, and_false, false_and, reduceIte, hm, v17, ls, bz_b]
    rfl
end
