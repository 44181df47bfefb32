theorem xor1 {h : Nat} (hh : h < 18) : nI h ^^^ nI 1 = nI (bk h) := by
  unfold bk
  rcases (show h = 0 ∨ h = 1 ∨ h = 2 ∨ h = 3 ∨ h = 4 ∨ h = 5 ∨ h = 6 ∨ h = 7 ∨ h = 8 ∨ h = 9 ∨ h = 10 ∨ h = 11 ∨ h = 12 ∨ h = 13 ∨ h = 14 ∨ h = 15 ∨ h = 16 ∨ h = 17 by omega) with h | h | h | h | h | h | h | h | h | h | h | h | h | h | h | h | h | h <;> subst h <;> decide
section
variable {z : Sto} {A : Fm}
theorem cr_le (hB : BF A) {g h : Nat} (hg : g < 2 * fM A) (hh : h < 2 * fM A) : -50 ≤ sX A g * sY A h - sY A g * sX A h ∧ sX A g * sY A h - sY A g * sX A h ≤ 50 := by
  have b1 := step_le hB hg
  have b2 := step_le hB hh
  have m1 := mul5 b1.1.1 b1.1.2 b2.2.1 b2.2.2
  have m2 := mul5 b1.2.1 b1.2.2 b2.1.1 b2.1.2
  omega
theorem c_halfTurn {x y : Int} (hx : -5 ≤ x ∧ x ≤ 5) (hy : -5 ≤ y ∧ y ≤ 5) (h0 : ¬ (x = 0 ∧ y = 0)) : f_X0_halfTurn (iI x) (iI y) z = some (b2i (lw x y)) := by
  unfold f_X0_halfTurn j_X0_halfTurn_12 lw
  have p1 : ((0 : Int32) < iI y) ↔ 0 < y := iI_lt (a := 0) (small32 (by omega) (by omega)) (small32 (by omega) (by omega))
  have p2 : (iI y = (0 : Int32)) ↔ y = 0 := iI_eq0 (by omega) (by omega)
  have p3 : (iI x ≤ (0 : Int32)) ↔ x ≤ 0 := iI_le (b := 0) (small32 (by omega) (by omega)) (small32 (by omega) (by omega))
  by_cases c1 : 0 < y
  · rw [if_pos (p1.mpr c1), decide_eq_false (by omega), decide_eq_false (by omega)]; rfl
  · rw [if_neg (fun e => c1 (p1.mp e))]
    by_cases c2 : y = 0
    · rw [if_pos (p2.mpr c2), decide_eq_false (by omega), decide_eq_true c2]
      by_cases c3 : x ≤ 0
      · rw [if_pos (p3.mpr c3), decide_eq_true (by omega)]; rfl
      · rw [if_neg (fun e => c3 (p3.mp e)), decide_eq_false (by omega)]; rfl
    · rw [if_neg (fun e => c2 (p2.mp e)), decide_eq_true (by omega)]; rfl
theorem c_isAhead (hw : WF A) (hR : RepC z 1 A) {g h : Nat} (hg : g < 2 * fM A) (hh : h < 2 * fM A) : f_X0_isAhead (nI g) (nI h) z = some (b2i (ah A g h)) := by
  have hB := hw.1
  have b1 := step_le hB hg
  have b2 := step_le hB hh
  have cr := cr_le hB hg hh
  unfold f_X0_isAhead
  rw [c_stepX hB hR hg, bds, c_stepY hB hR hg, bds, c_halfTurn b1.1 b1.2 (st_ne hw hg), bds, c_stepX hB hR hh, bds, c_stepY hB hR hh, bds, c_halfTurn b2.1 b2.2 (st_ne hw hh), bds, bds, bds, bds, bds, iI_mul, iI_mul, iI_sub]
  have p : (iI (sX A g * sY A h - sY A g * sX A h) ≤ (0 : Int32)) ↔ sX A g * sY A h - sY A g * sX A h ≤ 0 := iI_le (b := 0) (small32 (by omega) (by omega)) (small32 (by omega) (by omega))
  unfold ah av
  cases lw (sX A g) (sY A g) <;> cases lw (sX A h) (sY A h)
  · rw [if_pos rfl, if_pos rfl]
    by_cases c : sX A g * sY A h - sY A g * sX A h ≤ 0
    · rw [if_pos (p.mpr c), decide_eq_false (by omega)]; rfl
    · rw [if_neg (fun e => c (p.mp e)), decide_eq_true (by omega)]; rfl
  · rfl
  · rfl
  · rw [if_pos rfl, if_pos rfl]
    by_cases c : sX A g * sY A h - sY A g * sX A h ≤ 0
    · rw [if_pos (p.mpr c), decide_eq_false (by omega)]; rfl
    · rw [if_neg (fun e => c (p.mp e)), decide_eq_true (by omega)]; rfl
theorem c_turnOf (hw : WF A) (hR : RepC z 1 A) {h : Nat} (hh : h < 2 * fM A) : f_X0_turnOf (nI h) z = some (nI (trn A h)) := by
  have hB := hw.1
  have h9 := hB.2.1
  have h6 := hB.1
  have hm := hR.1.2.1
  have s0 := c_startOf hB hR hh
  have l0 := fS_lt hB hh
  refine wl3_inv (Q := fun o => o = some (nI (trn A h))) (fun g a b c => a = nI h ∧ b = nI (cnt (fun g => decide (fS A g = fS A h) && ah A g h) g) ∧ c = nI g) (2 * fM A) ?_ ?_ (by omega) ⟨rfl, rfl, rfl⟩
  · rintro g hg _ _ _ ⟨rfl, rfl, rfl⟩
    have s1 := c_startOf hB hR hg
    have l1 := fS_lt hB hg
    have a1 := c_isAhead hw hR hg hh
    refine Or.inl ⟨_, nI (cnt (fun g => decide (fS A g = fS A h) && ah A g h) (g + 1)), nI (g + 1), ⟨rfl, rfl, rfl⟩, fun ag => ?_⟩
    unfold b_X0_turnOf_4
    by_cases c : fS A g = fS A h
    · cases c2 : ah A g h with
      | true =>
        rw [cnt_t (by simp [c, c2])]
        rw [c2] at a1
        simp (disch := omega) only [bds, bds2, lts, lit, nI_add, pk_mul, nI_leI, nI_ltI, nI_eq, rdI_nI, rdL_nI, wrI_nI, wrL_nI, rdR_nI, if_pos, if_neg, and_true, true_and, and_false, false_and, reduceIte, hm, s0, s1, a1, b2i]
      | false =>
        rw [cnt_f (by simp [c2])]
        rw [c2] at a1
        simp (disch := omega) only [bds, bds2, lts, lit, nI_add, pk_mul, nI_leI, nI_ltI, nI_eq, rdI_nI, rdL_nI, wrI_nI, wrL_nI, rdR_nI, if_pos, if_neg, and_true, true_and, and_false, false_and, reduceIte, hm, s0, s1, a1, b2i_f]
    · rw [cnt_f (by simp [c])]
      simp (disch := omega) only [bds, bds2, lts, lit, nI_add, pk_mul, nI_leI, nI_ltI, nI_eq, rdI_nI, rdL_nI, wrI_nI, wrL_nI, rdR_nI, if_pos, if_neg, and_true, true_and, and_false, false_and, reduceIte, hm, s0, s1]
  · rintro _ _ _ ⟨rfl, rfl, rfl⟩ ag
    unfold b_X0_turnOf_4
    simp (disch := omega) only [bds, bds2, lts, lit, nI_add, pk_mul, nI_leI, nI_ltI, nI_eq, rdI_nI, rdL_nI, wrI_nI, wrL_nI, rdR_nI, if_pos, if_neg, and_true, true_and, and_false, false_and, reduceIte, hm]
    rfl
theorem c_clockwiseOf (hw : WF A) (hR : RepC z 1 A) (ht : ∀ h, h < 2 * fM A → z.1 101 h = nI (trn A h)) {b : Nat} (hb : b < 2 * fM A) : f_X0_clockwiseOf (nI b) z = some (nI (hv A (fS A b) ((trn A b + dg A (fS A b) - 1) % dg A (fS A b)))) := by
  have hB := hw.1
  have h9 := hB.2.1
  have h6 := hB.1
  have hm := hR.1.2.1
  have s0 := c_startOf hB hR hb
  have l0 := fS_lt hB hb
  have d0 := c_barsOf hB hR l0
  have tl := trn_lt hw hb
  have dl := dg_le hB (fS A b)
  have tb := ht b hb
  obtain ⟨v1, v2, v3⟩ := hv_spec hw (j := fS A b) (t := (trn A b + dg A (fS A b) - 1) % dg A (fS A b)) (Nat.mod_lt _ (by omega))
  have hml : (trn A b + dg A (fS A b) - 1) % dg A (fS A b) < dg A (fS A b) := Nat.mod_lt _ (by omega)
  generalize ew : (trn A b + dg A (fS A b) - 1) % dg A (fS A b) = w at *
  have main : wl4 (b_X0_clockwiseOf_36 z) fu (nI b) (nI (fS A b)) (nI w) (nI 0) = some (nI (hv A (fS A b) w)) := by
    refine wl4_inv (Q := fun o => o = some (nI (hv A (fS A b) w))) (fun h x y u v => x = nI b ∧ y = nI (fS A b) ∧ u = nI w ∧ v = nI h ∧ h ≤ hv A (fS A b) w) (2 * fM A) ?_ ?_ (by omega) ⟨rfl, rfl, rfl, rfl, by omega⟩
    · rintro h hh _ _ _ _ ⟨rfl, rfl, rfl, rfl, hle⟩
      have s1 := c_startOf hB hR hh
      have l1 := fS_lt hB hh
      have t1 := ht h hh
      have tl1 := trn_lt hw hh
      have dl1 := dg_le hB (fS A h)
      by_cases c : h = hv A (fS A b) w
      · refine Or.inr fun ag => ?_
        rw [← c] at v2 v3 ⊢
        unfold b_X0_clockwiseOf_36
        simp (disch := omega) only [bds, bds2, lts, lit, nI_add, pk_mul, nI_leI, nI_ltI, nI_eq, rdI_nI, rdL_nI, wrI_nI, wrL_nI, rdR_nI, if_pos, if_neg, and_true, true_and, and_false, false_and, reduceIte, hm, s1, v2, t1, v3]
      · refine Or.inl ⟨_, _, _, nI (h + 1), ⟨rfl, rfl, rfl, rfl, by omega⟩, fun ag => ?_⟩
        have ne : ¬ (fS A h = fS A b ∧ trn A h = w) := fun ⟨a1, a2⟩ => c (trn_inj hw hh v1 (a1.trans v2.symm) (a2.trans v3.symm))
        unfold b_X0_clockwiseOf_36
        by_cases c1 : fS A h = fS A b
        · have c2 : ¬ trn A h = w := fun e => ne ⟨c1, e⟩
          simp (disch := omega) only [bds, bds2, lts, lit, nI_add, pk_mul, nI_leI, nI_ltI, nI_eq, rdI_nI, rdL_nI, wrI_nI, wrL_nI, rdR_nI, if_pos, if_neg, and_true, true_and, and_false, false_and, reduceIte, hm, s1, t1]
        · simp (disch := omega) only [bds, bds2, lts, lit, nI_add, pk_mul, nI_leI, nI_ltI, nI_eq, rdI_nI, rdL_nI, wrI_nI, wrL_nI, rdR_nI, if_pos, if_neg, and_true, true_and, and_false, false_and, reduceIte, hm, s1]
    · rintro _ _ _ _ ⟨rfl, rfl, rfl, rfl, hle⟩ ag
      omega
  unfold f_X0_clockwiseOf
  rw [s0, bds, d0, bds, lts, show (1 : Int32) = nI 1 from rfl, mxI_nI (by omega) (by omega), Nat.max_eq_left (by omega), rdI_nI (by omega) (by omega), bds, tb, nI_add, pk_sub (by omega)]
  have rm : rmI (nI (trn A b + dg A (fS A b) - 1)) (nI (dg A (fS A b))) = some (nI w) := by
    unfold rmI
    rw [if_neg (nI_ne0 (by omega) (by omega)), pk_rem (by omega) (by omega) (by omega), ew]
  rw [rm, bds]
  exact main
/-! the model's -/
theorem m_isAhead (hw : WF A) (hR : RowM (z.1 123) A) {g h : Nat} (hg : g < 2 * fM A) (hh : h < 2 * fM A) : f_X7_isAhead (nI g) (nI h) z = some (b2i (ah A g h)) := by
  have hB := hw.1
  have b1 := step_le hB hg
  have b2 := step_le hB hh
  have cr := cr_le hB hg hh
  have p : (iI (sX A g * sY A h - sY A g * sX A h) ≤ (0 : Int32)) ↔ sX A g * sY A h - sY A g * sX A h ≤ 0 := iI_le (b := 0) (small32 (by omega) (by omega)) (small32 (by omega) (by omega))
  have e59 : ∀ u v : Bool, j_X7_isAhead_59 z (nI g) (nI h) (b2i u) (b2i v) = some (b2i (if u = v then decide (0 < sX A g * sY A h - sY A g * sX A h) else !u)) := by
    intro u v
    unfold j_X7_isAhead_59
    rw [m_stepX hB hR hg, bds, m_stepY hB hR hh, bds, m_stepY hB hR hg, bds, m_stepX hB hR hh, bds, iI_mul, iI_mul, iI_sub, lts]
    by_cases c : sX A g * sY A h - sY A g * sX A h ≤ 0
    · rw [if_pos (p.mpr c), decide_eq_false (by omega)]
      cases u <;> cases v <;> rfl
    · rw [if_neg (fun e => c (p.mp e)), decide_eq_true (by omega)]
      cases u <;> cases v <;> rfl
  have lowv : ∀ {k : Nat}, k < 2 * fM A → ∀ {β : Type} (X Y : Option β), (bd (f_X7_stepY (nI k) z) fun t7 => if t7 < 0 then X else (bd (f_X7_stepY (nI k) z) fun t9 => if t9 = 0 then (bd (f_X7_stepX (nI k) z) fun t11 => if 0 ≤ t11 then Y else X) else Y)) = if lw (sX A k) (sY A k) = true then X else Y := by
    intro k hk β X Y
    have b := step_le hB hk
    rw [m_stepY hB hR hk, m_stepX hB hR hk]
    simp only [bds]
    have p1 : (iI (sY A k) < (0 : Int32)) ↔ sY A k < 0 := iI_lt0 (by omega) (by omega)
    have p2 : (iI (sY A k) = (0 : Int32)) ↔ sY A k = 0 := iI_eq0 (by omega) (by omega)
    have p3 : ((0 : Int32) ≤ iI (sX A k)) ↔ 0 ≤ sX A k := iI_ge0 (by omega) (by omega)
    unfold lw
    by_cases c1 : sY A k < 0
    · rw [if_pos (p1.mpr c1), decide_eq_true c1]; rfl
    · rw [if_neg (fun e => c1 (p1.mp e)), decide_eq_false c1]
      by_cases c2 : sY A k = 0
      · rw [if_pos (p2.mpr c2), decide_eq_true c2]
        by_cases c3 : 0 ≤ sX A k
        · rw [if_pos (p3.mpr c3), decide_eq_false (by omega)]; rfl
        · rw [if_neg (fun e => c3 (p3.mp e)), decide_eq_true (by omega)]; rfl
      · rw [if_neg (fun e => c2 (p2.mp e)), decide_eq_false c2]; rfl
  have e29 : ∀ u : Bool, j_X7_isAhead_29 z (nI g) (nI h) (b2i u) = some (b2i (if u = lw (sX A h) (sY A h) then decide (0 < sX A g * sY A h - sY A g * sX A h) else !u)) := by
    intro u
    unfold j_X7_isAhead_29 j_X7_isAhead_54 j_X7_isAhead_58
    rw [lowv hh, show (1 : Int32) = b2i true from rfl, show (0 : Int32) = b2i false from rfl, e59, e59]
    cases lw (sX A h) (sY A h) <;> rfl
  unfold f_X7_isAhead j_X7_isAhead_24 j_X7_isAhead_28
  rw [lowv hg, show (1 : Int32) = b2i true from rfl, show (0 : Int32) = b2i false from rfl, e29, e29]
  unfold ah av
  cases lw (sX A g) (sY A g) <;> rfl
theorem ah_self (A : Fm) (h : Nat) : ah A h h = false := by
  unfold ah av
  rw [if_pos rfl]
  exact decide_eq_false (by have : sX A h * sY A h = sY A h * sX A h := Int.mul_comm _ _
                            omega)
theorem m_orderOf (hw : WF A) (hR : RowM (z.1 123) A) {h : Nat} (hh : h < 2 * fM A) : f_X7_orderOf (nI h) z = some (nI (trn A h)) := by
  have hB := hw.1
  have h9 := hB.2.1
  have h6 := hB.1
  have hm := hR.1.2.1
  have s0 := m_from hB hR hh
  have l0 := fS_lt hB hh
  refine wl3_inv (Q := fun o => o = some (nI (trn A h))) (fun g a b c => a = nI h ∧ b = nI (cnt (fun g => decide (fS A g = fS A h) && ah A g h) g) ∧ c = nI g) (2 * fM A) ?_ ?_ (by omega) ⟨rfl, rfl, rfl⟩
  · rintro g hg _ _ _ ⟨rfl, rfl, rfl⟩
    have s1 := m_from hB hR hg
    have l1 := fS_lt hB hg
    have a1 := m_isAhead hw hR hg hh
    refine Or.inl ⟨_, nI (cnt (fun g => decide (fS A g = fS A h) && ah A g h) (g + 1)), nI (g + 1), ⟨rfl, rfl, rfl⟩, fun ag => ?_⟩
    unfold b_X7_orderOf_4
    by_cases c0 : g = h
    · rw [cnt_f (by rw [c0, ah_self]; simp)]
      simp (disch := omega) only [bds, bds2, lts, lit, nI_add, pk_mul, nI_leI, nI_ltI, nI_eq, rdI_nI, rdL_nI, wrI_nI, wrL_nI, rdR_nI, if_pos, if_neg, and_true, true_and, and_false, false_and, reduceIte, hm, c0, Nat.add_zero]
    · by_cases c : fS A g = fS A h
      · cases c2 : ah A g h with
        | true =>
          rw [cnt_t (by simp [c, c2])]
          rw [c2] at a1
          simp (disch := omega) only [bds, bds2, lts, lit, nI_add, pk_mul, nI_leI, nI_ltI, nI_eq, rdI_nI, rdL_nI, wrI_nI, wrL_nI, rdR_nI, if_pos, if_neg, and_true, true_and, and_false, false_and, reduceIte, hm, s0, s1, a1, b2i]
        | false =>
          rw [cnt_f (by simp [c2])]
          rw [c2] at a1
          simp (disch := omega) only [bds, bds2, lts, lit, nI_add, pk_mul, nI_leI, nI_ltI, nI_eq, rdI_nI, rdL_nI, wrI_nI, wrL_nI, rdR_nI, if_pos, if_neg, and_true, true_and, and_false, false_and, reduceIte, hm, s0, s1, a1, b2i_f, Nat.add_zero]
      · rw [cnt_f (by simp [c])]
        simp (disch := omega) only [bds, bds2, lts, lit, nI_add, pk_mul, nI_leI, nI_ltI, nI_eq, rdI_nI, rdL_nI, wrI_nI, wrL_nI, rdR_nI, if_pos, if_neg, and_true, true_and, and_false, false_and, reduceIte, hm, s0, s1, Nat.add_zero]
  · rintro _ _ _ ⟨rfl, rfl, rfl⟩ ag
    unfold b_X7_orderOf_4
    simp (disch := omega) only [bds, bds2, lts, lit, nI_add, pk_mul, nI_leI, nI_ltI, nI_eq, rdI_nI, rdL_nI, wrI_nI, wrL_nI, rdR_nI, if_pos, if_neg, and_true, true_and, and_false, false_and, reduceIte, hm]
    rfl
theorem m_half (hw : WF A) (hR : RowM (z.1 123) A) {j i : Nat} (hj : j < fN A) (hi : i < dg A j) : f_X7_half (nI j) (nI i) z = some (nI (hv A j i)) := by
  have hB := hw.1
  have h9 := hB.2.1
  have h6 := hB.1
  have hm := hR.1.2.1
  have dl := dg_le hB j
  obtain ⟨v1, v2, v3⟩ := hv_spec hw hi
  refine wl4_inv (Q := fun o => o = some (nI (hv A j i))) (fun h a b c d => a = nI j ∧ b = nI i ∧ d = nI h ∧ (hv A j i < h → c = nI (hv A j i))) (2 * fM A) ?_ ?_ (by omega) ⟨rfl, rfl, rfl, fun e => by omega⟩
  · rintro h hh _ _ c _ ⟨rfl, rfl, rfl, hc⟩
    have s1 := m_from hB hR hh
    have l1 := fS_lt hB hh
    have o1 := m_orderOf hw hR hh
    have tl1 := trn_lt hw hh
    have dl1 := dg_le hB (fS A h)
    by_cases e : h = hv A j i
    · refine Or.inl ⟨_, _, nI h, nI (h + 1), ⟨rfl, rfl, rfl, fun _ => by rw [e]⟩, fun ag => ?_⟩
      rw [← e] at v2 v3
      unfold b_X7_half_6
      simp (disch := omega) only [bds, bds2, lts, lit, nI_add, pk_mul, nI_leI, nI_ltI, nI_eq, rdI_nI, rdL_nI, wrI_nI, wrL_nI, rdR_nI, if_pos, if_neg, and_true, true_and, and_false, false_and, reduceIte, hm, s1, v2, o1, v3]
    · refine Or.inl ⟨_, _, c, nI (h + 1), ⟨rfl, rfl, rfl, fun _ => hc (by omega)⟩, fun ag => ?_⟩
      have ne : ¬ (fS A h = j ∧ trn A h = i) := fun ⟨a1, a2⟩ => e (trn_inj hw hh v1 (a1.trans v2.symm) (a2.trans v3.symm))
      unfold b_X7_half_6
      by_cases c1 : fS A h = j
      · have c2 : ¬ trn A h = i := fun e => ne ⟨c1, e⟩
        simp (disch := omega) only [bds, bds2, lts, lit, nI_add, pk_mul, nI_leI, nI_ltI, nI_eq, rdI_nI, rdL_nI, wrI_nI, wrL_nI, rdR_nI, if_pos, if_neg, and_true, true_and, and_false, false_and, reduceIte, hm, s1, o1]
      · simp (disch := omega) only [bds, bds2, lts, lit, nI_add, pk_mul, nI_leI, nI_ltI, nI_eq, rdI_nI, rdL_nI, wrI_nI, wrL_nI, rdR_nI, if_pos, if_neg, and_true, true_and, and_false, false_and, reduceIte, hm, s1]
  · rintro _ _ c _ ⟨rfl, rfl, rfl, hc⟩ ag
    unfold b_X7_half_6
    simp (disch := omega) only [bds, bds2, lts, lit, nI_add, pk_mul, nI_leI, nI_ltI, nI_eq, rdI_nI, rdL_nI, wrI_nI, wrL_nI, rdR_nI, if_pos, if_neg, and_true, true_and, and_false, false_and, reduceIte, hm]
    rw [hc v1]
theorem m_nextOf (hw : WF A) (hR : RowM (z.1 123) A) {h : Nat} (hh : h < 2 * fM A) : f_X7_nextOf (nI h) z = some (nI (nx A h)) := by
  have hB := hw.1
  have h9 := hB.2.1
  have h6 := hB.1
  have el := fE_lt hB hh
  have dp := dg_pos hw hh
  have dl := dg_le hB (fE A h)
  have bl := bk_lt hh
  have tl := trn_lt hw bl
  rw [fS_bk] at tl
  unfold f_X7_nextOf nx
  rw [m_to hB hR hh, bds, m_barsOf hB hR el, bds, bds, m_back (by omega), bds]
  show bd (f_X7_orderOf (nI (bk h)) z) _ = _
  rw [m_orderOf hw hR bl, bds, nI_add, show (1 : Int32) = nI 1 from rfl, pk_sub (by omega)]
  have rm : rmI (nI (trn A (bk h) + dg A (fE A h) - 1)) (nI (dg A (fE A h))) = some (nI ((trn A (bk h) + dg A (fE A h) - 1) % dg A (fE A h))) := by
    unfold rmI
    rw [if_neg (nI_ne0 (by omega) (by omega)), pk_rem (by omega) (by omega) (by omega)]
  rw [rm, bds, m_half hw hR el (Nat.mod_lt _ (by omega)), bds]
end
