/-! whether all hangs together -/
def pm (A : Fm) (h : Nat) (x : Int32) : Int32 := if bitAt x (fS A h) = true then x ||| ((1 : Int32) <<< (nI (fE A h) &&& 31)) else x
def pmN (A : Fm) (x : Int32) : Nat → Int32
  | 0 => x
  | h + 1 => pm A h (pmN A x h)
def wm (A : Fm) : Nat → Int32
  | 0 => 1
  | k + 1 => pmN A (wm A k) (2 * fM A)
def fullM (n : Nat) : Int32 := ((1 : Int32) <<< (nI n &&& 31)) - (1 : Int32)
def whB (A : Fm) : Bool := decide (0 < fM A) && decide (wm A (fN A) = fullM (fN A))
theorem or_same {x : Int32} {e : Nat} (he : e < 6) (h : bitAt x e = true) : x ||| ((1 : Int32) <<< (nI e &&& 31)) = x := by
  apply Int32.toBitVec.inj
  apply BitVec.eq_of_getLsbD_eq
  intro i hi
  rw [Int32.toBitVec_or, BitVec.getLsbD_or, bit_sh he]
  have : ∀ e, e < 6 → ∀ i, i < 32 → (BitVec.ofNat 32 (2 ^ e)).getLsbD i = decide (e = i) := by decide
  rw [this e he i hi]
  by_cases c : e = i
  · subst c
    have h : x.toBitVec.getLsbD e = true := h
    rw [h]; rfl
  · rw [decide_eq_false c, Bool.or_false]
theorem or_zero (x : Int32) : x ||| nI 0 = x := by
  have : nI 0 = (0 : Int32) := rfl
  rw [this, Int32.or_zero]
theorem bit_t' {x : Int32} {b : Nat} (hb : b < 6) (h : bitAt x b = true) : ((x >>> (nI b &&& nI 31)) &&& nI 1) = nI 1 := (bit_test hb).mpr h
theorem bit_f' {x : Int32} {b : Nat} (hb : b < 6) (h : bitAt x b = false) : ¬ ((x >>> (nI b &&& nI 31)) &&& nI 1) = nI 1 := fun e => by rw [(bit_test hb).mp e] at h; cases h
section
variable {A : Fm} {z : Sto}
theorem pm_bit (hB : BF A) {h j : Nat} (hh : h < 2 * fM A) (hj : j < 6) (x : Int32) : bitAt (pm A h x) j = (bitAt x j || (bitAt x (fS A h) && decide (fE A h = j))) := by
  have := fE_lt hB hh
  have := hB.1
  unfold pm
  cases c : bitAt x (fS A h) with
  | true => rw [if_pos rfl, bitAt_or (by omega) hj, Bool.true_and]
  | false => rw [if_neg (by decide), Bool.false_and, Bool.or_false]
theorem pmN_up (hB : BF A) {j : Nat} (hj : j < 6) (x : Int32) : ∀ n, n ≤ 2 * fM A → bitAt x j = true → bitAt (pmN A x n) j = true := by
  intro n
  induction n with
  | zero => exact fun _ h => h
  | succ n ih =>
    intro hn h
    show bitAt (pm A n (pmN A x n)) j = true
    rw [pm_bit hB (by omega) hj, ih (by omega) h]; rfl
theorem pmN_new (hB : BF A) (x : Int32) : ∀ n, n ≤ 2 * fM A → pmN A x n ≠ x → ∃ j, j < fN A ∧ bitAt x j = false ∧ bitAt (pmN A x n) j = true := by
  intro n
  induction n with
  | zero => exact fun _ h => absurd rfl h
  | succ n ih =>
    intro hn h
    have el := fE_lt hB (h := n) (by omega)
    have sl := fS_lt hB (h := n) (by omega)
    have h6 := hB.1
    by_cases c : pmN A x n = x
    · have h : pm A n (pmN A x n) ≠ x := h
      show ∃ j, j < fN A ∧ bitAt x j = false ∧ bitAt (pm A n (pmN A x n)) j = true
      rw [c] at h ⊢
      unfold pm at h ⊢
      cases c2 : bitAt x (fS A n) with
      | true =>
        rw [c2, if_pos rfl] at h
        refine ⟨fE A n, el, ?_, ?_⟩
        · cases c3 : bitAt x (fE A n) with
          | false => rfl
          | true => exact absurd (or_same (by omega) c3) h
        · rw [if_pos rfl, bitAt_or (by omega) (by omega)]; simp
      | false => rw [c2, if_neg (by decide)] at h; exact absurd rfl h
    · obtain ⟨j, j1, j2, j3⟩ := ih (by omega) c
      refine ⟨j, j1, j2, ?_⟩
      show bitAt (pm A n (pmN A x n)) j = true
      rw [pm_bit hB (by omega) (by omega), j3]; rfl
theorem wm_stab (k : Nat) (h : wm A (k + 1) = wm A k) : ∀ i, wm A (k + i) = wm A k := by
  intro i
  induction i with
  | zero => rfl
  | succ i ih =>
    show pmN A (wm A (k + i)) (2 * fM A) = wm A k
    rw [ih]
    exact h
theorem wm_6 (hB : BF A) : wm A 6 = wm A (fN A) := by
  have h6 := hB.1
  by_cases hn : fN A = 0
  · have hm : fM A = 0 := by
      refine Classical.byContradiction fun c => ?_
      have := hB.2.2.2 0 (by omega)
      omega
    have e : ∀ k, wm A k = wm A 0 := by
      intro k
      induction k with
      | zero => rfl
      | succ k ih =>
        show pmN A (wm A k) (2 * fM A) = _
        rw [hm]
        exact ih
    rw [e 6, e (fN A)]
  · by_cases c : ∃ k, k < fN A ∧ wm A (k + 1) = wm A k
    · obtain ⟨k, k1, k2⟩ := c
      have a := wm_stab k k2 (6 - k)
      have b := wm_stab k k2 (fN A - k)
      rw [show k + (6 - k) = 6 by omega] at a
      rw [show k + (fN A - k) = fN A by omega] at b
      rw [a, b]
    · exfalso
      have key : ∀ k, k ≤ fN A → k + 1 ≤ cnt (bitAt (wm A k)) (fN A) := by
        intro k
        induction k with
        | zero =>
          intro _
          have : bitAt (wm A 0) 0 = true := show bitAt 1 0 = true by decide
          rw [cnt_rm (p := bitAt (wm A 0)) (k := 0) (by omega) this]
          omega
        | succ k ih =>
          intro hk
          have ih := ih (by omega)
          have ne : wm A (k + 1) ≠ wm A k := fun e => c ⟨k, by omega, e⟩
          obtain ⟨j, j1, j2, j3⟩ := pmN_new hB (wm A k) (2 * fM A) (Nat.le_refl _) ne
          have := cnt_ss (p := bitAt (wm A k)) (q := bitAt (wm A (k + 1))) (n := fN A) (k := j) (fun i hi h => pmN_up hB (by omega) _ _ (Nat.le_refl _) h) j1 j2 j3
          omega
      have := key (fN A) (Nat.le_refl _)
      have := cnt_le (p := bitAt (wm A (fN A))) (n := fN A)
      omega
theorem c_isWhole (hB : BF A) (hR : RepC z 1 A) : f_X1_isWhole 1 z = some (b2i (whB A)) := by
  have h9 := hB.2.1
  have h6 := hB.1
  have hm := hR.1.2.1
  have hn := hR.1.1
  refine wl2_ind (Q := fun o => o = some (b2i (whB A))) (fun k x y => x = wm A k ∧ y = nI k) (fN A) ?_ ?_ (by omega) ⟨rfl, rfl⟩
  · rintro k hk _ _ ⟨rfl, rfl⟩ ag
    have e : b_X1_isWhole_4 1 z ag (wm A k) (nI k) = wl3 (b_X1_isWhole_14 1 z ag) fu (wm A k) (nI k) (nI 0) := by
      unfold b_X1_isWhole_4
      simp (disch := omega) only [bds, bds2, lts, lit, nI_add, pk_mul, nI_leI, nI_ltI, nI_eq, rdI_nI, rdL_nI, wrI_nI, wrL_nI, rdR_nI, if_pos, if_neg, and_true, true_and, and_false, false_and, reduceIte, hn]
    refine Or.inl ?_
    rw [e]
    refine wl3_inv (Q := fun o => ∃ b0 b1, (b0 = wm A (k + 1) ∧ b1 = nI (k + 1)) ∧ o = ag b0 b1) (fun h x y u => x = pmN A (wm A k) h ∧ y = nI k ∧ u = nI h) (2 * fM A) ?_ ?_ (by omega) ⟨rfl, rfl, rfl⟩
    · rintro h hh _ _ _ ⟨rfl, rfl, rfl⟩
      have s1 := c_startOf hB hR hh
      have s2 := c_endOf hB hR hh
      have l1 := fS_lt hB hh
      refine Or.inl ⟨pmN A (wm A k) (h + 1), nI k, nI (h + 1), ⟨rfl, rfl, rfl⟩, fun ag2 => ?_⟩
      show _ = ag2 (pm A h (pmN A (wm A k) h)) _ _
      unfold b_X1_isWhole_14 pm
      cases c : bitAt (pmN A (wm A k) h) (fS A h) with
      | true =>
        have t := bit_t' (by omega) c
        simp (disch := omega) only [bds, bds2, lts, lit, nI_add, pk_mul, nI_leI, nI_ltI, nI_eq, rdI_nI, rdL_nI, wrI_nI, wrL_nI, rdR_nI, if_pos, if_neg, and_true, true_and, and_false, false_and, reduceIte, hm, s1, s2, t]
      | false =>
        have t := bit_f' (by omega) c
        simp (disch := omega) only [bds, bds2, lts, lit, nI_add, pk_mul, nI_leI, nI_ltI, nI_eq, rdI_nI, rdL_nI, wrI_nI, wrL_nI, rdR_nI, if_pos, if_neg, and_true, true_and, and_false, false_and, reduceIte, hm, s1, t]
        rfl
    · rintro _ _ _ ⟨rfl, rfl, rfl⟩ ag2
      refine ⟨_, _, ⟨rfl, rfl⟩, ?_⟩
      unfold b_X1_isWhole_14
      simp (disch := omega) only [bds, bds2, lts, lit, nI_add, pk_mul, nI_leI, nI_ltI, nI_eq, rdI_nI, rdL_nI, wrI_nI, wrL_nI, rdR_nI, if_pos, if_neg, and_true, true_and, and_false, false_and, reduceIte, hm]
      rfl
  · rintro _ _ ⟨rfl, rfl⟩ ag
    unfold b_X1_isWhole_4 whB fullM
    rw [hn, hm, if_pos (nI_le (Nat.le_refl _) (by omega))]
    by_cases c : 0 < fM A
    · rw [if_neg (nI_nle c (by omega)), decide_eq_true c]
      by_cases c2 : wm A (fN A) = ((1 : Int32) <<< (nI (fN A) &&& 31)) - (1 : Int32)
      · rw [if_pos c2, decide_eq_true c2]; rfl
      · rw [if_neg c2, decide_eq_false c2]; rfl
    · rw [if_pos (show nI (fM A) ≤ 0 by rw [show fM A = 0 by omega]; decide), decide_eq_false c]; rfl
theorem m_isWhole (hB : BF A) (hR : RowM (z.1 123) A) : f_X7_isWhole z = some (b2i (whB A)) := by
  have h9 := hB.2.1
  have h6 := hB.1
  have hm := hR.1.2.1
  have hn := hR.1.1
  refine wl2_ind (Q := fun o => o = some (b2i (whB A))) (fun k x y => x = wm A k ∧ y = nI k) 6 ?_ ?_ (by omega) ⟨rfl, rfl⟩
  · rintro k hk _ _ ⟨rfl, rfl⟩ ag
    have e : b_X7_isWhole_4 z ag (wm A k) (nI k) = wl3 (b_X7_isWhole_12 z ag) fu (wm A k) (nI k) (nI 0) := by
      unfold b_X7_isWhole_4
      simp (disch := omega) only [bds, bds2, lts, lit, nI_add, pk_mul, nI_leI, nI_ltI, nI_eq, rdI_nI, rdL_nI, wrI_nI, wrL_nI, rdR_nI, if_pos, if_neg, and_true, true_and, and_false, false_and, reduceIte]
    refine Or.inl ?_
    rw [e]
    refine wl3_inv (Q := fun o => ∃ b0 b1, (b0 = wm A (k + 1) ∧ b1 = nI (k + 1)) ∧ o = ag b0 b1) (fun h x y u => x = pmN A (wm A k) h ∧ y = nI k ∧ u = nI h) (2 * fM A) ?_ ?_ (by omega) ⟨rfl, rfl, rfl⟩
    · rintro h hh _ _ _ ⟨rfl, rfl, rfl⟩
      have s1 := m_from hB hR hh
      have s2 := m_to hB hR hh
      have l1 := fS_lt hB hh
      refine Or.inl ⟨pmN A (wm A k) (h + 1), nI k, nI (h + 1), ⟨rfl, rfl, rfl⟩, fun ag2 => ?_⟩
      show _ = ag2 (pm A h (pmN A (wm A k) h)) _ _
      unfold b_X7_isWhole_12 pm
      cases c : bitAt (pmN A (wm A k) h) (fS A h) with
      | true =>
        have t := bit_t' (by omega) c
        simp (disch := omega) only [bds, bds2, lts, lit, nI_add, pk_mul, nI_leI, nI_ltI, nI_eq, rdI_nI, rdL_nI, wrI_nI, wrL_nI, rdR_nI, if_pos, if_neg, and_true, true_and, and_false, false_and, reduceIte, hm, s1, s2, t]
      | false =>
        have t := bit_f' (by omega) c
        simp (disch := omega) only [bds, bds2, lts, lit, nI_add, pk_mul, nI_leI, nI_ltI, nI_eq, rdI_nI, rdL_nI, wrI_nI, wrL_nI, rdR_nI, if_pos, if_neg, and_true, true_and, and_false, false_and, reduceIte, hm, s1, t, or_zero]
        rfl
    · rintro _ _ _ ⟨rfl, rfl, rfl⟩ ag2
      refine ⟨_, _, ⟨rfl, rfl⟩, ?_⟩
      unfold b_X7_isWhole_12
      simp (disch := omega) only [bds, bds2, lts, lit, nI_add, pk_mul, nI_leI, nI_ltI, nI_eq, rdI_nI, rdL_nI, wrI_nI, wrL_nI, rdR_nI, if_pos, if_neg, and_true, true_and, and_false, false_and, reduceIte, hm]
      rfl
  · rintro _ _ ⟨rfl, rfl⟩ ag
    unfold b_X7_isWhole_4 whB fullM
    rw [if_pos (by decide), m_rd1, bds, m_rd0, bds, hn, hm, wm_6 hB]
    by_cases c : 0 < fM A
    · rw [if_neg (nI_nle c (by omega)), decide_eq_true c]
      by_cases c2 : wm A (fN A) = ((1 : Int32) <<< (nI (fN A) &&& 31)) - (1 : Int32)
      · rw [if_pos c2, decide_eq_true c2]; rfl
      · rw [if_neg c2, decide_eq_false c2]; rfl
    · rw [if_pos (show nI (fM A) ≤ 0 by rw [show fM A = 0 by omega]; decide), decide_eq_false c]; rfl
/-- what all joints have, if the first has it and it goes along bars -/
theorem whole_all (hB : BF A) (hw : whB A = true) (T : Nat → Prop) (h0 : T 0) (hs : ∀ h, h < 2 * fM A → T (fS A h) → T (fE A h)) : ∀ j, j < fN A → T j := by
  have h6 := hB.1
  unfold whB at hw
  simp only [Bool.and_eq_true, decide_eq_true_eq] at hw
  have step : ∀ x : Int32, (∀ j, j < 6 → bitAt x j = true → T j) → ∀ n, n ≤ 2 * fM A → ∀ j, j < 6 → bitAt (pmN A x n) j = true → T j := by
    intro x hx n
    induction n with
    | zero => exact fun _ => hx
    | succ n ih =>
      intro hn j hj hb
      have ih := ih (by omega)
      have hb2 : bitAt (pm A n (pmN A x n)) j = true := hb
      rw [pm_bit hB (by omega) hj] at hb2
      simp only [Bool.or_eq_true, Bool.and_eq_true, decide_eq_true_eq] at hb2
      rcases hb2 with h2 | ⟨h2, e2⟩
      · exact ih j hj h2
      · rw [← e2]; exact hs n (by omega) (ih _ (by have := fS_lt hB (h := n) (by omega); omega) h2)
  have all : ∀ k, ∀ j, j < 6 → bitAt (wm A k) j = true → T j := by
    intro k
    induction k with
    | zero =>
      intro j hj hb
      have : ∀ j, j < 6 → bitAt 1 j = true → j = 0 := by decide
      rw [this j hj hb]; exact h0
    | succ k ih => exact step _ ih _ (Nat.le_refl _)
  intro j hj
  refine all (fN A) j (by omega) ?_
  rw [hw.2]
  have : ∀ n, n ≤ 6 → ∀ j, j < n → bitAt (fullM n) j = true := by decide
  exact this _ h6 j hj
end
