section
variable {s t y z : Sto} {A : Fm} {v : Nat → Int}
def rX (A : Fm) (v : Nat → Int) (j n : Nat) : Int := sm n (fun g => if fS A g = j then v (g / 2) * sX A g else 0)
def rY (A : Fm) (v : Nat → Int) (j n : Nat) : Int := sm n (fun g => if fS A g = j then v (g / 2) * sY A g else 0)
def rsj (A : Fm) (v : Nat → Int) (j : Nat) : Bool := decide (rX A v j (2 * fM A) = 0) && decide (rY A v j (2 * fM A) = 0)
def alr (A : Fm) (v : Nat → Int) : Nat → Bool
  | 0 => true
  | j + 1 => alr A v j && rsj A v j
theorem alr_f {j : Nat} (h : rsj A v j = false) : ∀ d, alr A v (j + 1 + d) = false := by
  intro d
  induction d with
  | zero => show (alr A v j && rsj A v j) = false; rw [h, Bool.and_false]
  | succ d ih => show (alr A v (j + 1 + d) && rsj A v (j + 1 + d)) = false; rw [ih]; rfl
theorem sm495 {f : Nat → Int} : ∀ n, (∀ i, i < n → -495 ≤ f i ∧ f i ≤ 495) → -(495 * (n : Int)) ≤ sm n f ∧ sm n f ≤ 495 * (n : Int) := by
  intro n
  induction n with
  | zero => intro _; rw [sm_0]; omega
  | succ n ih =>
    intro h
    have a := ih fun i hi => h i (by omega)
    have b := h n (by omega)
    rw [sm_s]; omega
theorem m99 {a b : Int} (h1 : -99 ≤ a) (h2 : a ≤ 99) (h3 : -5 ≤ b) (h4 : b ≤ 5) : -495 ≤ a * b ∧ a * b ≤ 495 := by
  rcases (show b = -5 ∨ b = -4 ∨ b = -3 ∨ b = -2 ∨ b = -1 ∨ b = 0 ∨ b = 1 ∨ b = 2 ∨ b = 3 ∨ b = 4 ∨ b = 5 by omega) with h | h | h | h | h | h | h | h | h | h | h <;> rw [h] <;> omega
theorem sXY_le (hB : BF A) {h : Nat} (hh : h < 2 * fM A) : (-5 ≤ sX A h ∧ sX A h ≤ 5) ∧ -5 ≤ sY A h ∧ sY A h ≤ 5 := by
  have x1 := hB.2.2.1 _ (fS_lt hB hh)
  have x2 := hB.2.2.1 _ (fE_lt hB hh)
  unfold sX sY
  omega
theorem r_le (hB : BF A) (hv : ∀ k, k < fM A → -99 ≤ v k ∧ v k ≤ 99) (j : Nat) {n : Nat} (hn : n ≤ 2 * fM A) : (-8910 ≤ rX A v j n ∧ rX A v j n ≤ 8910) ∧ -8910 ≤ rY A v j n ∧ rY A v j n ≤ 8910 := by
  have h9 := hB.2.1
  have a := sm495 (f := fun g => if fS A g = j then v (g / 2) * sX A g else 0) n fun i hi => by
    by_cases c : fS A i = j
    · have q := hv (i / 2) (by omega)
      have p := sXY_le hB (h := i) (by omega)
      simp only [if_pos c]; exact m99 q.1 q.2 p.1.1 p.1.2
    · simp only [if_neg c]; omega
  have b := sm495 (f := fun g => if fS A g = j then v (g / 2) * sY A g else 0) n fun i hi => by
    by_cases c : fS A i = j
    · have q := hv (i / 2) (by omega)
      have p := sXY_le hB (h := i) (by omega)
      simp only [if_pos c]; exact m99 q.1 q.2 p.2.1 p.2.2
    · simp only [if_neg c]; omega
  unfold rX rY
  omega
theorem c_isAtRest (hB : BF A) (hR : RepC z 1 A) (hv : ∀ k, k < fM A → -99 ≤ v k ∧ v k ≤ 99) {c i : Nat} (hi : i + fM A ≤ 24) (hd : ∀ k, k < fM A → z.2 c (i + k) = iL (v k)) : f_X6_isAtRest c (nI i) z = some (b2i (alr A v (fN A))) := by
  have h9 := hB.2.1
  have h6 := hB.1
  have hm := hR.1.2.1
  have hn := hR.1.1
  refine wl2_ind (Q := fun o => o = some (b2i (alr A v (fN A)))) (fun j a b => a = nI i ∧ b = nI j ∧ alr A v j = true) (fN A) ?_ ?_ (by omega) ⟨rfl, rfl, rfl⟩
  · rintro j hj _ _ ⟨rfl, rfl, ht⟩ ag
    have e : b_X6_isAtRest_2 c z ag (nI i) (nI j) = wl5 (b_X6_isAtRest_22 c z ag) fu (nI i) (nI j) (0 : Int64) (0 : Int64) (0 : Int32) := by
      unfold b_X6_isAtRest_2
      rw [show z.1 1 0 = nI (fN A) from hn, if_neg (nI_ge hj (by omega))]
    have inn : wl5 (b_X6_isAtRest_22 c z ag) fu (nI i) (nI j) (0 : Int64) (0 : Int64) (0 : Int32) = if rsj A v j = true then ag (nI i) (nI (j + 1)) else some 0 := by
      refine wl5_inv (Q := fun o => o = if rsj A v j = true then ag (nI i) (nI (j + 1)) else some 0) (fun h a1 a2 a3 a4 a5 => a1 = nI i ∧ a2 = nI j ∧ a3 = iL (rX A v j h) ∧ a4 = iL (rY A v j h) ∧ a5 = nI h) (2 * fM A) ?_ ?_ (by omega) ⟨rfl, rfl, rfl, rfl, rfl⟩
      · rintro h hh _ _ _ _ _ ⟨rfl, rfl, rfl, rfl, rfl⟩
        have s1 := c_startOf hB hR hh
        have s2 := c_stepX hB hR hh
        have s3 := c_stepY hB hR hh
        have l1 := fS_lt hB hh
        have sl := sXY_le hB hh
        have dv := hd (h / 2) (by omega)
        refine Or.inl ⟨nI i, nI j, iL (rX A v j (h + 1)), iL (rY A v j (h + 1)), nI (h + 1), ⟨rfl, rfl, rfl, rfl, rfl⟩, fun ag2 => ?_⟩
        unfold b_X6_isAtRest_22 rX rY
        rw [sm_s, sm_s]
        by_cases x : fS A h = j
        · simp (disch := omega) only [bds, bds2, lts, lit, nI_add, pk_mul, nI_leI, nI_ltI, nI_eq, rdI_nI, rdL_nI, wrI_nI, wrL_nI, rdR_nI, if_pos, if_neg, and_true, true_and, and_false, false_and, reduceIte, hm, s1, s2, s3, x, pk_div, dv, iIL, iL_mul, iL_add]
        · simp (disch := omega) only [bds, bds2, lts, lit, nI_add, pk_mul, nI_leI, nI_ltI, nI_eq, rdI_nI, rdL_nI, wrI_nI, wrL_nI, rdR_nI, if_pos, if_neg, and_true, true_and, and_false, false_and, reduceIte, hm, s1, x, Int.add_zero]
      · rintro _ _ _ _ _ ⟨rfl, rfl, rfl, rfl, rfl⟩ ag2
        have rl := r_le hB hv j (Nat.le_refl _)
        unfold b_X6_isAtRest_22 rsj
        by_cases x : rX A v j (2 * fM A) = 0
        · by_cases x2 : rY A v j (2 * fM A) = 0
          · rw [decide_eq_true x, decide_eq_true x2]
            simp (disch := omega) only [bds, bds2, lts, lit, nI_add, pk_mul, nI_leI, nI_ltI, nI_eq, rdI_nI, rdL_nI, wrI_nI, wrL_nI, rdR_nI, if_pos, if_neg, and_true, true_and, and_false, false_and, reduceIte, hm, lL0, cmE]
            rfl
          · rw [decide_eq_true x, decide_eq_false x2]
            simp (disch := omega) only [bds, bds2, lts, lit, nI_add, pk_mul, nI_leI, nI_ltI, nI_eq, rdI_nI, rdL_nI, wrI_nI, wrL_nI, rdR_nI, if_pos, if_neg, and_true, true_and, and_false, false_and, reduceIte, hm, lL0, cmE]
            rfl
        · rw [decide_eq_false x]
          simp (disch := omega) only [bds, bds2, lts, lit, nI_add, pk_mul, nI_leI, nI_ltI, nI_eq, rdI_nI, rdL_nI, wrI_nI, wrL_nI, rdR_nI, if_pos, if_neg, and_true, true_and, and_false, false_and, reduceIte, hm, lL0, cmE]
          rfl
    rw [e, inn]
    cases x : rsj A v j with
    | true => exact Or.inl ⟨nI i, nI (j + 1), ⟨rfl, rfl, by show (alr A v j && rsj A v j) = true; rw [ht, x]; rfl⟩, if_pos rfl⟩
    | false =>
      refine Or.inr ?_
      have := alr_f x (fN A - (j + 1))
      rw [show j + 1 + (fN A - (j + 1)) = fN A by omega] at this
      rw [this]
      rfl
  · rintro _ _ ⟨rfl, rfl, ht⟩ ag
    unfold b_X6_isAtRest_2
    rw [show z.1 1 0 = nI (fN A) from hn, if_pos (nI_le (Nat.le_refl _) (by omega)), ht]
    rfl
theorem m_isAtRest (hB : BF A) (hR : RowM (z.1 123) A) (hv : ∀ k, k < fM A → -99 ≤ v k ∧ v k ≤ 99) {i : Nat} (hi : i + fM A ≤ 96) (hd : ∀ k, k < fM A → z.2 130 (i + k) = iL (v k)) : f_X7_isAtRest (nI i) z = some (b2i (alr A v (fN A))) := by
  have h9 := hB.2.1
  have h6 := hB.1
  have hm := hR.1.2.1
  have hn := hR.1.1
  refine wl3_ind (Q := fun o => o = some (b2i (alr A v (fN A)))) (fun j a b d => a = nI i ∧ b = b2i (alr A v j) ∧ d = nI j) (fN A) ?_ ?_ (by omega) ⟨rfl, rfl, rfl⟩
  · rintro j hj _ _ _ ⟨rfl, rfl, rfl⟩ ag
    have e : b_X7_isAtRest_4 z ag (nI i) (b2i (alr A v j)) (nI j) = wl6 (b_X7_isAtRest_23 z ag) fu (nI i) (b2i (alr A v j)) (nI j) (0 : Int64) (0 : Int64) (0 : Int32) := by
      unfold b_X7_isAtRest_4
      rw [m_rd0, bds, hn, if_neg (nI_ge hj (by omega))]
    have inn : wl6 (b_X7_isAtRest_23 z ag) fu (nI i) (b2i (alr A v j)) (nI j) (0 : Int64) (0 : Int64) (0 : Int32) = ag (nI i) (b2i (alr A v (j + 1))) (nI (j + 1)) := by
      refine wl6_inv (Q := fun o => o = ag (nI i) (b2i (alr A v (j + 1))) (nI (j + 1))) (fun h a1 a0 a2 a3 a4 a5 => a1 = nI i ∧ a0 = b2i (alr A v j) ∧ a2 = nI j ∧ a3 = iL (rX A v j h) ∧ a4 = iL (rY A v j h) ∧ a5 = nI h) (2 * fM A) ?_ ?_ (by omega) ⟨rfl, rfl, rfl, rfl, rfl, rfl⟩
      · rintro h hh _ _ _ _ _ _ ⟨rfl, rfl, rfl, rfl, rfl, rfl⟩
        have s1 := m_from hB hR hh
        have s2 := m_stepX hB hR hh
        have s3 := m_stepY hB hR hh
        have l1 := fS_lt hB hh
        have sl := sXY_le hB hh
        have dv := hd (h / 2) (by omega)
        refine Or.inl ⟨nI i, b2i (alr A v j), nI j, iL (rX A v j (h + 1)), iL (rY A v j (h + 1)), nI (h + 1), ⟨rfl, rfl, rfl, rfl, rfl, rfl⟩, fun ag2 => ?_⟩
        unfold b_X7_isAtRest_23 j_X7_isAtRest_71 rX rY
        rw [sm_s, sm_s, m_rd1]
        by_cases x : fS A h = j
        · simp (disch := omega) only [bds, bds2, lts, lit, nI_add, pk_mul, nI_leI, nI_ltI, nI_eq, rdI_nI, rdL_nI, wrI_nI, wrL_nI, rdR_nI, if_pos, if_neg, and_true, true_and, and_false, false_and, reduceIte, hm, s1, s2, s3, x, pk_div, dv, iIL, iL_mul, iL_add, Int.mul_comm (sX A h), Int.mul_comm (sY A h)]
        · simp (disch := omega) only [bds, bds2, lts, lit, nI_add, pk_mul, nI_leI, nI_ltI, nI_eq, rdI_nI, rdL_nI, wrI_nI, wrL_nI, rdR_nI, if_pos, if_neg, and_true, true_and, and_false, false_and, reduceIte, hm, s1, x, Int.add_zero, lL0, iL_add]
      · rintro _ _ _ _ _ _ ⟨rfl, rfl, rfl, rfl, rfl, rfl⟩ ag2
        have rl := r_le hB hv j (Nat.le_refl _)
        show _ = ag (nI i) (b2i (alr A v j && rsj A v j)) (nI (j + 1))
        unfold b_X7_isAtRest_23 rsj
        rw [m_rd1]
        cases alr A v j with
        | false =>
          rw [show b2i false = nI 0 from rfl]
          simp (disch := omega) only [bds, bds2, lts, lit, nI_add, pk_mul, nI_leI, nI_ltI, nI_eq, rdI_nI, rdL_nI, wrI_nI, wrL_nI, rdR_nI, if_pos, if_neg, and_true, true_and, and_false, false_and, reduceIte, hm]
          rfl
        | true =>
          rw [show b2i true = nI 1 from rfl]
          by_cases x : rX A v j (2 * fM A) = 0
          · by_cases x2 : rY A v j (2 * fM A) = 0
            · rw [decide_eq_true x, decide_eq_true x2]
              simp (disch := omega) only [bds, bds2, lts, lit, nI_add, pk_mul, nI_leI, nI_ltI, nI_eq, rdI_nI, rdL_nI, wrI_nI, wrL_nI, rdR_nI, if_pos, if_neg, and_true, true_and, and_false, false_and, reduceIte, hm, lL0, cmE]
              rfl
            · rw [decide_eq_true x, decide_eq_false x2]
              simp (disch := omega) only [bds, bds2, lts, lit, nI_add, pk_mul, nI_leI, nI_ltI, nI_eq, rdI_nI, rdL_nI, wrI_nI, wrL_nI, rdR_nI, if_pos, if_neg, and_true, true_and, and_false, false_and, reduceIte, hm, lL0, cmE]
              rfl
          · rw [decide_eq_false x]
            simp (disch := omega) only [bds, bds2, lts, lit, nI_add, pk_mul, nI_leI, nI_ltI, nI_eq, rdI_nI, rdL_nI, wrI_nI, wrL_nI, rdR_nI, if_pos, if_neg, and_true, true_and, and_false, false_and, reduceIte, hm, lL0, cmE]
            rfl
    rw [e, inn]
    exact Or.inl ⟨_, _, _, ⟨rfl, rfl, rfl⟩, rfl⟩
  · rintro _ _ _ ⟨rfl, rfl, rfl⟩ ag
    unfold b_X7_isAtRest_4
    rw [m_rd0, bds, hn, if_pos (nI_le (Nat.le_refl _) (by omega))]
    cases alr A v (fN A) <;> rfl
end
