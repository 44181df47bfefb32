section
variable {s t s' t' y : Sto} {A : Fm}
def fl (A : Fm) (k : Nat) : Int64 := (iI (sg (pU A k) * sg (bS A all1).2.1)).toInt64
theorem c_signOf (hw : WF A) (hS : StC y A) {k : Nat} (hk : k < fM A) : f_X4_signOf (nI k) y = some (iI (sg (pU A k) * sg (bS A all1).2.1)) := by
  have hB := hw.1
  have h9 := hB.2.1
  have pl := pU_le hB hw.2.2.2.2.1 k
  have bl := bd_le hB
  have v := hS.2.2.1 k hk
  have d := hS.1.2.2
  unfold f_X4_signOf j_X4_signOf_29
  by_cases c0 : pU A k = 0
  · rw [c0] at v ⊢
    simp (disch := omega) only [bds, bds2, lts, lit, nI_add, pk_mul, nI_leI, nI_ltI, nI_eq, rdI_nI, rdL_nI, wrI_nI, wrL_nI, rdR_nI, if_pos, if_neg, and_true, true_and, and_false, false_and, reduceIte, v, lL0, cmE]
    rw [show sg 0 = 0 from rfl, Int.zero_mul]; rfl
  · by_cases c1 : 0 ≤ pU A k
    · by_cases c2 : 0 ≤ (bS A all1).2.1
      · simp (disch := omega) only [bds, bds2, lts, lit, nI_add, pk_mul, nI_leI, nI_ltI, nI_eq, rdI_nI, rdL_nI, wrI_nI, wrL_nI, rdR_nI, if_pos, if_neg, and_true, true_and, and_false, false_and, reduceIte, v, d, lL0, cmE, cmG]
        rw [show sg (pU A k) = 1 by unfold sg; rw [if_neg (by omega), if_pos (by omega)], show sg (bS A all1).2.1 = 1 by unfold sg; rw [if_neg (by omega), if_pos (by omega)]]
        rfl
      · simp (disch := omega) only [bds, bds2, lts, lit, nI_add, pk_mul, nI_leI, nI_ltI, nI_eq, rdI_nI, rdL_nI, wrI_nI, wrL_nI, rdR_nI, if_pos, if_neg, and_true, true_and, and_false, false_and, reduceIte, v, d, lL0, cmE, cmG]
        rw [show sg (pU A k) = 1 by unfold sg; rw [if_neg (by omega), if_pos (by omega)], show sg (bS A all1).2.1 = -1 by unfold sg; rw [if_pos (by omega)]]
        rfl
    · by_cases c2 : 0 ≤ (bS A all1).2.1
      · simp (disch := omega) only [bds, bds2, lts, lit, nI_add, pk_mul, nI_leI, nI_ltI, nI_eq, rdI_nI, rdL_nI, wrI_nI, wrL_nI, rdR_nI, if_pos, if_neg, and_true, true_and, and_false, false_and, reduceIte, v, d, lL0, cmE, cmG]
        rw [show sg (pU A k) = -1 by unfold sg; rw [if_pos (by omega)], show sg (bS A all1).2.1 = 1 by unfold sg; rw [if_neg (by omega), if_pos (by omega)]]
        rfl
      · simp (disch := omega) only [bds, bds2, lts, lit, nI_add, pk_mul, nI_leI, nI_ltI, nI_eq, rdI_nI, rdL_nI, wrI_nI, wrL_nI, rdR_nI, if_pos, if_neg, and_true, true_and, and_false, false_and, reduceIte, v, d, lL0, cmE, cmG]
        rw [show sg (pU A k) = -1 by unfold sg; rw [if_pos (by omega)], show sg (bS A all1).2.1 = -1 by unfold sg; rw [if_pos (by omega)]]
        rfl
theorem StC_st (h : StC y A) {c : Nat} (hc : 111 ≤ c) (g : Nat → Int64) : StC (stL y c g) A := by
  obtain ⟨a, b, d, e⟩ := h
  refine ⟨⟨a.1, a.2.1, ?_⟩, ?_, ?_, e⟩
  · rw [stL_ne (by omega)]; exact a.2.2
  · rw [stL_ne (by omega)]; exact b
  · rw [stL_ne (by omega)]; exact d
theorem StM_st (h : StM y A) (g : Nat → Int64) : StM (stL y 130 g) A := by
  obtain ⟨a, b, d⟩ := h
  refine ⟨⟨a.1, ?_⟩, ?_, d⟩
  · rw [stL_ne (by omega)]; exact a.2
  · rw [stL_ne (by omega)]; exact b
theorem c_film (hw : WF A) (hR : RepC y 1 A) (hS : StC y A) {k i : Nat} (hk : k < 4) (hi : i + fM A ≤ 24) : ∃ g, wl4 b_X6_film_50 fu (nI i) k (nI 0) y = some (nI (fM A), stL y (115 + 2 * k) g) ∧ (∀ j, j < fM A → g (i + j) = fl A j) ∧ ∀ j, (j < i ∨ i + fM A ≤ j) → g j = y.2 (115 + 2 * k) j := by
  have h9 := hw.1.2.1
  have m1 := hR.1.2.1
  refine wl4_inv (Q := fun o => ∃ g, o = some (nI (fM A), stL y (115 + 2 * k) g) ∧ (∀ j, j < fM A → g (i + j) = fl A j) ∧ ∀ j, (j < i ∨ i + fM A ≤ j) → g j = y.2 (115 + 2 * k) j) (fun h a b c d => a = nI i ∧ b = k ∧ c = nI h ∧ ∃ g, d = stL y (115 + 2 * k) g ∧ (∀ j, j < h → g (i + j) = fl A j) ∧ ∀ j, (j < i ∨ i + fM A ≤ j) → g j = y.2 (115 + 2 * k) j) (fM A) ?_ ?_ (by omega) ⟨rfl, rfl, rfl, _, stL_self.symm, fun j hj => by omega, fun _ _ => rfl⟩
  · rintro h hh _ k _ _ ⟨rfl, rfl, rfl, g, rfl, g1, g2⟩
    refine Or.inl ⟨nI i, _, nI (h + 1), stL y (115 + 2 * k) (vp_updL g (i + h) (fl A h)), ⟨rfl, rfl, rfl, _, rfl, fun j hj => ?_, fun j hj => ?_⟩, fun ag => ?_⟩
    · rw [updL_at]
      by_cases e : j = h
      · rw [if_pos (by omega), e]
      · rw [if_neg (by omega)]; exact g1 j (by omega)
    · rw [updL_at, if_neg (by omega)]; exact g2 j hj
    · have v := c_signOf hw (StC_st hS (c := 115 + 2 * k) (by omega) g) hh
      unfold b_X6_film_50
      simp (disch := omega) only [bds, bds2, lts, lit, nI_add, pk_mul, nI_leI, nI_ltI, nI_eq, rdI_nI, rdL_nI, wrI_nI, wrL_nI, rdR_nI, if_pos, if_neg, and_true, true_and, and_false, false_and, reduceIte, stL_I, m1, v, c113, c114, upL_st]
      rfl
  · rintro _ _ _ _ ⟨rfl, rfl, rfl, g, rfl, g1, g2⟩ ag
    refine ⟨g, ?_, g1, g2⟩
    unfold b_X6_film_50
    simp (disch := omega) only [bds, bds2, lts, lit, nI_add, pk_mul, nI_leI, nI_ltI, nI_eq, rdI_nI, rdL_nI, wrI_nI, wrL_nI, rdR_nI, if_pos, if_neg, and_true, true_and, and_false, false_and, reduceIte, stL_I, m1]
theorem m_film (hw : WF A) (hR : RowM (y.1 123) A) (hS : StM y A) {k i : Nat} (hk : k < 4) (hi : i + fM A ≤ 24) : ∃ g, wl4 b_X7_film_51 fu (nI k) (nI i) (nI 0) y = some (nI (fM A), stL y 130 g) ∧ (∀ j, j < fM A → g (24 * k + (i + j)) = fl A j) ∧ ∀ j, (j < 24 * k + i ∨ 24 * k + i + fM A ≤ j) → g j = y.2 130 j := by
  have hB := hw.1
  have h9 := hw.1.2.1
  have m1 := hR.1.2.1
  have bl := bd_le hB
  refine wl4_inv (Q := fun o => ∃ g, o = some (nI (fM A), stL y 130 g) ∧ (∀ j, j < fM A → g (24 * k + (i + j)) = fl A j) ∧ ∀ j, (j < 24 * k + i ∨ 24 * k + i + fM A ≤ j) → g j = y.2 130 j) (fun h a b c d => a = nI k ∧ b = nI i ∧ c = nI h ∧ ∃ g, d = stL y 130 g ∧ (∀ j, j < h → g (24 * k + (i + j)) = fl A j) ∧ ∀ j, (j < 24 * k + i ∨ 24 * k + i + fM A ≤ j) → g j = y.2 130 j) (fM A) ?_ ?_ (by omega) ⟨rfl, rfl, rfl, _, stL_self.symm, fun j hj => by omega, fun _ _ => rfl⟩
  · rintro h hh _ _ _ _ ⟨rfl, rfl, rfl, g, rfl, g1, g2⟩
    refine Or.inl ⟨nI k, nI i, nI (h + 1), stL y 130 (vp_updL g (24 * k + i + h) (fl A h)), ⟨rfl, rfl, rfl, _, rfl, fun j hj => ?_, fun j hj => ?_⟩, fun ag => ?_⟩
    · rw [updL_at]
      by_cases e : j = h
      · rw [if_pos (by omega), e]
      · rw [if_neg (by omega)]; exact g1 j (by omega)
    · rw [updL_at, if_neg (by omega)]; exact g2 j hj
    · have v := m_pullOf hB hw.2.2.2.2.1 (y := stL y 130 g) hR (StM_st hS g) hh
      have pl := pU_le hB hw.2.2.2.2.1 h
      have q1 := m_sign (z := stL y 130 g) (v := pU A h) ⟨by omega, by omega⟩
      have q2 := m_sign (z := stL y 130 g) (v := (bS A all1).2.1) ⟨by omega, by omega⟩
      have dd : (stL y 130 g).2 122 16 = iL (bS A all1).2.1 := (StM_st hS g).1.2
      unfold b_X7_film_51
      rw [m_rd1]
      simp (disch := omega) only [bds, bds2, lts, lit, nI_add, pk_mul, nI_leI, nI_ltI, nI_eq, rdI_nI, rdL_nI, wrI_nI, wrL_nI, rdR_nI, if_pos, if_neg, and_true, true_and, and_false, false_and, reduceIte, stL_I, m1, v, dd, q1, q2, upL_st, iI_mul]
      rfl
  · rintro _ _ _ _ ⟨rfl, rfl, rfl, g, rfl, g1, g2⟩ ag
    refine ⟨g, ?_, g1, g2⟩
    unfold b_X7_film_51
    rw [m_rd1]
    simp (disch := omega) only [bds, bds2, lts, lit, nI_add, pk_mul, nI_leI, nI_ltI, nI_eq, rdI_nI, rdL_nI, wrI_nI, wrL_nI, rdR_nI, if_pos, if_neg, and_true, true_and, and_false, false_and, reduceIte, stL_I, m1]
theorem P28 (a1 a2 a3 : Int32) (h : Inv s t) : ∃ Z : Sto × Sto, st_28 a1 a2 a3 s t = some Z ∧ Inv Z.1 Z.2 := by
  have hI := h
  obtain ⟨A, n, Hs, hF, hG, hT, hS, hK⟩ := h
  have hF' := hF
  obtain ⟨f1, f2, f3, f4, f5⟩ := hF
  have hB := f1.1
  have h9 := hB.2.1
  have m1 : s.1 1 1 = nI (fM A) := f2.1.2.1
  rcases rowL hS a1 a2 with ⟨k, l, n, hk, rfl, rfl, ho, e1⟩ | ⟨r, r0, e1, e2⟩
  · have ho' := ho
    obtain ⟨c1, hl, hn, c2, c3, c4, c5⟩ := ho'
    rcases fits hk ho a3 (c := fM A) (by omega) with ⟨i, hi, rfl, g1, g2⟩ | ⟨g1, g2⟩
    · obtain ⟨y, y1, y2, y3, y4, y5, y6⟩ := c_settle f1 f2 hK
      obtain ⟨t', b1, b2, b3, b4⟩ := m_laysAll hB f4.1
      have r' : RowM (t'.1 123) A := by rw [b2.1 123 (by simp)]; exact f4.1
      have hI2 : Inv y t' := Inv_q hF' hG hT hS y2 y3 (b2.mono (by simp [QM])) (b3 2 (by omega)) (b3 5 (by omega)) (b3 7 (by omega)) y4
      have nc : ∀ c, 111 ≤ c → c ∉ SC := fun c h => by simp only [SC, List.mem_cons, List.not_mem_nil, or_false, not_or]; omega
      have hS2 : IS y t' := IS_k hS (fun c a b => ⟨y2.1 c (nc c (by omega)), y2.2 c (nc c (by omega))⟩) (b2.1 _ (by simp)) (b2.1 _ (by simp)) (b2.2 _ (by simp))
      obtain ⟨g, p1, p2, p3⟩ := c_film f1 y6 y5.1 (i := i) hk (by omega)
      obtain ⟨g', q1, q2, q3⟩ := m_film f1 r' b4 (i := i) hk (by omega)
      have sk : y.1 (114 + 2 * k) = s.1 (114 + 2 * k) := y2.1 _ (nc _ (by omega))
      have t8 : t'.1 128 = t.1 128 := b2.1 _ (by simp)
      have t9 : t'.1 129 = t.1 129 := b2.1 _ (by simp)
      refine ⟨(_, _), st_of (r := nI (fM A)) (s' := stL y (115 + 2 * k) g) (t' := stL t' 130 g') ?_ ?_, Inv_s hI2 (IS_s (k := k) hS2 (fun c a b => ⟨rfl, stL_ne b⟩) (fun j hj => ⟨rfl, rfl⟩) (fun j hj => ?_) (fun j hj => ?_) (Or.inr ⟨l, n, ?_, hl, hn, ?_, ?_, ?_, ?_⟩)) (fun c hc => ⟨rfl, stL_ne (by omega)⟩) (fun c hc => rfl)⟩
      · unfold f_X6_film
        rw [e1, bds, if00, rdR_nI (by omega) (by omega), bds, c113, m1, g1, bds, if10, y1, bds]
        exact p1
      · unfold f_X7_film
        rw [m_isSheet hk, bds, if10, in4 hl, bds, if10, m_rd1, bds, f4.1.1.2.1, g2, bds, if_pos (by decide), b1, bds]
        exact q1
      · rw [stL_same]; exact q3 j (by omega)
      · rw [stL_same, stL_same]
        by_cases e : i ≤ j ∧ j < i + fM A
        · have a1 := p2 (j - i) (by omega)
          have a2 := q2 (j - i) (by omega)
          rw [show i + (j - i) = j by omega] at a1 a2
          rw [a1, a2]
        · rw [p3 j (by omega), q3 (24 * k + j) (by omega)]
          exact (hS2 k hk).1 j hj
      · rw [stL_1, sk]; exact c1
      · rw [stL_1, sk]; exact c2
      · rw [stL_1, t8]; exact c3
      · rw [stL_1, sk]; exact c4
      · rw [stL_1, t9]; exact c5
    · refine ⟨(s, t), st_of (r := -13) ?_ ?_, hI⟩
      · unfold f_X6_film
        rw [e1, bds, if00, rdR_nI (by omega) (by omega), bds, c113, m1, g1, bds, if00]
      · unfold f_X7_film
        rw [m_isSheet hk, bds, if10, in4 hl, bds, if10, m_rd1, bds, f4.1.1.2.1, g2, bds, if_neg (by decide)]
  · refine ⟨(s, t), st_of (r := r) ?_ ?_, hI⟩
    · unfold f_X6_film; rw [e1, bds, if_neg r0]
    · unfold f_X7_film
      simp only [m_rd1, bds]
      exact e2 a3 _ _
end
