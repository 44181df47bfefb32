section
variable {s t y z : Sto} {A : Fm} {v : Nat → Int}
def smi (v : Nat → Int) : Nat → Bool := al fun k => decide (-99 ≤ v k) && decide (v k ≤ 99)
def nzv (v : Nat → Int) : Nat → Bool := al fun k => decide (v k ≠ 0)
def nnv (v : Nat → Int) : Nat → Bool := al fun k => decide (0 ≤ v k)
theorem al_f {f : Nat → Bool} {n j : Nat} (hj : j < n) (h : f j = false) : al f n = false := by
  cases e : al f n with
  | false => rfl
  | true => have := al_iff.mp e j hj; rw [h] at this; cases this
theorem l99 : (99 : Int64) = iL 99 := by decide
theorem cF {a b : Int} (ha : in64 a) (hb : in64 b) : ((lg_cmp (iL a) (iL b) < nI 0) ↔ a < b) ∧ ((lg_cmp (iL a) (iL b) ≤ nI 0) ↔ a ≤ b) := by
  have e1 : (lg_cmp (iL a) (iL b) < nI 0) ↔ iL a < iL b := lg_cmp_lt _ _
  have e2 : (lg_cmp (iL a) (iL b) ≤ nI 0) ↔ iL a ≤ iL b := lg_cmp_le _ _
  rw [e1, e2, iL_lt ha hb, iL_le ha hb]
  exact ⟨Iff.rfl, Iff.rfl⟩
theorem c_isSmall (h9 : fM A ≤ 9) (hv : ∀ k, in64 (v k)) {c i : Nat} (hi : i + fM A ≤ 24) (hd : ∀ k, k < fM A → z.2 (c + 1) (i + k) = iL (v k)) : f_X3_isSmall c (nI i) (nI (fM A)) z = some (b2i (smi v (fM A))) := by
  refine wl3_inv (Q := fun o => o = some (b2i (smi v (fM A)))) (fun h a b d => a = nI i ∧ b = nI (fM A) ∧ d = nI h ∧ smi v h = true) (fM A) ?_ ?_ (by omega) ⟨rfl, rfl, rfl, rfl⟩
  · rintro h hh _ _ _ ⟨rfl, rfl, rfl, hs⟩
    have d1 := hd h hh
    have c1 := (cF (hv h) (b := -99) ⟨by omega, by omega⟩).1
    have c2 := (cF (hv h) (b := 99) ⟨by omega, by omega⟩).2
    by_cases e1 : v h < -99
    · refine Or.inr fun ag => ?_
      rw [show smi v (fM A) = false from al_f hh (by rw [decide_eq_false (by omega)]; rfl)]
      unfold b_X3_isSmall_2
      simp (disch := omega) only [bds, bds2, lts, lit, nI_add, pk_mul, nI_leI, nI_ltI, nI_eq, rdI_nI, rdL_nI, wrI_nI, wrL_nI, rdR_nI, if_pos, if_neg, and_true, true_and, and_false, false_and, reduceIte, d1, l99, iL_neg, c1]
      rfl
    · by_cases e2 : v h ≤ 99
      · refine Or.inl ⟨nI i, nI (fM A), nI (h + 1), ⟨rfl, rfl, rfl, by show (smi v h && (decide (-99 ≤ v h) && decide (v h ≤ 99))) = true; rw [hs, decide_eq_true (by omega), decide_eq_true e2]; rfl⟩, fun ag => ?_⟩
        unfold b_X3_isSmall_2
        simp (disch := omega) only [bds, bds2, lts, lit, nI_add, pk_mul, nI_leI, nI_ltI, nI_eq, rdI_nI, rdL_nI, wrI_nI, wrL_nI, rdR_nI, if_pos, if_neg, and_true, true_and, and_false, false_and, reduceIte, d1, l99, iL_neg, c1, c2]
      · refine Or.inr fun ag => ?_
        rw [show smi v (fM A) = false from al_f hh (by rw [decide_eq_false e2, Bool.and_false])]
        unfold b_X3_isSmall_2
        simp (disch := omega) only [bds, bds2, lts, lit, nI_add, pk_mul, nI_leI, nI_ltI, nI_eq, rdI_nI, rdL_nI, wrI_nI, wrL_nI, rdR_nI, if_pos, if_neg, and_true, true_and, and_false, false_and, reduceIte, d1, l99, iL_neg, c1, c2]
        rfl
  · rintro _ _ _ ⟨rfl, rfl, rfl, hs⟩ ag
    rw [hs]
    unfold b_X3_isSmall_2
    simp (disch := omega) only [bds, bds2, lts, lit, nI_add, pk_mul, nI_leI, nI_ltI, nI_eq, rdI_nI, rdL_nI, wrI_nI, wrL_nI, rdR_nI, if_pos, if_neg, and_true, true_and, and_false, false_and, reduceIte]
    rfl
def wht (A : Fm) (v : Nat → Int) : Int32 := ((b2i (alr A v (fN A)) + (2 : Int32) * b2i (nzv v (fM A))) + (4 : Int32) * b2i (nnv v (fM A))) + (8 : Int32) * b2i (tms A v)
theorem c_kindOf (hw : WF A) (hR : RepC z 1 A) (hS : StC z A) (hv : ∀ k, k < fM A → -99 ≤ v k ∧ v k ≤ 99) {c i : Nat} (hi : i + fM A ≤ 24) (hd : ∀ k, k < fM A → z.2 c (i + k) = iL (v k)) : f_X6_kindOf c (nI i) z = some (wht A v) := by
  have hB := hw.1
  have h9 := hB.2.1
  have hm : z.1 1 1 = nI (fM A) := hR.1.2.1
  refine wl4_inv (Q := fun o => o = some (wht A v)) (fun h a b d e => a = nI i ∧ b = b2i (nzv v h) ∧ d = b2i (nnv v h) ∧ e = nI h) (fM A) ?_ ?_ (by omega) ⟨rfl, rfl, rfl, rfl⟩
  · rintro h hh _ _ _ _ ⟨rfl, rfl, rfl, rfl⟩
    have d1 := hd h hh
    have w1 := hv h hh
    refine Or.inl ⟨nI i, b2i (nzv v (h + 1)), b2i (nnv v (h + 1)), nI (h + 1), ⟨rfl, rfl, rfl, rfl⟩, fun ag => ?_⟩
    rw [show nzv v (h + 1) = (nzv v h && decide (v h ≠ 0)) from rfl, show nnv v (h + 1) = (nnv v h && decide (0 ≤ v h)) from rfl]
    unfold b_X6_kindOf_8 j_X6_kindOf_39 j_X6_kindOf_40
    by_cases e1 : v h = 0
    · rw [decide_eq_false (show ¬ v h ≠ 0 from fun n => n e1), decide_eq_true (show 0 ≤ v h by omega)]
      cases nzv v h <;> cases nnv v h <;> try rw [show b2i false = nI 0 from rfl]
      all_goals
        try rw [show b2i true = nI 1 from rfl]
        simp (disch := omega) only [bds, bds2, lts, lit, nI_add, pk_mul, nI_leI, nI_ltI, nI_eq, rdI_nI, rdL_nI, wrI_nI, wrL_nI, rdR_nI, if_pos, if_neg, and_true, true_and, and_false, false_and, reduceIte, hm, d1, lL0, cmE, cmLt]
        try rfl
    · by_cases e2 : 0 ≤ v h
      · rw [decide_eq_true (show v h ≠ 0 from e1), decide_eq_true e2]
        cases nzv v h <;> cases nnv v h <;> try rw [show b2i false = nI 0 from rfl]
        all_goals
          try rw [show b2i true = nI 1 from rfl]
          simp (disch := omega) only [bds, bds2, lts, lit, nI_add, pk_mul, nI_leI, nI_ltI, nI_eq, rdI_nI, rdL_nI, wrI_nI, wrL_nI, rdR_nI, if_pos, if_neg, and_true, true_and, and_false, false_and, reduceIte, hm, d1, lL0, cmE, cmLt]
          try rfl
      · rw [decide_eq_true (show v h ≠ 0 from e1), decide_eq_false e2]
        cases nzv v h <;> cases nnv v h <;> try rw [show b2i false = nI 0 from rfl]
        all_goals
          try rw [show b2i true = nI 1 from rfl]
          simp (disch := omega) only [bds, bds2, lts, lit, nI_add, pk_mul, nI_leI, nI_ltI, nI_eq, rdI_nI, rdL_nI, wrI_nI, wrL_nI, rdR_nI, if_pos, if_neg, and_true, true_and, and_false, false_and, reduceIte, hm, d1, lL0, cmE, cmLt]
          try rfl
  · rintro _ _ _ _ ⟨rfl, rfl, rfl, rfl⟩ ag
    unfold b_X6_kindOf_8
    rw [hm, if_pos (nI_le (Nat.le_refl _) (by omega)), c_isAtRest hB hR hv hi hd, c_isMultiple hw hS hv hi hd]
    simp only [bds, asb]
    rfl
def kx (a b : Bool) : Int32 := (if a = true then 2 else 0) + (if b = true then 4 else 0)
theorem kx4 (a b : Bool) : kx a b &&& (4 : Int32) = kx (a && false) (b && true) := by cases a <;> cases b <;> decide
theorem kx6 (a b : Bool) : kx a b &&& (6 : Int32) = kx (a && true) (b && true) := by cases a <;> cases b <;> decide
theorem kx2 (a b : Bool) : kx a b &&& (2 : Int32) = kx (a && true) (b && false) := by cases a <;> cases b <;> decide
theorem kxW (a b r m : Bool) : (if b2i m = 0 then some (((kx a b ||| b2i r) ||| (0 : Int32)), z) else some (((kx a b ||| b2i r) ||| (8 : Int32)), z)) = some (((b2i r + (2 : Int32) * b2i a) + (4 : Int32) * b2i b) + (8 : Int32) * b2i m, z) := by
  cases a <;> cases b <;> cases r <;> cases m <;> rfl
theorem m_what (hw : WF A) (hR : RowM (t.1 123) A) (hv : ∀ k, in64 (v k)) {i : Nat} (hi : i + fM A ≤ 96) (hd : ∀ k, k < fM A → t.2 130 (i + k) = iL (v k)) {t' : Sto} (hl : f_X7_laysAll t = some t') (hk : Ke [122, 134, 135] t t') (hS : StM t' A) : wl4 b_X7_what_59 fu (nI i) (6 : Int32) (nI 0) t = if smi v (fM A) = true then some (wht A v, t') else some (-2, t) := by
  have hB := hw.1
  have h9 := hB.2.1
  have hm := hR.1.2.1
  refine wl4_inv (Q := fun o => o = if smi v (fM A) = true then some (wht A v, t') else some (-2, t)) (fun h a b d e => a = nI i ∧ b = kx (nzv v h) (nnv v h) ∧ d = nI h ∧ e = t ∧ smi v h = true) (fM A) ?_ ?_ (by omega) ⟨rfl, rfl, rfl, rfl, rfl⟩
  · rintro h hh _ _ _ e ⟨rfl, rfl, rfl, he, hs⟩
    rw [he]
    have d1 := hd h hh
    have mi := m_in (z := t) (hv h) (a := -99) (b := 99) ⟨by omega, by omega⟩ ⟨by omega, by omega⟩
    have mi' : f_X7_in (iL (v h)) (-99) 99 t = some (b2i (decide (-99 ≤ v h) && decide (v h ≤ 99))) := mi
    by_cases e0 : -99 ≤ v h ∧ v h ≤ 99
    · rw [decide_eq_true e0.1, decide_eq_true e0.2] at mi'
      have mi2 : f_X7_in (iL (v h)) (-99) 99 t = some 1 := mi'
      refine Or.inl ⟨nI i, kx (nzv v (h + 1)) (nnv v (h + 1)), nI (h + 1), t, ⟨rfl, rfl, rfl, rfl, by show (smi v h && (decide (-99 ≤ v h) && decide (v h ≤ 99))) = true; rw [hs, decide_eq_true e0.1, decide_eq_true e0.2]; rfl⟩, fun ag => ?_⟩
      rw [show nzv v (h + 1) = (nzv v h && decide (v h ≠ 0)) from rfl, show nnv v (h + 1) = (nnv v h && decide (0 ≤ v h)) from rfl]
      unfold b_X7_what_59
      rw [m_rd1, bds, hm, if_neg (nI_ge hh (by omega)), nI_add, rdL_nI (by omega) (by omega), bds, d1, mi2, bds, if10, bds, bds]
      have cz := cmE (a := v h) (b := 0) (by omega) (by omega) (by omega) (by omega)
      have cg := cmG (a := v h) (b := 0) (by omega) (by omega) (by omega) (by omega)
      by_cases e1 : v h = 0
      · rw [if_pos (show lg_cmp (iL (v h)) (0 : Int64) = 0 from cz.mpr e1), decide_eq_false (show ¬ v h ≠ 0 from fun n => n e1), decide_eq_true (show 0 ≤ v h by omega), lts, lts, kx4, show nI h + (1 : Int32) = nI (h + 1) from nI_add h 1]
      · rw [if_neg (show ¬ lg_cmp (iL (v h)) (0 : Int64) = 0 from fun x => e1 (cz.mp x)), decide_eq_true (show v h ≠ 0 from e1)]
        by_cases e2 : 0 ≤ v h
        · rw [if_pos (show (0 : Int32) ≤ lg_cmp (iL (v h)) (0 : Int64) from cg.mpr e2), decide_eq_true e2, lts, lts, kx6, show nI h + (1 : Int32) = nI (h + 1) from nI_add h 1]
        · rw [if_neg (show ¬ (0 : Int32) ≤ lg_cmp (iL (v h)) (0 : Int64) from fun x => e2 (cg.mp x)), decide_eq_false e2, lts, lts, kx2, show nI h + (1 : Int32) = nI (h + 1) from nI_add h 1]
    · have ff : (decide (-99 ≤ v h) && decide (v h ≤ 99)) = false := by
        by_cases q : -99 ≤ v h
        · rw [decide_eq_false (show ¬ v h ≤ 99 from fun x => e0 ⟨q, x⟩), Bool.and_false]
        · rw [decide_eq_false q]; rfl
      rw [ff] at mi'
      have mi2 : f_X7_in (iL (v h)) (-99) 99 t = some 0 := mi'
      refine Or.inr fun ag => ?_
      rw [show smi v (fM A) = false from al_f hh ff]
      unfold b_X7_what_59
      rw [m_rd1, bds, hm, if_neg (nI_ge hh (by omega)), nI_add, rdL_nI (by omega) (by omega), bds, d1, mi2, bds, if00]
      rfl
  · rintro _ _ _ e ⟨rfl, rfl, rfl, he, hs⟩ ag
    rw [he]
    have hv' : ∀ k, k < fM A → -99 ≤ v k ∧ v k ≤ 99 := fun k hk => by
      have := al_iff.mp hs k hk
      rw [Bool.and_eq_true, decide_eq_true_eq, decide_eq_true_eq] at this
      exact this
    have r' : RowM (t'.1 123) A := by rw [hk.1 123 (by simp)]; exact hR
    have hd' : ∀ k, k < fM A → t'.2 130 (i + k) = iL (v k) := by rw [hk.2 130 (by simp)]; exact hd
    have ti := m_isTimes hw r' hS hv' hi hd'
    unfold b_X7_what_59 j_X7_what_162 f_X7_isTimes
    rw [m_rd1, bds, hm, if_pos (nI_le (Nat.le_refl _) (by omega)), m_isAtRest hB hR hv' hi hd, bds, hl, bds, show wl5 b_X7_isTimes_11 fu (nI i) (1 : Int32) (1 : Int32) (0 : Int32) t' = some (b2i (tms A v), t') from ti, bds2, bds2, hs, if_pos rfl]
    have k0 := kxW (z := t') (nzv v (fM A)) (nnv v (fM A)) (alr A v (fN A)) (tms A v)
    unfold wht
    rw [← k0]
    cases alr A v (fN A) <;> rfl
theorem P27 (a1 a2 a3 : Int32) (h : Inv s t) : ∃ Z : Sto × Sto, st_27 a1 a2 a3 s t = some Z ∧ Inv Z.1 Z.2 := by
  have hI := h
  obtain ⟨A, n, Hs, hF, hG, hT, hS, hK⟩ := h
  have hF' := hF
  obtain ⟨f1, f2, f3, f4, f5⟩ := hF
  have hB := f1.1
  have h9 := hB.2.1
  have m1 : s.1 1 1 = nI (fM A) := f2.1.2.1
  rcases rowL hS a1 a2 with ⟨k, l, n, hk, rfl, rfl, ho, e1⟩ | ⟨r, r0, e1, e2⟩
  · have ho' := ho
    obtain ⟨c1, hl, hn, c2, c3, c4, c5⟩ := ho'
    rcases fits hk ho a3 (c := fM A) (by omega) with ⟨i, hi, rfl, g1, g2⟩ | ⟨g1, g2⟩
    · obtain ⟨y, y1, y2, y3, y4, y5, y6⟩ := c_settle f1 f2 hK
      obtain ⟨t', b1, b2, b3, b4⟩ := m_laysAll hB f4.1
      have nc : ∀ c, 111 ≤ c → c ∉ SC := fun c h => by simp only [SC, List.mem_cons, List.not_mem_nil, or_false, not_or]; omega
      obtain ⟨v, hvd⟩ : ∃ v : Nat → Int, v = fun j => (s.2 (115 + 2 * k) (i + j)).toInt := ⟨_, rfl⟩
      have hv : ∀ j, in64 (v j) := fun j => by
        have a := Int64.le_toInt (s.2 (115 + 2 * k) (i + j))
        have b := Int64.toInt_lt (s.2 (115 + 2 * k) (i + j))
        rw [hvd]
        exact ⟨by show _ ≤ (s.2 (115 + 2 * k) (i + j)).toInt; omega, by show (s.2 (115 + 2 * k) (i + j)).toInt ≤ _; omega⟩
      have d0 : ∀ j, j < fM A → s.2 (115 + 2 * k) (i + j) = iL (v j) := fun j hj => by rw [hvd]; exact (iL_of _).symm
      have d1 : ∀ j, j < fM A → y.2 (115 + 2 * k) (i + j) = iL (v j) := by rw [y2.2 _ (nc _ (by omega))]; exact d0
      have d2 : ∀ j, j < fM A → t.2 130 (24 * k + i + j) = iL (v j) := fun j hj => by rw [← d0 j hj, Nat.add_assoc]; exact ((hS k hk).1 (i + j) (by omega)).symm
      have mw := m_what f1 f4.1 hv (i := 24 * k + i) (by omega) d2 b1 b2 b4
      have cs := c_isSmall (z := s) (c := 114 + 2 * k) (i := i) h9 hv (by omega) (by rw [c114]; exact d0)
      have ml : f_X7_what (nI k) (nI l) (nI i) t = if smi v (fM A) = true then some (wht A v, t') else some (-2, t) := by
        unfold f_X7_what
        rw [m_isSheet hk, bds, if10, in4 hl, bds, if10, m_rd1, bds, f4.1.1.2.1, g2, bds, if_pos (by decide), lts, show (24 : Int32) * nI k + nI i = nI (24 * k + i) by rw [show (24 : Int32) = nI 24 from rfl, pk_mul, nI_add]]
        exact mw
      cases hs : smi v (fM A) with
      | true =>
        rw [hs, if_pos rfl] at ml
        have hv' : ∀ k, k < fM A → -99 ≤ v k ∧ v k ≤ 99 := fun k hk => by
          have := al_iff.mp hs k hk
          rw [Bool.and_eq_true, decide_eq_true_eq, decide_eq_true_eq] at this
          exact this
        refine ask (r := wht A v) hF' hG hT hS (s' := y) (t' := t') ?_ ml y2 y3 y4 (b2.mono (by simp [QM])) (b3 2 (by omega)) (b3 5 (by omega)) (b3 7 (by omega))
        unfold f_X6_what
        rw [e1, bds, if00, rdR_nI (by omega) (by omega), bds, c113, m1, g1, bds, if10, cs, bds, hs, show b2i true = (1 : Int32) from rfl, if10, y1, bds, c114, c_kindOf f1 y6 y5.1 hv' (by omega) d1, bds]
      | false =>
        rw [hs] at ml
        refine ⟨(s, t), st_of (r := -2) ?_ ml, hI⟩
        unfold f_X6_what
        rw [e1, bds, if00, rdR_nI (by omega) (by omega), bds, c113, m1, g1, bds, if10, cs, bds, hs, show b2i false = (0 : Int32) from rfl, if00]
    · refine ⟨(s, t), st_of (r := -13) ?_ ?_, hI⟩
      · unfold f_X6_what
        rw [e1, bds, if00, rdR_nI (by omega) (by omega), bds, c113, m1, g1, bds, if00]
      · unfold f_X7_what
        rw [m_isSheet hk, bds, if10, in4 hl, bds, if10, m_rd1, bds, f4.1.1.2.1, g2, bds, if_neg (by decide)]
  · refine ⟨(s, t), st_of (r := r) ?_ ?_, hI⟩
    · unfold f_X6_what; rw [e1, bds, if_neg r0]
    · unfold f_X7_what
      simp only [m_rd1, bds]
      exact e2 a3 _ _
end
