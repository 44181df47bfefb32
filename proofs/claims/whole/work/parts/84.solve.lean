def StC (y : Sto) (A : Fm) : Prop := (y.1 95 0 = nI (nS A) ∧ y.1 95 1 = nI (fM A) ∧ y.2 95 3 = iL (bS A all1).2.1) ∧ (∀ j, j < nS A → ∀ k, k < fM A → y.2 96 (9 * j + k) = iL (nU A j k)) ∧ (∀ k, k < fM A → y.2 97 k = iL (pU A k)) ∧ ∀ k, k < fM A → y.1 99 k = oI (rO (bS A all1) k)
section
variable {A : Fm} {q : Nat → Bool} {z : Sto} {n m S : Nat} {N : Nat → Nat → Int}
theorem c_addUp (hm : m ≤ 9) (hS : S ≤ 9) (hW : ∀ j, j < 9 → -9 ≤ fW A j ∧ fW A j ≤ 9) (hR : RepC z 1 A) (h0 : z.1 95 0 = nI S) (h1 : z.1 95 1 = nI m) (h96 : ∀ j, j < S → ∀ k, k < m → z.2 96 (9 * j + k) = iL (N j k)) : ∃ g, f_X4_addUp z = some (stL z 97 g) ∧ ∀ k, k < m → g k = iL (sm S (fun j => fW A j * N j k)) := by
  refine wl2_ind (Q := fun o => ∃ g, o = some (stL z 97 g) ∧ ∀ k, k < m → g k = iL (sm S (fun j => fW A j * N j k))) (fun k x y => x = nI k ∧ ∃ g, y = stL z 97 g ∧ ∀ i, i < k → g i = iL (sm S (fun j => fW A j * N j i))) m ?_ ?_ (by omega) ⟨rfl, z.2 97, stL_self.symm, fun i hi => by omega⟩
  · rintro k hk _ _ ⟨rfl, g, rfl, hg⟩ ag
    refine Or.inl ?_
    have e : b_X4_addUp_2 ag (nI k) (stL z 97 g) = wl3 (b_X4_addUp_19 ag) fu (nI k) (nI 0) (stL z 97 (vp_updL g k (iL 0))) := by
      unfold b_X4_addUp_2
      simp (disch := omega) only [bds, bds2, lts, lit, nI_add, pk_mul, nI_leI, nI_ltI, nI_eq, rdI_nI, rdL_nI, wrI_nI, wrL_nI, rdR_nI, if_pos, if_neg, and_true, true_and, and_false, false_and, reduceIte, stL_I, h1, upL_st, lL0]
    rw [e]
    refine wl3_inv (Q := fun o => ∃ b0 b1, (b0 = nI (k + 1) ∧ ∃ g, b1 = stL z 97 g ∧ ∀ i, i < k + 1 → g i = iL (sm S (fun j => fW A j * N j i))) ∧ o = ag b0 b1) (fun j x y u => x = nI k ∧ y = nI j ∧ ∃ g, u = stL z 97 g ∧ (∀ i, i < k → g i = iL (sm S (fun j => fW A j * N j i))) ∧ g k = iL (sm j (fun j => fW A j * N j k))) S ?_ ?_ (by omega) ⟨rfl, rfl, _, rfl, fun i hi => by rw [updL_at, if_neg (by omega)]; exact hg i hi, by rw [updL_at, if_pos rfl]; rfl⟩
    · rintro j hj _ _ _ ⟨rfl, rfl, g, rfl, ha, hb⟩
      have w := hR.2.2.2.2.2 j (by omega)
      have hw := hW j (by omega)
      have v := h96 j hj k hk
      rw [show 9 * j + k = j * 9 + k by omega] at v
      refine Or.inl ⟨nI k, nI (j + 1), stL z 97 (vp_updL g k (iL (sm (j + 1) (fun j => fW A j * N j k)))), ⟨rfl, rfl, _, rfl, fun i hi => ?_, ?_⟩, fun ag2 => ?_⟩
      · rw [updL_at, if_neg (by omega)]; exact ha i hi
      · rw [updL_at, if_pos rfl]
      · unfold b_X4_addUp_19
        simp (disch := omega) only [bds, bds2, lts, lit, nI_add, pk_mul, nI_leI, nI_ltI, nI_eq, rdI_nI, rdL_nI, wrI_nI, wrL_nI, rdR_nI, if_pos, if_neg, and_true, true_and, and_false, false_and, reduceIte, stL_I, h0, stL_at, hb, w, v, iIL, iL_mul, iL_add, upL_st, sm_s]
    · rintro _ _ _ ⟨rfl, rfl, g, rfl, ha, hb⟩ ag2
      refine ⟨nI (k + 1), stL z 97 g, ⟨rfl, g, rfl, fun i hi => ?_⟩, ?_⟩
      · by_cases c : i = k
        · subst c; exact hb
        · exact ha i (by omega)
      · unfold b_X4_addUp_19
        simp (disch := omega) only [bds, bds2, lts, lit, nI_add, pk_mul, nI_leI, nI_ltI, nI_eq, rdI_nI, rdL_nI, wrI_nI, wrL_nI, rdR_nI, if_pos, if_neg, and_true, true_and, and_false, false_and, reduceIte, stL_I, h0]
  · rintro _ _ ⟨rfl, g, rfl, hg⟩ ag
    refine ⟨g, ?_, hg⟩
    unfold b_X4_addUp_2
    simp (disch := omega) only [bds, bds2, lts, lit, nI_add, pk_mul, nI_leI, nI_ltI, nI_eq, rdI_nI, rdL_nI, wrI_nI, wrL_nI, rdR_nI, if_pos, if_neg, and_true, true_and, and_false, false_and, reduceIte, stL_I, h1]
theorem nS_le (hB : BF A) : nS A ≤ 9 := Nat.le_trans cnt_le hB.2.1
theorem bS_p (hB : BF A) : (bS A q).2.2.1 ≤ 9 := by have := (BI_p (bI (q := q) hB)).1; have := hB.2.1; omega
theorem c_solve (hB : BF A) (hW : ∀ j, j < 9 → -9 ≤ fW A j ∧ fW A j ≤ 9) (hR : RepC z 1 A) : ∃ y, f_X4_solve z = some y ∧ Ke [95, 96, 97, 98, 99] z y ∧ StC y A := by
  have h9 := hB.2.1
  have h6 := hB.1
  obtain ⟨z2, hz2⟩ : ∃ z2, z2 = upI (upI z 95 1 (nI (fM A))) 95 2 (nI (2 * fN A)) := ⟨_, rfl⟩
  have k2 : Ke [95, 96, 97, 98, 99] z z2 := by rw [hz2]; exact (Ke.rf.up (by simp)).up (by simp)
  have r2 : RepC z2 1 A := RepC_congr (fun c h1 h2 => k2.1 c (by simp; omega)) hR
  have a1 : z2.1 95 1 = nI (fM A) := by rw [hz2, upI_at, if_neg (by omega), upI_at, if_pos ⟨rfl, rfl⟩]
  have a2 : z2.1 95 2 = nI (2 * fN A) := by rw [hz2, upI_at, if_pos ⟨rfl, rfl⟩]
  obtain ⟨f, p1, p2⟩ := c_fillGrid hB r2 a1
  obtain ⟨z4, hz4⟩ : ∃ z4, z4 = upL (stL z2 98 f) 95 3 (iL 1) := ⟨_, rfl⟩
  have k4 : Ke [95, 96, 97, 98, 99] z2 z4 := by rw [hz4]; exact (Ke.rf.stl (by simp)).upl (by simp)
  obtain ⟨z6, q1, q2, q3, q4, q5, q6⟩ := c_reduceL (q := all1) (n := fN A) (m := fM A) hB h6 h9 (fM A) fu (b0 A all1) z4 (bI0 hB) (Zr_0 hB) (Nat.le_refl _) (by show fM A < 4096; omega) (by rw [hz4]; exact a1) (by rw [hz4]; exact a2) (by rw [hz4, upL_at, if_pos ⟨rfl, rfl⟩]; rfl) (by rw [hz4, upL_ne (by decide), stL_same]; exact p2) (fun j h1 h2 => by omega)
  have e6 : z6.1 95 = z2.1 95 := by rw [q3, hz4]; rfl
  obtain ⟨g, s1, s2⟩ := c_listStresses (z := z6) (m := fM A) (s := bS A all1) h9 (bS_p hB) (by rw [e6]; exact a1) q4 q5 q6
  obtain ⟨z8, hz8⟩ : ∃ z8, z8 = upI (stL z6 96 g) 95 0 (nI (nS A)) := ⟨_, rfl⟩
  have k6 : Ke [95, 96, 97, 98, 99] z4 z6 := q2.mono (by simp)
  have k8 : Ke [95, 96, 97, 98, 99] z6 z8 := by rw [hz8]; exact (Ke.rf.stl (by simp)).up (by simp)
  have K8 : Ke [95, 96, 97, 98, 99] z z8 := ((k2.tr k4).tr k6).tr k8
  have r8 : RepC z8 1 A := RepC_congr (fun c h1 h2 => K8.1 c (by simp; omega)) hR
  have b0 : z8.1 95 0 = nI (nS A) := by rw [hz8, upI_at, if_pos ⟨rfl, rfl⟩]
  have b1 : z8.1 95 1 = nI (fM A) := by rw [hz8, upI_at, if_neg (by omega)]; show z6.1 95 1 = _; rw [e6]; exact a1
  have b96 : ∀ j, j < nS A → ∀ k, k < fM A → z8.2 96 (9 * j + k) = iL (nU A j k) := fun j hj k hk => by
    have sp := ldr_spec (q := lead (bS A all1)) (m := fM A) hj
    have := s2 _ sp.1 sp.2.1 k hk
    rw [sp.2.2] at this
    rw [hz8]
    show (stL z6 96 g).2 96 _ = _
    rw [stL_same]
    exact this
  obtain ⟨g2, t1, t2⟩ := c_addUp (z := z8) (m := fM A) (S := nS A) (N := nU A) h9 (nS_le hB) hW r8 b0 b1 b96
  refine ⟨stL z8 97 g2, ?_, K8.stl (by simp), ⟨b0, b1, ?_⟩, fun j hj k hk => ?_, fun k hk => ?_, fun k hk => ?_⟩
  · have e1 : z.1 1 1 = nI (fM A) := hR.1.2.1
    have e2 : (upI z 95 1 (nI (fM A))).1 1 0 = nI (fN A) := by rw [upI_ne (by decide)]; exact hR.1.1
    have e4 : f_X4_reduce (stL z2 98 f) = some z6 := by
      unfold f_X4_reduce
      rw [lts, lL1, ← hz4, lts]
      have : z4.1 95 1 = nI (fM A) := by rw [hz4]; exact a1
      rw [this, show nI (fM A) - (1 : Int32) = iI ((fM A : Int) - 1) by rw [nI_iI, show (1 : Int32) = iI 1 from rfl, iI_sub]]
      exact q1
    unfold f_X4_solve
    rw [lts, e1, lts, e2, show (2 : Int32) * nI (fN A) = nI (2 * fN A) from pk_mul 2 _, ← hz2, p1, bds, e4, bds, s1, bds]
    rw [show nI (cnt (lead (bS A all1)) (fM A)) = nI (nS A) from rfl, ← hz8, t1, bds]
  · rw [stL_ne (by decide), hz8]
    show (stL z6 96 g).2 95 3 = _
    rw [stL_ne (by decide)]
    exact q4
  · rw [stL_ne (by decide)]; exact b96 j hj k hk
  · rw [stL_same]; exact t2 k hk
  · show z8.1 99 k = _
    rw [hz8, upI_ne (by decide)]
    exact q6 k hk
end
