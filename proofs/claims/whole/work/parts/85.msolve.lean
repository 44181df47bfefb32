def qb (t : Nat) : Nat → Bool := fun k => t.testBit k
theorem bit9 {t k : Nat} (ht : t < 512) (hk : k < 9) : (((nI t >>> (nI k &&& nI 31)) &&& nI 1) = nI 1) ↔ qb t k = true := by
  show (((nI t >>> (nI k &&& 31)) &&& nI 1) = nI 1) ↔ qb t k = true
  have e1 : nI k &&& (31 : Int32) = nI k := by
    rw [pk_andN (by omega) 5 (by decide), Nat.mod_eq_of_lt (by omega)]
  have e2 : ((nI k).toBitVec.smod 32).toNat = k := by
    rcases (show k = 0 ∨ k = 1 ∨ k = 2 ∨ k = 3 ∨ k = 4 ∨ k = 5 ∨ k = 6 ∨ k = 7 ∨ k = 8 by omega) with h | h | h | h | h | h | h | h | h <;> subst h <;> decide
  rw [e1, pk_shrN (by omega) _ k e2, show nI 1 = (1 : Int32) from rfl, pk_andN (by have := Nat.div_le_self t (2 ^ k); omega) 1 (by decide), show (1 : Int32) = nI 1 from rfl, nI_eq (by omega) (by omega)]
  unfold qb
  rw [Nat.testBit_eq_decide_div_mod_eq, decide_eq_true_eq]
theorem bit9f {t k : Nat} (ht : t < 512) (hk : k < 9) (h : qb t k = false) : ¬ ((nI t >>> (nI k &&& nI 31)) &&& nI 1) = nI 1 := fun e => by rw [(bit9 ht hk).mp e] at h; cases h
section
variable {A : Fm} {z : Sto} {f : Nat → Int64} {G : Nat → Nat → Int} {t : Nat}
theorem m_back {h : Nat} (hh : h < 100) : f_X7_back (nI h) z = some (nI (if h % 2 = 0 then h + 1 else h - 1)) := by
  unfold f_X7_back
  by_cases c : h % 2 = 0
  · simp (disch := omega) only [bds, bds2, lts, lit, nI_add, pk_mul, nI_leI, nI_ltI, nI_eq, rdI_nI, rdL_nI, wrI_nI, wrL_nI, rdR_nI, if_pos, if_neg, and_true, true_and, and_false, false_and, reduceIte, pk_rem]
  · simp (disch := omega) only [bds, bds2, lts, lit, nI_add, pk_mul, nI_leI, nI_ltI, nI_eq, rdI_nI, rdL_nI, wrI_nI, wrL_nI, rdR_nI, if_pos, if_neg, and_true, true_and, and_false, false_and, reduceIte, pk_rem, pk_sub]
theorem m_stepX (hB : BF A) (hR : RowM (z.1 123) A) {h : Nat} (hh : h < 2 * fM A) : f_X7_stepX (nI h) z = some (iI (sX A h)) := by
  unfold f_X7_stepX
  rw [m_to hB hR hh, bds, m_x hB hR (fE_lt hB hh), bds, m_from hB hR hh, bds, m_x hB hR (fS_lt hB hh), bds, iI_sub]
  rfl
theorem m_stepY (hB : BF A) (hR : RowM (z.1 123) A) {h : Nat} (hh : h < 2 * fM A) : f_X7_stepY (nI h) z = some (iI (sY A h)) := by
  unfold f_X7_stepY
  rw [m_to hB hR hh, bds, m_y hB hR (fE_lt hB hh), bds, m_from hB hR hh, bds, m_y hB hR (fS_lt hB hh), bds, iI_sub]
  rfl
theorem m_laysCells (hB : BF A) (hR : RowM (z.1 123) A) (ht : t < 512) : ∃ f, f_X7_laysCells (nI t) z = some (stL z 134 f) ∧ RG f (mA A (qb t)) := by
  have h9 := hB.2.1
  have h6 := hB.1
  have hm := hR.1.2.1
  have main : ∀ f0 : Nat → Int64, (∀ i, i < 108 → f0 i = iL 0) → ∃ f, wl3 b_X7_laysCells_23 fu (nI t) (nI 0) (stL z 134 f0) = some (stL z 134 f) ∧ RG f (mA A (qb t)) := by
    intro f0 p2
    refine wl3_inv (Q := fun o => ∃ f, o = some (stL z 134 f) ∧ RG f (mA A (qb t))) (fun h w x y => w = nI t ∧ x = nI h ∧ ∃ f, y = stL z 134 f ∧ RG f (pv A (qb t) h)) (2 * fM A) ?_ ?_ (by omega) ⟨rfl, rfl, f0, rfl, fun i hi j hj => by rw [p2 _ (by omega), pv_0]⟩
    · rintro h hh _ _ _ ⟨rfl, rfl, f, rfl, hf⟩
      have sl := fS_lt hB hh
      have st := step_le hB hh
      have s1 : ∀ f, f_X7_from (nI h) (stL z 134 f) = some (nI (fS A h)) := fun f => m_from (z := stL z 134 f) hB hR hh
      have s2 : ∀ f, f_X7_stepX (nI h) (stL z 134 f) = some (iI (sX A h)) := fun f => m_stepX (z := stL z 134 f) hB hR hh
      have s3 : ∀ f, f_X7_stepY (nI h) (stL z 134 f) = some (iI (sY A h)) := fun f => m_stepY (z := stL z 134 f) hB hR hh
      cases hq : qb t (h / 2) with
      | true =>
        have hb := (bit9 ht (show h / 2 < 9 by omega)).mpr hq
        refine Or.inl ⟨nI t, nI (h + 1), stL z 134 (vp_updL (vp_updL f (18 * fS A h + h / 2) (iL (sX A h))) (18 * fS A h + 9 + h / 2) (iL (sY A h))), ⟨rfl, rfl, _, rfl, fun i hi j hj => ?_⟩, fun ag => ?_⟩
        · rw [updL_at, updL_at, pv_s hB hh hq]
          by_cases c1 : j = h / 2 ∧ i = 2 * fS A h
          · rw [if_pos c1, if_neg (by omega), if_pos (by omega)]
          · rw [if_neg c1]
            by_cases c2 : j = h / 2 ∧ i = 2 * fS A h + 1
            · rw [if_pos c2, if_pos (by omega)]
            · rw [if_neg c2, if_neg (by omega), if_neg (by omega)]; exact hf i hi j hj
        · unfold b_X7_laysCells_23
          simp (disch := omega) only [bds, bds2, lts, lit, nI_add, pk_mul, nI_leI, nI_ltI, nI_eq, rdI_nI, rdL_nI, wrI_nI, wrL_nI, rdR_nI, if_pos, if_neg, and_true, true_and, and_false, false_and, reduceIte, stL_I, hm, s1, s2, s3, upL_st, pk_div, iIL, hb]
      | false =>
        have hb := bit9f ht (show h / 2 < 9 by omega) hq
        refine Or.inl ⟨nI t, nI (h + 1), stL z 134 f, ⟨rfl, rfl, _, rfl, fun i hi j hj => ?_⟩, fun ag => ?_⟩
        · rw [pv_f hB hh hq]; exact hf i hi j hj
        · unfold b_X7_laysCells_23
          simp (disch := omega) only [bds, bds2, lts, lit, nI_add, pk_mul, nI_leI, nI_ltI, nI_eq, rdI_nI, rdL_nI, wrI_nI, wrL_nI, rdR_nI, if_pos, if_neg, and_true, true_and, and_false, false_and, reduceIte, stL_I, hm, pk_div, hb]
    · rintro _ _ _ ⟨rfl, rfl, f, rfl, hf⟩ ag
      refine ⟨f, ?_, fun i hi j hj => by rw [hf i hi j hj, pv_end]⟩
      unfold b_X7_laysCells_23
      simp (disch := omega) only [bds, bds2, lts, lit, nI_add, pk_mul, nI_leI, nI_ltI, nI_eq, rdI_nI, rdL_nI, wrI_nI, wrL_nI, rdR_nI, if_pos, if_neg, and_true, true_and, and_false, false_and, reduceIte, stL_I, hm]
  refine wl3_inv (Q := fun o => ∃ f, o = some (stL z 134 f) ∧ RG f (mA A (qb t))) (fun k w x y => w = nI t ∧ x = nI k ∧ ∃ f, y = stL z 134 f ∧ ∀ i, i < k → f i = iL 0) 108 ?_ ?_ (by omega) ⟨rfl, rfl, z.2 134, stL_self.symm, fun i hi => by omega⟩
  · rintro k hk _ _ _ ⟨rfl, rfl, f, rfl, hf⟩
    refine Or.inl ⟨nI t, nI (k + 1), stL z 134 (vp_updL f k (iL 0)), ⟨rfl, rfl, _, rfl, fun i hi => ?_⟩, fun ag => ?_⟩
    · rw [updL_at]
      by_cases c : i = k
      · rw [if_pos c]
      · rw [if_neg c]; exact hf i (by omega)
    · unfold b_X7_laysCells_2
      simp (disch := omega) only [bds, bds2, lts, lit, nI_add, pk_mul, nI_leI, nI_ltI, nI_eq, rdI_nI, rdL_nI, wrI_nI, wrL_nI, rdR_nI, if_pos, if_neg, and_true, true_and, and_false, false_and, reduceIte, upL_st, lL0]
  · rintro _ _ _ ⟨rfl, rfl, f, rfl, hf⟩ ag
    obtain ⟨f', a1, a2⟩ := main f hf
    refine ⟨f', ?_, a2⟩
    rw [← a1]
    unfold b_X7_laysCells_2
    simp (disch := omega) only [bds, bds2, lts, lit, nI_add, pk_mul, nI_leI, nI_ltI, nI_eq, rdI_nI, rdL_nI, wrI_nI, wrL_nI, rdR_nI, if_pos, if_neg, and_true, true_and, and_false, false_and, reduceIte]
end
