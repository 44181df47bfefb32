section
variable {z : Sto} {A : Fm}
theorem Ke_st1 {c : Nat} {g : Nat → Int32} {S : List Nat} (h : c ∈ S) : Ke S z (stI z c g) := Ke.rf.st h
theorem m_lose1 : ∀ (k n : Nat) (A : Fm) (z : Sto) (j : Nat), BF A → RowM (z.1 123) A → k ≤ fM A → k < n → j < fN A → ∃ g, wl3 b_X7_loses_19 n (nI j) (iI ((k : Int) - 1)) z = wl3 b_X7_loses_58 fu (nI j) 0 (stI z 123 g) ∧ RowM g (rmv j k A) := by
  intro k
  induction k with
  | zero =>
    intro n A z j hB hR hk hn hj
    obtain ⟨n, rfl⟩ : ∃ t, n = t + 1 := ⟨n - 1, by omega⟩
    refine ⟨z.1 123, ?_, hR⟩
    show b_X7_loses_19 _ _ _ _ = _
    unfold b_X7_loses_19
    rw [stI_self, if_pos (by decide)]
  | succ k ih =>
    intro n A z j hB hR hk hn hj
    obtain ⟨n, rfl⟩ : ∃ t, n = t + 1 := ⟨n - 1, by omega⟩
    have h9 := hB.2.1
    have h6 := hB.1
    have hb := hB.2.2.2 k (by omega)
    have hf : f_X7_from (nI (2 * k)) z = some (nI (fA A k)) := by rw [m_from hB hR (by omega), eS2]
    have ht : f_X7_to (nI (2 * k)) z = some (nI (fB A k)) := by rw [m_to hB hR (by omega), eE2]
    rw [iI_pred]
    show ∃ g, b_X7_loses_19 (wl3 b_X7_loses_19 n) (nI j) (nI k) z = _ ∧ _
    unfold b_X7_loses_19
    rw [if_neg (nI_pos (by omega)), e2, pk_mul, hf, bd_some, ht, bd_some]
    have hm1 : nI k + (-1 : Int32) = iI ((k : Int) - 1) := by rw [nI_iI, iIm1, iI_add]; rfl
    show ∃ g, _ ∧ RowM g (rmv j k (if tch A j k then ot A k else A))
    have yes : tch A j k = true → ∃ g, j_X7_loses_45 (wl3 b_X7_loses_19 n) (nI j) (nI k) z = wl3 b_X7_loses_58 fu (nI j) 0 (stI z 123 g) ∧ RowM g (rmv j k (if tch A j k then ot A k else A)) := by
      intro ht
      rw [ht, if_pos rfl]
      obtain ⟨g, g1, g2⟩ := m_drops hB hR (k := k) (by omega)
      unfold j_X7_loses_45
      rw [g1, bd_some, lt_eq, hm1]
      obtain ⟨g', p1, p2⟩ := ih n (ot A k) (stI z 123 g) j (BF_ot hB (by omega)) (by rw [stI_same]; exact g2) (by show k ≤ fM A - 1; omega) (by omega) hj
      refine ⟨g', ?_, p2⟩
      rw [p1]
      congr 1
      unfold stI
      simp only
      congr 1
      funext b
      by_cases e : b = 123
      · rw [e, va_up_self, va_up_self]
      · rw [va_up_ne _ _ e, va_up_ne _ _ e, va_up_ne _ _ e]
    by_cases c1 : fA A k = j
    · rw [if_pos (by rw [c1])]; exact yes (by simp [tch, c1])
    · rw [if_neg (fun h => c1 ((nI_eq (by omega) (by omega)).mp h))]
      by_cases c2 : fB A k = j
      · rw [if_pos (by rw [c2])]; exact yes (by simp [tch, c2])
      · rw [if_neg (fun h => c2 ((nI_eq (by omega) (by omega)).mp h)), lt_eq, hm1, show tch A j k = false by simp [tch, c1, c2], if_neg (by decide)]
        exact ih n A z j hB hR (by omega) (by omega) hj
theorem stI_stI {z : Sto} {c : Nat} {f g : Nat → Int32} : stI (stI z c f) c g = stI z c g := by
  unfold stI
  simp only
  congr 1
  funext b
  by_cases e : b = c
  · rw [e, va_up_self, va_up_self]
  · rw [va_up_ne _ _ e, va_up_ne _ _ e, va_up_ne _ _ e]
theorem stL_stL {z : Sto} {c : Nat} {f g : Nat → Int64} : stL (stL z c f) c g = stL z c g := by
  unfold stL
  simp only
  congr 1
  funext b
  by_cases e : b = c
  · rw [e, va_up_self, va_up_self]
  · rw [va_up_ne _ _ e, va_up_ne _ _ e, va_up_ne _ _ e]
theorem m_lose2 (hB : BF A) (hR : RowM (z.1 123) A) {j : Nat} (hj : j < fN A) : ∃ g, wl3 b_X7_loses_58 fu (nI j) 0 z = wl2 b_X7_loses_120 fu (nI (2 * j)) (stI z 123 (upd g 0 (nI (fN A - 1)))) ∧ RowM g (rnb A j) := by
  have h9 := hB.2.1
  have h6 := hB.1
  refine wl3_inv (Q := fun o => ∃ g, o = wl2 b_X7_loses_120 fu (nI (2 * j)) (stI z 123 (upd g 0 (nI (fN A - 1)))) ∧ RowM g (rnb A j)) (fun k x y w => x = nI j ∧ y = nI k ∧ ∃ g, w = stI z 123 g ∧ (∀ i, i < 15 ∨ 33 ≤ i → g i = z.1 123 i) ∧ (∀ h, h < k → g (15 + h) = nI (if j < fS A h then fS A h - 1 else fS A h)) ∧ ∀ h, k ≤ h → h < 2 * fM A → g (15 + h) = nI (fS A h)) (2 * fM A) ?_ ?_ (by omega) ⟨rfl, rfl, z.1 123, stI_self.symm, fun i _ => rfl, fun h hh => by omega, fun h _ hh => RowM_half hR hh⟩
  · rintro k hk _ _ _ ⟨rfl, rfl, g, rfl, g1, g2, g3⟩
    have l1 := fS_lt hB hk
    have gm : g 1 = nI (fM A) := (g1 1 (by omega)).trans hR.1.2.1
    have gk := g3 k (Nat.le_refl _) hk
    refine Or.inl ⟨_, _, _, ⟨rfl, rfl, upd g (15 + k) (nI (if j < fS A k then fS A k - 1 else fS A k)), rfl, fun i hi => ?_, fun h hh => ?_, fun h hh h2 => ?_⟩, fun ag => ?_⟩
    · rw [upd_at, if_neg (by omega)]; exact g1 i hi
    · rw [upd_at]
      by_cases c : h = k
      · rw [if_pos (by omega), c]
      · rw [if_neg (by omega)]; exact g2 h (by omega)
    · rw [upd_at, if_neg (by omega)]; exact g3 h (by omega) h2
    · unfold b_X7_loses_58
      simp (disch := omega) only [bds, bds2, lts, lit, nI_add, pk_mul, nI_leI, nI_ltI, nI_eq, rdI_nI, rdL_nI, wrI_nI, wrL_nI, rdR_nI, if_pos, if_neg, stI_same, upI_st, gm, gk]
      by_cases c : j < fS A k
      · simp (disch := omega) only [bds, bds2, lts, lit, nI_add, pk_mul, nI_leI, nI_ltI, nI_eq, rdI_nI, rdL_nI, wrI_nI, wrL_nI, rdR_nI, if_pos, if_neg, pk_sub]
      · simp (disch := omega) only [bds, bds2, lts, lit, nI_add, pk_mul, nI_leI, nI_ltI, nI_eq, rdI_nI, rdL_nI, wrI_nI, wrL_nI, rdR_nI, if_pos, if_neg, pk_sub, Nat.sub_zero]
  · rintro _ _ _ ⟨rfl, rfl, g, rfl, g1, g2, g3⟩ ag
    have gm : g 1 = nI (fM A) := (g1 1 (by omega)).trans hR.1.2.1
    have gn : g 0 = nI (fN A) := (g1 0 (by omega)).trans hR.1.1
    refine ⟨g, ?_, ⟨?_, ?_, ?_⟩, fun i hi => ?_, fun i hi => ?_, fun k hk => ?_, fun k hk => ?_, fun i hi => ?_⟩
    · unfold b_X7_loses_58
      simp (disch := omega) only [bds, bds2, lts, lit, nI_add, pk_mul, nI_leI, nI_ltI, nI_eq, rdI_nI, rdL_nI, wrI_nI, wrL_nI, rdR_nI, if_pos, if_neg, stI_same, upI_st, gm, gn, pk_sub]
    · exact gn
    · exact gm
    · exact (g1 2 (by omega)).trans hR.1.2.2
    · have hi : i < fN A := hi
      exact (g1 _ (by omega)).trans (hR.2.1 i hi)
    · have hi : i < fN A := hi
      exact (g1 _ (by omega)).trans (hR.2.2.1 i hi)
    · have hk : k < fM A := hk
      have := g2 (2 * k) (by omega)
      rw [eS2] at this
      exact this
    · have hk : k < fM A := hk
      have := g2 (2 * k + 1) (by omega)
      rw [eS21] at this
      exact this
    · exact (g1 _ (by omega)).trans (hR.2.2.2.2.2 i hi)
theorem m_lose3 (hB : BF A) {w : Nat → Int32} (hR : RowM w A) {j : Nat} (hj : j < fN A) : ∃ g, wl2 b_X7_loses_120 fu (nI (2 * j)) (stI z 123 (upd w 0 (nI (fN A - 1)))) = some (nI (fM A), stI z 123 g) ∧ RowM g (dj A j) := by
  have h9 := hB.2.1
  have h6 := hB.1
  refine wl2_inv (Q := fun o => ∃ g, o = some (nI (fM A), stI z 123 g) ∧ RowM g (dj A j)) (fun k y u => y = nI (2 * j + k) ∧ ∃ g, u = stI z 123 g ∧ g 0 = nI (fN A - 1) ∧ (∀ i, 0 < i → (i < 3 ∨ 15 ≤ i) → g i = w i) ∧ (∀ i, i < 2 * j + k → g (3 + i) = if i < 2 * j then w (3 + i) else w (3 + i + 2)) ∧ ∀ i, 2 * j + k ≤ i → i < 12 → g (3 + i) = w (3 + i)) (2 * (fN A - 1) - 2 * j) ?_ ?_ (by omega) ⟨rfl, _, rfl, by rw [upd_at, if_pos rfl], fun i hi _ => by rw [upd_at, if_neg (by omega)], fun i hi => by rw [upd_at, if_neg (by omega), if_pos (by omega)], fun i _ _ => by rw [upd_at, if_neg (by omega)]⟩
  · rintro k hk _ _ ⟨rfl, g, rfl, g0, g1, g2, g3⟩
    refine Or.inl ⟨_, _, ⟨rfl, upd g (3 + (2 * j + k)) (w (3 + (2 * j + k) + 2)), rfl, ?_, fun i hi hi2 => ?_, fun i hi => ?_, fun i hi h2 => ?_⟩, fun ag => ?_⟩
    · rw [upd_at, if_neg (by omega)]; exact g0
    · rw [upd_at, if_neg (by omega)]; exact g1 i hi hi2
    · rw [upd_at]
      by_cases c : i = 2 * j + k
      · rw [if_pos (by omega), c, if_neg (by omega)]
      · rw [if_neg (by omega)]; exact g2 i (by omega)
    · rw [upd_at, if_neg (by omega)]; exact g3 i (by omega) h2
    · unfold b_X7_loses_120
      have := g3 (2 * j + k + 2) (by omega) (by omega)
      rw [show 3 + (2 * j + k + 2) = 3 + (2 * j + k) + 2 by omega] at this
      simp (disch := omega) only [bds, bds2, lts, lit, nI_add, pk_mul, nI_leI, nI_ltI, nI_eq, rdI_nI, rdL_nI, wrI_nI, wrL_nI, rdR_nI, if_pos, if_neg, stI_same, upI_st, g0, this]
      rw [show 2 * j + k + 1 = 2 * j + (k + 1) by omega]
  · rintro _ _ ⟨rfl, g, rfl, g0, g1, g2, g3⟩ ag
    rw [show 2 * j + (2 * (fN A - 1) - 2 * j) = 2 * (fN A - 1) by omega] at *
    have gm : g 1 = nI (fM A) := (g1 1 (by omega) (by omega)).trans hR.1.2.1
    obtain ⟨q, hq⟩ : ∃ q, q = upd (upd g (3 + 2 * (fN A - 1)) (nI 0)) (3 + 2 * (fN A - 1) + 1) (nI 0) := ⟨_, rfl⟩
    have qv : ∀ i, i ≠ 3 + 2 * (fN A - 1) → i ≠ 3 + 2 * (fN A - 1) + 1 → q i = g i := fun i h1 h2 => by rw [hq, upd_at, if_neg h2, upd_at, if_neg h1]
    refine ⟨q, ?_, ⟨?_, ?_, ?_⟩, fun i hi => ?_, fun i hi => ?_, fun k hk => ?_, fun k hk => ?_, fun i hi => ?_⟩
    · unfold b_X7_loses_120
      simp (disch := omega) only [bds, bds2, lts, lit, nI_add, pk_mul, nI_leI, nI_ltI, nI_eq, rdI_nI, rdL_nI, wrI_nI, wrL_nI, rdR_nI, if_pos, if_neg, stI_same, upI_st, g0, gm, upd_at]
      rw [hq]
    · rw [qv 0 (by omega) (by omega)]; exact g0
    · rw [qv 1 (by omega) (by omega)]; exact gm
    · rw [qv 2 (by omega) (by omega), g1 2 (by omega) (by omega)]; exact hR.1.2.2
    · have hi : i < fN A - 1 := hi
      rw [qv _ (by omega) (by omega), g2 (2 * i) (by omega)]
      show _ = iI (fX A (if i < j then i else i + 1))
      by_cases c : i < j
      · rw [if_pos (by omega), if_pos c]; exact hR.2.1 i (by omega)
      · rw [if_neg (by omega), if_neg c]; exact hR.2.1 (i + 1) (by omega)
    · have hi : i < fN A - 1 := hi
      rw [qv _ (by omega) (by omega), show 3 + 2 * i + 1 = 3 + (2 * i + 1) by omega, g2 (2 * i + 1) (by omega)]
      show _ = iI (fY A (if i < j then i else i + 1))
      by_cases c : i < j
      · rw [if_pos (by omega), if_pos c]; exact hR.2.2.1 i (by omega)
      · rw [if_neg (by omega), if_neg c, show 3 + (2 * i + 1) + 2 = 3 + 2 * (i + 1) + 1 by omega]; exact hR.2.2.1 (i + 1) (by omega)
    · have hk : k < fM A := hk
      rw [qv _ (by omega) (by omega), g1 _ (by omega) (by omega)]; exact hR.2.2.2.1 k hk
    · have hk : k < fM A := hk
      rw [qv _ (by omega) (by omega), g1 _ (by omega) (by omega)]; exact hR.2.2.2.2.1 k hk
    · rw [qv _ (by omega) (by omega), g1 _ (by omega) (by omega)]; exact hR.2.2.2.2.2 i hi
theorem m_loses (hB : BF A) (hR : RowM (z.1 123) A) {j : Nat} (hj : j < fN A) : ∃ g, f_X7_loses (nI j) z = some (nI (fM (lsF A j)), stI z 123 g) ∧ RowM g (lsF A j) := by
  have h9 := hB.2.1
  obtain ⟨g1, p1, p2⟩ := m_lose1 (fM A) fu A z j hB hR (Nat.le_refl _) (by show fM A < 4096; omega) hj
  have hB1 := rmv_B j (fM A) A hB (Nat.le_refl _)
  have hN1 := rmv_N j (fM A) A
  have hf1 := rmv_free j (fM A) A (Nat.le_refl _) (fun l h1 h2 => by omega)
  obtain ⟨g2, p3, p4⟩ := m_lose2 (z := stI z 123 g1) hB1 (by rw [stI_same]; exact p2) (j := j) (by omega)
  have hB2 := BF_rnb hB1 (j := j) (by omega) hf1
  obtain ⟨g3, p5, p6⟩ := m_lose3 (z := stI z 123 g1) hB2 p4 (j := j) (by show j < fN (rmv j (fM A) A); omega)
  refine ⟨g3, ?_, p6⟩
  unfold f_X7_loses
  have e : nI (fM A) - (1 : Int32) = iI ((fM A : Int) - 1) := by rw [nI_iI, show (1 : Int32) = iI 1 from rfl, iI_sub]
  rw [m_isJoint hB hR hj, bd_some, if_neg (by decide), m_rd1, bd_some, hR.1.2.1, lt_eq, e, p1, p3]
  refine p5.trans ?_
  rw [stI_stI]
  rfl
theorem m_loses_bad (hB : BF A) (hR : RowM (z.1 123) A) {x : Int32} (hx : x < 0 ∨ nI (fN A) ≤ x) : f_X7_loses x z = some (-1, z) := by
  unfold f_X7_loses
  rw [m_noJoint hB hR hx]; rfl
end
