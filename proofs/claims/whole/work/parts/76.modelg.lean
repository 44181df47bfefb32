/-- the known steps, one more -/
def psh (n : Nat) (Hs : Nat → Fm) (A : Fm) : Nat → Fm := fun i => if n < 6 then (if i = n then A else Hs i) else (if i = 5 then A else Hs (i + 1))
def IM (z : Sto) (A : Fm) (n : Nat) (Hs : Nat → Fm) : Prop := RowM (z.1 123) A ∧ (n ≤ 6 ∧ z.1 122 2 = nI n) ∧ ∀ i, i < n → RowM (fun k => z.1 124 (42 * i + k)) (Hs i)
section
variable {z : Sto} {A : Fm}
theorem m_notes46 {n : Nat} (hn : n < 6) (hz : z.1 122 2 = nI n) : ∃ g, wl2 b_X7_notes_46 fu 0 z = some (upI (stI z 124 g) 122 2 (nI (n + 1))) ∧ (∀ k, k < 42 → g (42 * n + k) = z.1 123 k) ∧ ∀ k, k < 42 * n → g k = z.1 124 k := by
  refine wl2_inv (Q := fun o => ∃ g, o = some (upI (stI z 124 g) 122 2 (nI (n + 1))) ∧ (∀ k, k < 42 → g (42 * n + k) = z.1 123 k) ∧ ∀ k, k < 42 * n → g k = z.1 124 k) (fun k x y => x = nI k ∧ ∃ g, y = stI z 124 g ∧ (∀ i, i < k → g (42 * n + i) = z.1 123 i) ∧ ∀ i, i < 42 * n → g i = z.1 124 i) 42 ?_ ?_ (by omega) ⟨rfl, z.1 124, stI_self.symm, fun i hi => by omega, fun i _ => rfl⟩
  · rintro k hk _ _ ⟨rfl, g, rfl, hg, hg2⟩
    refine Or.inl ⟨nI (k + 1), stI z 124 (upd g (42 * n + k) (z.1 123 k)), ⟨rfl, _, rfl, fun i hi => ?_, fun i hi => ?_⟩, fun ag => ?_⟩
    · rw [upd_at]
      by_cases c : i = k
      · rw [if_pos (by omega), c]
      · rw [if_neg (by omega)]; exact hg i (by omega)
    · rw [upd_at, if_neg (by omega)]; exact hg2 i hi
    · unfold b_X7_notes_46
      simp (disch := omega) only [bds, bds2, lts, lit, nI_add, pk_mul, nI_leI, nI_ltI, nI_eq, rdI_nI, rdL_nI, wrI_nI, wrL_nI, rdR_nI, if_pos, if_neg, reduceIte, stI_at, upI_st, hz]
  · rintro _ _ ⟨rfl, g, rfl, hg, hg2⟩ ag
    refine ⟨g, ?_, hg, hg2⟩
    unfold b_X7_notes_46
    simp (disch := omega) only [bds, bds2, lts, lit, nI_add, pk_mul, nI_leI, nI_ltI, nI_eq, rdI_nI, rdL_nI, wrI_nI, wrL_nI, rdR_nI, if_pos, if_neg, reduceIte, stI_at, hz]
theorem m_notes11 : ∃ g, wl2 b_X7_notes_11 fu 0 z = wl2 b_X7_notes_46 fu 0 (upI (stI z 124 g) 122 2 (nI 5)) ∧ ∀ k, k < 210 → g k = z.1 124 (k + 42) := by
  refine wl2_inv (Q := fun o => ∃ g, o = wl2 b_X7_notes_46 fu 0 (upI (stI z 124 g) 122 2 (nI 5)) ∧ ∀ k, k < 210 → g k = z.1 124 (k + 42)) (fun k x y => x = nI k ∧ ∃ g, y = stI z 124 g ∧ (∀ i, i < k → g i = z.1 124 (i + 42)) ∧ ∀ i, k ≤ i → g i = z.1 124 i) 210 ?_ ?_ (by omega) ⟨rfl, z.1 124, stI_self.symm, fun i hi => by omega, fun i _ => rfl⟩
  · rintro k hk _ _ ⟨rfl, g, rfl, hg, hg2⟩
    refine Or.inl ⟨nI (k + 1), stI z 124 (upd g k (z.1 124 (k + 42))), ⟨rfl, _, rfl, fun i hi => ?_, fun i hi => ?_⟩, fun ag => ?_⟩
    · rw [upd_at]
      by_cases c : i = k
      · rw [if_pos (by omega), c]
      · rw [if_neg (by omega)]; exact hg i (by omega)
    · rw [upd_at, if_neg (by omega)]; exact hg2 i (by omega)
    · unfold b_X7_notes_11
      have := hg2 (k + 42) (by omega)
      simp (disch := omega) only [bds, bds2, lts, lit, nI_add, pk_mul, nI_leI, nI_ltI, nI_eq, rdI_nI, rdL_nI, wrI_nI, wrL_nI, rdR_nI, if_pos, if_neg, reduceIte, stI_at, upI_st, this]
  · rintro _ _ ⟨rfl, g, rfl, hg, hg2⟩ ag
    refine ⟨g, ?_, hg⟩
    unfold b_X7_notes_11
    simp (disch := omega) only [bds, bds2, lts, lit, nI_add, pk_mul, nI_leI, nI_ltI, nI_eq, rdI_nI, rdL_nI, wrI_nI, wrL_nI, rdR_nI, if_pos, if_neg, reduceIte]
/-- a step is noted -/
theorem m_notes {n : Nat} {Hs : Nat → Fm} (hB : BF A) (hBH : ∀ i, i < n → BF (Hs i)) (hI : IM z A n Hs) : ∃ z', f_X7_notes z = some z' ∧ Ke [122, 124] z z' ∧ z'.2 = z.2 ∧ (∀ j, j ≠ 2 → z'.1 122 j = z.1 122 j) ∧ IM z' A (min (n + 1) 6) (psh n Hs A) := by
  obtain ⟨hR, ⟨hn, hz⟩, hH⟩ := hI
  unfold f_X7_notes
  by_cases c : n = 6
  · subst c
    rw [hz, if_pos (show nI 6 = 6 from rfl)]
    obtain ⟨g, g1, g2⟩ := m_notes11 (z := z)
    obtain ⟨g', p1, p2, p3⟩ := m_notes46 (z := upI (stI z 124 g) 122 2 (nI 5)) (n := 5) (by omega) (by rw [upI_at, if_pos ⟨rfl, rfl⟩])
    rw [g1, p1]
    refine ⟨_, rfl, ?_, rfl, ?_, ?_, ⟨Nat.le_refl _, ?_⟩, ?_⟩
    · exact (((Ke.rf.st (by simp)).up (by simp)).st (by simp)).up (by simp)
    · intro j hj
      rw [upI_at, if_neg (by omega), stI_at, if_neg (by omega), upI_at, if_neg (by omega), stI_at, if_neg (by omega)]
    · rw [upI_ne (by decide), stI_ne (by decide), upI_ne (by decide), stI_ne (by decide)]; exact hR
    · rw [upI_at, if_pos ⟨rfl, rfl⟩]; rfl
    · intro i hi
      have hi : i < 6 := hi
      unfold psh
      rw [if_neg (by omega)]
      have v : ∀ k, (upI (stI (upI (stI z 124 g) 122 2 (nI 5)) 124 g') 122 2 (nI (5 + 1))).1 124 k = g' k := fun k => by rw [upI_at, if_neg (by omega), stI_at, if_pos rfl]
      have v2 : ∀ k, k < 42 → (upI (stI z 124 g) 122 2 (nI 5)).1 123 k = z.1 123 k := fun k _ => by rw [upI_at, if_neg (by omega), stI_at, if_neg (by omega)]
      have v3 : ∀ k, (upI (stI z 124 g) 122 2 (nI 5)).1 124 k = g k := fun k => by rw [upI_at, if_neg (by omega), stI_at, if_pos rfl]
      by_cases c : i = 5
      · subst c
        rw [if_pos rfl]
        refine RowM_congr hB (fun k hk => ?_) hR
        rw [v, p2 k hk, v2 k hk]
      · rw [if_neg c]
        refine RowM_congr (hBH (i + 1) (by omega)) (fun k hk => ?_) (hH (i + 1) (by omega))
        rw [v, p3 _ (by omega), v3, g2 _ (by omega), show 42 * i + k + 42 = 42 * (i + 1) + k by omega]
  · rw [hz, if_neg (show ¬ nI n = (6 : Int32) from fun h => c ((nI_eq (b := 6) (by omega) (by omega)).mp h))]
    obtain ⟨g', p1, p2, p3⟩ := m_notes46 (z := z) (n := n) (by omega) hz
    rw [p1]
    refine ⟨_, rfl, ?_, rfl, ?_, ?_, ⟨by omega, ?_⟩, ?_⟩
    · exact (Ke.rf.st (by simp)).up (by simp)
    · intro j hj
      rw [upI_at, if_neg (by omega), stI_at, if_neg (by omega)]
    · rw [upI_ne (by decide), stI_ne (by decide)]; exact hR
    · rw [upI_at, if_pos ⟨rfl, rfl⟩, Nat.min_eq_left (by omega)]
    · intro i hi
      have hi : i < n + 1 := by omega
      unfold psh
      rw [if_pos (by omega)]
      have v : ∀ k, (upI (stI z 124 g') 122 2 (nI (n + 1))).1 124 k = g' k := fun k => by rw [upI_at, if_neg (by omega), stI_at, if_pos rfl]
      by_cases c : i = n
      · subst c
        rw [if_pos rfl]
        refine RowM_congr hB (fun k hk => ?_) hR
        rw [v, p2 k hk]
      · rw [if_neg c]
        refine RowM_congr (hBH i (by omega)) (fun k hk => ?_) (hH i (by omega))
        rw [v, p3 _ (by omega)]
theorem stI_comm {z : Sto} {b c : Nat} {f g : Nat → Int32} (h : b ≠ c) : stI (stI z b f) c g = stI (stI z c g) b f := by
  unfold stI
  simp only
  congr 1
  funext a
  by_cases h1 : a = c
  · subst h1; rw [va_up_self, va_up_ne _ _ (Ne.symm h), va_up_self]
  · rw [va_up_ne _ _ h1]
    by_cases h2 : a = b
    · subst h2; rw [va_up_self, va_up_self]
    · rw [va_up_ne _ _ h2, va_up_ne _ _ h2, va_up_ne _ _ h1]
theorem m_acted49 (t : Int32) : ∃ g1 g2, wl3 b_X7_acted_49 fu t 0 z = bd (f_X7_notes (stI (stI z 132 g1) 123 g2)) (fun z10 => bd (f_X7_takesBack z10) fun z12 => some (t, z12)) ∧ (∀ k, k < 42 → g1 k = z.1 123 k) ∧ ∀ k, k < 42 → g2 k = z.1 133 k := by
  refine wl3_inv (Q := fun o => ∃ g1 g2, o = bd (f_X7_notes (stI (stI z 132 g1) 123 g2)) (fun z10 => bd (f_X7_takesBack z10) fun z12 => some (t, z12)) ∧ (∀ k, k < 42 → g1 k = z.1 123 k) ∧ ∀ k, k < 42 → g2 k = z.1 133 k) (fun k u x y => u = t ∧ x = nI k ∧ ∃ g1 g2, y = stI (stI z 132 g1) 123 g2 ∧ (∀ i, i < k → g1 i = z.1 123 i) ∧ (∀ i, i < k → g2 i = z.1 133 i) ∧ ∀ i, k ≤ i → g2 i = z.1 123 i) 42 ?_ ?_ (by omega) ⟨rfl, rfl, z.1 132, z.1 123, by rw [stI_self, stI_self], fun i hi => by omega, fun i hi => by omega, fun i _ => rfl⟩
  · rintro k hk u _ _ ⟨rfl, rfl, g1, g2, rfl, h1, h2, h3⟩
    refine Or.inl ⟨u, nI (k + 1), stI (stI z 132 (upd g1 k (z.1 123 k))) 123 (upd g2 k (z.1 133 k)), ⟨rfl, rfl, _, _, rfl, fun i hi => ?_, fun i hi => ?_, fun i hi => ?_⟩, fun ag => ?_⟩
    · rw [upd_at]
      by_cases c : i = k
      · rw [if_pos (by omega), c]
      · rw [if_neg (by omega)]; exact h1 i (by omega)
    · rw [upd_at]
      by_cases c : i = k
      · rw [if_pos (by omega), c]
      · rw [if_neg (by omega)]; exact h2 i (by omega)
    · rw [upd_at, if_neg (by omega)]; exact h3 i (by omega)
    · unfold b_X7_acted_49
      have x1 : (stI (stI z 132 g1) 123 g2).1 123 k = z.1 123 k := by rw [stI_same]; exact h3 k (Nat.le_refl _)
      have x2 : ∀ x, upI (stI (stI z 132 g1) 123 g2) 132 k x = stI (stI z 132 (upd g1 k x)) 123 g2 := fun x => by
        rw [stI_comm (by decide), upI_st, stI_comm (by decide)]
      simp (disch := omega) only [bds, bds2, lts, lit, nI_add, pk_mul, nI_leI, nI_ltI, nI_eq, rdI_nI, rdL_nI, wrI_nI, wrL_nI, rdR_nI, if_pos, if_neg, reduceIte, x1, x2, stI_at, upI_st]
  · rintro _ _ _ ⟨rfl, rfl, g1, g2, rfl, h1, h2, h3⟩ ag
    refine ⟨g1, g2, ?_, h1, h2⟩
    unfold b_X7_acted_49
    simp (disch := omega) only [bds, bds2, lts, lit, nI_add, pk_mul, nI_leI, nI_ltI, nI_eq, rdI_nI, rdL_nI, wrI_nI, wrL_nI, rdR_nI, if_pos, if_neg, reduceIte]
end
