section
variable {A : Fm} {q : Nat → Bool} {z : Sto} {f : Nat → Int64} {G : Nat → Nat → Int}
theorem m_swaps (hg : RG f G) {r p : Nat} (hr : r < 12) (hp : p < 12) : ∃ f', f_X7_swaps (nI p) (nI r) (stL z 134 f) = some (stL z 134 f') ∧ RG f' (swp G r p) := by
  refine wl4_inv (Q := fun o => ∃ f', o = some (stL z 134 f') ∧ RG f' (swp G r p)) (fun k x y w u => x = nI p ∧ y = nI r ∧ w = nI k ∧ ∃ f', u = stL z 134 f' ∧ (∀ i, i < 12 → ∀ j, j < 9 → f' (9 * i + j) = iL (if j < k then swp G r p i j else G i j))) 9 ?_ ?_ (by omega) ⟨rfl, rfl, rfl, f, rfl, fun i hi j hj => by rw [if_neg (by omega)]; exact hg i hi j hj⟩
  · rintro k hk _ _ _ _ ⟨rfl, rfl, rfl, f', rfl, h1⟩
    refine Or.inl ⟨nI p, nI r, nI (k + 1), stL z 134 (vp_updL (vp_updL f' (9 * p + k) (f' (9 * r + k))) (9 * r + k) (f' (9 * p + k))), ⟨rfl, rfl, rfl, _, rfl, fun i hi j hj => ?_⟩, fun ag => ?_⟩
    · have a1 := h1 r hr k (by omega)
      have a2 := h1 p hp k (by omega)
      have a3 := h1 i hi j hj
      rw [if_neg (by omega)] at a1
      rw [if_neg (by omega)] at a2
      rw [updL_at, updL_at, a1, a2]
      by_cases c : j = k
      · rw [if_pos (show j < k + 1 by omega)]
        unfold swp
        by_cases c1 : i = p
        · by_cases c2 : i = r
          · rw [if_pos (by omega), if_pos c1, c, ← c1, ← c2]
          · rw [if_neg (by omega), if_pos (by omega), if_pos c1, c]
        · rw [if_neg c1]
          by_cases c2 : i = r
          · rw [if_pos (by omega), if_pos c2, c]
          · rw [if_neg (by omega), if_neg (by omega), if_neg c2, a3, if_neg (by omega)]
      · rw [if_neg (by omega), if_neg (by omega), a3]
        by_cases c1 : j < k
        · rw [if_pos c1, if_pos (by omega)]
        · rw [if_neg c1, if_neg (by omega)]
    · unfold b_X7_swaps_2
      simp (disch := omega) only [bds, bds2, lts, lit, nI_add, pk_mul, nI_leI, nI_ltI, nI_eq, rdI_nI, rdL_nI, wrI_nI, wrL_nI, rdR_nI, if_pos, if_neg, and_true, true_and, and_false, false_and, reduceIte, stL_at, upL_st]
  · rintro _ _ _ _ ⟨rfl, rfl, rfl, f', rfl, h1⟩ ag
    refine ⟨f', ?_, fun i hi j hj => ?_⟩
    · unfold b_X7_swaps_2
      simp (disch := omega) only [bds, bds2, lts, lit, nI_add, pk_mul, nI_leI, nI_ltI, nI_eq, rdI_nI, rdL_nI, wrI_nI, wrL_nI, rdR_nI, if_pos, if_neg, and_true, true_and, and_false, false_and, reduceIte]
    · rw [h1 i hi j hj, if_pos hj]
theorem m_clear1 {d : Int} (hs : sml G) (hd : -1000000000 ≤ d ∧ d ≤ 1000000000) (h0 : d ≠ 0) (hb : z.2 122 16 = iL d) {p k i : Nat} (hp : p < 12) (hk : k < 9) (hi : i < 12) {ag21 : Int32 → Int32 → Sto → Option (Int32 × Sto)} {ag88 : Int32 → Int32 → Int64 → Int32 → Sto → Option (Int32 × Sto)} (hg : (∀ r, r < 12 → ∀ j, j < 9 → f (9 * r + j) = iL (if r < i then elm G d p k r j else G r j))) : ∃ f', wl7 (b_X7_solves_112 ag21 ag88) fu (nI p) (nI k) (iL (G p k)) (nI i) (iL (G i k)) (nI 0) (stL z 134 f) = ag88 (nI p) (nI k) (iL (G p k)) (nI (i + 1)) (stL z 134 f') ∧ (∀ r, r < 12 → ∀ j, j < 9 → f' (9 * r + j) = iL (if r < i + 1 then elm G d p k r j else G r j)) := by
  have hbv : ∀ f, (stL z 134 f).2 122 16 = iL d := fun f => by rw [stL_at, if_neg (by omega)]; exact hb
  by_cases cp : i = p
  · refine wl7_inv (Q := fun o => ∃ f', o = ag88 (nI p) (nI k) (iL (G p k)) (nI (i + 1)) (stL z 134 f') ∧ (∀ r, r < 12 → ∀ j, j < 9 → f' (9 * r + j) = iL (if r < i + 1 then elm G d p k r j else G r j))) (fun t a b c e g h u => a = nI p ∧ b = nI k ∧ c = iL (G p k) ∧ e = nI i ∧ g = iL (G i k) ∧ h = nI 0 ∧ u = stL z 134 f) 0 (fun t ht => by omega) ?_ (by omega) ⟨rfl, rfl, rfl, rfl, rfl, rfl, rfl⟩
    rintro _ _ _ _ _ _ _ ⟨rfl, rfl, rfl, rfl, rfl, rfl, rfl⟩ ag
    refine ⟨f, ?_, fun r hr j hj => ?_⟩
    · unfold b_X7_solves_112
      simp (disch := omega) only [bds, bds2, lts, lit, nI_add, pk_mul, nI_leI, nI_ltI, nI_eq, rdI_nI, rdL_nI, wrI_nI, wrL_nI, rdR_nI, if_pos, if_neg, and_true, true_and, and_false, false_and, reduceIte, cp]
    · rw [hg r hr j hj]
      by_cases c : r < i
      · rw [if_pos c, if_pos (by omega)]
      · rw [if_neg c]
        by_cases c2 : r = i
        · rw [if_pos (by omega)]
          unfold elm
          rw [if_pos (by omega)]
        · rw [if_neg (by omega)]
  · refine wl7_inv (Q := fun o => ∃ f', o = ag88 (nI p) (nI k) (iL (G p k)) (nI (i + 1)) (stL z 134 f') ∧ (∀ r, r < 12 → ∀ j, j < 9 → f' (9 * r + j) = iL (if r < i + 1 then elm G d p k r j else G r j))) (fun t a b c e g h u => a = nI p ∧ b = nI k ∧ c = iL (G p k) ∧ e = nI i ∧ g = iL (G i k) ∧ h = nI t ∧ ∃ f', u = stL z 134 f' ∧ (∀ r, r < 12 → ∀ j, j < 9 → f' (9 * r + j) = iL (if r < i ∨ (r = i ∧ j < t) then elm G d p k r j else G r j))) 9 ?_ ?_ (by omega) ⟨rfl, rfl, rfl, rfl, rfl, rfl, f, rfl, fun r hr j hj => ?_⟩
    · rintro t ht _ _ _ _ _ _ _ ⟨rfl, rfl, rfl, rfl, rfl, rfl, f', rfl, h1⟩
      have a1 := h1 i hi t (by omega)
      have a2 := h1 p hp t (by omega)
      rw [if_neg (by omega)] at a1
      have a2 : f' (9 * p + t) = iL (G p t) := by
        rw [a2]
        split
        · unfold elm; rw [if_pos rfl]
        · rfl
      have dv := dv_el (k := k) (j := t) hs hd h0 hp hk hi (by omega) cp
      refine Or.inl ⟨_, _, _, _, _, _, stL z 134 (vp_updL f' (9 * i + t) (iL (elm G d p k i t))), ⟨rfl, rfl, rfl, rfl, rfl, rfl, _, rfl, fun r hr j hj => ?_⟩, fun ag => ?_⟩
      · rw [updL_at]
        by_cases c : r = i ∧ j = t
        · rw [if_pos (by omega), if_pos (by omega), c.1, c.2]
        · rw [if_neg (by omega), h1 r hr j hj]
          by_cases c2 : r < i ∨ (r = i ∧ j < t)
          · rw [if_pos c2, if_pos (by omega)]
          · rw [if_neg c2, if_neg (by omega)]
      · unfold b_X7_solves_112
        simp (disch := omega) only [bds, bds2, lts, lit, nI_add, pk_mul, nI_leI, nI_ltI, nI_eq, rdI_nI, rdL_nI, wrI_nI, wrL_nI, rdR_nI, if_pos, if_neg, and_true, true_and, and_false, false_and, reduceIte, hbv, stL_at, a1, a2, hb, dv, upL_st]
    · rintro _ _ _ _ _ _ _ ⟨rfl, rfl, rfl, rfl, rfl, rfl, f', rfl, h1⟩ ag
      refine ⟨f', ?_, fun r hr j hj => ?_⟩
      · unfold b_X7_solves_112
        simp (disch := omega) only [bds, bds2, lts, lit, nI_add, pk_mul, nI_leI, nI_ltI, nI_eq, rdI_nI, rdL_nI, wrI_nI, wrL_nI, rdR_nI, if_pos, if_neg, and_true, true_and, and_false, false_and, reduceIte]
      · rw [h1 r hr j hj]
        by_cases c : r < i + 1
        · rw [if_pos c, if_pos (by omega)]
        · rw [if_neg c, if_neg (by omega)]
    · rw [hg r hr j hj]
      by_cases c : r < i
      · rw [if_pos c, if_pos (Or.inl c)]
      · rw [if_neg c, if_neg (by omega)]
theorem m_clear {d : Int} (hg : RG f G) (hs : sml G) (hd : -1000000000 ≤ d ∧ d ≤ 1000000000) (h0 : d ≠ 0) (hb : z.2 122 16 = iL d) {p k : Nat} (hp : p < 12) (hk : k < 9) {ag21 : Int32 → Int32 → Sto → Option (Int32 × Sto)} : ∃ f', wl5 (b_X7_solves_88 ag21) fu (nI p) (nI k) (iL (G p k)) (nI 0) (stL z 134 f) = ag21 (nI (p + 1)) (nI k + (-1)) (upI (upL (stL z 134 f') 122 16 (iL (G p k))) 135 p (nI k)) ∧ RG f' (elm G d p k) := by
  refine wl5_ind (Q := fun o => ∃ f', o = ag21 (nI (p + 1)) (nI k + (-1)) (upI (upL (stL z 134 f') 122 16 (iL (G p k))) 135 p (nI k)) ∧ RG f' (elm G d p k)) (fun i a b c e u => a = nI p ∧ b = nI k ∧ c = iL (G p k) ∧ e = nI i ∧ ∃ f', u = stL z 134 f' ∧ (∀ r, r < 12 → ∀ j, j < 9 → f' (9 * r + j) = iL (if r < i then elm G d p k r j else G r j))) 12 ?_ ?_ (by omega) ⟨rfl, rfl, rfl, rfl, f, rfl, fun r hr j hj => by rw [if_neg (by omega)]; exact hg r hr j hj⟩
  · rintro i hi _ _ _ _ _ ⟨rfl, rfl, rfl, rfl, f', rfl, h1⟩ ag
    have a1 := h1 i (by omega) k hk
    rw [if_neg (by omega)] at a1
    obtain ⟨f'', b1, b2⟩ := m_clear1 (ag21 := ag21) (ag88 := ag) hs hd h0 hb (p := p) hp hk (i := i) (by omega) h1
    refine Or.inl ⟨_, _, _, _, _, ⟨rfl, rfl, rfl, rfl, f'', rfl, b2⟩, ?_⟩
    rw [← b1]
    unfold b_X7_solves_88
    simp (disch := omega) only [bds, bds2, lts, lit, nI_add, pk_mul, nI_leI, nI_ltI, nI_eq, rdI_nI, rdL_nI, wrI_nI, wrL_nI, rdR_nI, if_pos, if_neg, and_true, true_and, and_false, false_and, reduceIte, stL_at, a1]
  · rintro _ _ _ _ _ ⟨rfl, rfl, rfl, rfl, f', rfl, h1⟩ ag
    refine ⟨f', ?_, fun r hr j hj => ?_⟩
    · unfold b_X7_solves_88
      simp (disch := omega) only [bds, bds2, lts, lit, nI_add, pk_mul, nI_leI, nI_ltI, nI_eq, rdI_nI, rdL_nI, wrI_nI, wrL_nI, rdR_nI, if_pos, if_neg, and_true, true_and, and_false, false_and, reduceIte]
    · rw [h1 r hr j hj, if_pos hr]
theorem m_solvesL (hB : BF A) {m : Nat} (hm : m ≤ 9) : ∀ (k fl : Nat) (s : BS) (y : Sto), BI (mA A q) m k s → k ≤ m → k < fl → y.2 122 16 = iL s.2.1 → RG (y.2 134) s.1 → (∀ r, r < s.2.2.1 → y.1 135 r = nI (s.2.2.2 r)) → ∃ y', wl3 b_X7_solves_21 fl (nI s.2.2.1) (iI ((k : Int) - 1)) y = some (nI (brun k s).2.2.1, y') ∧ Ke [122, 134, 135] y y' ∧ y'.1 122 = y.1 122 ∧ y'.2 122 16 = iL (brun k s).2.1 ∧ RG (y'.2 134) (brun k s).1 ∧ ∀ r, r < (brun k s).2.2.1 → y'.1 135 r = nI ((brun k s).2.2.2 r) := by
  intro k
  induction k with
  | zero =>
    intro fl s y hI hk hfl y3 y4 y5
    obtain ⟨fl, rfl⟩ : ∃ t, fl = t + 1 := ⟨fl - 1, by omega⟩
    refine ⟨y, ?_, Ke.rf, rfl, y3, y4, y5⟩
    show b_X7_solves_21 _ _ _ _ = _
    unfold b_X7_solves_21
    rw [if_pos (by decide)]
    rfl
  | succ k ih =>
    intro fl s y hI hk hfl y3 y4 y5
    obtain ⟨fl, rfl⟩ : ∃ t, fl = t + 1 := ⟨fl - 1, by omega⟩
    obtain ⟨hI', hx⟩ := BI_st hm hI
    obtain ⟨hsm, hd⟩ := BI_sml hB hm hI
    have hpk : s.2.2.1 + (k + 1) ≤ m ∧ s.2.1 ≠ 0 := by
      obtain ⟨R, pi, ⟨_, h1⟩, _, h3, _⟩ := hI
      exact ⟨h1, h3.2⟩
    have hself : stL y 134 (y.2 134) = y := stL_self
    have hm1 : nI k + (-1 : Int32) = iI ((k : Int) - 1) := by rw [nI_iI, iIm1, iI_add]; rfl
    have hsr := sr_spec s.1 k (12 - s.2.2.1) s.2.2.1
    rw [show s.2.2.1 + (12 - s.2.2.1) = 12 by omega] at hsr
    obtain ⟨c1, c2, c3, c4⟩ := hsr
    change s.2.2.1 ≤ rwA s k at c1
    change rwA s k ≤ 12 at c2
    change ∀ i, s.2.2.1 ≤ i → i < rwA s k → s.1 i k = 0 at c3
    change rwA s k < 12 → s.1 (rwA s k) k ≠ 0 at c4
    rw [iI_pred]
    have srch : wl4 (b_X7_solves_28 (wl3 b_X7_solves_21 fl)) fu (nI s.2.2.1) (nI k) (nI s.2.2.1) y = j_X7_solves_58 (wl3 b_X7_solves_21 fl) (nI s.2.2.1) (nI k) (nI (rwA s k)) y := by
      refine wl4_inv (Q := fun o => o = j_X7_solves_58 (wl3 b_X7_solves_21 fl) (nI s.2.2.1) (nI k) (nI (rwA s k)) y) (fun i a b c u => a = nI s.2.2.1 ∧ b = nI k ∧ c = nI (s.2.2.1 + i) ∧ u = y) (rwA s k - s.2.2.1) ?_ ?_ (by omega) ⟨rfl, rfl, rfl, rfl⟩
      · rintro i hi _ _ _ _ ⟨rfl, rfl, rfl, rfl⟩
        have v := y4 (s.2.2.1 + i) (by omega) k (by omega)
        rw [c3 (s.2.2.1 + i) (by omega) (by omega)] at v
        refine Or.inl ⟨_, _, _, _, ⟨rfl, rfl, rfl, rfl⟩, fun ag => ?_⟩
        unfold b_X7_solves_28
        simp (disch := omega) only [bds, bds2, lts, lit, nI_add, pk_mul, nI_leI, nI_ltI, nI_eq, rdI_nI, rdL_nI, wrI_nI, wrL_nI, rdR_nI, if_pos, if_neg, and_true, true_and, and_false, false_and, reduceIte, v, lL0, cmE]
        rw [Nat.add_assoc]
      · rintro _ _ _ _ ⟨rfl, rfl, rfl, rfl⟩ ag
        rw [show s.2.2.1 + (rwA s k - s.2.2.1) = rwA s k by omega]
        unfold b_X7_solves_28
        by_cases c : rwA s k < 12
        · have v := y4 (rwA s k) c k (by omega)
          have nz := c4 c
          have sb := hsm (rwA s k) c k (by omega)
          simp (disch := omega) only [bds, bds2, lts, lit, nI_add, pk_mul, nI_leI, nI_ltI, nI_eq, rdI_nI, rdL_nI, wrI_nI, wrL_nI, rdR_nI, if_pos, if_neg, and_true, true_and, and_false, false_and, reduceIte, v, lL0, cmE]
        · simp (disch := omega) only [bds, bds2, lts, lit, nI_add, pk_mul, nI_leI, nI_ltI, nI_eq, rdI_nI, rdL_nI, wrI_nI, wrL_nI, rdR_nI, if_pos, if_neg, and_true, true_and, and_false, false_and, reduceIte]
    have e1 : wl3 b_X7_solves_21 (fl + 1) (nI s.2.2.1) (nI k) y = j_X7_solves_58 (wl3 b_X7_solves_21 fl) (nI s.2.2.1) (nI k) (nI (rwA s k)) y := by
      rw [← srch]
      show b_X7_solves_21 (wl3 b_X7_solves_21 fl) (nI s.2.2.1) (nI k) y = _
      generalize wl3 b_X7_solves_21 fl = ag
      unfold b_X7_solves_21
      rw [if_neg (nI_pos (by omega))]
    rw [e1]
    show ∃ y' : Sto, _ = some (nI (brun k (bst s k)).2.2.1, y') ∧ _ ∧ _ ∧ y'.2 122 16 = iL (brun k (bst s k)).2.1 ∧ RG (y'.2 134) (brun k (bst s k)).1 ∧ ∀ r, r < (brun k (bst s k)).2.2.1 → y'.1 135 r = nI ((brun k (bst s k)).2.2.2 r)
    by_cases hr : rwA s k < 12
    · have hb : bst s k = (elm (swp s.1 (rwA s k) s.2.2.1) s.2.1 s.2.2.1 k, s.1 (rwA s k) k, s.2.2.1 + 1, va_up s.2.2.2 s.2.2.1 k) := if_pos hr
      have hpp : swp s.1 (rwA s k) s.2.2.1 s.2.2.1 = s.1 (rwA s k) := if_pos rfl
      obtain ⟨f1, p1, p2⟩ := m_swaps (z := y) (f := y.2 134) y4 (r := rwA s k) (p := s.2.2.1) hr (by omega)
      rw [hself] at p1
      obtain ⟨f2, p3, p4⟩ := m_clear (ag21 := wl3 b_X7_solves_21 fl) (z := y) (f := f1) p2 (swp_sml hsm hr (by omega)) hd hpk.2 y3 (p := s.2.2.1) (k := k) (by omega) (by omega)
      have v1 := p2 s.2.2.1 (by omega) k (by omega)
      obtain ⟨w1, hw1⟩ : ∃ w1, w1 = upI (upL (stL y 134 f2) 122 16 (iL (s.1 (rwA s k) k))) 135 s.2.2.1 (nI k) := ⟨_, rfl⟩
      rw [hpp] at p3 v1
      rw [hm1, ← hw1] at p3
      obtain ⟨y', r1, r2, r3, r4, r5, r6⟩ := ih fl (bst s k) w1 hI' (by omega) (by omega) (by rw [hw1, hb]; show (upL (stL y 134 f2) 122 16 (iL (s.1 (rwA s k) k))).2 122 16 = _; rw [upL_at, if_pos ⟨rfl, rfl⟩]) (by
          rw [hw1, hb]
          show RG ((upL (stL y 134 f2) 122 16 (iL (s.1 (rwA s k) k))).2 134) _
          rw [upL_ne (by decide), stL_same]
          exact p4) (fun r hrr => by
          rw [hb] at hrr ⊢
          have hrr : r < s.2.2.1 + 1 := hrr
          show _ = nI (va_up s.2.2.2 s.2.2.1 k r)
          rw [hw1, upI_at]
          by_cases c : r = s.2.2.1
          · rw [if_pos ⟨rfl, c⟩, c, va_up_self]
          · rw [if_neg (fun e => c e.2), va_up_ne _ _ c]
            exact y5 r (by omega))
      refine ⟨y', ?_, ?_, ?_, r4, r5, r6⟩
      · rw [← r1, hb]
        show _ = wl3 b_X7_solves_21 fl (nI (s.2.2.1 + 1)) _ w1
        rw [← p3]
        generalize wl3 b_X7_solves_21 fl = ag
        unfold j_X7_solves_58
        simp (disch := omega) only [bds, bds2, lts, lit, nI_add, pk_mul, nI_leI, nI_ltI, nI_eq, rdI_nI, rdL_nI, wrI_nI, wrL_nI, rdR_nI, if_pos, if_neg, and_true, true_and, and_false, false_and, reduceIte, p1, stL_at, v1]
      · refine Ke.tr ?_ r2
        rw [hw1]
        exact ((Ke.rf.stl (by simp)).upl (by simp)).up (by simp)
      · rw [r3, hw1, upI_ne (by decide)]
        rfl
    · have hb : bst s k = s := if_neg hr
      obtain ⟨y', r1, r2, r3, r4, r5, r6⟩ := ih fl (bst s k) y hI' (by omega) (by omega) (by rw [hb]; exact y3) (by rw [hb]; exact y4) (by rw [hb]; exact y5)
      refine ⟨y', ?_, r2, r3, r4, r5, r6⟩
      rw [← r1, hb]
      generalize wl3 b_X7_solves_21 fl = ag
      unfold j_X7_solves_58
      rw [if_pos (show (12 : Int32) ≤ nI (rwA s k) from nI_le (a := 12) (by omega) (by omega)), lts, hm1]
theorem m_solves (hB : BF A) (hR : RowM (z.1 123) A) {t : Nat} (ht : t < 512) : ∃ y', f_X7_solves (nI t) z = some (nI (bS A (qb t)).2.2.1, y') ∧ Ke [122, 134, 135] z y' ∧ y'.1 122 = z.1 122 ∧ y'.2 122 16 = iL (bS A (qb t)).2.1 ∧ RG (y'.2 134) (bS A (qb t)).1 ∧ ∀ r, r < (bS A (qb t)).2.2.1 → y'.1 135 r = nI ((bS A (qb t)).2.2.2 r) := by
  have h9 := hB.2.1
  obtain ⟨f, p1, p2⟩ := m_laysCells hB hR ht
  obtain ⟨z4, hz4⟩ : ∃ z4, z4 = upL (stL z 134 f) 122 16 (iL 1) := ⟨_, rfl⟩
  obtain ⟨y', q1, q2, q3, q4, q5, q6⟩ := m_solvesL (q := qb t) hB h9 (fM A) fu (b0 A (qb t)) z4 (bI0 hB) (Nat.le_refl _) (by show fM A < 4096; omega) (by rw [hz4, upL_at, if_pos ⟨rfl, rfl⟩]; rfl) (by rw [hz4, upL_ne (by decide), stL_same]; exact p2) (fun r hr => absurd hr (Nat.not_lt_zero _))
  refine ⟨y', ?_, ?_, ?_, q4, q5, q6⟩
  · unfold f_X7_solves
    have e : z4.1 123 1 = nI (fM A) := by rw [hz4]; exact hR.1.2.1
    rw [p1, bds, lts, lL1, ← hz4, m_rd1, bds, lts, e, show nI (fM A) - (1 : Int32) = iI ((fM A : Int) - 1) by rw [nI_iI, show (1 : Int32) = iI 1 from rfl, iI_sub]]
    exact q1
  · refine Ke.tr ?_ q2
    rw [hz4]
    exact (Ke.rf.stl (by simp)).upl (by simp)
  · rw [q3, hz4]; rfl
end
