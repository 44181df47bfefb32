section
variable {A : Fm} {q : Nat → Bool} {z : Sto} {f : Nat → Int64} {G : Nat → Nat → Int} {n m : Nat}
theorem c_rowWith (hn : n ≤ 6) (hg : RG f G) (hs : sml G) (hz : Zr n m G) (he : z.1 95 2 = nI (2 * n)) {k p : Nat} (hk : k < 9) (hp : p ≤ 12) : f_X4_rowWith (nI k) (nI p) (stL z 98 f) = some (if sr G k (12 - p) p < 12 then nI (sr G k (12 - p) p) else -1) := by
  refine wl2_inv (Q := fun o => o = some (if sr G k (12 - p) p < 12 then nI (sr G k (12 - p) p) else -1)) (fun i x y => x = nI k ∧ y = nI (p + i) ∧ ∀ t, t < i → G (p + t) k = 0) (2 * n - p) ?_ ?_ (by omega) ⟨rfl, rfl, fun t ht => by omega⟩
  · rintro i hi _ _ ⟨rfl, rfl, h0⟩
    have v := hg (p + i) (by omega) k hk
    rw [show 9 * (p + i) + k = (p + i) * 9 + k by omega] at v
    have sb := hs (p + i) (by omega) k hk
    by_cases c : G (p + i) k = 0
    · refine Or.inl ⟨nI k, nI (p + (i + 1)), ⟨rfl, rfl, fun t ht => ?_⟩, fun ag => ?_⟩
      · by_cases e : t = i
        · subst e; exact c
        · exact h0 t (by omega)
      · unfold b_X4_rowWith_2
        simp (disch := omega) only [bds, bds2, lts, lit, nI_add, pk_mul, nI_leI, nI_ltI, nI_eq, rdI_nI, rdL_nI, wrI_nI, wrL_nI, rdR_nI, if_pos, if_neg, and_true, true_and, and_false, false_and, reduceIte, stL_I, he, stL_at, v, lL0, cmE]
        rw [show p + i + 1 = p + (i + 1) by omega]
    · refine Or.inr fun ag => ?_
      have e : sr G k (12 - p) p = p + i := sr_eq (by omega) (by omega) (fun t h1 h2 => by have := h0 (t - p) (by omega); rw [show p + (t - p) = t by omega] at this; exact this) c
      rw [e, if_pos (by omega)]
      unfold b_X4_rowWith_2
      simp (disch := omega) only [bds, bds2, lts, lit, nI_add, pk_mul, nI_leI, nI_ltI, nI_eq, rdI_nI, rdL_nI, wrI_nI, wrL_nI, rdR_nI, if_pos, if_neg, and_true, true_and, and_false, false_and, reduceIte, stL_I, he, stL_at, v, lL0, cmE]
  · rintro _ _ ⟨rfl, rfl, h0⟩ ag
    have e : sr G k (12 - p) p = 12 := sr_no hp (fun t h1 h2 => by
      by_cases c : t < 2 * n
      · have := h0 (t - p) (by omega); rw [show p + (t - p) = t by omega] at this; exact this
      · exact hz.1 t k (by omega))
    rw [e, if_neg (by omega)]
    unfold b_X4_rowWith_2
    simp (disch := omega) only [bds, bds2, lts, lit, nI_add, pk_mul, nI_leI, nI_ltI, nI_eq, rdI_nI, rdL_nI, wrI_nI, wrL_nI, rdR_nI, if_pos, if_neg, and_true, true_and, and_false, false_and, reduceIte, stL_I, he]
theorem c_swapRows (hg : RG f G) (hz : Zr n m G) (hm9 : m ≤ 9) (hm : z.1 95 1 = nI m) {r p : Nat} (hr : r < 12) (hp : p < 12) : ∃ f', f_X4_swapRows (nI r) (nI p) (stL z 98 f) = some (stL z 98 f') ∧ RG f' (swp G r p) := by
  refine wl4_inv (Q := fun o => ∃ f', o = some (stL z 98 f') ∧ RG f' (swp G r p)) (fun k x y w u => x = nI r ∧ y = nI p ∧ w = nI k ∧ ∃ f', u = stL z 98 f' ∧ (∀ i, i < 12 → ∀ j, j < 9 → f' (9 * i + j) = iL (if j < k then swp G r p i j else G i j))) m ?_ ?_ (by omega) ⟨rfl, rfl, rfl, f, rfl, fun i hi j hj => by rw [if_neg (by omega)]; exact hg i hi j hj⟩
  · rintro k hk _ _ _ _ ⟨rfl, rfl, rfl, f', rfl, h1⟩
    refine Or.inl ⟨nI r, nI p, nI (k + 1), stL z 98 (vp_updL (vp_updL f' (r * 9 + k) (f' (p * 9 + k))) (p * 9 + k) (f' (r * 9 + k))), ⟨rfl, rfl, rfl, _, rfl, fun i hi j hj => ?_⟩, fun ag => ?_⟩
    · have a1 := h1 r hr k (by omega)
      have a2 := h1 p hp k (by omega)
      have a3 := h1 i hi j hj
      rw [if_neg (by omega), show 9 * r + k = r * 9 + k by omega] at a1
      rw [if_neg (by omega), show 9 * p + k = p * 9 + k by omega] at a2
      rw [updL_at, updL_at, a1, a2]
      by_cases c : j = k
      · rw [if_pos (show j < k + 1 by omega)]
        unfold swp
        by_cases c1 : i = p
        · rw [if_pos (by omega), if_pos c1, c]
        · rw [if_neg (by omega), if_neg c1]
          by_cases c2 : i = r
          · rw [if_pos (by omega), if_pos c2, c]
          · rw [if_neg (by omega), if_neg c2, a3, if_neg (by omega)]
      · rw [if_neg (by omega), if_neg (by omega), a3]
        by_cases c1 : j < k
        · rw [if_pos c1, if_pos (by omega)]
        · rw [if_neg c1, if_neg (by omega)]
    · unfold b_X4_swapRows_2
      simp (disch := omega) only [bds, bds2, lts, lit, nI_add, pk_mul, nI_leI, nI_ltI, nI_eq, rdI_nI, rdL_nI, wrI_nI, wrL_nI, rdR_nI, if_pos, if_neg, and_true, true_and, and_false, false_and, reduceIte, stL_I, hm, stL_at, upL_st]
  · rintro _ _ _ _ ⟨rfl, rfl, rfl, f', rfl, h1⟩ ag
    refine ⟨f', ?_, fun i hi j hj => ?_⟩
    · unfold b_X4_swapRows_2
      simp (disch := omega) only [bds, bds2, lts, lit, nI_add, pk_mul, nI_leI, nI_ltI, nI_eq, rdI_nI, rdL_nI, wrI_nI, wrL_nI, rdR_nI, if_pos, if_neg, and_true, true_and, and_false, false_and, reduceIte, stL_I, hm]
    · rw [h1 i hi j hj]
      by_cases c : j < m
      · rw [if_pos c]
      · rw [if_neg c, hz.2 i j (by omega)]
        unfold swp
        split
        · rw [hz.2 r j (by omega)]
        · split
          · rw [hz.2 p j (by omega)]
          · rw [hz.2 i j (by omega)]
/-- a row is cleared, from its left -/
theorem c_clear1 {d : Int} (hs : sml G) (hd : -1000000000 ≤ d ∧ d ≤ 1000000000) (h0 : d ≠ 0) (hz : Zr n m G) (hm9 : m ≤ 9) (hm : z.1 95 1 = nI m) (hb : z.2 95 3 = iL d) {p k i : Nat} (hp : p < 12) (hk : k < 9) (hi : i < 12) {ag15 : Int32 → Int32 → Int64 → Int32 → Sto → Option Sto} (hg : (∀ r, r < 12 → ∀ j, j < 9 → f (9 * r + j) = iL (if r < i then elm G d p k r j else G r j))) : ∃ f', wl7 (b_X4_clearColumn_41 ag15) fu (nI k) (nI p) (iL (G p k)) (nI i) (iL (G i k)) (nI 0) (stL z 98 f) = ag15 (nI k) (nI p) (iL (G p k)) (nI (i + 1)) (stL z 98 f') ∧ (∀ r, r < 12 → ∀ j, j < 9 → f' (9 * r + j) = iL (if r < i + 1 then elm G d p k r j else G r j)) := by
  have hbv : ∀ f, (stL z 98 f).2 95 3 = iL d := fun f => by rw [stL_at, if_neg (by omega)]; exact hb
  by_cases cp : i = p
  · -- the pivot's own row
    refine wl7_inv (Q := fun o => ∃ f', o = ag15 (nI k) (nI p) (iL (G p k)) (nI (i + 1)) (stL z 98 f') ∧ (∀ r, r < 12 → ∀ j, j < 9 → f' (9 * r + j) = iL (if r < i + 1 then elm G d p k r j else G r j))) (fun t a b c e g h u => a = nI k ∧ b = nI p ∧ c = iL (G p k) ∧ e = nI i ∧ g = iL (G i k) ∧ h = nI 0 ∧ u = stL z 98 f) 0 (fun t ht => by omega) ?_ (by omega) ⟨rfl, rfl, rfl, rfl, rfl, rfl, rfl⟩
    rintro _ _ _ _ _ _ _ ⟨rfl, rfl, rfl, rfl, rfl, rfl, rfl⟩ ag
    refine ⟨f, ?_, fun r hr j hj => ?_⟩
    · unfold b_X4_clearColumn_41
      by_cases c : m = 0
      · simp (disch := omega) only [bds, bds2, lts, lit, nI_add, pk_mul, nI_leI, nI_ltI, nI_eq, rdI_nI, rdL_nI, wrI_nI, wrL_nI, rdR_nI, if_pos, if_neg, and_true, true_and, and_false, false_and, reduceIte, stL_I, hm]
      · simp (disch := omega) only [bds, bds2, lts, lit, nI_add, pk_mul, nI_leI, nI_ltI, nI_eq, rdI_nI, rdL_nI, wrI_nI, wrL_nI, rdR_nI, if_pos, if_neg, and_true, true_and, and_false, false_and, reduceIte, stL_I, hm, cp]
    · rw [hg r hr j hj]
      by_cases c : r < i
      · rw [if_pos c, if_pos (by omega)]
      · rw [if_neg c]
        by_cases c2 : r = i
        · rw [if_pos (by omega)]
          unfold elm
          rw [if_pos (by omega)]
        · rw [if_neg (by omega)]
  · refine wl7_inv (Q := fun o => ∃ f', o = ag15 (nI k) (nI p) (iL (G p k)) (nI (i + 1)) (stL z 98 f') ∧ (∀ r, r < 12 → ∀ j, j < 9 → f' (9 * r + j) = iL (if r < i + 1 then elm G d p k r j else G r j))) (fun t a b c e g h u => a = nI k ∧ b = nI p ∧ c = iL (G p k) ∧ e = nI i ∧ g = iL (G i k) ∧ h = nI t ∧ ∃ f', u = stL z 98 f' ∧ (∀ r, r < 12 → ∀ j, j < 9 → f' (9 * r + j) = iL (if r < i ∨ (r = i ∧ j < t) then elm G d p k r j else G r j))) m ?_ ?_ (by omega) ⟨rfl, rfl, rfl, rfl, rfl, rfl, f, rfl, fun r hr j hj => ?_⟩
    · rintro t ht _ _ _ _ _ _ _ ⟨rfl, rfl, rfl, rfl, rfl, rfl, f', rfl, h1⟩
      have a1 := h1 i hi t (by omega)
      have a2 := h1 p hp t (by omega)
      rw [if_neg (by omega), show 9 * i + t = i * 9 + t by omega] at a1
      have a2 : f' (p * 9 + t) = iL (G p t) := by
        rw [show p * 9 + t = 9 * p + t by omega, a2]
        split
        · unfold elm; rw [if_pos rfl]
        · rfl
      have dv := dv_el (k := k) (j := t) hs hd h0 hp hk hi (by omega) cp
      refine Or.inl ⟨_, _, _, _, _, _, stL z 98 (vp_updL f' (i * 9 + t) (iL (elm G d p k i t))), ⟨rfl, rfl, rfl, rfl, rfl, rfl, _, rfl, fun r hr j hj => ?_⟩, fun ag => ?_⟩
      · rw [updL_at]
        by_cases c : r = i ∧ j = t
        · rw [if_pos (by omega), if_pos (by omega), c.1, c.2]
        · rw [if_neg (by omega), h1 r hr j hj]
          by_cases c2 : r < i ∨ (r = i ∧ j < t)
          · rw [if_pos c2, if_pos (by omega)]
          · rw [if_neg c2, if_neg (by omega)]
      · unfold b_X4_clearColumn_41
        simp (disch := omega) only [bds, bds2, lts, lit, nI_add, pk_mul, nI_leI, nI_ltI, nI_eq, rdI_nI, rdL_nI, wrI_nI, wrL_nI, rdR_nI, if_pos, if_neg, and_true, true_and, and_false, false_and, reduceIte, stL_I, hm, hbv, lL0, cmE, stL_at, a1, a2, dv, upL_st]
    · rintro _ _ _ _ _ _ _ ⟨rfl, rfl, rfl, rfl, rfl, rfl, f', rfl, h1⟩ ag
      refine ⟨f', ?_, fun r hr j hj => ?_⟩
      · unfold b_X4_clearColumn_41
        simp (disch := omega) only [bds, bds2, lts, lit, nI_add, pk_mul, nI_leI, nI_ltI, nI_eq, rdI_nI, rdL_nI, wrI_nI, wrL_nI, rdR_nI, if_pos, if_neg, and_true, true_and, and_false, false_and, reduceIte, stL_I, hm]
      · rw [h1 r hr j hj]
        by_cases c : r < i
        · rw [if_pos (Or.inl c), if_pos (by omega)]
        · by_cases c2 : r = i
          · rw [if_pos (show r < i + 1 by omega)]
            by_cases c3 : j < m
            · rw [if_pos (Or.inr ⟨c2, c3⟩)]
            · rw [if_neg (by omega), hz.2 r j (by omega)]
              unfold elm
              rw [if_neg (by omega), hz.2 r j (by omega), hz.2 p j (by omega)]; simp
          · rw [if_neg (by omega), if_neg (by omega)]
    · rw [hg r hr j hj]
      by_cases c : r < i
      · rw [if_pos c, if_pos (Or.inl c)]
      · rw [if_neg c, if_neg (by omega)]
theorem c_clearColumn {d : Int} (hn : n ≤ 6) (hg : RG f G) (hs : sml G) (hd : -1000000000 ≤ d ∧ d ≤ 1000000000) (h0 : d ≠ 0) (hz : Zr n m G) (hm9 : m ≤ 9) (hm : z.1 95 1 = nI m) (he : z.1 95 2 = nI (2 * n)) (hb : z.2 95 3 = iL d) {p k : Nat} (hp : p < 2 * n) (hk : k < 9) : ∃ f', f_X4_clearColumn (nI k) (nI p) (stL z 98 f) = some (stL z 98 f') ∧ RG f' (elm G d p k) := by
  have v := hg p (by omega) k hk
  rw [show 9 * p + k = p * 9 + k by omega] at v
  have main : ∃ f', wl5 b_X4_clearColumn_15 fu (nI k) (nI p) (iL (G p k)) (nI 0) (stL z 98 f) = some (stL z 98 f') ∧ RG f' (elm G d p k) := by
    refine wl5_ind (Q := fun o => ∃ f', o = some (stL z 98 f') ∧ RG f' (elm G d p k)) (fun i a b c e u => a = nI k ∧ b = nI p ∧ c = iL (G p k) ∧ e = nI i ∧ ∃ f', u = stL z 98 f' ∧ (∀ r, r < 12 → ∀ j, j < 9 → f' (9 * r + j) = iL (if r < i then elm G d p k r j else G r j))) (2 * n) ?_ ?_ (by omega) ⟨rfl, rfl, rfl, rfl, f, rfl, fun r hr j hj => by rw [if_neg (by omega)]; exact hg r hr j hj⟩
    · rintro i hi _ _ _ _ _ ⟨rfl, rfl, rfl, rfl, f', rfl, h1⟩ ag
      have a1 := h1 i (by omega) k hk
      rw [if_neg (by omega), show 9 * i + k = i * 9 + k by omega] at a1
      obtain ⟨f'', b1, b2⟩ := c_clear1 (ag15 := ag) hs hd h0 hz hm9 hm hb (p := p) (by omega) hk (i := i) (by omega) h1
      refine Or.inl ⟨_, _, _, _, _, ⟨rfl, rfl, rfl, rfl, f'', rfl, b2⟩, ?_⟩
      rw [← b1]
      unfold b_X4_clearColumn_15
      simp (disch := omega) only [bds, bds2, lts, lit, nI_add, pk_mul, nI_leI, nI_ltI, nI_eq, rdI_nI, rdL_nI, wrI_nI, wrL_nI, rdR_nI, if_pos, if_neg, and_true, true_and, and_false, false_and, reduceIte, stL_I, he, stL_at, a1]
    · rintro _ _ _ _ _ ⟨rfl, rfl, rfl, rfl, f', rfl, h1⟩ ag
      refine ⟨f', ?_, fun r hr j hj => ?_⟩
      · unfold b_X4_clearColumn_15
        simp (disch := omega) only [bds, bds2, lts, lit, nI_add, pk_mul, nI_leI, nI_ltI, nI_eq, rdI_nI, rdL_nI, wrI_nI, wrL_nI, rdR_nI, if_pos, if_neg, and_true, true_and, and_false, false_and, reduceIte, stL_I, he]
      · rw [h1 r hr j hj]
        by_cases c : r < 2 * n
        · rw [if_pos c]
        · rw [if_neg c]
          unfold elm
          rw [if_neg (by omega), hz.1 r j (by omega), hz.1 r k (by omega)]; simp
  obtain ⟨f', q1, q2⟩ := main
  refine ⟨f', ?_, q2⟩
  unfold f_X4_clearColumn
  simp (disch := omega) only [bds, bds2, lts, lit, nI_add, pk_mul, nI_leI, nI_ltI, nI_eq, rdI_nI, rdL_nI, wrI_nI, wrL_nI, rdR_nI, if_pos, if_neg, and_true, true_and, and_false, false_and, reduceIte, stL_at, v]
  exact q1
end
