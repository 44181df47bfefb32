section
variable {s t s' t' z : Sto} {A B : Fm} {n : Nat} {Hs : Nat → Fm}
/-- the model keeps its row -/
theorem rd_keep : ∃ g : Nat → Int32, (∀ i, i < 42 → g i = z.1 123 i) ∧ f_X7_read z = wl2 b_X7_read_28 fu (0 : Int32) (stI z 143 g) := by
  refine wl2_inv (Q := fun o => ∃ g : Nat → Int32, (∀ i, i < 42 → g i = z.1 123 i) ∧ o = wl2 b_X7_read_28 fu (0 : Int32) (stI z 143 g)) (fun k x y => x = nI k ∧ ∃ g, y = stI z 143 g ∧ ∀ i, i < k → g i = z.1 123 i) 42 ?_ ?_ (by omega) ⟨rfl, z.1 143, stI_self.symm, fun i hi => by omega⟩
  · rintro k hk _ _ ⟨rfl, g, rfl, hg⟩
    refine Or.inl ⟨nI (k + 1), stI z 143 (upd g k (z.1 123 k)), ⟨rfl, _, rfl, fun i hi => ?_⟩, fun ag => ?_⟩
    · rw [upd_at]
      by_cases e : i = k
      · rw [if_pos e, e]
      · rw [if_neg e]; exact hg i (by omega)
    · unfold b_X7_read_2
      simp (disch := omega) only [bds, bds2, lts, lit, nI_add, pk_mul, nI_leI, nI_ltI, nI_eq, rdI_nI, rdL_nI, wrI_nI, wrL_nI, rdR_nI, if_pos, if_neg, and_true, true_and, and_false, false_and, reduceIte, stI_at, upI_st]
  · rintro _ _ ⟨rfl, g, rfl, hg⟩ ag
    refine ⟨g, hg, ?_⟩
    unfold b_X7_read_2
    rw [if_pos (show (42 : Int32) ≤ nI 42 from nI_le (a := 42) (Nat.le_refl _) (by omega))]
/-- it empties it -/
theorem rd_wipe : ∃ g : Nat → Int32, (∀ i, i < 42 → g i = if i < 33 ∧ i ≠ 2 then 0 else z.1 123 i) ∧ wl2 b_X7_read_28 fu (0 : Int32) z = bd2 (f_X7_readsAll (upI (stI z 123 g) 122 26 (0 : Int32))) fun t7 z8 => wl3 (b_X7_read_78) fu t7 (0 : Int32) (upI z8 122 7 (0 : Int32)) := by
  refine wl2_inv (Q := fun o => ∃ g : Nat → Int32, (∀ i, i < 42 → g i = if i < 33 ∧ i ≠ 2 then 0 else z.1 123 i) ∧ o = bd2 (f_X7_readsAll (upI (stI z 123 g) 122 26 (0 : Int32))) fun t7 z8 => wl3 (b_X7_read_78) fu t7 (0 : Int32) (upI z8 122 7 (0 : Int32))) (fun k x y => x = nI k ∧ ∃ g, y = stI z 123 g ∧ ∀ i, i < 42 → g i = if i < k ∧ i ≠ 2 then 0 else z.1 123 i) 33 ?_ ?_ (by omega) ⟨rfl, z.1 123, stI_self.symm, fun i hi => by rw [if_neg (by omega)]⟩
  · rintro k hk _ _ ⟨rfl, g, rfl, hg⟩
    by_cases k2 : k = 2
    · subst k2
      refine Or.inl ⟨nI 3, stI z 123 (upd g 2 (g 2)), ⟨rfl, _, rfl, fun i hi => ?_⟩, fun ag => ?_⟩
      · rw [upd_at]
        by_cases e : i = 2
        · rw [if_pos e, if_neg (by omega), hg 2 (by omega), if_neg (by omega), e]
        · rw [if_neg e, hg i hi]
          by_cases c : i < 2
          · rw [if_pos ⟨c, e⟩, if_pos ⟨by omega, e⟩]
          · rw [if_neg (by omega), if_neg (by omega)]
      · unfold b_X7_read_28
        rw [if_neg (by decide), if_pos (show nI 2 = (2 : Int32) from rfl), rdI_nI (by omega) (by omega), bds, wrI_nI (by omega) (by omega), bds, lts, stI_same, upI_st, show nI 2 + (1 : Int32) = nI (2 + 1) from nI_add 2 1]
    · refine Or.inl ⟨nI (k + 1), stI z 123 (upd g k 0), ⟨rfl, _, rfl, fun i hi => ?_⟩, fun ag => ?_⟩
      · rw [upd_at]
        by_cases e : i = k
        · rw [if_pos e, if_pos ⟨by omega, by omega⟩]
        · rw [if_neg e, hg i hi]
          by_cases c : i < k ∧ i ≠ 2
          · rw [if_pos c, if_pos ⟨by omega, c.2⟩]
          · rw [if_neg c, if_neg (by omega)]
      · unfold b_X7_read_28
        rw [if_neg (show ¬ (33 : Int32) ≤ nI k from nI_ge (b := 33) hk (by omega)), if_neg (show ¬ nI k = (2 : Int32) from fun x => k2 ((nI_eq (b := 2) (by omega) (by omega)).mp x)), wrI_nI (by omega) (by omega), bds, lts, upI_st, show nI k + (1 : Int32) = nI (k + 1) from nI_add k 1]
  · rintro _ _ ⟨rfl, g, rfl, hg⟩ ag
    refine ⟨g, hg, ?_⟩
    unfold b_X7_read_28
    rw [if_pos (show (33 : Int32) ≤ nI 33 from nI_le (a := 33) (Nat.le_refl _) (by omega)), lts]
    simp only [lts]
/-- what was read is held ahead, the row is as it was -/
theorem rd_back (x1 : Int32) : ∃ g1 g2 : Nat → Int32, (∀ i, i < 42 → g1 i = z.1 123 i ∧ g2 i = z.1 143 i) ∧ wl3 b_X7_read_78 fu x1 (0 : Int32) z = (if x1 = 0 then (some (((-20 : Int32) - ((stI (stI z 132 g1) 123 g2).1 122 26)), stI (stI z 132 g1) 123 g2)) else (bd (f_X7_notes (stI (stI z 132 g1) 123 g2)) fun z19 => bd (f_X7_takesBack z19) fun z21 => bd (rdI z21 123 42 (1 : Int32)) fun t22 => some (t22, z21))) := by
  refine wl3_inv (Q := fun o => ∃ g1 g2 : Nat → Int32, (∀ i, i < 42 → g1 i = z.1 123 i ∧ g2 i = z.1 143 i) ∧ o = (if x1 = 0 then (some (((-20 : Int32) - ((stI (stI z 132 g1) 123 g2).1 122 26)), stI (stI z 132 g1) 123 g2)) else (bd (f_X7_notes (stI (stI z 132 g1) 123 g2)) fun z19 => bd (f_X7_takesBack z19) fun z21 => bd (rdI z21 123 42 (1 : Int32)) fun t22 => some (t22, z21)))) (fun k w x y => w = x1 ∧ x = nI k ∧ ∃ g1 g2, y = stI (stI z 132 g1) 123 g2 ∧ ∀ i, i < 42 → (i < k → g1 i = z.1 123 i) ∧ g2 i = if i < k then z.1 143 i else z.1 123 i) 42 ?_ ?_ (by omega) ⟨rfl, rfl, z.1 132, z.1 123, ?_, fun i hi => ⟨fun c => by omega, by rw [if_neg (by omega)]⟩⟩
  · rintro k hk w _ _ ⟨hw, rfl, g1, g2, rfl, hg⟩
    refine Or.inl ⟨w, nI (k + 1), stI (stI z 132 (upd g1 k (g2 k))) 123 (upd g2 k (z.1 143 k)), ⟨hw, rfl, _, _, rfl, fun i hi => ⟨fun c => ?_, ?_⟩⟩, fun ag => ?_⟩
    · rw [upd_at]
      by_cases e : i = k
      · rw [if_pos e, e, (hg k hk).2, if_neg (by omega)]
      · rw [if_neg e]; exact (hg i hi).1 (by omega)
    · rw [upd_at]
      by_cases e : i = k
      · rw [if_pos e, if_pos (by omega), e]
      · rw [if_neg e, (hg i hi).2]
        by_cases c : i < k
        · rw [if_pos c, if_pos (by omega)]
        · rw [if_neg c, if_neg (by omega)]
    · unfold b_X7_read_78
      have e1 : (stI (stI z 132 g1) 123 g2).1 123 k = g2 k := by rw [stI_same]
      have e2 : (upI (stI (stI z 132 g1) 123 g2) 132 k (g2 k)).1 143 k = z.1 143 k := by rw [upI_ne (by decide), stI_ne (by decide), stI_ne (by decide)]
      have e3 : stI (stI z 132 g1) 123 g2 = stI (stI z 123 g2) 132 g1 := stI_comm (by decide)
      have e4 : upI (upI (stI (stI z 132 g1) 123 g2) 132 k (g2 k)) 123 k (z.1 143 k) = stI (stI z 132 (upd g1 k (g2 k))) 123 (upd g2 k (z.1 143 k)) := by
        rw [e3, upI_st, stI_comm (z := z) (by decide), upI_st]
      rw [if_neg (show ¬ (42 : Int32) ≤ nI k from nI_ge (b := 42) hk (by omega)), rdI_nI (by omega) (by omega), bds, wrI_nI (by omega) (by omega), bds, rdI_nI (by omega) (by omega), bds, wrI_nI (by omega) (by omega), bds, lts, show nI k + (1 : Int32) = nI (k + 1) from nI_add k 1, e1, e2, e4]
  · rintro w _ _ ⟨hw, rfl, g1, g2, rfl, hg⟩ ag
    refine ⟨g1, g2, fun i hi => ⟨(hg i hi).1 hi, by rw [(hg i hi).2, if_pos hi]⟩, ?_⟩
    unfold b_X7_read_78
    rw [if_pos (show (42 : Int32) ≤ nI 42 from nI_le (a := 42) (Nat.le_refl _) (by omega)), hw]
  · have e1 : stI z 132 (z.1 132) = z := stI_self
    rw [e1]
    exact stI_self.symm
/-- all stays, the tape is empty -/
theorem Inv_r (hF : IF s t A n Hs) (hG : IG s t) (hS : IS s t) (hK : IK s A) (ks : ∀ c, c < 7 ∨ (12 < c ∧ c ≠ 111) → s'.1 c = s.1 c) (k2 : s'.2 = s.2) (kl : s'.1 111 1 = nI 0) (kt : ∀ c, c ∉ [122, 123, 132, 143] → t'.1 c = t.1 c) (k3 : ∀ j, j ≠ 7 → j ≠ 26 → t'.1 122 j = t.1 122 j) (k4 : t'.2 = t.2) (k7 : t'.1 122 7 = nI 0) (k5 : ∀ i, i < 42 → t'.1 123 i = t.1 123 i) : IF s' t' A n Hs ∧ IG s' t' ∧ IT s' t' ∧ IS s' t' ∧ IK s' A := by
  obtain ⟨f1, f2, f3, f4, f5⟩ := hF
  refine ⟨⟨f1, RepC_congr (fun c a b => ks c (by omega)) f2, IC_congr (fun c a b => ks c (by omega)) f3, ⟨RowM_congr f1.1 k5 f4.1, ⟨f4.2.1.1, by rw [k3 2 (by omega) (by omega)]; exact f4.2.1.2⟩, ?_⟩, f5⟩, IG_k hG (by rw [ks 0 (by omega)]) (fun c h => ks c (by omega)) (k3 5 (by omega) (by omega)) (kt _ (by simp)) (kt _ (by simp)), ⟨0, by omega, kl, k7, fun i hi => absurd hi (Nat.not_lt_zero _)⟩, IS_k hS (fun c a b => ⟨ks c (by omega), by rw [k2]⟩) (kt _ (by simp)) (kt _ (by simp)) (by rw [k4]), ?_⟩
  · rw [kt 124 (by simp)]; exact f4.2.2
  · rcases hK with h | ⟨h, c1, c2, c3⟩
    · exact Or.inl (by rw [ks 0 (by omega)]; exact h)
    · refine Or.inr ⟨by rw [ks 0 (by omega)]; exact h, ⟨⟨by rw [ks 95 (by omega)]; exact c1.1.1, by rw [ks 95 (by omega)]; exact c1.1.2.1, by rw [k2]; exact c1.1.2.2⟩, by rw [k2]; exact c1.2.1, by rw [k2]; exact c1.2.2.1, by rw [ks 99 (by omega)]; exact c1.2.2.2⟩, ⟨⟨by rw [ks 100 (by omega)]; exact c2.1.1, by rw [ks 100 (by omega)]; exact c2.1.2⟩, by rw [ks 101 (by omega), ks 102 (by omega), ks 103 (by omega)]; exact c2.2.1, by rw [ks 104 (by omega), ks 105 (by omega), ks 106 (by omega)]; exact c2.2.2⟩, fun o ho => ⟨by rw [ks 110 (by omega)]; exact (c3 o ho).1, by rw [k2]; exact (c3 o ho).2⟩⟩
end
