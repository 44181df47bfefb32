section
variable {s t : Sto}
theorem do0 (p q r : Int32) (z : Sto) : f_X7_does 0 p q r z = f_X7_joins p q z := by unfold f_X7_does; rw [if_pos rfl, bd2_id]
theorem do1 (p q r : Int32) (z : Sto) : f_X7_does 1 p q r z = f_X7_adds p q z := by unfold f_X7_does; rw [if_neg (by decide), if_pos rfl, bd2_id]
theorem do2 (p q r : Int32) (z : Sto) : f_X7_does 2 p q r z = f_X7_moves p q r z := by unfold f_X7_does; rw [if_neg (by decide), if_neg (by decide), if_pos rfl, bd2_id]
theorem do3 (p q r : Int32) (z : Sto) : f_X7_does 3 p q r z = f_X7_takesOut p z := by unfold f_X7_does; rw [if_neg (by decide), if_neg (by decide), if_neg (by decide), if_pos rfl, bd2_id]
theorem do4 (p q r : Int32) (z : Sto) : f_X7_does 4 p q r z = f_X7_weighs p q z := by unfold f_X7_does; rw [if_neg (by decide), if_neg (by decide), if_neg (by decide), if_neg (by decide), if_pos rfl, bd2_id]
theorem do5 (p q r : Int32) (z : Sto) : f_X7_does 5 p q r z = f_X7_loses p z := by unfold f_X7_does; rw [if_neg (by decide), if_neg (by decide), if_neg (by decide), if_neg (by decide), if_neg (by decide), bd2_id]
theorem neg23 {x : Int32} (h : x = -2 ∨ x = -3 ∨ x = 0) (h0 : x ≠ 0) : x < 0 := by
  rcases h with h | h | h
  · rw [h]; decide
  · rw [h]; decide
  · exact absurd h h0
theorem rfJ_v (A : Fm) (px py : Int) : rfJ A px py = -2 ∨ rfJ A px py = -3 ∨ rfJ A px py = 0 := by unfold rfJ; split <;> (try split) <;> simp
theorem rfB_v (A : Fm) (a b : Nat) : rfB A a b = -2 ∨ rfB A a b = -3 ∨ rfB A a b = 0 := by unfold rfB; split <;> (try split) <;> simp
theorem rfM_v (A : Fm) (j : Nat) (px py : Int) : rfM A j px py = -2 ∨ rfM A j px py = -3 ∨ rfM A j px py = 0 := by unfold rfM; split <;> simp
theorem rfW_v (A : Fm) (j : Nat) (v : Int) : rfW A j v = -2 ∨ rfW A j v = -3 ∨ rfW A j v = 0 := by unfold rfW; split <;> simp
/-- an act of the model, by what it does to the row -/
theorem act_no {A : Fm} {n : Nat} {Hs : Nat → Fm} {w p q r v : Int32} (hF : IF s t A n Hs) (hv : v < 0) (hd : ∀ z1 : Sto, RowM (z1.1 123) A → ∃ z3, f_X7_does w p q r z1 = some (v, z3) ∧ Ke [123, 132] z1 z3 ∧ RowM (z3.1 123) A) : ∃ t', f_X7_acted w p q r t = some (v, t') ∧ Ke [122, 123, 124, 132, 133] t t' ∧ (∀ j, j ≠ 2 → t'.1 122 j = t.1 122 j) ∧ IM t' A n Hs := by
  obtain ⟨f1, f2, f3, f4, f5⟩ := hF
  obtain ⟨t', a1, a2, a3, a4, a5⟩ := m_acted (A' := A) f1.1 f1.1 (fun i hi => (f5 i hi).1) f4 (fun z1 e => by
    obtain ⟨z3, b1, b2, b3⟩ := hd z1 (by rw [e]; exact f4.1)
    exact ⟨z3, b1, b2, Or.inl ⟨hv, b3⟩⟩)
  exact ⟨t', a1, a2, a3, a4 hv⟩
theorem act_yes {A A' : Fm} {n : Nat} {Hs : Nat → Fm} {w p q r v : Int32} (hF : IF s t A n Hs) (hB' : BF A') (hv : ¬ v < 0) (hd : ∀ z1 : Sto, RowM (z1.1 123) A → ∃ z3, f_X7_does w p q r z1 = some (v, z3) ∧ Ke [123, 132] z1 z3 ∧ RowM (z3.1 123) A') : ∃ t', f_X7_acted w p q r t = some (v, t') ∧ Ke [122, 123, 124, 132, 133] t t' ∧ (∀ j, j ≠ 2 → t'.1 122 j = t.1 122 j) ∧ IM t' A' (min (n + 1) 6) (psh n Hs A) := by
  obtain ⟨f1, f2, f3, f4, f5⟩ := hF
  obtain ⟨t', a1, a2, a3, a4, a5⟩ := m_acted (A' := A') f1.1 hB' (fun i hi => (f5 i hi).1) f4 (fun z1 e => by
    obtain ⟨z3, b1, b2, b3⟩ := hd z1 (by rw [e]; exact f4.1)
    exact ⟨z3, b1, b2, Or.inr ⟨hv, b3⟩⟩)
  exact ⟨t', a1, a2, a3, a5 hv⟩
theorem row_st {z : Sto} {g : Nat → Int32} {A : Fm} (h : RowM g A) : RowM ((stI z 123 g).1 123) A := by rw [stI_same]; exact h
theorem P0 (a1 a2 : Int32) (h : Inv s t) : ∃ Z : Sto × Sto, st_0 a1 a2 s t = some Z ∧ Inv Z.1 Z.2 := by
  obtain ⟨A, n, Hs, hF, hG, hT, hS, hK⟩ := h
  have hF' := hF
  obtain ⟨f1, f2, f3, f4, f5⟩ := hF
  have no : ∀ {v : Int32}, v < 0 → f_X1_refuseJoint 1 a1 a2 s = some v → (∀ z1 : Sto, RowM (z1.1 123) A → f_X7_joins a1 a2 z1 = some (v, z1)) → ∃ Z : Sto × Sto, st_0 a1 a2 s t = some Z ∧ Inv Z.1 Z.2 := by
    intro v hv hc hm
    obtain ⟨t', b1, b2, b3, b4⟩ := act_no (w := 0) (p := a1) (q := a2) (r := 0) hF' hv (fun z1 r1 => ⟨z1, by rw [do0]; exact hm z1 r1, Ke.rf, r1⟩)
    refine ⟨(s, t'), st_of (r := v) ?_ ?_, Inv_no hF' hG hT hS hK Fr.rf f2 hK b2 b3 b4⟩
    · unfold f_X6_joint
      rw [hc, bds, if_neg (fun e => by rw [e] at hv; exact absurd hv (by decide))]
    · unfold f_X7_joint
      rw [b1, bds2]
  rcases pl_or a1 with ⟨px, hx, rfl⟩ | hx
  · rcases pl_or a2 with ⟨py, hy, rfl⟩ | hy
    · have hc := c_refuseJoint f1.1 f2 hx hy
      by_cases h0 : rfJ A px py = 0
      · rw [h0] at hc
        obtain ⟨w1, hn⟩ := WF_jn f1 hx hy h0
        obtain ⟨s1, c1, c2, c3⟩ := c_startStep f1.1 f2 f3
        obtain ⟨s2, d1, d2, d3⟩ := c_putJoint f1.1 c3 hn px py
        obtain ⟨t', b1, b2, b3, b4⟩ := act_yes (w := 0) (p := iI px) (q := iI py) (r := 0) (v := nI (fN A)) hF' w1.1 (nI_pos (by omega)) (fun z1 r1 => by
          obtain ⟨g, e1, e2⟩ := (m_joins f1.1 r1 hx hy).2 h0
          exact ⟨stI z1 123 g, by rw [do0]; exact e1, Ke.rf.st (by simp), row_st e2⟩)
        refine ⟨(s2, t'), st_of (r := nI (fN A)) ?_ ?_, Inv_act hF' hG hT hS c2 d3 d2 w1 b2 b3 b4⟩
        · unfold f_X6_joint
          rw [hc, bds, if_pos rfl, c1, bds, d1, bds2]
        · unfold f_X7_joint
          rw [b1, bds2]
      · exact no (neg23 (rfJ_v A px py) h0) hc (fun z1 r1 => (m_joins f1.1 r1 hx hy).1 h0)
    · exact no (v := -1) (by decide) (c_refuseJoint_bad (Or.inr hy)) (fun z1 _ => m_joins_bad (Or.inr hy))
  · exact no (v := -1) (by decide) (c_refuseJoint_bad (Or.inl hx)) (fun z1 _ => m_joins_bad (Or.inl hx))
theorem P3 (a1 a2 : Int32) (h : Inv s t) : ∃ Z : Sto × Sto, st_3 a1 a2 s t = some Z ∧ Inv Z.1 Z.2 := by
  obtain ⟨A, n, Hs, hF, hG, hT, hS, hK⟩ := h
  have hF' := hF
  obtain ⟨f1, f2, f3, f4, f5⟩ := hF
  have h6 := f1.1.1
  have no : ∀ {v : Int32}, v < 0 → f_X1_refuseBar 1 a1 a2 s = some v → (∀ z1 : Sto, RowM (z1.1 123) A → f_X7_adds a1 a2 z1 = some (v, z1)) → ∃ Z : Sto × Sto, st_3 a1 a2 s t = some Z ∧ Inv Z.1 Z.2 := by
    intro v hv hc hm
    obtain ⟨t', b1, b2, b3, b4⟩ := act_no (w := 1) (p := a1) (q := a2) (r := 0) hF' hv (fun z1 r1 => ⟨z1, by rw [do1]; exact hm z1 r1, Ke.rf, r1⟩)
    refine ⟨(s, t'), st_of (r := v) ?_ ?_, Inv_no hF' hG hT hS hK Fr.rf f2 hK b2 b3 b4⟩
    · unfold f_X6_bar
      rw [hc, bds, if_neg (fun e => by rw [e] at hv; exact absurd hv (by decide))]
    · unfold f_X7_bar
      rw [b1, bds2]
  have bad : ((a1 < 0 ∨ nI (fN A) ≤ a1) ∨ (a2 < 0 ∨ nI (fN A) ≤ a2) ∨ a1 = a2) → ∃ Z : Sto × Sto, st_3 a1 a2 s t = some Z ∧ Inv Z.1 Z.2 := fun hb => no (v := -1) (by decide) (c_refuseBar_bad f1.1 f2 hb) (fun z1 r1 => m_adds_bad f1.1 r1 hb)
  rcases ix_or a1 (fN A) (by omega) with ⟨a, ha, rfl⟩ | hx
  · rcases ix_or a2 (fN A) (by omega) with ⟨b, hb, rfl⟩ | hy
    · by_cases hab : a = b
      · exact bad (Or.inr (Or.inr (by rw [hab])))
      · have hc := c_refuseBar f1.1 f2 ha hb hab
        by_cases h0 : rfB A a b = 0
        · rw [h0] at hc
          obtain ⟨w1, hn⟩ := WF_br f1 ha hb hab h0
          obtain ⟨s1, c1, c2, c3⟩ := c_startStep f1.1 f2 f3
          obtain ⟨s2, d1, d2, d3⟩ := c_putBar f1.1 c3 hn ha hb
          obtain ⟨t', b1, b2, b3, b4⟩ := act_yes (w := 1) (p := nI a) (q := nI b) (r := 0) (v := nI (fM A)) hF' w1.1 (nI_pos (by omega)) (fun z1 r1 => by
            obtain ⟨g, e1, e2⟩ := (m_adds f1.1 r1 ha hb hab).2 h0
            exact ⟨stI z1 123 g, by rw [do1]; exact e1, Ke.rf.st (by simp), row_st e2⟩)
          refine ⟨(s2, t'), st_of (r := nI (fM A)) ?_ ?_, Inv_act hF' hG hT hS c2 d3 d2 w1 b2 b3 b4⟩
          · unfold f_X6_bar
            rw [hc, bds, if_pos rfl, c1, bds, d1, bds2]
          · unfold f_X7_bar
            rw [b1, bds2]
        · exact no (neg23 (rfB_v A a b) h0) hc (fun z1 r1 => (m_adds f1.1 r1 ha hb hab).1 h0)
    · exact bad (Or.inr (Or.inl hy))
  · exact bad (Or.inl hx)
theorem P1 (a1 a2 a3 : Int32) (h : Inv s t) : ∃ Z : Sto × Sto, st_1 a1 a2 a3 s t = some Z ∧ Inv Z.1 Z.2 := by
  obtain ⟨A, n, Hs, hF, hG, hT, hS, hK⟩ := h
  have hF' := hF
  obtain ⟨f1, f2, f3, f4, f5⟩ := hF
  have h6 := f1.1.1
  have bad : ((a1 < 0 ∨ nI (fN A) ≤ a1) ∨ (a2 < 0 ∨ 5 < a2) ∨ (a3 < 0 ∨ 5 < a3)) → ∃ Z : Sto × Sto, st_1 a1 a2 a3 s t = some Z ∧ Inv Z.1 Z.2 := fun hb => by
    obtain ⟨t', b1, b2, b3, b4⟩ := act_no (w := 2) (p := a1) (q := a2) (r := a3) (v := -1) hF' (by decide) (fun z1 r1 => ⟨z1, by rw [do2]; exact m_moves_bad f1.1 r1 hb, Ke.rf, r1⟩)
    refine ⟨(s, t'), st_of (r := -1) ?_ ?_, Inv_no hF' hG hT hS hK Fr.rf f2 hK b2 b3 b4⟩
    · unfold f_X6_move
      rw [c_refuseMove_bad f1.1 f2 hb, bds2, if_neg (by decide)]
    · unfold f_X7_move
      rw [b1, bds2]
  rcases ix_or a1 (fN A) (by omega) with ⟨j, hj, rfl⟩ | hx
  · rcases pl_or a2 with ⟨px, hx, rfl⟩ | hx
    · rcases pl_or a3 with ⟨py, hy, rfl⟩ | hy
      · obtain ⟨s0, hc, r0, fr0⟩ := c_refuseMove f1.1 f2 hj hx hy
        by_cases h0 : rfM A j px py = 0
        · rw [h0] at hc
          have w1 := WF_mv f1 hx hy h0
          have f3' : IC s0 19 n Hs := IC_congr (fun c a b => fr0.1 c (by omega)) f3
          obtain ⟨s1, c1, c2, c3⟩ := c_startStep f1.1 r0 f3'
          obtain ⟨s2, d1, d2, d3⟩ := c_putAt f1.1 c3 hj px py
          have bo := c_barsOf w1.1 d2 (j := j) hj
          obtain ⟨t', b1, b2, b3, b4⟩ := act_yes (w := 2) (p := nI j) (q := iI px) (r := iI py) (v := nI (dg A j)) hF' w1.1 (nI_pos (by have := dg_le f1.1 j; omega)) (fun z1 r1 => by
            obtain ⟨z3, e1, e2, e3⟩ := m_moves f1.1 r1 hj hx hy
            exact ⟨z3, by rw [do2]; exact (e3 h0).1, e1, (e3 h0).2⟩)
          have hF2 : IF s0 t A n Hs := ⟨f1, r0, f3', f4, f5⟩
          have hG2 : IG s0 t := IG_k hG (by rw [fr0.1 0 (by omega)]) (fun c h => fr0.1 c (by omega)) rfl rfl rfl
          have hT2 : IT s0 t := IT_k hT (by rw [fr0.1 111 (by omega)]) (fr0.1 112 (by omega)) rfl rfl
          have hS2 : IS s0 t := IS_k hS (fun c a b => ⟨fr0.1 c (by omega), by rw [fr0.2]⟩) rfl rfl rfl
          refine ⟨(s2, t'), st_of (r := nI (dg A j)) ?_ ?_, Inv_act hF2 hG2 hT2 hS2 c2 d3 d2 w1 b2 b3 b4⟩
          · unfold f_X6_move
            rw [hc, bds2, if_pos rfl, c1, bds, d1, bds, bo, bds]
            rfl
          · unfold f_X7_move
            rw [b1, bds2]
        · have hv := neg23 (rfM_v A j px py) h0
          obtain ⟨t', b1, b2, b3, b4⟩ := act_no (w := 2) (p := nI j) (q := iI px) (r := iI py) hF' hv (fun z1 r1 => by
            obtain ⟨z3, e1, e2, e3⟩ := m_moves f1.1 r1 hj hx hy
            exact ⟨z3, by rw [do2]; exact (e2 h0).1, e1, (e2 h0).2⟩)
          refine ⟨(s0, t'), st_of (r := rfM A j px py) ?_ ?_, Inv_no hF' hG hT hS hK fr0 r0 (IK_fr fr0 hK) b2 b3 b4⟩
          · unfold f_X6_move
            rw [hc, bds2, if_neg h0]
          · unfold f_X7_move
            rw [b1, bds2]
      · exact bad (Or.inr (Or.inr hy))
    · exact bad (Or.inr (Or.inl hx))
  · exact bad (Or.inl hx)
theorem P2 (a1 : Int32) (h : Inv s t) : ∃ Z : Sto × Sto, st_2 a1 s t = some Z ∧ Inv Z.1 Z.2 := by
  obtain ⟨A, n, Hs, hF, hG, hT, hS, hK⟩ := h
  have hF' := hF
  obtain ⟨f1, f2, f3, f4, f5⟩ := hF
  have h6 := f1.1.1
  rcases ix_or a1 (fN A) (by omega) with ⟨j, hj, rfl⟩ | hx
  · have w1 := WF_lsF f1 hj
    obtain ⟨s1, c1, c2, c3⟩ := c_startStep f1.1 f2 f3
    obtain ⟨s2, d1, d2, d3⟩ := c_loseJoint f1.1 c3 hj
    obtain ⟨t', b1, b2, b3, b4⟩ := act_yes (w := 5) (p := nI j) (q := 0) (r := 0) (v := nI (fM (lsF A j))) hF' w1.1 (nI_pos (by have := w1.1.2.1; omega)) (fun z1 r1 => by
      obtain ⟨g, e1, e2⟩ := m_loses f1.1 r1 hj
      exact ⟨stI z1 123 g, by rw [do5]; exact e1, Ke.rf.st (by simp), row_st e2⟩)
    refine ⟨(s2, t'), st_of (r := nI (fM (lsF A j))) ?_ ?_, Inv_act hF' hG hT hS c2 d3 d2 w1 b2 b3 b4⟩
    · unfold f_X6_lose
      rw [c_hasJoint f1.1 f2 hj, bds, if_neg (by decide), c1, bds, d1, bds, d2.1.2.1]
    · unfold f_X7_lose
      rw [b1, bds2]
  · obtain ⟨t', b1, b2, b3, b4⟩ := act_no (w := 5) (p := a1) (q := 0) (r := 0) (v := -1) hF' (by decide) (fun z1 r1 => ⟨z1, by rw [do5]; exact m_loses_bad f1.1 r1 hx, Ke.rf, r1⟩)
    refine ⟨(s, t'), st_of (r := -1) ?_ ?_, Inv_no hF' hG hT hS hK Fr.rf f2 hK b2 b3 b4⟩
    · unfold f_X6_lose
      rw [c_noJoint f1.1 f2 hx, bds, if_pos rfl]
    · unfold f_X7_lose
      rw [b1, bds2]
theorem P4 (a1 : Int32) (h : Inv s t) : ∃ Z : Sto × Sto, st_4 a1 s t = some Z ∧ Inv Z.1 Z.2 := by
  obtain ⟨A, n, Hs, hF, hG, hT, hS, hK⟩ := h
  have hF' := hF
  obtain ⟨f1, f2, f3, f4, f5⟩ := hF
  have h9 := f1.1.2.1
  rcases ix_or a1 (fM A) (by omega) with ⟨j, hj, rfl⟩ | hx
  · have w1 := WF_ot f1 hj
    obtain ⟨s1, c1, c2, c3⟩ := c_startStep f1.1 f2 f3
    obtain ⟨s2, d1, d2, d3⟩ := c_takeOut f1.1 c3 hj
    obtain ⟨t', b1, b2, b3, b4⟩ := act_yes (w := 3) (p := nI j) (q := 0) (r := 0) (v := nI (fM A - 1)) hF' w1.1 (nI_pos (by omega)) (fun z1 r1 => by
      obtain ⟨g, e1, e2⟩ := m_takesOut f1.1 r1 hj
      exact ⟨stI z1 123 g, by rw [do3]; exact e1, Ke.rf.st (by simp), row_st e2⟩)
    refine ⟨(s2, t'), st_of (r := nI (fM A - 1)) ?_ ?_, Inv_act hF' hG hT hS c2 d3 d2 w1 b2 b3 b4⟩
    · unfold f_X6_out
      rw [c_hasBar f1.1 f2 hj, bds, if_neg (by decide), c1, bds, d1, bds, d2.1.2.1]
      rfl
    · unfold f_X7_out
      rw [b1, bds2]
  · obtain ⟨t', b1, b2, b3, b4⟩ := act_no (w := 3) (p := a1) (q := 0) (r := 0) (v := -1) hF' (by decide) (fun z1 r1 => ⟨z1, by rw [do3]; exact m_takesOut_bad f1.1 r1 hx, Ke.rf, r1⟩)
    refine ⟨(s, t'), st_of (r := -1) ?_ ?_, Inv_no hF' hG hT hS hK Fr.rf f2 hK b2 b3 b4⟩
    · unfold f_X6_out
      rw [c_noBar f1.1 f2 hx, bds, if_pos rfl]
    · unfold f_X7_out
      rw [b1, bds2]
theorem P5 (a1 a2 : Int32) (h : Inv s t) : ∃ Z : Sto × Sto, st_5 a1 a2 s t = some Z ∧ Inv Z.1 Z.2 := by
  obtain ⟨A, n, Hs, hF, hG, hT, hS, hK⟩ := h
  have hF' := hF
  obtain ⟨f1, f2, f3, f4, f5⟩ := hF
  have hW := f1.2.2.2.2.1
  have no : ∀ {v : Int32}, v < 0 → f_X1_refuseWeight 1 a1 a2 s = some v → (∀ z1 : Sto, RowM (z1.1 123) A → f_X7_weighs a1 a2 z1 = some (v, z1)) → ∃ Z : Sto × Sto, st_5 a1 a2 s t = some Z ∧ Inv Z.1 Z.2 := by
    intro v hv hc hm
    obtain ⟨t', b1, b2, b3, b4⟩ := act_no (w := 4) (p := a1) (q := a2) (r := 0) hF' hv (fun z1 r1 => ⟨z1, by rw [do4]; exact hm z1 r1, Ke.rf, r1⟩)
    refine ⟨(s, t'), st_of (r := v) ?_ ?_, Inv_no hF' hG hT hS hK Fr.rf f2 hK b2 b3 b4⟩
    · unfold f_X6_weight
      rw [hc, bds, if_neg (fun e => by rw [e] at hv; exact absurd hv (by decide))]
    · unfold f_X7_weight
      rw [b1, bds2]
  rcases wt_or a1 a2 with ⟨j, v, hj, hv, rfl, rfl⟩ | hb
  · have hc := c_refuseWeight hW f2 hj hv
    by_cases h0 : rfW A j v = 0
    · rw [h0] at hc
      have w1 := WF_wt (j := j) f1 hv
      obtain ⟨s1, c1, c2, c3⟩ := c_startStep f1.1 f2 f3
      obtain ⟨d2, d3⟩ := c_putWeight c3 hj v
      have wv := hW j hj
      have e5 := c3.2.2.2.2.2 j hj
      obtain ⟨t', b1, b2, b3, b4⟩ := act_yes (w := 4) (p := nI j) (q := iI v) (r := 0) (v := iI (fW A j + 9)) hF' w1.1 (fun e => by have := (iI_lt0 (by omega) (by omega)).mp e; omega) (fun z1 r1 => by
        obtain ⟨g, e1, e2⟩ := (m_weighs f1.1 hW r1 hj hv).2 h0
        exact ⟨stI z1 123 g, by rw [do4]; exact e1, Ke.rf.st (by simp), row_st e2⟩)
      refine ⟨(_, t'), st_of (r := iI (fW A j + 9)) ?_ ?_, Inv_act hF' hG hT hS c2 d3 d2 w1 b2 b3 b4⟩
      · unfold f_X6_weight
        rw [hc, bds, if_pos rfl, c1, bds, rdI_nI (by omega) (by omega), bds, wrI_nI (by omega) (by omega), bds]
        have e5 : s1.1 6 j = iI (fW A j) := e5
        rw [e5, show (9 : Int32) = iI 9 from rfl, iI_add]
        rfl
      · unfold f_X7_weight
        rw [b1, bds2]
    · exact no (neg23 (rfW_v A j v) h0) hc (fun z1 r1 => (m_weighs f1.1 hW r1 hj hv).1 h0)
  · exact no (v := -1) (by decide) (c_refuseWeight_bad hb) (fun z1 _ => m_weighs_bad hb)
end
