/-! turns of a DRIFT -/
def dw (x : Int32) : Int32 := Int64.toInt32 (((Int32.toInt64 x * (1103515245 : Int64)) + (12345 : Int64)) &&& (2147483647 : Int64))
theorem dw_v (x : Int32) : ∃ D : Nat, D < 2147483648 ∧ dw x = nI D := by
  have h : ¬ dw x < 0 := by
    unfold dw
    generalize (Int32.toInt64 x * (1103515245 : Int64)) + (12345 : Int64) = y
    rw [Int32.lt_iff_toInt_lt]
    have e : (y &&& (2147483647 : Int64)).toInt32.toInt = ((y &&& (2147483647 : Int64)).toInt32.toBitVec).toInt := rfl
    have m : (y &&& (2147483647 : Int64)).toInt32.toBitVec.msb = false := by
      have : (y &&& (2147483647 : Int64)).toInt32.toBitVec = (y.toBitVec &&& (2147483647 : Int64).toBitVec).setWidth 32 ∨ True := Or.inr trivial
      show ((y &&& (2147483647 : Int64)).toBitVec.signExtend 32).msb = false
      rw [BitVec.msb_eq_getLsbD_last, BitVec.getLsbD_signExtend, Int64.toBitVec_and, BitVec.getLsbD_and]
      have c : (2147483647 : Int64).toBitVec.getLsbD (32 - 1) = false := by decide
      rw [c]
      simp
    have z : (0 : Int32).toInt = 0 := rfl
    rw [e, z]
    have := BitVec.toInt_nonneg_of_msb_false m
    omega
  obtain ⟨j, j1, j2⟩ := nI_of h
  exact ⟨j, by omega, j2⟩
section
variable {z1 z4 : Sto} {B : Fm}
theorem opJ (hw : WF B) (r1 : RepC z1 1 B) (r4 : RowM (z4.1 123) B) {p q : Nat} (hp : p < 6) (hq : q < 6) : ∃ (B' : Fm) (z1' : Sto) (v : Int32) (z4' : Sto), WF B' ∧ (bd (f_X1_refuseJoint 1 (nI p) (nI q) z1) fun t7 => if t7 = nI 0 then (bd2 (f_X1_putJoint 1 (nI p) (nI q) z1) fun t9 z10 => some z10) else (some z1)) = some z1' ∧ RepC z1' 1 B' ∧ Fr 1 z1 z1' ∧ f_X7_does 0 (nI p) (nI q) 0 z4 = some (v, z4') ∧ Ke [123, 132] z4 z4' ∧ RowM (z4'.1 123) B' := by
  have hx : (0 : Int) ≤ (p : Int) ∧ (p : Int) ≤ 5 := by omega
  have hy : (0 : Int) ≤ (q : Int) ∧ (q : Int) ≤ 5 := by omega
  have hc := c_refuseJoint hw.1 r1 hx hy
  rw [nI_iI, nI_iI, hc, bds]
  by_cases h0 : rfJ B p q = 0
  · obtain ⟨w1, hn⟩ := WF_jn hw hx hy h0
    obtain ⟨s2, d1, d2, d3⟩ := c_putJoint hw.1 r1 hn p q
    obtain ⟨g, e1, e2⟩ := (m_joins hw.1 r4 hx hy).2 h0
    rw [if_pos (show _ = nI 0 from h0)]
    exact ⟨_, s2, _, _, w1, by rw [d1, bds2], d2, d3, by rw [do0]; exact e1, Ke.rf.st (by simp), row_st e2⟩
  · rw [if_neg (show ¬ _ = nI 0 from h0)]
    exact ⟨B, z1, _, _, hw, rfl, r1, Fr.rf, by rw [do0]; exact (m_joins hw.1 r4 hx hy).1 h0, Ke.rf, r4⟩
theorem opB (hw : WF B) (r1 : RepC z1 1 B) (r4 : RowM (z4.1 123) B) {p q : Nat} (hp : p < 6) (hq : q < 6) : ∃ (B' : Fm) (z1' : Sto) (v : Int32) (z4' : Sto), WF B' ∧ (bd (f_X1_refuseBar 1 (nI p) (nI q) z1) fun t12 => if t12 = nI 0 then (bd2 (f_X1_putBar 1 (nI p) (nI q) z1) fun t14 z15 => some z15) else (some z1)) = some z1' ∧ RepC z1' 1 B' ∧ Fr 1 z1 z1' ∧ f_X7_does 1 (nI p) (nI q) 0 z4 = some (v, z4') ∧ Ke [123, 132] z4 z4' ∧ RowM (z4'.1 123) B' := by
  have h6 := hw.1.1
  by_cases hb : p < fN B ∧ q < fN B ∧ p ≠ q
  · have hc := c_refuseBar hw.1 r1 hb.1 hb.2.1 hb.2.2
    rw [hc, bds]
    by_cases h0 : rfB B p q = 0
    · obtain ⟨w1, hn⟩ := WF_br hw hb.1 hb.2.1 hb.2.2 h0
      obtain ⟨s2, d1, d2, d3⟩ := c_putBar hw.1 r1 hn hb.1 hb.2.1
      obtain ⟨g, e1, e2⟩ := (m_adds hw.1 r4 hb.1 hb.2.1 hb.2.2).2 h0
      rw [if_pos (show _ = nI 0 from h0)]
      exact ⟨_, s2, _, _, w1, by rw [d1, bds2], d2, d3, by rw [do1]; exact e1, Ke.rf.st (by simp), row_st e2⟩
    · rw [if_neg (show ¬ _ = nI 0 from h0)]
      exact ⟨B, z1, _, _, hw, rfl, r1, Fr.rf, by rw [do1]; exact (m_adds hw.1 r4 hb.1 hb.2.1 hb.2.2).1 h0, Ke.rf, r4⟩
  · have bad : (nI p < 0 ∨ nI (fN B) ≤ nI p) ∨ (nI q < 0 ∨ nI (fN B) ≤ nI q) ∨ nI p = nI q := by
      by_cases c1 : p < fN B
      · by_cases c2 : q < fN B
        · exact Or.inr (Or.inr (by rw [show p = q by omega]))
        · exact Or.inr (Or.inl (Or.inr (nI_le (by omega) (by omega))))
      · exact Or.inl (Or.inr (nI_le (by omega) (by omega)))
    rw [c_refuseBar_bad hw.1 r1 bad, bds, if_neg (by decide)]
    exact ⟨B, z1, _, _, hw, rfl, r1, Fr.rf, by rw [do1]; exact m_adds_bad hw.1 r4 bad, Ke.rf, r4⟩
theorem opM (hw : WF B) (r1 : RepC z1 1 B) (r4 : RowM (z4.1 123) B) {p q r : Nat} (hp : p < 6) (hq : q < 6) (hr : r < 6) : ∃ (B' : Fm) (z1' : Sto) (v : Int32) (z4' : Sto), WF B' ∧ (bd2 (f_X1_refuseMove 1 (nI p) (nI q) (nI r) z1) fun t32 z33 => if t32 = nI 0 then (bd (f_X1_putAt 1 (nI p) (nI q) (nI r) z33) fun z36 => some z36) else (some z33)) = some z1' ∧ RepC z1' 1 B' ∧ Fr 1 z1 z1' ∧ f_X7_does 2 (nI p) (nI q) (nI r) z4 = some (v, z4') ∧ Ke [123, 132] z4 z4' ∧ RowM (z4'.1 123) B' := by
  have h6 := hw.1.1
  have hx : (0 : Int) ≤ (q : Int) ∧ (q : Int) ≤ 5 := by omega
  have hy : (0 : Int) ≤ (r : Int) ∧ (r : Int) ≤ 5 := by omega
  by_cases hj : p < fN B
  · obtain ⟨s0, hc, r0, fr0⟩ := c_refuseMove hw.1 r1 hj hx hy
    obtain ⟨z3, e1, e2, e3⟩ := m_moves hw.1 r4 hj hx hy
    rw [nI_iI q, nI_iI r, hc, bds2]
    by_cases h0 : rfM B p q r = 0
    · obtain ⟨s2, d1, d2, d3⟩ := c_putAt hw.1 r0 hj q r
      rw [if_pos (show _ = nI 0 from h0)]
      exact ⟨_, s2, _, z3, WF_mv hw hx hy h0, by rw [d1, bds], d2, fr0.tr d3, by rw [do2]; exact (e3 h0).1, e1, (e3 h0).2⟩
    · rw [if_neg (show ¬ _ = nI 0 from h0)]
      exact ⟨B, s0, _, z3, hw, rfl, r0, fr0, by rw [do2]; exact (e2 h0).1, e1, (e2 h0).2⟩
  · have bad : (nI p < 0 ∨ nI (fN B) ≤ nI p) ∨ (nI q < 0 ∨ 5 < nI q) ∨ (nI r < 0 ∨ 5 < nI r) := Or.inl (Or.inr (nI_le (by omega) (by omega)))
    rw [c_refuseMove_bad hw.1 r1 bad, bds2, if_neg (by decide)]
    exact ⟨B, z1, _, _, hw, rfl, r1, Fr.rf, by rw [do2]; exact m_moves_bad hw.1 r4 bad, Ke.rf, r4⟩
theorem opO (hw : WF B) (r1 : RepC z1 1 B) (r4 : RowM (z4.1 123) B) {p : Nat} (hp : p < 6) : ∃ (B' : Fm) (z1' : Sto) (v : Int32) (z4' : Sto), WF B' ∧ (bd (f_X1_hasBar 1 (nI p) z1) fun t38 => if t38 = nI 0 then (some z1) else (bd (f_X1_takeOut 1 (nI p) z1) fun z41 => some z41)) = some z1' ∧ RepC z1' 1 B' ∧ Fr 1 z1 z1' ∧ f_X7_does 3 (nI p) 0 0 z4 = some (v, z4') ∧ Ke [123, 132] z4 z4' ∧ RowM (z4'.1 123) B' := by
  have h9 := hw.1.2.1
  by_cases hj : p < fM B
  · obtain ⟨s2, d1, d2, d3⟩ := c_takeOut hw.1 r1 hj
    obtain ⟨g, e1, e2⟩ := m_takesOut hw.1 r4 hj
    rw [c_hasBar hw.1 r1 hj, bds, if_neg (by decide)]
    exact ⟨_, s2, _, _, WF_ot hw hj, by rw [d1, bds], d2, d3, by rw [do3]; exact e1, Ke.rf.st (by simp), row_st e2⟩
  · have bad : nI p < 0 ∨ nI (fM B) ≤ nI p := Or.inr (nI_le (by omega) (by omega))
    rw [c_noBar hw.1 r1 bad, bds, if_pos (by decide)]
    exact ⟨B, z1, _, _, hw, rfl, r1, Fr.rf, by rw [do3]; exact m_takesOut_bad hw.1 r4 bad, Ke.rf, r4⟩
theorem opW (hw : WF B) (r1 : RepC z1 1 B) (r4 : RowM (z4.1 123) B) {p : Nat} {u : Int} (hp : p < 6) (hu : -9 ≤ u ∧ u ≤ 9) : ∃ (B' : Fm) (z1' : Sto) (v : Int32) (z4' : Sto), WF B' ∧ (bd (f_X1_refuseWeight 1 (nI p) (iI u) z1) fun t43 => if t43 = nI 0 then (bd (wrI z1 6 9 (nI p) (iI u)) fun z45 => some z45) else (some z1)) = some z1' ∧ RepC z1' 1 B' ∧ Fr 1 z1 z1' ∧ f_X7_does 4 (nI p) (iI u) 0 z4 = some (v, z4') ∧ Ke [123, 132] z4 z4' ∧ RowM (z4'.1 123) B' := by
  have hW := hw.2.2.2.2.1
  have hc := c_refuseWeight hW r1 (j := p) (by omega) hu
  rw [hc, bds]
  by_cases h0 : rfW B p u = 0
  · obtain ⟨d2, d3⟩ := c_putWeight r1 (j := p) (by omega) u
    obtain ⟨g, e1, e2⟩ := (m_weighs hw.1 hW r4 (j := p) (by omega) hu).2 h0
    rw [if_pos (show _ = nI 0 from h0), wrI_nI (by omega) (by omega), bds]
    exact ⟨_, _, _, _, WF_wt hw hu, rfl, d2, d3, by rw [do4]; exact e1, Ke.rf.st (by simp), row_st e2⟩
  · rw [if_neg (show ¬ _ = nI 0 from h0)]
    exact ⟨B, z1, _, _, hw, rfl, r1, Fr.rf, by rw [do4]; exact (m_weighs hw.1 hW r4 (j := p) (by omega) hu).1 h0, Ke.rf, r4⟩
end
def DI (s t : Sto) : Prop := ∃ (A : Fm) (n : Nat) (Hs : Nat → Fm), IF s t A n Hs ∧ IG s t ∧ IT s t ∧ IS s t
section
variable {s t : Sto}
theorem turn1 (h : DI s t) : ∃ s' t', (bd (f_X6_startStep s) fun z5 => f_X6_driftOnce z5) = some s' ∧ f_X7_turns t = some t' ∧ DI s' t' ∧ s'.1 0 10 = 0 := by
  obtain ⟨A, n, Hs, hF, hG, hT, hS⟩ := h
  obtain ⟨f1, f2, f3, f4, f5⟩ := hF
  have h6 := f1.1.1
  have h9 := f1.1.2.1
  obtain ⟨s5, a1, a2, a3⟩ := c_startStep f1.1 f2 f3
  obtain ⟨t2, b1, b2, b3, b4, b5⟩ := m_notes f1.1 (fun i hi => (f5 i hi).1) f4
  obtain ⟨D, d1, d2⟩ := dw_v (iI (fD A))
  have wB : WF (dr A D) := WF_dr f1 ⟨by omega, by omega⟩
  obtain ⟨z1, hz1⟩ : ∃ z1, z1 = upI s5 1 2 (nI D) := ⟨_, rfl⟩
  obtain ⟨z4, hz4⟩ : ∃ z4, z4 = stI t2 123 (upd (t2.1 123) 2 (nI D)) := ⟨_, rfl⟩
  obtain ⟨p1, p2⟩ := c_putDraw a3 (D : Int)
  rw [← nI_iI, ← hz1] at p1 p2
  have r4 : RowM (z4.1 123) (dr A D) := by
    rw [hz4, stI_same]
    refine ⟨⟨?_, ?_, ?_⟩, fun j hj => ?_, fun j hj => ?_, fun k hk => ?_, fun k hk => ?_, fun j hj => ?_⟩
    · rw [upd_at, if_neg (by omega)]; exact b5.1.1.1
    · rw [upd_at, if_neg (by omega)]; exact b5.1.1.2.1
    · rw [upd_at, if_pos rfl]; exact nI_iI D
    · rw [upd_at, if_neg (by omega)]; exact b5.1.2.1 j hj
    · rw [upd_at, if_neg (by omega)]; exact b5.1.2.2.1 j hj
    · rw [upd_at, if_neg (by omega)]; exact b5.1.2.2.2.1 k hk
    · rw [upd_at, if_neg (by omega)]; exact b5.1.2.2.2.2.1 k hk
    · rw [upd_at, if_neg (by omega)]; exact b5.1.2.2.2.2.2 j hj
  have k4 : Ke [122, 123, 124] t z4 := by rw [hz4]; exact (b2.mono (by simp)).tr (Ke.rf.st (by simp))
  have v1 : s5.1 1 2 = iI (fD A) := a3.1.2.2
  have v2 : t2.1 123 2 = iI (fD A) := b5.1.1.2.2
  have v3 : z1.1 1 2 = nI D := by rw [hz1, upI_at, if_pos ⟨rfl, rfl⟩]
  have v4 : z4.1 123 2 = nI D := by rw [hz4, stI_same, upd_at, if_pos rfl]
  -- what either does then
  have fin : ∀ (B' : Fm) (z1' : Sto) (v : Int32) (z4' : Sto), WF B' → RepC z1' 1 B' → Fr 1 z1 z1' → Ke [123, 132] z4 z4' → RowM (z4'.1 123) B' → DI z1' (upI z4' 122 17 v) ∧ z1'.1 0 10 = 0 := by
    intro B' z1' v z4' w1 w2 w3 w4 w5
    obtain ⟨q1, q2, q3, q4, q5⟩ := a2
    have fr : Fr 1 s5 z1' := p2.tr w3
    have e : ∀ c, (7 ≤ c ∧ c < 19) ∨ 56 < c → z1'.1 c = s.1 c := fun c h => (fr.1 c (by omega)).trans (q1 c (by omega) (by omega))
    have e0 : z1'.1 0 = s5.1 0 := fr.1 0 (by omega)
    have et : ∀ c, c ≠ 122 → c ≠ 123 → c ≠ 124 → c ≠ 132 → (upI z4' 122 17 v).1 c = t.1 c := fun c h1 h2 h3 h5 => by rw [upI_ne h1, w4.1 c (by simp [h2, h5]), k4.1 c (by simp [h1, h2, h3])]
    have e122 : ∀ j, j ≠ 17 → (upI z4' 122 17 v).1 122 j = t2.1 122 j := fun j hj => by rw [upI_at, if_neg (by omega), w4.1 122 (by simp), hz4, stI_ne (by decide)]
    refine ⟨⟨B', min (n + 1) 6, psh n Hs A, ⟨w1, w2, IC_congr (fun c p q => fr.1 c (by omega)) q5, ⟨?_, ⟨b5.2.1.1, (e122 2 (by omega)).trans b5.2.1.2⟩, fun i hi => ?_⟩, HW_psh f1 f5 f4.2.1.1⟩, IG_k hG (by rw [e0, q4]) (fun c h => e c (by omega)) ((e122 5 (by omega)).trans (b4 5 (by omega))) (et _ (by omega) (by omega) (by omega) (by omega)) (et _ (by omega) (by omega) (by omega) (by omega)), IT_k hT (by rw [e 111 (by omega)]) (e 112 (by omega)) ((e122 7 (by omega)).trans (b4 7 (by omega))) (et _ (by omega) (by omega) (by omega) (by omega)), IS_k hS (fun c a b => ⟨e c (by omega), by rw [fr.2, q2]⟩) (et _ (by omega) (by omega) (by omega) (by omega)) (et _ (by omega) (by omega) (by omega) (by omega)) ?_⟩, by rw [e0]; exact q3⟩
    · rw [upI_ne (by decide)]; exact w5
    · rw [upI_ne (by decide), w4.1 124 (by simp), hz4, stI_ne (by decide)]; exact b5.2.2 i hi
    · show z4'.2 130 = _
      rw [w4.2 130 (by simp), k4.2 130 (by simp)]
  -- the numbers drawn
  obtain ⟨V, hV⟩ : ∃ V, V = D / 65536 := ⟨_, rfl⟩
  have hVl : V < 32768 := by omega
  have hvD : nI D / (65536 : Int32) = nI V := by rw [hV]; exact pk_div (d := 65536) (by omega) (by omega) (by omega)
  have d8 : nI V / (8 : Int32) = nI (V / 8) := pk_div (d := 8) (by omega) (by omega) (by omega)
  have d64 : nI V / (64 : Int32) = nI (V / 64) := pk_div (d := 64) (by omega) (by omega) (by omega)
  have d512 : nI V / (512 : Int32) = nI (V / 512) := pk_div (d := 512) (by omega) (by omega) (by omega)
  obtain ⟨k, hk⟩ : ∃ k, k = V % 8 := ⟨_, rfl⟩
  obtain ⟨p, hp⟩ : ∃ p, p = V / 8 % 6 := ⟨_, rfl⟩
  obtain ⟨q, hq⟩ : ∃ q, q = V / 64 % 6 := ⟨_, rfl⟩
  obtain ⟨r, hr⟩ : ∃ r, r = V / 512 % 6 := ⟨_, rfl⟩
  have ek : nI V - nI V / (8 : Int32) * (8 : Int32) = nI k := by rw [hk]; exact pk_rem (d := 8) (by omega) (by omega) (by omega)
  have ep : nI V / (8 : Int32) - nI V / (8 : Int32) / (6 : Int32) * (6 : Int32) = nI p := by rw [d8, hp]; exact pk_rem (d := 6) (by omega) (by omega) (by omega)
  have eq : nI V / (64 : Int32) - nI V / (64 : Int32) / (6 : Int32) * (6 : Int32) = nI q := by rw [d64, hq]; exact pk_rem (d := 6) (by omega) (by omega) (by omega)
  have er : nI V / (512 : Int32) - nI V / (512 : Int32) / (6 : Int32) * (6 : Int32) = nI r := by rw [d512, hr]; exact pk_rem (d := 6) (by omega) (by omega) (by omega)
  have hk8 : k < 8 := by omega
  have hp : p < 6 := by omega
  have hq : q < 6 := by omega
  have hr : r < 6 := by omega
  have hsub : nI q + nI r - (5 : Int32) = iI (((q + r : Nat) : Int) - 5) := by rw [nI_add, nI_iI, show (5 : Int32) = iI 5 from rfl, iI_sub]
  rw [a1, bds]
  unfold f_X6_driftOnce f_X7_turns
  rw [b1, bds, show (2 : Int32) = nI 2 from rfl, rdI_nI (by omega) (by omega), bds, v1, v2]
  rw [show Int64.toInt32 (((Int32.toInt64 (iI (fD A)) * (1103515245 : Int64)) + (12345 : Int64)) &&& (2147483647 : Int64)) = nI D from d2, wrI_nI (by omega) (by omega), bds, lts]
  rw [show upI t2 123 2 (nI D) = z4 by rw [hz4]; rfl, ← hz1, rdI_nI (by omega) (by omega), bds, v3, v4, hvD]
  simp only [lts, ep, eq, er, ek]
  have J := opJ wB p1 r4 hp hq
  have Bb := opB wB p1 r4 hp hq
  have M := opM wB p1 r4 hp hq hr
  have O := opO wB p1 r4 hp
  have W := opW wB p1 r4 (u := ((q + r : Nat) : Int) - 5) hp ⟨by omega, by omega⟩
  rcases (show k = 0 ∨ k = 1 ∨ k = 2 ∨ k = 3 ∨ k = 4 ∨ k = 5 ∨ k = 6 ∨ k = 7 by omega) with h | h | h | h | h | h | h | h
  · rw [h]
    rw [if_pos (show nI 0 = (0 : Int32) from rfl), if_pos (show nI 0 = (0 : Int32) from rfl)]
    obtain ⟨B', z1', v, z4', c1, c2, c3, c4, c5, c6, c7⟩ := J
    exact ⟨z1', _, c2, by rw [c5, bds2], fin B' z1' v z4' c1 c3 c4 c6 c7⟩
  · rw [h]
    rw [if_neg (show ¬ nI 1 = (0 : Int32) by decide), if_neg (show ¬ nI 1 = (0 : Int32) by decide), if_pos (show nI 1 = (1 : Int32) from rfl), if_neg (show ¬ (5 : Int32) ≤ nI 1 by decide)]
    obtain ⟨B', z1', v, z4', c1, c2, c3, c4, c5, c6, c7⟩ := Bb
    exact ⟨z1', _, c2, by rw [c5, bds2], fin B' z1' v z4' c1 c3 c4 c6 c7⟩
  · rw [h]
    rw [if_neg (show ¬ nI 2 = (0 : Int32) by decide), if_neg (show ¬ nI 2 = (0 : Int32) by decide), if_neg (show ¬ nI 2 = (1 : Int32) by decide), if_pos (show nI 2 = nI 2 from rfl), if_neg (show ¬ (5 : Int32) ≤ nI 2 by decide)]
    obtain ⟨B', z1', v, z4', c1, c2, c3, c4, c5, c6, c7⟩ := Bb
    exact ⟨z1', _, c2, by rw [c5, bds2], fin B' z1' v z4' c1 c3 c4 c6 c7⟩
  · rw [h]
    rw [if_neg (show ¬ nI 3 = (0 : Int32) by decide), if_neg (show ¬ nI 3 = (0 : Int32) by decide), if_neg (show ¬ nI 3 = (1 : Int32) by decide), if_neg (show ¬ nI 3 = nI 2 by decide), if_pos (show nI 3 = (3 : Int32) from rfl), if_neg (show ¬ (5 : Int32) ≤ nI 3 by decide)]
    obtain ⟨B', z1', v, z4', c1, c2, c3, c4, c5, c6, c7⟩ := Bb
    exact ⟨z1', _, c2, by rw [c5, bds2], fin B' z1' v z4' c1 c3 c4 c6 c7⟩
  · rw [h]
    rw [if_neg (show ¬ nI 4 = (0 : Int32) by decide), if_neg (show ¬ nI 4 = (0 : Int32) by decide), if_neg (show ¬ nI 4 = (1 : Int32) by decide), if_neg (show ¬ nI 4 = nI 2 by decide), if_neg (show ¬ nI 4 = (3 : Int32) by decide), if_pos (show nI 4 = (4 : Int32) from rfl), if_neg (show ¬ (5 : Int32) ≤ nI 4 by decide)]
    obtain ⟨B', z1', v, z4', c1, c2, c3, c4, c5, c6, c7⟩ := Bb
    exact ⟨z1', _, c2, by rw [c5, bds2], fin B' z1' v z4' c1 c3 c4 c6 c7⟩
  · rw [h]
    rw [if_neg (show ¬ nI 5 = (0 : Int32) by decide), if_neg (show ¬ nI 5 = (0 : Int32) by decide), if_neg (show ¬ nI 5 = (1 : Int32) by decide), if_neg (show ¬ nI 5 = nI 2 by decide), if_neg (show ¬ nI 5 = (3 : Int32) by decide), if_neg (show ¬ nI 5 = (4 : Int32) by decide), if_pos (show nI 5 = (5 : Int32) from rfl), if_pos (show (5 : Int32) ≤ nI 5 by decide), if_pos (show nI 5 = (5 : Int32) from rfl)]
    obtain ⟨B', z1', v, z4', c1, c2, c3, c4, c5, c6, c7⟩ := M
    exact ⟨z1', _, c2, by rw [show f_X7_does (nI 2) (nI p) (nI q) (nI r) z4 = _ from c5, bds2], fin B' z1' v z4' c1 c3 c4 c6 c7⟩
  · rw [h]
    rw [if_neg (show ¬ nI 6 = (0 : Int32) by decide), if_neg (show ¬ nI 6 = (0 : Int32) by decide), if_neg (show ¬ nI 6 = (1 : Int32) by decide), if_neg (show ¬ nI 6 = nI 2 by decide), if_neg (show ¬ nI 6 = (3 : Int32) by decide), if_neg (show ¬ nI 6 = (4 : Int32) by decide), if_neg (show ¬ nI 6 = (5 : Int32) by decide), if_pos (show nI 6 = (6 : Int32) from rfl), if_pos (show (5 : Int32) ≤ nI 6 by decide), if_neg (show ¬ nI 6 = (5 : Int32) by decide), if_pos (show nI 6 = (6 : Int32) from rfl)]
    obtain ⟨B', z1', v, z4', c1, c2, c3, c4, c5, c6, c7⟩ := O
    exact ⟨z1', _, c2, by rw [c5, bds2], fin B' z1' v z4' c1 c3 c4 c6 c7⟩
  · rw [h]
    rw [if_neg (show ¬ nI 7 = (0 : Int32) by decide), if_neg (show ¬ nI 7 = (0 : Int32) by decide), if_neg (show ¬ nI 7 = (1 : Int32) by decide), if_neg (show ¬ nI 7 = nI 2 by decide), if_neg (show ¬ nI 7 = (3 : Int32) by decide), if_neg (show ¬ nI 7 = (4 : Int32) by decide), if_neg (show ¬ nI 7 = (5 : Int32) by decide), if_neg (show ¬ nI 7 = (6 : Int32) by decide), if_pos (show nI 7 = (7 : Int32) from rfl), if_pos (show (5 : Int32) ≤ nI 7 by decide), if_neg (show ¬ nI 7 = (5 : Int32) by decide), if_neg (show ¬ nI 7 = (6 : Int32) by decide), hsub]
    obtain ⟨B', z1', v, z4', c1, c2, c3, c4, c5, c6, c7⟩ := W
    exact ⟨z1', _, c2, by rw [c5, bds2], fin B' z1' v z4' c1 c3 c4 c6 c7⟩
theorem driftL {n : Nat} (hn : n ≤ 40) : ∀ (d k f1 f2 : Nat) (s t : Sto), k + d = n → d < f1 → d < f2 → DI s t → s.1 0 10 = 0 → ∃ m s' t', wl3 b_X6_drift_15 f1 (nI n) (nI k) s = some (nI m, s') ∧ wl3 b_X7_drift_16 f2 (nI n) (nI k) t = some (nI m, t') ∧ DI s' t' ∧ s'.1 0 10 = 0 := by
  intro d
  induction d with
  | zero =>
    intro k f1 f2 s t hk h1 h2 hD h0
    obtain ⟨f1, rfl⟩ : ∃ x, f1 = x + 1 := ⟨f1 - 1, by omega⟩
    obtain ⟨f2, rfl⟩ : ∃ x, f2 = x + 1 := ⟨f2 - 1, by omega⟩
    have hD' := hD
    obtain ⟨A, n', Hs, hF, hG, hT, hS⟩ := hD'
    obtain rfl : k = n := by omega
    refine ⟨fM A, s, t, ?_, ?_, hD, h0⟩
    · show b_X6_drift_15 _ _ _ _ = _
      unfold b_X6_drift_15
      rw [if_pos (nI_le (Nat.le_refl _) (by omega)), hF.2.1.1.2.1]
    · show b_X7_drift_16 _ _ _ _ = _
      unfold b_X7_drift_16
      rw [if_pos (nI_le (Nat.le_refl _) (by omega)), m_rd1, bds, hF.2.2.2.1.1.1.2.1]
  | succ d ih =>
    intro k f1 f2 s t hk h1 h2 hD h0
    obtain ⟨f1, rfl⟩ : ∃ x, f1 = x + 1 := ⟨f1 - 1, by omega⟩
    obtain ⟨f2, rfl⟩ : ∃ x, f2 = x + 1 := ⟨f2 - 1, by omega⟩
    obtain ⟨s1, t1, a1, a2, a3, a4⟩ := turn1 hD
    obtain ⟨m, s', t', b1, b2, b3⟩ := ih (k + 1) f1 f2 s1 t1 (by omega) (by omega) (by omega) a3 a4
    refine ⟨m, s', t', ?_, ?_, b3⟩
    · rw [← b1]
      show b_X6_drift_15 (wl3 b_X6_drift_15 f1) _ _ _ = _
      generalize wl3 b_X6_drift_15 f1 = ag
      unfold b_X6_drift_15
      rw [if_neg (nI_ge (by omega) (by omega))]
      cases c : f_X6_startStep s with
      | none => rw [c] at a1; cases a1
      | some z5 =>
        rw [c, bds] at a1
        rw [bds, a1, bds, lts, nI_1]
    · rw [← b2]
      show b_X7_drift_16 (wl3 b_X7_drift_16 f2) _ _ _ = _
      generalize wl3 b_X7_drift_16 f2 = ag
      unfold b_X7_drift_16
      rw [if_neg (nI_ge (by omega) (by omega)), a2, bds, lts, nI_1]
theorem P22 (a1 : Int32) (h : Inv s t) : ∃ Z : Sto × Sto, st_22 a1 s t = some Z ∧ Inv Z.1 Z.2 := by
  have hI := h
  have b1 := toInt_in32 a1
  have mi : f_X7_in a1.toInt64 1 40 t = some (b2i (decide (1 ≤ a1.toInt) && decide (a1.toInt ≤ 40))) := by
    rw [show (1 : Int64) = iL 1 from rfl, show (40 : Int64) = iL 40 from rfl]
    exact m_inI a1 (by omega) (by omega)
  by_cases c : 1 ≤ a1.toInt ∧ a1.toInt ≤ 40
  · obtain ⟨n, hn⟩ : ∃ n : Nat, (n : Int) = a1.toInt := ⟨a1.toInt.toNat, by omega⟩
    have ea : a1 = nI n := by rw [nI_iI, hn]; exact (iI_of a1).symm
    obtain ⟨A, n', Hs, hF, hG, hT, hS, hK⟩ := h
    obtain ⟨m, s', t', d1, d2, d3, d4⟩ : ∃ m s' t', wl3 b_X6_drift_15 fu (nI n) (nI 0) s = some (nI m, s') ∧ wl3 b_X7_drift_16 fu (nI n) (nI 0) t = some (nI m, t') ∧ DI s' t' ∧ s'.1 0 10 = 0 := by
      -- the first turn is one of at least one
      obtain ⟨s1, t1, a1', a2, a3, a4⟩ := turn1 (s := s) (t := t) ⟨A, n', Hs, hF, hG, hT, hS⟩
      obtain ⟨m, s', t', b1, b2, b3⟩ := driftL (n := n) (by omega) (n - 1) 1 4095 4095 s1 t1 (by omega) (by omega) (by omega) a3 a4
      refine ⟨m, s', t', ?_, ?_, b3⟩
      · rw [← b1]
        show b_X6_drift_15 (wl3 b_X6_drift_15 4095) _ _ _ = _
        generalize wl3 b_X6_drift_15 4095 = ag
        unfold b_X6_drift_15
        rw [if_neg (nI_ge (by omega) (by omega))]
        cases c : f_X6_startStep s with
        | none => rw [c] at a1'; cases a1'
        | some z5 =>
          rw [c, bds] at a1'
          rw [bds, a1', bds, lts, nI_1]
      · rw [← b2]
        show b_X7_drift_16 (wl3 b_X7_drift_16 4095) _ _ _ = _
        generalize wl3 b_X7_drift_16 4095 = ag
        unfold b_X7_drift_16
        rw [if_neg (nI_ge (by omega) (by omega)), a2, bds, lts, nI_1]
    obtain ⟨B, q, Js, e1, e2, e3, e4⟩ := d3
    refine ⟨(s', t'), st_of (r := nI m) ?_ ?_, B, q, Js, e1, e2, e3, e4, Or.inl d4⟩
    · unfold f_X6_drift
      rw [ea, if_neg (show ¬ nI n < (1 : Int32) from nI_nlt (b := 1) (by omega) (by omega)), if_pos (show nI n ≤ (40 : Int32) from nI_le (b := 40) (by omega) (by omega))]
      exact d1
    · unfold f_X7_drift
      rw [mi, decide_eq_true c.1, decide_eq_true c.2, bds, if_neg (by decide), ea]
      exact d2
  · refine ⟨(s, t), st_of (r := -1) ?_ ?_, hI⟩
    · unfold f_X6_drift
      by_cases c1 : a1 < 1
      · rw [if_pos c1]
      · rw [if_neg c1, if_neg (fun e => c ⟨by
          refine Classical.byContradiction fun x => c1 (Int32.lt_iff_toInt_lt.mpr ?_)
          have z : (1 : Int32).toInt = 1 := rfl
          omega, by have := Int32.le_iff_toInt_le.mp e; have z : (40 : Int32).toInt = 40 := rfl; rw [z] at this; exact this⟩)]
    · unfold f_X7_drift
      have : (decide (1 ≤ a1.toInt) && decide (a1.toInt ≤ 40)) = false := by
        rw [Bool.and_eq_false_iff, decide_eq_false_iff_not, decide_eq_false_iff_not]; omega
      rw [mi, this]
      rfl
end
