section
variable {s t y z : Sto}
theorem P11_of (key : ∀ (A : Fm), WF A → ∀ p, p ≤ 10 → ((tot A p (2 ^ fM A) : Nat) : Int) = if stf A = true then stT A p else 0) (a1 a2 : Int32) (h : Inv s t) : ∃ Z : Sto × Sto, st_11 a1 a2 s t = some Z ∧ Inv Z.1 Z.2 := by
  have hI := h
  obtain ⟨A, n, Hs, hF, hG, hT, hS, hK⟩ := h
  have hF' := hF
  obtain ⟨f1, f2, f3, f4, f5⟩ := hF
  have hB := f1.1
  have h9 := hB.2.1
  rcases ix_or a1 11 (by omega) with ⟨p, hp, rfl⟩ | hx
  · have g10 : ¬ (10 : Int32) < nI p := fun e => by have := (nI_ltI (a := 10) (by omega) (by omega)).mp e; omega
    have i10 : f_X7_in (nI p).toInt64 0 10 t = some 1 := inD (d := 10) (by omega) (by omega) t
    rcases or2 a2 with ⟨w, hw, rfl⟩ | hx
    · obtain ⟨y, y1, y2, y3, y4, y5, y6⟩ := c_settle f1 f2 hK
      have hm : y.1 1 1 = nI (fM A) := y6.1.2.1
      have k := key A f1 p (by omega)
      have tl := tot_le (A := A) (p := p) (by omega) h9 (2 ^ fM A)
      have s9 := (shl9 h9).2
      have D9 : (1 : Int) ≤ 10 ^ fM A ∧ (10 : Int) ^ fM A ≤ 1000000000 := by
        rcases (show fM A = 0 ∨ fM A = 1 ∨ fM A = 2 ∨ fM A = 3 ∨ fM A = 4 ∨ fM A = 5 ∨ fM A = 6 ∨ fM A = 7 ∨ fM A = 8 ∨ fM A = 9 by omega) with h | h | h | h | h | h | h | h | h | h <;> rw [h] <;> decide
      obtain ⟨t', q1, q2, q3⟩ := m_sets hB f4.1 (p := p) (w := w) (by omega) (by omega) (D := 10 ^ fM A) (by omega) (by omega) (by omega)
      have q4 := m_ten hB f4.1 q1
      have pw : f_X6_power (10 : Int64) (nI (fM A)) y = some (iL (10 ^ fM A)) := c_power 10 h9
      refine askL (r := fr ((tot A p (2 ^ fM A) : Nat) : Int) (10 ^ fM A) w) hF' hG hT hS (s' := y) (t' := t') ?_ ?_ y2 y3 y4 (q2.mono (by simp [QM])) (by rw [q3]) (by rw [q3]) (by rw [q3])
      · unfold f_X6_fail j_X6_fail_43
        rw [if_neg (nI_pos (by omega)), if_neg g10, if_neg (nI_pos (by omega)), if_pos (show nI w ≤ (1 : Int32) from nI_le (b := 1) (by omega) (by omega)), y1, bds, c_isStiff hB y6 y5.1, bds, hm, pw, c_stiffTenths hB y6 y5.1 (by omega)]
        simp only [bds]
        cases c : stf A with
        | true =>
          rw [c, if_pos rfl] at k
          rw [show b2i true = (1 : Int32) from rfl, if10, ← k, c_partOf (by omega) (by omega) (by omega) (by omega) (by omega) (by omega), bds]
        | false =>
          rw [c, if_neg (by decide)] at k
          rw [show b2i false = (0 : Int32) from rfl, if00, k, lL0, c_partOf (by omega) (by omega) (by omega) (by omega) (by omega) (by omega), bds]
      · unfold f_X7_fail
        rw [i10, bds, if10, in2 hw, bds, if10]
        exact q4
    · refine ⟨(s, t), st_ofL (r := -1) ?_ ?_, hI⟩
      · unfold f_X6_fail
        rw [if_neg (nI_pos (by omega)), if_neg g10]
        by_cases c : a2 < 0
        · rw [if_pos c]
        · rw [if_neg c, if_neg (fun e => by
            have x := hx.resolve_left c
            rw [Int32.le_iff_toInt_le] at e
            rw [Int32.lt_iff_toInt_lt] at x
            omega)]
      · unfold f_X7_fail
        rw [i10, bds, if10, no2 hx, bds, if00]
  · refine ⟨(s, t), st_ofL (r := -1) ?_ ?_, hI⟩
    · unfold f_X6_fail
      by_cases c : a1 < 0
      · rw [if_pos c]
      · rw [if_neg c, if_pos (show (10 : Int32) < a1 by
          have x := hx.resolve_left c
          rw [Int32.le_iff_toInt_le] at x
          rw [Int32.lt_iff_toInt_lt]
          have e1 : (nI 11).toInt = 11 := rfl
          have e2 : (10 : Int32).toInt = 10 := rfl
          omega)]
    · unfold f_X7_fail
      rw [show f_X7_in a1.toInt64 0 10 t = some 0 from noD (d := 10) (by omega) hx t, bds, if00]
end
