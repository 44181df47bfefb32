section
variable {s t y z : Sto} {A : Fm}
def sfU (A : Fm) (u : Nat) : Bool := decide (2 ≤ fN A) && decide ((bS A (qb u)).2.2.1 = 2 * fN A - 3)
def tot (A : Fm) (p : Nat) : Nat → Nat
  | 0 => 0
  | u + 1 => tot A p u + (if sfU A u = true then wtS p u (fM A) else 0)
theorem tot_le {p : Nat} (hp : p ≤ 10) (h9 : fM A ≤ 9) : ∀ u, tot A p u ≤ 1000000000 * u := by
  intro u
  induction u with
  | zero => exact Nat.le_refl _
  | succ u ih =>
    show tot A p u + (if sfU A u = true then wtS p u (fM A) else 0) ≤ _
    have := wtS_9 (u := u) hp h9
    split <;> omega
theorem m_sets (hB : BF A) (hR : RowM (t.1 123) A) {p w : Nat} (hp : p ≤ 10) (hw : w < 3) {D : Int} (d1 : D ≠ 0) (d2 : -10000000000 ≤ D) (d3 : D ≤ 10000000000) : ∃ t', wl6 b_X7_fail_62 fu (nI p) (nI w) (0 : Int64) (iL D) (0 : Int32) t = some (fr ((tot A p (2 ^ fM A) : Nat) : Int) D w, t') ∧ Ke [122, 134, 135] t t' ∧ t'.1 122 = t.1 122 := by
  have h9 := hB.2.1
  have s9 := (shl9 h9).2
  have p0 : 1 ≤ 2 ^ fM A := Nat.one_le_two_pow
  refine wl6_ind (Q := fun o => ∃ t', o = some (fr ((tot A p (2 ^ fM A) : Nat) : Int) D w, t') ∧ Ke [122, 134, 135] t t' ∧ t'.1 122 = t.1 122) (fun u a1 a2 a3 a4 a5 a6 => a1 = nI p ∧ a2 = nI w ∧ a3 = iL ((tot A p u : Nat) : Int) ∧ a4 = iL D ∧ a5 = nI u ∧ Ke [122, 134, 135] t a6 ∧ a6.1 122 = t.1 122) (2 ^ fM A) ?_ ?_ (by omega) ⟨rfl, rfl, rfl, rfl, rfl, Ke.rf, rfl⟩
  · rintro u hu _ _ _ _ _ z ⟨rfl, rfl, rfl, rfl, rfl, k1, k2⟩ ag
    have r : RowM (z.1 123) A := by rw [k1.1 123 (by simp)]; exact hR
    obtain ⟨z', e1, e2, e3⟩ := m_isStiff hB r (u := u) (by omega)
    have e1' : f_X7_isStiff (nI u) z = some (b2i (sfU A u), z') := e1
    have mw := m_weigh hB r (u := u) hp (by omega) (x2 := nI w) (x3 := iL ((tot A p u : Nat) : Int)) (x5 := iL D) (ag := ag)
    have e : b_X7_fail_62 ag (nI p) (nI w) (iL ((tot A p u : Nat) : Int)) (iL D) (nI u) z = wl8 (b_X7_fail_77 ag) fu (nI p) (nI w) (iL ((tot A p u : Nat) : Int)) (iL D) (nI u) (1 : Int64) (0 : Int32) z := by
      unfold b_X7_fail_62
      rw [m_allBars hB r, bds, if_neg (nI_nlt (by omega) (by omega))]
    have ts : tot A p (u + 1) = tot A p u + (if sfU A u = true then wtS p u (fM A) else 0) := rfl
    refine Or.inl ?_
    rw [e, mw]
    by_cases c : wtS p u (fM A) = 0
    · rw [if_pos c]
      refine ⟨_, _, _, _, _, _, ⟨rfl, rfl, ?_, rfl, rfl, k1, k2⟩, rfl⟩
      rw [ts, c, lL0, iL_add, Int.add_zero]
      split <;> rfl
    · rw [if_neg c, e1', bds2]
      cases q : sfU A u with
      | true =>
        rw [show b2i true = (1 : Int32) from rfl, if10]
        refine ⟨_, _, _, _, _, _, ⟨rfl, rfl, ?_, rfl, rfl, k1.tr e2, e3.trans k2⟩, rfl⟩
        rw [ts, q, if_pos rfl, iL_add, Int.natCast_add]
      | false =>
        rw [show b2i false = (0 : Int32) from rfl, if00]
        refine ⟨_, _, _, _, _, _, ⟨rfl, rfl, ?_, rfl, rfl, k1.tr e2, e3.trans k2⟩, rfl⟩
        rw [ts, q, lL0, iL_add, Int.add_zero]
        rfl
  · rintro _ _ _ _ _ z ⟨rfl, rfl, rfl, rfl, rfl, k1, k2⟩ ag
    have r : RowM (z.1 123) A := by rw [k1.1 123 (by simp)]; exact hR
    have tl := tot_le (A := A) hp h9 (2 ^ fM A)
    refine ⟨z, ?_, k1, k2⟩
    unfold b_X7_fail_62
    rw [m_allBars hB r, bds, if_pos (nI_lt (by omega) (by omega)), m_told (by omega) (by omega) (by omega) (by omega) d1 hw, bds]
end
