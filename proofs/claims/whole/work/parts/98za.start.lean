section
def A00 : Fm := ((0, 0), (fun _ => 0, fun _ => 0), (fun _ => 0, fun _ => 0), fun k => if k = 0 then 1 else 0, 1)
theorem WF_00 : WF A00 := by
  refine ⟨⟨by decide, by decide, fun j hj => absurd hj (Nat.not_lt_zero _), fun k hk => absurd hk (Nat.not_lt_zero _)⟩, fun i _ hi => absurd hi (Nat.not_lt_zero _), fun k _ hk => absurd hk (Nat.not_lt_zero _), fun k hk => absurd hk (Nat.not_lt_zero _), fun j hj => ?_, by decide, by decide⟩
  show -9 ≤ (if j = 0 then (1 : Int) else 0) ∧ (if j = 0 then (1 : Int) else 0) ≤ 9
  split <;> omega
theorem Inv_0 : Inv zC0 zM0 := by
  refine ⟨A00, 0, fun _ => A00, ⟨WF_00, ⟨⟨rfl, rfl, rfl⟩, fun j hj => absurd hj (Nat.not_lt_zero _), fun j hj => absurd hj (Nat.not_lt_zero _), fun j hj => absurd hj (Nat.not_lt_zero _), fun j hj => absurd hj (Nat.not_lt_zero _), fun j hj => ?_⟩, ⟨⟨by omega, rfl⟩, 0, by omega, rfl, fun i hi => absurd hi (Nat.not_lt_zero _)⟩, ⟨⟨⟨rfl, rfl, rfl⟩, fun j hj => absurd hj (Nat.not_lt_zero _), fun j hj => absurd hj (Nat.not_lt_zero _), fun j hj => absurd hj (Nat.not_lt_zero _), fun j hj => absurd hj (Nat.not_lt_zero _), fun j hj => ?_⟩, ⟨by omega, rfl⟩, fun i hi => absurd hi (Nat.not_lt_zero _)⟩, fun i hi => absurd hi (Nat.not_lt_zero _)⟩, Or.inl ⟨rfl, rfl⟩, ⟨0, by omega, rfl, rfl, fun i hi => absurd hi (Nat.not_lt_zero _)⟩, fun k hk => ?_, Or.inl rfl⟩
  · rcases (show j = 0 ∨ j = 1 ∨ j = 2 ∨ j = 3 ∨ j = 4 ∨ j = 5 ∨ j = 6 ∨ j = 7 ∨ j = 8 by omega) with h | h | h | h | h | h | h | h | h <;> subst h <;> rfl
  · rcases (show j = 0 ∨ j = 1 ∨ j = 2 ∨ j = 3 ∨ j = 4 ∨ j = 5 ∨ j = 6 ∨ j = 7 ∨ j = 8 by omega) with h | h | h | h | h | h | h | h | h <;> subst h <;> rfl
  · rcases (show k = 0 ∨ k = 1 ∨ k = 2 ∨ k = 3 by omega) with h | h | h | h <;> subst h <;> exact ⟨fun i hi => rfl, Or.inl ⟨rfl, rfl⟩⟩
theorem pure_of (P11 : ∀ (a1 a2 : Int32) {s t : Sto}, Inv s t → ∃ Z : Sto × Sto, st_11 a1 a2 s t = some Z ∧ Inv Z.1 Z.2) (P21 : ∀ {s t : Sto}, Inv s t → ∃ Z : Sto × Sto, st_21 s t = some Z ∧ Inv Z.1 Z.2) : ∃ I : Sto → Sto → Prop, I zC0 zM0 ∧ ∀ (a0 a1 a2 a3 a4 a5 : Int32) (σ τ : Sto), I σ τ → ∃ Z : Sto × Sto, stp a0 a1 a2 a3 a4 a5 σ τ = some Z ∧ I Z.1 Z.2 := by
  refine ⟨Inv, Inv_0, fun a0 a1 a2 a3 a4 a5 σ τ h => ?_⟩
  unfold stp
  by_cases c0 : a0 &&& 63 = 0
  · rw [if_pos c0]; exact P0 a1 a2 h
  rw [if_neg c0]
  by_cases c1 : a0 &&& 63 = 1
  · rw [if_pos c1]; exact P1 a1 a2 a3 h
  rw [if_neg c1]
  by_cases c2 : a0 &&& 63 = 2
  · rw [if_pos c2]; exact P2 a1 h
  rw [if_neg c2]
  by_cases c3 : a0 &&& 63 = 3
  · rw [if_pos c3]; exact P3 a1 a2 h
  rw [if_neg c3]
  by_cases c4 : a0 &&& 63 = 4
  · rw [if_pos c4]; exact P4 a1 h
  rw [if_neg c4]
  by_cases c5 : a0 &&& 63 = 5
  · rw [if_pos c5]; exact P5 a1 a2 h
  rw [if_neg c5]
  by_cases c6 : a0 &&& 63 = 6
  · rw [if_pos c6]; exact P6 a1 a2 h
  rw [if_neg c6]
  by_cases c7 : a0 &&& 63 = 7
  · rw [if_pos c7]; exact P7 a1 a2 h
  rw [if_neg c7]
  by_cases c8 : a0 &&& 63 = 8
  · rw [if_pos c8]; exact P8 a1 h
  rw [if_neg c8]
  by_cases c9 : a0 &&& 63 = 9
  · rw [if_pos c9]; exact P9 a1 a2 a3 h
  rw [if_neg c9]
  by_cases c10 : a0 &&& 63 = 10
  · rw [if_pos c10]; exact P10 a1 a2 h
  rw [if_neg c10]
  by_cases c11 : a0 &&& 63 = 11
  · rw [if_pos c11]; exact P11 a1 a2 h
  rw [if_neg c11]
  by_cases c12 : a0 &&& 63 = 12
  · rw [if_pos c12]; exact P12 a1 h
  rw [if_neg c12]
  by_cases c13 : a0 &&& 63 = 13
  · rw [if_pos c13]; exact P13 a1 a2 h
  rw [if_neg c13]
  by_cases c14 : a0 &&& 63 = 14
  · rw [if_pos c14]; exact P14 a1 a2 h
  rw [if_neg c14]
  by_cases c15 : a0 &&& 63 = 15
  · rw [if_pos c15]; exact P15 a1 h
  rw [if_neg c15]
  by_cases c16 : a0 &&& 63 = 16
  · rw [if_pos c16]; exact P16 a1 a2 a3 h
  rw [if_neg c16]
  by_cases c17 : a0 &&& 63 = 17
  · rw [if_pos c17]; exact P17 a1 a2 a3 h
  rw [if_neg c17]
  by_cases c18 : a0 &&& 63 = 18
  · rw [if_pos c18]; exact P18 a1 a2 h
  rw [if_neg c18]
  by_cases c19 : a0 &&& 63 = 19
  · rw [if_pos c19]; exact P19 a1 a2 a3 a4 h
  rw [if_neg c19]
  by_cases c20 : a0 &&& 63 = 20
  · rw [if_pos c20]; exact P20 a1 h
  rw [if_neg c20]
  by_cases c21 : a0 &&& 63 = 21
  · rw [if_pos c21]; exact P21  h
  rw [if_neg c21]
  by_cases c22 : a0 &&& 63 = 22
  · rw [if_pos c22]; exact P22 a1 h
  rw [if_neg c22]
  by_cases c23 : a0 &&& 63 = 23
  · rw [if_pos c23]; exact P23  h
  rw [if_neg c23]
  by_cases c24 : a0 &&& 63 = 24
  · rw [if_pos c24]; exact P24 a1 h
  rw [if_neg c24]
  by_cases c25 : a0 &&& 63 = 25
  · rw [if_pos c25]; exact P25  h
  rw [if_neg c25]
  by_cases c26 : a0 &&& 63 = 26
  · rw [if_pos c26]; exact P26  h
  rw [if_neg c26]
  by_cases c27 : a0 &&& 63 = 27
  · rw [if_pos c27]; exact P27 a1 a2 a3 h
  rw [if_neg c27]
  by_cases c28 : a0 &&& 63 = 28
  · rw [if_pos c28]; exact P28 a1 a2 a3 h
  rw [if_neg c28]
  by_cases c29 : a0 &&& 63 = 29
  · rw [if_pos c29]; exact P29 a1 a2 a3 h
  rw [if_neg c29]
  by_cases c30 : a0 &&& 63 = 30
  · rw [if_pos c30]; exact P30 a1 h
  rw [if_neg c30]
  by_cases c31 : a0 &&& 63 = 31
  · rw [if_pos c31]; exact P31 a1 a2 a3 a4 a5 h
  rw [if_neg c31]
  by_cases c32 : a0 &&& 63 = 32
  · rw [if_pos c32]; exact P32 a1 a2 a3 a4 a5 h
  rw [if_neg c32]
  exact ⟨(σ, τ), rfl, h⟩
end
