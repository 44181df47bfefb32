/-! a text is read: letters -/
section
variable {s0 t0 s t s' t' : Sto} {A B : Fm} {L : Nat → Nat} {k i : Nat}
def TL (s0 t0 : Sto) (L : Nat → Nat) (k : Nat) : Prop := k ≤ 60 ∧ ∀ i, i < k → 32 ≤ L i ∧ L i ≤ 126 ∧ s0.1 112 i = nI (L i) ∧ t0.1 127 i = nI (L i)
def Cs (s0 : Sto) (k : Nat) (s : Sto) (B : Fm) (i : Nat) : Prop := RepC s 7 B ∧ (s.1 111 1 = nI k ∧ s.1 111 2 = nI i) ∧ (∀ c, c < 7 ∨ (12 < c ∧ c ≠ 111) → s.1 c = s0.1 c) ∧ s.2 = s0.2
def Ms (t0 : Sto) (A : Fm) (k : Nat) (t : Sto) (B : Fm) (i : Nat) : Prop := RowM (t.1 123) (fg A B) ∧ (t.1 122 7 = nI k ∧ t.1 122 26 = nI i) ∧ (∀ j, j ≠ 26 → t.1 122 j = t0.1 122 j) ∧ (∀ c, c ≠ 122 → c ≠ 123 → t.1 c = t0.1 c) ∧ t.2 = t0.2
def ltr (L : Nat → Nat) (k j : Nat) : Nat := if j < k then L j else 0
theorem Cs_at (h : Cs s0 k s B i) (j : Nat) : Cs s0 k (upI s 111 2 (nI j)) B j := by
  obtain ⟨h1, h2, h3, h4⟩ := h
  refine ⟨RepC_congr (fun c a b => upI_ne (by omega)) h1, ⟨?_, ?_⟩, fun c hc => ?_, h4⟩
  · rw [upI_at, if_neg (by omega)]; exact h2.1
  · rw [upI_at, if_pos ⟨rfl, rfl⟩]
  · rw [upI_ne (by omega)]; exact h3 c hc
theorem Ms_at (h : Ms t0 A k t B i) (j : Nat) : Ms t0 A k (upI t 122 26 (nI j)) B j := by
  obtain ⟨h1, h2, h3, h4, h5⟩ := h
  refine ⟨by rw [upI_ne (by omega)]; exact h1, ⟨?_, ?_⟩, fun c hc => ?_, fun c a b => ?_, h5⟩
  · rw [upI_at, if_neg (by omega)]; exact h2.1
  · rw [upI_at, if_pos ⟨rfl, rfl⟩]
  · rw [upI_at, if_neg (by omega)]; exact h3 c hc
  · rw [upI_ne a]; exact h4 c a b
theorem Cs_up (h : Cs s0 k s B i) : Cs s0 k (upI s 111 2 (s.1 111 2 + (1 : Int32))) B (i + 1) := by
  rw [h.2.1.2, show nI i + (1 : Int32) = nI (i + 1) from nI_add i 1]
  exact Cs_at h (i + 1)
theorem Ms_up (h : Ms t0 A k t B i) : Ms t0 A k (upI t 122 26 (t.1 122 26 + (1 : Int32))) B (i + 1) := by
  rw [h.2.1.2, show nI i + (1 : Int32) = nI (i + 1) from nI_add i 1]
  exact Ms_at h (i + 1)
theorem Ms_u0 (h : Ms t0 A k t B i) : Ms t0 A k (upI t 122 26 (t.1 122 26 + (0 : Int32))) B i := by
  rw [h.2.1.2, show nI i + (0 : Int32) = nI (i + 0) from nI_add i 0]
  exact Ms_at h i
theorem hereL (hT : TL s0 t0 L k) : ∀ (d f1 f2 i : Nat) (s t : Sto), k - i = d → d < f1 → d < f2 → i ≤ k → Cs s0 k s B i → Ms t0 A k t B i → ∃ j s' t', j ≤ k ∧ wl1 b_X5_letterHere_0 f1 s = some (nI (ltr L k j), s') ∧ wl1 b_X7_here_0 f2 t = some (nI (ltr L k j), t') ∧ Cs s0 k s' B j ∧ Ms t0 A k t' B j := by
  intro d
  induction d with
  | zero =>
    intro f1 f2 i s t hd h1 h2 hi hC hM
    obtain ⟨f1, rfl⟩ : ∃ t, f1 = t + 1 := ⟨f1 - 1, by omega⟩
    obtain ⟨f2, rfl⟩ : ∃ t, f2 = t + 1 := ⟨f2 - 1, by omega⟩
    have hk := hT.1
    have ik : i = k := by omega
    refine ⟨i, s, t, hi, ?_, ?_, hC, hM⟩
    · show b_X5_letterHere_0 _ _ = _
      unfold b_X5_letterHere_0 j_X5_letterHere_38 ltr
      rw [hC.2.1.1, hC.2.1.2, if_pos (nI_le (by omega) (by omega)), if_pos (nI_le (by omega) (by omega)), if_neg (by omega)]
      rfl
    · show b_X7_here_0 _ _ = _
      unfold b_X7_here_0 j_X7_here_38 ltr
      rw [hM.2.1.1, hM.2.1.2, if_pos (nI_le (by omega) (by omega)), if_pos (nI_le (by omega) (by omega)), if_neg (by omega)]
      rfl
  | succ d ih =>
    intro f1 f2 i s t hd h1 h2 hi hC hM
    obtain ⟨f1, rfl⟩ : ∃ t, f1 = t + 1 := ⟨f1 - 1, by omega⟩
    obtain ⟨f2, rfl⟩ : ∃ t, f2 = t + 1 := ⟨f2 - 1, by omega⟩
    have hk := hT.1
    have ik : i < k := by omega
    obtain ⟨q1, q2, q3, q4⟩ := hT.2 i ik
    have r1 : rdI s 112 60 (nI i) = some (nI (L i)) := by rw [rdI_nI (by omega) (by omega), hC.2.2.1 112 (by omega), q3]
    have r2 : rdI t 127 60 (nI i) = some (nI (L i)) := by rw [rdI_nI (by omega) (by omega), hM.2.2.2.1 127 (by omega) (by omega), q4]
    by_cases c : L i = 32
    · obtain ⟨j, s', t', a1, a2, a3, a4, a5⟩ := ih f1 f2 (i + 1) _ _ (by omega) (by omega) (by omega) (by omega) (Cs_up hC) (Ms_up hM)
      refine ⟨j, s', t', a1, ?_, ?_, a4, a5⟩
      · rw [← a2]
        show b_X5_letterHere_0 _ _ = _
        unfold b_X5_letterHere_0
        rw [hC.2.1.1, hC.2.1.2, if_neg (nI_ge ik (by omega)), r1, bds, c, if_pos (show nI 32 = (32 : Int32) from rfl), lts]
      · rw [← a3]
        show b_X7_here_0 _ _ = _
        unfold b_X7_here_0
        rw [hM.2.1.1, hM.2.1.2, if_neg (nI_ge ik (by omega)), r2, bds, c, if_pos (show nI 32 = (32 : Int32) from rfl), lts]
    · have nc : ¬ nI (L i) = (32 : Int32) := fun x => c ((nI_eq (b := 32) (by omega) (by omega)).mp x)
      refine ⟨i, s, t, hi, ?_, ?_, hC, hM⟩
      · show b_X5_letterHere_0 _ _ = _
        unfold b_X5_letterHere_0 j_X5_letterHere_38 ltr
        rw [hC.2.1.1, hC.2.1.2, if_neg (nI_ge ik (by omega)), r1, bds, if_neg nc, if_neg (nI_ge ik (by omega)), bds, if_pos ik]
      · show b_X7_here_0 _ _ = _
        unfold b_X7_here_0 j_X7_here_38 ltr
        rw [hM.2.1.1, hM.2.1.2, if_neg (nI_ge ik (by omega)), r2, bds, if_neg nc, if_neg (nI_ge ik (by omega)), bds, if_pos ik]
theorem here2 (hT : TL s0 t0 L k) (hi : i ≤ k) (hC : Cs s0 k s B i) (hM : Ms t0 A k t B i) : ∃ j s' t', j ≤ k ∧ f_X5_letterHere s = some (nI (ltr L k j), s') ∧ f_X7_here t = some (nI (ltr L k j), t') ∧ Cs s0 k s' B j ∧ Ms t0 A k t' B j := by
  have hk := hT.1
  exact hereL hT (k - i) fu fu i s t rfl (by show k - i < 4096; omega) (by show k - i < 4096; omega) hi hC hM
theorem ltr_lt {j : Nat} (hT : TL s0 t0 L k) : ltr L k j < 127 := by
  unfold ltr
  split
  · rename_i h; have := (hT.2 j h).2.1; omega
  · omega
theorem ltr_in {j : Nat} (h : ltr L k j ≠ 0) : j < k := by
  unfold ltr at h
  exact Classical.byContradiction fun c => h (if_neg c)
theorem n48F : ∀ c : Fin 48, nI c.val - (48 : Int32) < 0 := by decide +kernel
/-- a figure, or none -/
theorem fig2 (hT : TL s0 t0 L k) (hi : i ≤ k) (hC : Cs s0 k s B i) (hM : Ms t0 A k t B i) {d : Nat} (hd : d ≤ 5) : ∃ j s' t', j ≤ k ∧ Cs s0 k s' B j ∧ Ms t0 A k t' B j ∧ ((∃ v, v ≤ d ∧ j < k ∧ f_X5_figureHere (nI d) s = some (nI v, s') ∧ ∃ c, f_X7_here t = some (c, t') ∧ c - (48 : Int32) = nI v) ∨ (f_X5_figureHere (nI d) s = some (-1, s') ∧ ∃ c, f_X7_here t = some (c, t') ∧ (c - (48 : Int32) < 0 ∨ nI (d + 1) ≤ c - (48 : Int32)))) := by
  obtain ⟨j, s', t', a1, a2, a3, a4, a5⟩ := here2 hT hi hC hM
  refine ⟨j, s', t', a1, a4, a5, ?_⟩
  have l7 := ltr_lt (j := j) hT
  generalize hc : ltr L k j = c at *
  by_cases c1 : c < 48
  · have n8 : nI c - (48 : Int32) < 0 := n48F ⟨c, c1⟩
    refine Or.inr ⟨?_, _, a3, Or.inl n8⟩
    unfold f_X5_figureHere
    rw [a2, bds2, lts, if_pos n8]
  · have e8 : nI c - (48 : Int32) = nI (c - 48) := pk_sub (b := 48) (by omega)
    have jk : j < k := ltr_in (L := L) (by omega)
    by_cases c2 : d < c - 48
    · refine Or.inr ⟨?_, _, a3, Or.inr (by rw [e8]; exact nI_le (by omega) (by omega))⟩
      unfold f_X5_figureHere
      rw [a2, bds2, lts, e8, if_neg (nI_pos (by omega)), if_pos (nI_lt c2 (by omega))]
    · refine Or.inl ⟨c - 48, by omega, jk, ?_, _, a3, e8⟩
      unfold f_X5_figureHere
      rw [a2, bds2, lts, e8, if_neg (nI_pos (by omega)), if_neg (nI_nlt (by omega) (by omega))]
end
