section
variable {A : Fm} {z y : Sto}
/-- the height beside a half bar is that of its joint -/
def hgt (A : Fm) (o j : Nat) : Int := - (kO A (gX A) j * fY A j - kO A (gY A) j * fX A j + kO A (gL A) j) - (phi A (gX A) o * fY A j - phi A (gY A) o * fX A j + phi A (gL A) o)
theorem hgt_eq (hw : WF A) (o : Nat) {h : Nat} (hh : h < 2 * fM A) : qX A o (fc A h) * fY A (fS A h) - qY A o (fc A h) * fX A (fS A h) + qL A o (fc A h) = hgt A o (fS A h) := by
  have hB := hw.1
  have e : tO A (gX A) h * fY A (fS A h) - tO A (gY A) h * fX A (fS A h) + tO A (gL A) h = 0 := by
    unfold tO
    rw [← sm_mulr, ← sm_mulr, ← sm_sub, ← sm_add]
    refine sm_zero fun g hg => ?_
    by_cases c : fS A g = fS A h
    · rw [if_pos c, if_pos c, if_pos c]
      have : gL A g = gY A g * fX A (fS A h) - gX A g * fY A (fS A h) := by unfold gL; rw [c]
      rw [this]
      grind
    · rw [if_neg c, if_neg c, if_neg c]; omega
  unfold qX qY qL hgt
  rw [phi_fc hw (Fo_X hB) hh, phi_fc hw (Fo_Y hB) hh, phi_fc hw (Fo_L hB) hh]
  unfold psi
  grind
theorem hgt_le (hw : WF A) (hW : ∀ j, j < 9 → -9 ≤ fW A j ∧ fW A j ≤ 9) (o : Nat) {h : Nat} (hh : h < 2 * fM A) : -8000000000000000 ≤ hgt A o (fS A h) ∧ hgt A o (fS A h) ≤ 8000000000000000 := by
  have hB := hw.1
  rw [← hgt_eq hw o hh]
  obtain ⟨q1, q2, q3⟩ := q_le hB hW o (fc A h)
  have x := hB.2.2.1 _ (fS_lt hB hh)
  have key : ∀ u s : Int, -540000000000000 ≤ u → u ≤ 540000000000000 → 0 ≤ s → s ≤ 5 → -2700000000000000 ≤ u * s ∧ u * s ≤ 2700000000000000 := by
    intro u s u1 u2 s1 s2
    have p1 := Int.mul_nonneg (show 0 ≤ 540000000000000 - u by omega) (show 0 ≤ 5 - s by omega)
    have p2 := Int.mul_nonneg (show 0 ≤ 540000000000000 + u by omega) (show 0 ≤ 5 + s by omega)
    have p3 := Int.mul_nonneg (show 0 ≤ 540000000000000 - u by omega) (show 0 ≤ 5 + s by omega)
    have p4 := Int.mul_nonneg (show 0 ≤ 540000000000000 + u by omega) (show 0 ≤ 5 - s by omega)
    simp only [Int.sub_mul, Int.mul_sub, Int.add_mul, Int.mul_add] at p1 p2 p3 p4
    omega
  have k1 := key _ _ q1.1 q1.2 x.2.1 x.2.2
  have k2 := key _ _ q2.1 q2.2 x.1.1 x.1.2
  omega
/-- a whole frame has bars at each joint -/
theorem wh_dg (hw : WF A) (hwh : whB A = true) {j : Nat} (hj : j < fN A) : 0 < dg A j := by
  have hB := hw.1
  have hm := whB_m hwh
  -- a joint with a bar, and what goes along bars
  have key := whole_all hB hwh (fun j => 0 < dg A j ∨ ¬ 0 < dg A 0) (by
    by_cases c : 0 < dg A 0
    · exact Or.inl c
    · exact Or.inr c) (fun h hh _ => Or.inl (dg_pos hw hh))
  have d0 : 0 < dg A 0 := by
    refine Classical.byContradiction fun c => ?_
    -- joint 0 alone: no bar begins there
    have := whole_all hB hwh (fun j => j = 0) rfl (fun h hh e => by
      have := dg_pos hw (bk_lt hh)
      rw [fE_bk, e] at this
      exact absurd this c) (fE A 0) (fE_lt hB (by omega))
    have t2 := whole_all hB hwh (fun j => j = 0) rfl (fun h hh e => by
      have := dg_pos hw (bk_lt hh)
      rw [fE_bk, e] at this
      exact absurd this c) (fS A 0) (fS_lt hB (by omega))
    exact fS_ne hB (h := 0) (by omega) (t2.trans this.symm)
  rcases key j hj with k | k
  · exact k
  · exact absurd d0 k
theorem c_heightAt (hw : WF A) (hR : RepC z 1 A) (hC : FcC z A) {o : Nat} (hL : LfC A o z (kB A o (nF A))) (ho : o < nF A) (hwh : whB A = true) {j : Nat} (hj : j < fN A) : f_X0_heightAt (nI j) z = some (iL (hgt A o j)) := by
  have hB := hw.1
  have h9 := hB.2.1
  have h6 := hB.1
  have hm := hR.1.2.1
  have fs := fc_spec hw
  obtain ⟨v1, v2, v3⟩ := hv_spec hw (t := 0) (wh_dg hw hwh hj)
  refine wl2_inv (Q := fun o' => o' = some (iL (hgt A o j))) (fun h a b => a = nI j ∧ b = nI h ∧ ∀ i, i < h → fS A i ≠ j) (2 * fM A) ?_ ?_ (by omega) ⟨rfl, rfl, fun i hi => by omega⟩
  · rintro h hh _ _ ⟨rfl, rfl, hn⟩
    have s1 := c_startOf hB hR hh
    have l1 := fS_lt hB hh
    by_cases c : fS A h = j
    · refine Or.inr fun ag => ?_
      have f1 := fs.2.1 h hh
      have v := (hC.2.1 h hh).2.2
      obtain ⟨a1, a2, a3⟩ := hL.2 _ f1 (kB_all hw hwh ho _ f1)
      have xv := hR.2.1 j hj
      have yv := hR.2.2.1 j hj
      have xl := hB.2.2.1 j hj
      have e := hgt_eq hw o hh
      rw [c] at e
      unfold b_X0_heightAt_2
      simp (disch := omega) only [bds, bds2, lts, lit, nI_add, pk_mul, nI_leI, nI_ltI, nI_eq, rdI_nI, rdL_nI, wrI_nI, wrL_nI, rdR_nI, if_pos, if_neg, and_true, true_and, and_false, false_and, reduceIte, hm, s1, c, v, a1, a2, a3, xv, yv, iIL, iL_mul, iL_sub, iL_add, e]
    · refine Or.inl ⟨nI j, nI (h + 1), ⟨rfl, rfl, fun i hi => ?_⟩, fun ag => ?_⟩
      · by_cases x : i = h
        · rw [x]; exact c
        · exact hn i (by omega)
      · unfold b_X0_heightAt_2
        simp (disch := omega) only [bds, bds2, lts, lit, nI_add, pk_mul, nI_leI, nI_ltI, nI_eq, rdI_nI, rdL_nI, wrI_nI, wrL_nI, rdR_nI, if_pos, if_neg, and_true, true_and, and_false, false_and, reduceIte, hm, s1]
  · rintro _ _ ⟨rfl, rfl, hn⟩ ag
    exact absurd v2 (hn _ v1)
end
