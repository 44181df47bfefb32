section
variable {s t y z : Sto} {A : Fm}
def gC (A : Fm) (c h : Nat) : Int := if c = 0 then gX A h else gY A h
def cnC (A : Fm) (c j i : Nat) : Nat → Int := fun h => if fS A h = j ∧ trn A h < i then gC A c h else 0
theorem sm_at1 {f : Nat → Int} {h0 : Nat} : ∀ n, h0 < n → (∀ h, h < n → h ≠ h0 → f h = 0) → sm n f = f h0 := by
  intro n
  induction n with
  | zero => intro h; omega
  | succ n ih =>
    intro h hz
    rw [sm_s]
    by_cases e : h0 = n
    · rw [sm_zero (fun i hi => hz i (by omega) (by omega)), e, Int.zero_add]
    · rw [ih (by omega) (fun i hi => hz i (by omega)), hz n (by omega) (by omega), Int.add_zero]
theorem cn_eq (hw : WF A) (c j : Nat) : ∀ i, i ≤ dg A j → sm (2 * fM A) (cnC A c j i) = sm i (fun k => gC A c (hv A j k)) := by
  intro i
  induction i with
  | zero =>
    intro _
    rw [sm_0]
    exact sm_zero fun h _ => if_neg (by omega)
  | succ i ih =>
    intro hi
    obtain ⟨v1, v2, v3⟩ := hv_spec hw (t := i) (j := j) (by omega)
    rw [sm_s, ← ih (by omega)]
    have e1 : sm (2 * fM A) (fun h => if fS A h = j ∧ trn A h = i then gC A c h else 0) = gC A c (hv A j i) := by
      rw [sm_at1 (h0 := hv A j i) _ v1 (fun h hh ne => if_neg (fun e => ne (by rw [← hv_of hw hh, e.1, e.2])))]
      exact if_pos ⟨v2, v3⟩
    rw [← e1, ← sm_add]
    congr 1
    funext h
    unfold cnC
    by_cases a : fS A h = j
    · rcases Nat.lt_trichotomy (trn A h) i with b | b | b
      · rw [if_pos ⟨a, by omega⟩, if_pos ⟨a, b⟩, if_neg (by omega), Int.add_zero]
      · rw [if_pos ⟨a, by omega⟩, if_neg (by omega), if_pos ⟨a, b⟩, Int.zero_add]
      · rw [if_neg (by omega), if_neg (by omega), if_neg (by omega)]; rfl
    · rw [if_neg (by omega), if_neg (by omega), if_neg (by omega)]; rfl
theorem smG {f : Nat → Int} : ∀ n, (∀ i, i < n → -405000000000 ≤ f i ∧ f i ≤ 405000000000) → -(405000000000 * (n : Int)) ≤ sm n f ∧ sm n f ≤ 405000000000 * (n : Int) := by
  intro n
  induction n with
  | zero => intro _; rw [sm_0]; omega
  | succ n ih =>
    intro h
    have a := ih fun i hi => h i (by omega)
    have b := h n (by omega)
    rw [sm_s]; omega
theorem inD {i d : Nat} (hi : i ≤ d) (hd : d < 900) (z : Sto) : f_X7_in (nI i).toInt64 0 (nI d).toInt64 z = some 1 := by
  have := m_isIn (z := z) (m := d + 1) (by omega) (j := i) (by omega)
  rw [nI_sub1 (by omega), Nat.add_sub_cancel] at this
  exact this
theorem noD {x : Int32} {d : Nat} (hd : d < 900) (hx : x < 0 ∨ nI (d + 1) ≤ x) (z : Sto) : f_X7_in x.toInt64 0 (nI d).toInt64 z = some 0 := by
  have := m_notIn (z := z) (m := d + 1) (by omega) hx
  rw [nI_sub1 (by omega), Nat.add_sub_cancel] at this
  exact this
theorem P19 (a1 a2 a3 a4 : Int32) (h : Inv s t) : ∃ Z : Sto × Sto, st_19 a1 a2 a3 a4 s t = some Z ∧ Inv Z.1 Z.2 := by
  have hI := h
  obtain ⟨A, n, Hs, hF, hG, hT, hS, hK⟩ := h
  have hF' := hF
  obtain ⟨f1, f2, f3, f4, f5⟩ := hF
  have hB := f1.1
  have h6 := hB.1
  have h9 := hB.2.1
  have fin : ∀ (r : Int64), f_X6_corner a1 a2 a3 a4 s = some (r, s) → f_X7_corner a1 a2 a3 a4 t = some (r, t) → ∃ Z : Sto × Sto, st_19 a1 a2 a3 a4 s t = some Z ∧ Inv Z.1 Z.2 := fun r e1 e2 => ⟨(s, t), st_ofL (r := r) e1 e2, hI⟩
  have go : ∀ (s' t' : Sto) (r : Int64), f_X6_corner a1 a2 a3 a4 s = some (r, s') → f_X7_corner a1 a2 a3 a4 t = some (r, t') → Inv s' t' → ∃ Z : Sto × Sto, st_19 a1 a2 a3 a4 s t = some Z ∧ Inv Z.1 Z.2 := fun s' t' r e1 e2 e3 => ⟨(s', t'), st_ofL (r := r) e1 e2, e3⟩
  unfold f_X6_corner f_X7_corner at fin go
  rcases ix_or a1 (fN A) (by omega) with ⟨j, hj, rfl⟩ | hx
  · have dl := dg_le hB j
    rw [c_hasJoint hB f2 hj, m_isJoint hB f4.1 hj, c_barsOf hB f2 hj, m_barsOf hB f4.1 hj] at fin go
    simp only [bds, if10] at fin go
    rcases ix_or a2 (dg A j + 1) (by omega) with ⟨i, hi, rfl⟩ | hx
    · rw [if_neg (nI_pos (by omega)), if_neg (show ¬ nI (dg A j) < nI i from nI_nlt (by omega) (by omega)), inD (by omega) (by omega)] at fin go
      simp only [bds, if10] at fin go
      rcases or2 a3 with ⟨c, hc, rfl⟩ | hx
      · rw [if_neg (nI_pos (by omega)), if_neg (ng2 hc), in2 hc] at fin go
        simp only [bds, if10] at fin go
        rcases pt_or a4 with ⟨w, hw, rfl⟩ | hx
        · obtain ⟨y, y1, y2, y3, y4, y5, y6⟩ := c_settle f1 f2 hK
          obtain ⟨t', b1, b2, b3, b4⟩ := m_laysAll hB f4.1
          have r' : RowM (t'.1 123) A := by rw [b2.1 123 (by simp)]; exact f4.1
          rw [c_isPart hw, m_isPart hw, y1, b1] at go
          simp only [bds, if10] at go
          have hm : y.1 1 1 = nI (fM A) := y6.1.2.1
          have bl := bd_le hB
          have sb : -7290000000000 ≤ sm (2 * fM A) (cnC A c j i) ∧ sm (2 * fM A) (cnC A c j i) ≤ 7290000000000 := by
            have := smG (f := cnC A c j i) (2 * fM A) fun h hh => by
              have g := gX_le hB f1.2.2.2.2.1 hh
              unfold cnC gC
              split
              · split
                · exact g.1
                · exact g.2.1
              · omega
            omega
          have eq := cn_eq f1 c j i (by omega)
          have k1 : wl7 b_X6_corner_58 fu (nI j) (nI i) (nI c) (nI w) (0 : Int64) (0 : Int32) y = some (fr (sm (2 * fM A) (cnC A c j i)) (bS A all1).2.1 w, y) := by
            refine wl7_inv (Q := fun o => o = some (fr (sm (2 * fM A) (cnC A c j i)) (bS A all1).2.1 w, y)) (fun h a1 a2 a3 a4 a5 a6 a7 => a1 = nI j ∧ a2 = nI i ∧ a3 = nI c ∧ a4 = nI w ∧ a5 = iL (sm h (cnC A c j i)) ∧ a6 = nI h ∧ a7 = y) (2 * fM A) ?_ ?_ (by omega) ⟨rfl, rfl, rfl, rfl, rfl, rfl, rfl⟩
            · rintro h hh _ _ _ _ _ _ u ⟨rfl, rfl, rfl, rfl, rfl, rfl, hu⟩
              rw [hu]
              have s1 := c_startOf hB y6 hh
              have s2 := c_stepX hB y6 hh
              have s3 := c_stepY hB y6 hh
              have l1 := fS_lt hB hh
              have sl := sXY_le hB hh
              have tv := (y5.2.1.2.1 h hh).1
              have pv := y5.1.2.2.1 (h / 2) (by omega)
              have tl := trn_lt f1 hh
              have dl2 := dg_le hB (fS A h)
              refine Or.inl ⟨nI j, nI i, nI c, nI w, iL (sm (h + 1) (cnC A c j i)), nI (h + 1), y, ⟨rfl, rfl, rfl, rfl, rfl, rfl, rfl⟩, fun ag => ?_⟩
              rw [sm_s]
              unfold b_X6_corner_58 cnC gC gX gY
              by_cases a : fS A h = j
              · by_cases b : trn A h < i
                · rw [if_pos (show fS A h = j ∧ trn A h < i from ⟨a, b⟩)]
                  by_cases d : c = 0
                  · rw [if_pos d]
                    simp (disch := omega) only [bds, bds2, lts, lit, nI_add, pk_mul, nI_leI, nI_ltI, nI_eq, rdI_nI, rdL_nI, wrI_nI, wrL_nI, rdR_nI, if_pos, if_neg, and_true, true_and, and_false, false_and, reduceIte, hm, s1, s2, a, tv, pv, d, pk_div, iIL, iL_mul, iL_add]
                  · rw [if_neg d]
                    simp (disch := omega) only [bds, bds2, lts, lit, nI_add, pk_mul, nI_leI, nI_ltI, nI_eq, rdI_nI, rdL_nI, wrI_nI, wrL_nI, rdR_nI, if_pos, if_neg, and_true, true_and, and_false, false_and, reduceIte, hm, s1, s3, a, tv, pv, d, pk_div, iIL, iL_mul, iL_add]
                · rw [if_neg (show ¬ (fS A h = j ∧ trn A h < i) from fun x => b x.2), Int.add_zero]
                  simp (disch := omega) only [bds, bds2, lts, lit, nI_add, pk_mul, nI_leI, nI_ltI, nI_eq, rdI_nI, rdL_nI, wrI_nI, wrL_nI, rdR_nI, if_pos, if_neg, and_true, true_and, and_false, false_and, reduceIte, hm, s1, a, tv]
              · rw [if_neg (show ¬ (fS A h = j ∧ trn A h < i) from fun x => a x.1), Int.add_zero]
                simp (disch := omega) only [bds, bds2, lts, lit, nI_add, pk_mul, nI_leI, nI_ltI, nI_eq, rdI_nI, rdL_nI, wrI_nI, wrL_nI, rdR_nI, if_pos, if_neg, and_true, true_and, and_false, false_and, reduceIte, hm, s1]
            · rintro _ _ _ _ _ _ u ⟨rfl, rfl, rfl, rfl, rfl, rfl, hu⟩ ag
              rw [hu]
              unfold b_X6_corner_58
              rw [hm, show (2 : Int32) * nI (fM A) = nI (2 * fM A) from pk_mul 2 _, if_pos (nI_le (Nat.le_refl _) (by omega)), y5.1.1.2.2, c_partOf (by omega) (by omega) (by omega) (by omega) bl.2.2 hw, bds]
          have k2 : wl7 b_X7_corner_60 fu (nI j) (nI i) (nI c) (nI w) (0 : Int64) (0 : Int32) t' = some (fr (sm (2 * fM A) (cnC A c j i)) (bS A all1).2.1 w, t') := by
            rw [eq] at sb ⊢
            refine wl7_inv (Q := fun o => o = some (fr (sm i (fun k => gC A c (hv A j k))) (bS A all1).2.1 w, t')) (fun h a1 a2 a3 a4 a5 a6 a7 => a1 = nI j ∧ a2 = nI i ∧ a3 = nI c ∧ a4 = nI w ∧ a5 = iL (sm h (fun k => gC A c (hv A j k))) ∧ a6 = nI h ∧ a7 = t') i ?_ ?_ (by omega) ⟨rfl, rfl, rfl, rfl, rfl, rfl, rfl⟩
            · rintro k hk _ _ _ _ _ _ u ⟨rfl, rfl, rfl, rfl, rfl, rfl, hu⟩
              rw [hu]
              obtain ⟨v1, v2, v3⟩ := hv_spec f1 (t := k) (j := j) (by omega)
              have s1 := m_half f1 r' hj (i := k) (by omega)
              have s2 := m_stepX hB r' v1
              have s3 := m_stepY hB r' v1
              have sl := sXY_le hB v1
              have pv := m_pullOf hB f1.2.2.2.2.1 r' b4 (k := hv A j k / 2) (by omega)
              refine Or.inl ⟨nI j, nI i, nI c, nI w, iL (sm (k + 1) (fun k => gC A c (hv A j k))), nI (k + 1), t', ⟨rfl, rfl, rfl, rfl, rfl, rfl, rfl⟩, fun ag => ?_⟩
              rw [sm_s]
              unfold b_X7_corner_60
              by_cases d : c = 0
              · rw [show gC A c (hv A j k) = pU A (hv A j k / 2) * sX A (hv A j k) by unfold gC gX; rw [if_pos d]]
                simp (disch := omega) only [bds, bds2, lts, lit, nI_add, pk_mul, nI_leI, nI_ltI, nI_eq, rdI_nI, rdL_nI, wrI_nI, wrL_nI, rdR_nI, if_pos, if_neg, and_true, true_and, and_false, false_and, reduceIte, s1, s2, pv, d, pk_div, iIL, iL_mul, iL_add]
              · rw [show gC A c (hv A j k) = pU A (hv A j k / 2) * sY A (hv A j k) by unfold gC gY; rw [if_neg d]]
                simp (disch := omega) only [bds, bds2, lts, lit, nI_add, pk_mul, nI_leI, nI_ltI, nI_eq, rdI_nI, rdL_nI, wrI_nI, wrL_nI, rdR_nI, if_pos, if_neg, and_true, true_and, and_false, false_and, reduceIte, s1, s3, pv, d, pk_div, iIL, iL_mul, iL_add]
            · rintro _ _ _ _ _ _ u ⟨rfl, rfl, rfl, rfl, rfl, rfl, hu⟩ ag
              rw [hu]
              unfold b_X7_corner_60
              rw [if_pos (nI_le (Nat.le_refl _) (by omega)), b4.1.2, m_told (by omega) (by omega) (by omega) (by omega) bl.2.2 hw, bds]
          exact go y t' _ k1 k2 (Inv_q hF' hG hT hS y2 y3 (b2.mono (by simp [QM])) (b3 2 (by omega)) (b3 5 (by omega)) (b3 7 (by omega)) y4)
        · rw [c_noPart hx, m_noPart hx] at fin
          simp only [bds, if00, reduceIte] at fin
          exact fin _ rfl rfl
      · rw [no2 hx] at fin
        simp only [bds, if00, reduceIte] at fin
        by_cases x : a3 < 0
        · rw [if_pos x] at fin; exact fin _ rfl rfl
        · rw [if_neg x, if_pos (hx.resolve_left x)] at fin; exact fin _ rfl rfl
    · rw [noD (by omega) hx] at fin
      simp only [bds, if00, reduceIte] at fin
      by_cases x : a2 < 0
      · rw [if_pos x] at fin; exact fin _ rfl rfl
      · rw [if_neg x, if_pos (show nI (dg A j) < a2 by
          have h2 := hx.resolve_left x
          rw [Int32.le_iff_toInt_le, nI_iI, iI_toInt ⟨by omega, by omega⟩] at h2
          rw [Int32.lt_iff_toInt_lt, nI_iI, iI_toInt ⟨by omega, by omega⟩]
          omega)] at fin
        exact fin _ rfl rfl
  · rw [c_noJoint hB f2 hx, m_noJoint hB f4.1 hx] at fin
    simp only [bds, if00, reduceIte] at fin
    exact fin _ rfl rfl
end
