section
variable {s t y : Sto} {A : Fm}
theorem or2 (x : Int32) : (∃ w : Nat, w < 2 ∧ x = nI w) ∨ (x < 0 ∨ 1 < x) := by
  rcases ix_or x 2 (by omega) with ⟨j, hj, rfl⟩ | h | h
  · exact Or.inl ⟨j, hj, rfl⟩
  · exact Or.inr (Or.inl h)
  · refine Or.inr (Or.inr ?_)
    rw [Int32.le_iff_toInt_le] at h
    rw [Int32.lt_iff_toInt_lt]
    have e1 : (nI 2).toInt = 2 := rfl
    have e2 : (1 : Int32).toInt = 1 := rfl
    omega
theorem in2 {w : Nat} (hw : w < 2) (z : Sto) : f_X7_in (nI w).toInt64 0 1 z = some 1 := m_isIn (m := 2) (by omega) hw
theorem no2 {x : Int32} (h : x < 0 ∨ 1 < x) (z : Sto) : f_X7_in x.toInt64 0 1 z = some 0 := m_notIn (m := 2) (by omega) (h.imp id (fun h => by
  rw [Int32.lt_iff_toInt_lt] at h
  rw [Int32.le_iff_toInt_le]
  have e1 : (nI 2).toInt = 2 := rfl
  have e2 : (1 : Int32).toInt = 1 := rfl
  omega))
theorem ng2 {w : Nat} (hw : w < 2) : ¬ (1 : Int32) < nI w := fun e => by have := (nI_ltI (a := 1) (by omega) (by omega)).mp e; omega
theorem ng3 {w : Nat} (hw : w < 3) : ¬ (2 : Int32) < nI w := fun e => by have := (nI_ltI (a := 2) (by omega) (by omega)).mp e; omega
theorem out_t (hw : WF A) (hC : FcC y A) (h : whB A = true) : (0 : Int32) ≤ y.1 100 1 := by
  obtain ⟨o, e, l⟩ := oF_some hw h
  have fs := fc_spec hw
  have := hw.1.2.1
  rw [hC.1.2, e]
  exact nI_le (a := 0) (by omega) (by omega)
theorem out_f (hC : FcC y A) (h : whB A = false) : ¬ (0 : Int32) ≤ y.1 100 1 := by
  rw [hC.1.2, oF_none h]
  decide
theorem P16 (a1 a2 a3 : Int32) (h : Inv s t) : ∃ Z : Sto × Sto, st_16 a1 a2 a3 s t = some Z ∧ Inv Z.1 Z.2 := by
  obtain ⟨A, n, Hs, hF, hG, hT, hS, hK⟩ := h
  have hF' := hF
  obtain ⟨f1, f2, f3, f4, f5⟩ := hF
  have hB := f1.1
  have h9 := hB.2.1
  have fs := fc_spec f1
  obtain ⟨y, y1, y2, y3, y4, y5, y6⟩ := c_settle f1 f2 hK
  obtain ⟨z4, b1, b2, b3, b4, b5⟩ := m_laysFaces f1 f4.1
  have r4 : RowM (z4.1 123) A := by rw [b2.1 123 (by simp)]; exact f4.1
  have fin : ∀ (r : Int64) (t' : Sto), Ke QM t t' → (∀ j, j ≠ 17 → j ≠ 19 → t'.1 122 j = t.1 122 j) → f_X6_point a1 a2 a3 s = some (r, y) → f_X7_point a1 a2 a3 t = some (r, t') → ∃ Z : Sto × Sto, st_16 a1 a2 a3 s t = some Z ∧ Inv Z.1 Z.2 := fun r t' k1 k2 c1 c2 => askL (r := r) hF' hG hT hS c1 c2 y2 y3 y4 k1 (k2 2 (by omega) (by omega)) (k2 5 (by omega) (by omega)) (k2 7 (by omega) (by omega))
  have K4 : Ke QM t z4 := b2.mono (by simp [QM])
  have V4 : ∀ j, j ≠ 17 → j ≠ 19 → z4.1 122 j = t.1 122 j := fun j _ h2 => b3 j h2
  unfold f_X6_point f_X7_point at fin
  rw [y1, b1, bds, bds, b5.1] at fin
  rcases ix_or a1 (nF A) (by omega) with ⟨f, hf, rfl⟩ | hx
  · rw [c_has y5.2.1 hf (by omega), m_isIn (by omega) hf] at fin
    simp only [bds, if10] at fin
    rcases or2 a2 with ⟨c, hc, rfl⟩ | hx
    · rw [if_neg (nI_pos (by omega)), if_neg (ng2 hc), in2 hc] at fin
      simp only [bds, if10] at fin
      rcases pt_or a3 with ⟨w, hw, rfl⟩ | hx
      · rw [c_isPart hw, m_isPart hw, m_isWhole hB r4] at fin
        simp only [bds, if10] at fin
        cases hwh : whB A with
        | true =>
          obtain ⟨o, o1, o2⟩ := oF_some f1 hwh
          obtain ⟨z5, d1, d2, d3, d4, d5, d6⟩ := m_laysPoints f1 f1.2.2.2.2.1 r4 o2 o1 hwh
          have kf := kB_all f1 hwh o2 f hf
          obtain ⟨l1, l2, l3⟩ := (y5.2.2 o o1).2 f hf kf
          obtain ⟨⟨m1, m2⟩, m3, m4, m5⟩ := d6.2 f hf kf
          obtain ⟨q1, q2, q3⟩ := q_le hB f1.2.2.2.2.1 o f
          have bl := bd_le hB
          rw [if_pos (out_t f1 y5.2.1 hwh), hwh, show b2i true = (1 : Int32) from rfl, d1, rdL_nI (by omega) (by omega), rdL_nI (by omega) (by omega)] at fin
          simp (disch := omega) only [bds, if10, rdL_nI, l1, l2, m1, m2, j_X6_point_74, j_X7_point_80, y5.1.1.2.2, d4.1.2] at fin
          rw [c_partOf (by omega) (by omega) (by omega) (by omega) bl.2.2 hw, c_partOf (by omega) (by omega) (by omega) (by omega) bl.2.2 hw, m_told (by omega) (by omega) (by omega) (by omega) bl.2.2 hw, m_told (by omega) (by omega) (by omega) (by omega) bl.2.2 hw] at fin
          simp only [bds] at fin
          refine fin (if nI c = 0 then fr (qX A o f) (bS A all1).2.1 w else fr (qY A o f) (bS A all1).2.1 w) z5 (K4.tr (d2.mono (by simp [QM, PS]))) (fun j h1 h2 => by rw [d3 j h1 h2, V4 j h1 h2]) ?_ ?_ <;> split <;> rfl
        | false =>
          rw [if_neg (out_f y5.2.1 hwh), hwh, show b2i false = (0 : Int32) from rfl] at fin
          simp only [if00] at fin
          exact fin _ z4 K4 V4 rfl rfl
      · rw [c_noPart hx, m_noPart hx] at fin
        simp only [bds, if00] at fin
        exact fin _ z4 K4 V4 rfl rfl
    · rw [no2 hx] at fin
      simp only [bds, if00] at fin
      by_cases c : a2 < 0
      · rw [if_pos c] at fin; exact fin _ z4 K4 V4 rfl rfl
      · rw [if_neg c, if_pos (hx.resolve_left c)] at fin; exact fin _ z4 K4 V4 rfl rfl
  · rw [c_hasno y5.2.1 hx, m_notIn (by omega) hx] at fin
    simp only [bds, if00] at fin
    exact fin _ z4 K4 V4 rfl rfl
theorem P17 (a1 a2 a3 : Int32) (h : Inv s t) : ∃ Z : Sto × Sto, st_17 a1 a2 a3 s t = some Z ∧ Inv Z.1 Z.2 := by
  obtain ⟨A, n, Hs, hF, hG, hT, hS, hK⟩ := h
  have hF' := hF
  obtain ⟨f1, f2, f3, f4, f5⟩ := hF
  have hB := f1.1
  have h9 := hB.2.1
  have fs := fc_spec f1
  obtain ⟨y, y1, y2, y3, y4, y5, y6⟩ := c_settle f1 f2 hK
  obtain ⟨z4, b1, b2, b3, b4, b5⟩ := m_laysFaces f1 f4.1
  have r4 : RowM (z4.1 123) A := by rw [b2.1 123 (by simp)]; exact f4.1
  have fin : ∀ (r : Int64) (t' : Sto), Ke QM t t' → (∀ j, j ≠ 17 → j ≠ 19 → t'.1 122 j = t.1 122 j) → f_X6_plane a1 a2 a3 s = some (r, y) → f_X7_plane a1 a2 a3 t = some (r, t') → ∃ Z : Sto × Sto, st_17 a1 a2 a3 s t = some Z ∧ Inv Z.1 Z.2 := fun r t' k1 k2 c1 c2 => askL (r := r) hF' hG hT hS c1 c2 y2 y3 y4 k1 (k2 2 (by omega) (by omega)) (k2 5 (by omega) (by omega)) (k2 7 (by omega) (by omega))
  have K4 : Ke QM t z4 := b2.mono (by simp [QM])
  have V4 : ∀ j, j ≠ 17 → j ≠ 19 → z4.1 122 j = t.1 122 j := fun j _ h2 => b3 j h2
  unfold f_X6_plane f_X7_plane at fin
  rw [y1, b1, bds, bds, b5.1] at fin
  rcases ix_or a1 (nF A) (by omega) with ⟨f, hf, rfl⟩ | hx
  · rw [c_has y5.2.1 hf (by omega), m_isIn (by omega) hf] at fin
    simp only [bds, if10] at fin
    rcases pt_or a2 with ⟨c, hc, rfl⟩ | hx
    · rw [if_neg (nI_pos (by omega)), if_neg (ng3 hc), m_isPart hc] at fin
      simp only [bds, if10] at fin
      rcases pt_or a3 with ⟨w, hw, rfl⟩ | hx
      · rw [c_isPart hw, m_isPart hw, m_isWhole hB r4] at fin
        simp only [bds, if10] at fin
        cases hwh : whB A with
        | true =>
          obtain ⟨o, o1, o2⟩ := oF_some f1 hwh
          obtain ⟨z5, d1, d2, d3, d4, d5, d6⟩ := m_laysPoints f1 f1.2.2.2.2.1 r4 o2 o1 hwh
          have kf := kB_all f1 hwh o2 f hf
          obtain ⟨l1, l2, l3⟩ := (y5.2.2 o o1).2 f hf kf
          obtain ⟨⟨m1, m2⟩, m3, m4, m5⟩ := d6.2 f hf kf
          obtain ⟨q1, q2, q3⟩ := q_le hB f1.2.2.2.2.1 o f
          have bl := bd_le hB
          have pn : f_X0_planeNumber (nI f) (nI c) y = some (iL (if nI c = 0 then - qY A o f else if nI c = 1 then qX A o f else qL A o f)) := by
            unfold f_X0_planeNumber
            simp (disch := omega) only [bds, rdL_nI, l1, l2, l3, iL_neg]
            split
            · rfl
            · split <;> rfl
          rw [if_pos (out_t f1 y5.2.1 hwh), hwh, show b2i true = (1 : Int32) from rfl, d1, pn] at fin
          simp (disch := omega) only [bds, if10, rdL_nI, m3, m4, m5, j_X7_plane_96, y5.1.1.2.2, d4.1.2] at fin
          rcases (show c = 0 ∨ c = 1 ∨ c = 2 by omega) with h | h | h
          · subst h
            refine fin (fr (- qY A o f) (bS A all1).2.1 w) z5 (K4.tr (d2.mono (by simp [QM, PS]))) (fun j h1 h2 => by rw [d3 j h1 h2, V4 j h1 h2]) ?_ ?_
            · rw [if_pos (show nI 0 = (0 : Int32) from rfl), c_partOf (by omega) (by omega) (by omega) (by omega) bl.2.2 hw, bds]
            · rw [if_pos (show nI 0 = (0 : Int32) from rfl), m_told (by omega) (by omega) (by omega) (by omega) bl.2.2 hw, bds]
          · subst h
            refine fin (fr (qX A o f) (bS A all1).2.1 w) z5 (K4.tr (d2.mono (by simp [QM, PS]))) (fun j h1 h2 => by rw [d3 j h1 h2, V4 j h1 h2]) ?_ ?_
            · rw [if_neg (show ¬ nI 1 = (0 : Int32) by decide), if_pos (show nI 1 = (1 : Int32) from rfl), c_partOf (by omega) (by omega) (by omega) (by omega) bl.2.2 hw, bds]
            · rw [if_neg (show ¬ nI 1 = (0 : Int32) by decide), if_pos (show nI 1 = (1 : Int32) from rfl), m_told (by omega) (by omega) (by omega) (by omega) bl.2.2 hw, bds]
          · subst h
            refine fin (fr (qL A o f) (bS A all1).2.1 w) z5 (K4.tr (d2.mono (by simp [QM, PS]))) (fun j h1 h2 => by rw [d3 j h1 h2, V4 j h1 h2]) ?_ ?_
            · rw [if_neg (show ¬ nI 2 = (0 : Int32) by decide), if_neg (show ¬ nI 2 = (1 : Int32) by decide), c_partOf (by omega) (by omega) (by omega) (by omega) bl.2.2 hw, bds]
            · rw [if_neg (show ¬ nI 2 = (0 : Int32) by decide), if_neg (show ¬ nI 2 = (1 : Int32) by decide), m_told (by omega) (by omega) (by omega) (by omega) bl.2.2 hw, bds]
        | false =>
          rw [if_neg (out_f y5.2.1 hwh), hwh, show b2i false = (0 : Int32) from rfl] at fin
          simp only [if00] at fin
          exact fin _ z4 K4 V4 rfl rfl
      · rw [c_noPart hx, m_noPart hx] at fin
        simp only [bds, if00] at fin
        exact fin _ z4 K4 V4 rfl rfl
    · rw [m_noPart hx] at fin
      simp only [bds, if00] at fin
      by_cases c : a2 < 0
      · rw [if_pos c] at fin; exact fin _ z4 K4 V4 rfl rfl
      · rw [if_neg c, if_pos (hx.resolve_left c)] at fin; exact fin _ z4 K4 V4 rfl rfl
  · rw [c_hasno y5.2.1 hx, m_notIn (by omega) hx] at fin
    simp only [bds, if00] at fin
    exact fin _ z4 K4 V4 rfl rfl
theorem P18 (a1 a2 : Int32) (h : Inv s t) : ∃ Z : Sto × Sto, st_18 a1 a2 s t = some Z ∧ Inv Z.1 Z.2 := by
  have hI := h
  obtain ⟨A, n, Hs, hF, hG, hT, hS, hK⟩ := h
  have hF' := hF
  obtain ⟨f1, f2, f3, f4, f5⟩ := hF
  have hB := f1.1
  have h6 := hB.1
  have h9 := hB.2.1
  have fs := fc_spec f1
  rcases ix_or a1 (fN A) (by omega) with ⟨j, hj, rfl⟩ | hx
  · rcases pt_or a2 with ⟨w, hw, rfl⟩ | hx
    · obtain ⟨y, y1, y2, y3, y4, y5, y6⟩ := c_settle f1 f2 hK
      have bl := bd_le hB
      cases hwh : whB A with
      | true =>
        obtain ⟨o, o1, o2⟩ := oF_some f1 hwh
        obtain ⟨z5, d1, d2, d3, d4, d5, d6⟩ := m_laysPoints f1 f1.2.2.2.2.1 f4.1 o2 o1 hwh
        have r5 : RowM (z5.1 123) A := by rw [d2.1 123 (by simp [PS])]; exact f4.1
        obtain ⟨v1, v2, v3⟩ := hv_spec f1 (t := 0) (wh_dg f1 hwh hj)
        have g1 := fs.2.1 _ v1
        obtain ⟨⟨m1, m2⟩, m3, m4, m5⟩ := d6.2 _ g1 (kB_all f1 hwh o2 _ g1)
        have xl := hB.2.2.1 j hj
        have e := hgt_eq f1 o v1
        have hl := hgt_le f1 f1.2.2.2.2.1 o v1
        rw [v2] at e hl
        refine askL (r := fr (hgt A o j) (bS A all1).2.1 w) hF' hG hT hS (s' := y) (t' := z5) ?_ ?_ y2 y3 y4 (d2.mono (by simp [QM, PS])) (d3 2 (by omega) (by omega)) (d3 5 (by omega) (by omega)) (d3 7 (by omega) (by omega))
        · unfold f_X6_height
          rw [c_hasJoint hB f2 hj, c_isPart hw, y1, bds, if10, bds, if10, bds, if_pos (out_t f1 y5.2.1 hwh), c_heightAt f1 y6 y5.2.1 (y5.2.2 o o1) o2 hwh hj, bds, y5.1.1.2.2, c_partOf (by omega) (by omega) (by omega) (by omega) bl.2.2 hw, bds]
        · unfold f_X7_height
          rw [m_isJoint hB f4.1 hj, bds, if10, m_isPart hw, bds, if10, m_isWhole hB f4.1, bds, hwh, show b2i true = (1 : Int32) from rfl, if10, d1, bds, show f_X7_half (nI j) (0 : Int32) z5 = some (nI (hv A j 0)) from m_half f1 r5 hj (wh_dg f1 hwh hj), bds, rdI_nI (by omega) (by omega), bds, d5.2 _ v1, rdL_nI (by omega) (by omega), bds, m_x hB r5 hj, bds, rdL_nI (by omega) (by omega), bds, m_y hB r5 hj, bds, rdL_nI (by omega) (by omega), bds, m3, m4, m5, iIL (by omega) (by omega), iIL (by omega) (by omega), iL_mul, iL_mul, iL_add, iL_add, d4.1.2, show - qY A o (fc A (hv A j 0)) * fX A j + qX A o (fc A (hv A j 0)) * fY A j + qL A o (fc A (hv A j 0)) = hgt A o j by rw [← e]; grind, m_told (by omega) (by omega) (by omega) (by omega) bl.2.2 hw, bds]
      | false =>
        refine askL (r := -4) hF' hG hT hS (s' := y) (t' := t) ?_ ?_ y2 y3 y4 Ke.rf rfl rfl rfl
        · unfold f_X6_height
          rw [c_hasJoint hB f2 hj, c_isPart hw, y1, bds, if10, bds, if10, bds, if_neg (out_f y5.2.1 hwh)]
        · unfold f_X7_height
          rw [m_isJoint hB f4.1 hj, bds, if10, m_isPart hw, bds, if10, m_isWhole hB f4.1, bds, hwh, show b2i false = (0 : Int32) from rfl, if00]
    · refine ⟨(s, t), st_ofL (r := -1) ?_ ?_, hI⟩
      · unfold f_X6_height; rw [c_hasJoint hB f2 hj, bds, if10, c_noPart hx, bds, if00]
      · unfold f_X7_height; rw [m_isJoint hB f4.1 hj, bds, if10, m_noPart hx, bds, if00]
  · refine ⟨(s, t), st_ofL (r := -1) ?_ ?_, hI⟩
    · unfold f_X6_height; rw [c_noJoint hB f2 hx, bds, if00]
    · unfold f_X7_height; rw [m_noJoint hB f4.1 hx, bds, if00]
end
