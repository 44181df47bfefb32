section
variable {s t y : Sto} {A : Fm}
theorem asb (b : Bool) (z : Sto) : f_X6_asBit (b2i b) z = some (b2i b) := by cases b <;> rfl
theorem c_isNeeded (hB : BF A) (hS : StC y A) {k : Nat} (hk : k < fM A) : f_X4_isNeeded (nI k) y = some (b2i (ned A k)) := by
  have h9 := hB.2.1
  have hn := nS_le hB
  have h0 := hS.1.1
  refine wl2_inv (Q := fun o => o = some (b2i (ned A k))) (fun j a b => a = nI k ∧ b = nI j ∧ ∀ i, i < j → nU A i k = 0) (nS A) ?_ ?_ (by omega) ⟨rfl, rfl, fun i hi => by omega⟩
  · rintro j hj _ _ ⟨rfl, rfl, hz⟩
    have v := hS.2.1 j hj k hk
    rw [show 9 * j + k = j * 9 + k by omega] at v
    have nl := nU_le (k := k) hB hj
    by_cases c : nU A j k = 0
    · refine Or.inl ⟨nI k, nI (j + 1), ⟨rfl, rfl, fun i hi => ?_⟩, fun ag => ?_⟩
      · by_cases e : i = j
        · rw [e]; exact c
        · exact hz i (by omega)
      · unfold b_X4_isNeeded_2
        simp (disch := omega) only [bds, bds2, lts, lit, nI_add, pk_mul, nI_leI, nI_ltI, nI_eq, rdI_nI, rdL_nI, wrI_nI, wrL_nI, rdR_nI, if_pos, if_neg, and_true, true_and, and_false, false_and, reduceIte, h0, v, lL0, cmE]
    · refine Or.inr fun ag => ?_
      have : ned A k = false := by
        unfold ned
        rw [ex_iff.mpr ⟨j, hj, by simp [c]⟩]; rfl
      rw [this]
      unfold b_X4_isNeeded_2
      simp (disch := omega) only [bds, bds2, lts, lit, nI_add, pk_mul, nI_leI, nI_ltI, nI_eq, rdI_nI, rdL_nI, wrI_nI, wrL_nI, rdR_nI, if_pos, if_neg, and_true, true_and, and_false, false_and, reduceIte, h0, v, lL0, cmE]
      rfl
  · rintro _ _ ⟨rfl, rfl, hz⟩ ag
    have : ned A k = true := by
      unfold ned
      rw [ex_ff.mpr (fun i hi => by simp [hz i hi])]; rfl
    rw [this]
    unfold b_X4_isNeeded_2
    simp (disch := omega) only [bds, bds2, lts, lit, nI_add, pk_mul, nI_leI, nI_ltI, nI_eq, rdI_nI, rdL_nI, wrI_nI, wrL_nI, rdR_nI, if_pos, if_neg, and_true, true_and, and_false, false_and, reduceIte, h0]
    rfl
/-- how an asked call ends on both sides -/
theorem ask {r : Int32} {f1 f2 : Option (Int32 × Sto)} {n : Nat} {Hs : Nat → Fm} {s' t' : Sto} (hF : IF s t A n Hs) (hG : IG s t) (hT : IT s t) (hS : IS s t) (h1 : f1 = some (r, s')) (h2 : f2 = some (r, t')) (ks : Ke SC s s') (k9 : s'.1 0 9 = s.1 0 9) (hK : IK s' A) (kt : Ke QM t t') (k2 : t'.1 122 2 = t.1 122 2) (k5 : t'.1 122 5 = t.1 122 5) (k7 : t'.1 122 7 = t.1 122 7) : ∃ Z : Sto × Sto, (bd2 f1 fun r1 s1 => bd2 f2 fun r2 s2 => if r1 = r2 then some (s1, s2) else none) = some Z ∧ Inv Z.1 Z.2 := ⟨(s', t'), st_of h1 h2, Inv_q hF hG hT hS ks k9 kt k2 k5 k7 hK⟩
theorem askL {r : Int64} {f1 f2 : Option (Int64 × Sto)} {n : Nat} {Hs : Nat → Fm} {s' t' : Sto} (hF : IF s t A n Hs) (hG : IG s t) (hT : IT s t) (hS : IS s t) (h1 : f1 = some (r, s')) (h2 : f2 = some (r, t')) (ks : Ke SC s s') (k9 : s'.1 0 9 = s.1 0 9) (hK : IK s' A) (kt : Ke QM t t') (k2 : t'.1 122 2 = t.1 122 2) (k5 : t'.1 122 5 = t.1 122 5) (k7 : t'.1 122 7 = t.1 122 7) : ∃ Z : Sto × Sto, (bd2 f1 fun r1 s1 => bd2 f2 fun r2 s2 => if r1 = r2 then some (s1, s2) else none) = some Z ∧ Inv Z.1 Z.2 := ⟨(s', t'), st_ofL h1 h2, Inv_q hF hG hT hS ks k9 kt k2 k5 k7 hK⟩
theorem P6 (a1 a2 : Int32) (h : Inv s t) : ∃ Z : Sto × Sto, st_6 a1 a2 s t = some Z ∧ Inv Z.1 Z.2 := by
  have hI := h
  obtain ⟨A, n, Hs, hF, hG, hT, hS, hK⟩ := h
  obtain ⟨f1, f2, f3, f4, f5⟩ := hF
  have hB := f1.1
  have h6 := hB.1
  have h9 := hB.2.1
  suffices hh : ∃ r, f_X6_at a1 a2 s = some r ∧ f_X7_at a1 a2 t = some r by
    obtain ⟨r, e1, e2⟩ := hh
    refine ⟨(s, t), ?_, hI⟩
    unfold st_6
    rw [e1, e2, bds, bds, if_pos rfl]
  rcases ix_or a1 (fN A) (by omega) with ⟨j, hj, rfl⟩ | hx
  · have x1 := f2.2.1 j hj
    have x2 := f2.2.2.1 j hj
    have bo := c_barsOf hB f2 hj
    have nn := c_neighbours hB f2 hj
    have m1 := m_x hB f4.1 hj
    have m2 := m_y hB f4.1 hj
    have m3 := m_barsOf hB f4.1 hj
    have hm := f4.1.1.2.1
    refine ⟨if a2 = 0 then iI (fX A j) else if a2 = 1 then iI (fY A j) else if a2 = 2 then nI (dg A j) else if a2 = 3 then nb A j (2 * fM A) else -1, ?_, ?_⟩
    · unfold f_X6_at
      rw [c_hasJoint hB f2 hj, bds, if_neg (by decide), bo, nn, rdI_nI (by omega) (by omega), rdI_nI (by omega) (by omega)]
      simp only [bds]
      rw [show s.1 2 j = iI (fX A j) from x1, show s.1 3 j = iI (fY A j) from x2]
      split
      · rfl
      · split
        · rfl
        · split
          · rfl
          · split <;> rfl
    · have main : wl4 (b_X7_at_15 t) fu (nI j) a2 (nI 0) (nI 0) = some (if a2 = 0 then iI (fX A j) else if a2 = 1 then iI (fY A j) else if a2 = 2 then nI (dg A j) else if a2 = 3 then nb A j (2 * fM A) else -1) := by
        refine wl4_inv (Q := fun o => o = some (if a2 = 0 then iI (fX A j) else if a2 = 1 then iI (fY A j) else if a2 = 2 then nI (dg A j) else if a2 = 3 then nb A j (2 * fM A) else -1)) (fun h a b c d => a = nI j ∧ b = a2 ∧ c = nb A j h ∧ d = nI h) (2 * fM A) ?_ ?_ (by omega) ⟨rfl, rfl, rfl, rfl⟩
        · rintro h hh _ b _ _ ⟨rfl, rfl, rfl, rfl⟩
          have s1 := m_from hB f4.1 hh
          have s2 := m_to hB f4.1 hh
          have l1 := fS_lt hB hh
          refine Or.inl ⟨nI j, b, nb A j (h + 1), nI (h + 1), ⟨rfl, rfl, rfl, rfl⟩, fun ag => ?_⟩
          show _ = ag (nI j) b (if fS A h = j then nb A j h ||| ((1 : Int32) <<< (nI (fE A h) &&& 31)) else nb A j h) (nI (h + 1))
          unfold b_X7_at_15
          by_cases c : fS A h = j
          · rw [if_pos c]
            simp (disch := omega) only [bds, bds2, lts, lit, nI_add, pk_mul, nI_leI, nI_ltI, nI_eq, rdI_nI, rdL_nI, wrI_nI, wrL_nI, rdR_nI, if_pos, if_neg, and_true, true_and, and_false, false_and, reduceIte, hm, s1, s2, c]
          · rw [if_neg c]
            simp (disch := omega) only [bds, bds2, lts, lit, nI_add, pk_mul, nI_leI, nI_ltI, nI_eq, rdI_nI, rdL_nI, wrI_nI, wrL_nI, rdR_nI, if_pos, if_neg, and_true, true_and, and_false, false_and, reduceIte, hm, s1, or_zero]
        · rintro _ b _ _ ⟨rfl, rfl, rfl, rfl⟩ ag
          unfold b_X7_at_15
          rw [m_rd1, bds, hm, show (2 : Int32) * nI (fM A) = nI (2 * fM A) from pk_mul 2 _, if_pos (nI_le (Nat.le_refl _) (by omega)), m1, m2, m3]
          simp only [bds]
          split
          · rfl
          · split
            · rfl
            · split
              · rfl
              · split <;> rfl
      unfold f_X7_at
      rw [m_isJoint hB f4.1 hj, bds, if_neg (by decide)]
      exact main
  · refine ⟨-1, ?_, ?_⟩
    · unfold f_X6_at; rw [c_noJoint hB f2 hx, bds, if_pos rfl]
    · unfold f_X7_at; rw [m_noJoint hB f4.1 hx, bds, if_pos rfl]
theorem QMof {l : List Nat} {t t' : Sto} (k : Ke l t t') (h : ∀ c, c ∈ l → c ∈ QM) : Ke QM t t' := k.mono h
theorem P7 (a1 a2 : Int32) (h : Inv s t) : ∃ Z : Sto × Sto, st_7 a1 a2 s t = some Z ∧ Inv Z.1 Z.2 := by
  have hI := h
  obtain ⟨A, n, Hs, hF, hG, hT, hS, hK⟩ := h
  have hF' := hF
  obtain ⟨f1, f2, f3, f4, f5⟩ := hF
  have hB := f1.1
  have h9 := hB.2.1
  rcases ix_or a1 (fM A) (by omega) with ⟨k, hk, rfl⟩ | hx
  · obtain ⟨y, y1, y2, y3, y4, y5, y6⟩ := c_settle f1 f2 hK
    obtain ⟨t', b1, b2, b3, b4⟩ := m_laysAll hB f4.1
    have r' : RowM (t'.1 123) A := by rw [b2.1 123 (by simp)]; exact f4.1
    have c1 := y6.2.2.2.1 k hk
    have c2 := y6.2.2.2.2.1 k hk
    have c3 := c_isLeading (s := bS A all1) (bS_p hB) (l := k) (by omega) (y5.1.2.2.2 k hk)
    have c4 := c_isNeeded hB y5.1 hk
    have d1 := m_from hB r' (h := 2 * k) (by omega)
    have d2 := m_to hB r' (h := 2 * k) (by omega)
    rw [eS2] at d1
    rw [eE2] at d2
    have d3 := m_rowOf hB b4 hk
    have d4 := m_isNeeded hB r' b4 hk
    have g := oM_ge (o := rO (bS A all1) k) (fun r hr => rO_lt (bS_p hB) hr)
    refine ask (r := if a2 = 0 then nI (fA A k) else if a2 = 1 then nI (fB A k) else if a2 = 2 then b2i (lead (bS A all1) k) else if a2 = 3 then b2i (ned A k) else -1) hF' hG hT hS (s' := y) (t' := t') ?_ ?_ y2 y3 y4 (b2.mono (by simp [QM])) (b3 2 (by omega)) (b3 5 (by omega)) (b3 7 (by omega))
    · unfold f_X6_of
      rw [c_hasBar hB f2 hk, bds, if_neg (by decide), y1, bds, rdI_nI (by omega) (by omega), rdI_nI (by omega) (by omega), c3, c4]
      simp only [bds, asb]
      rw [show y.1 4 k = nI (fA A k) from c1, show y.1 5 k = nI (fB A k) from c2]
      split
      · rfl
      · split
        · rfl
        · split
          · rfl
          · split <;> rfl
    · unfold f_X7_of
      rw [m_isBar hB f4.1 hk, bds, if_neg (by decide), b1, bds, show (2 : Int32) * nI k = nI (2 * k) from pk_mul 2 _, d1, d2, d3, d4]
      simp only [bds]
      split
      · rfl
      · split
        · rfl
        · split
          · cases c : lead (bS A all1) k with
            | true => rw [if_neg (show ¬ (0 : Int32) ≤ oM (rO (bS A all1) k) from fun e => by have := g.mp e; unfold lead at c; rw [this] at c; cases c)]; rfl
            | false => rw [if_pos (show (0 : Int32) ≤ oM (rO (bS A all1) k) from g.mpr c)]; rfl
          · split
            · cases ned A k <;> rfl
            · rfl
  · refine ⟨(s, t), st_of (r := -1) ?_ ?_, hI⟩
    · unfold f_X6_of; rw [c_noBar hB f2 hx, bds, if_pos rfl]
    · unfold f_X7_of; rw [m_noBar hB f4.1 hx, bds, if_pos rfl]
/-- a part of a fraction -/
theorem pt_or (x : Int32) : (∃ w : Nat, w < 3 ∧ x = nI w) ∨ (x < 0 ∨ 2 < x) := by
  rcases ix_or x 3 (by omega) with ⟨j, hj, rfl⟩ | h | h
  · exact Or.inl ⟨j, hj, rfl⟩
  · exact Or.inr (Or.inl h)
  · refine Or.inr (Or.inr ?_)
    rw [Int32.le_iff_toInt_le] at h
    rw [Int32.lt_iff_toInt_lt]
    have e1 : (nI 3).toInt = 3 := rfl
    have e2 : (2 : Int32).toInt = 2 := rfl
    omega
theorem c_isPart {w : Nat} (hw : w < 3) (z : Sto) : f_X6_isPart (nI w) z = some 1 := by
  unfold f_X6_isPart
  rw [if_neg (nI_pos (by omega)), if_neg (show ¬ (2 : Int32) < nI w from fun e => by have := (nI_ltI (a := 2) (by omega) (by omega)).mp e; omega)]
theorem c_noPart {x : Int32} (h : x < 0 ∨ 2 < x) (z : Sto) : f_X6_isPart x z = some 0 := by
  unfold f_X6_isPart
  by_cases c : x < 0
  · rw [if_pos c]
  · rw [if_neg c, if_pos (h.resolve_left c)]
theorem m_isPart {w : Nat} (hw : w < 3) (z : Sto) : f_X7_in (nI w).toInt64 0 2 z = some 1 := m_isIn (m := 3) (by omega) hw
theorem m_noPart {x : Int32} (h : x < 0 ∨ 2 < x) (z : Sto) : f_X7_in x.toInt64 0 2 z = some 0 := m_notIn (m := 3) (by omega) (h.imp id (fun h => by
  rw [Int32.lt_iff_toInt_lt] at h
  rw [Int32.le_iff_toInt_le]
  have e1 : (nI 3).toInt = 3 := rfl
  have e2 : (2 : Int32).toInt = 2 := rfl
  omega))
theorem P9 (a1 a2 a3 : Int32) (h : Inv s t) : ∃ Z : Sto × Sto, st_9 a1 a2 a3 s t = some Z ∧ Inv Z.1 Z.2 := by
  obtain ⟨A, n, Hs, hF, hG, hT, hS, hK⟩ := h
  have hF' := hF
  obtain ⟨f1, f2, f3, f4, f5⟩ := hF
  have hB := f1.1
  have h9 := hB.2.1
  have hn := nS_eq hB
  obtain ⟨y, y1, y2, y3, y4, y5, y6⟩ := c_settle f1 f2 hK
  obtain ⟨t', b1, b2, b3, b4⟩ := m_laysAll hB f4.1
  have r' : RowM (t'.1 123) A := by rw [b2.1 123 (by simp)]; exact f4.1
  have e0 := y5.1.1.1
  have em : t'.1 123 1 - t'.1 122 17 = nI (nS A) := by rw [r'.1.2.1, b4.1.1, pk_sub (by omega), show fM A - (bS A all1).2.2.1 = nS A by omega]
  have fin : ∀ r : Int64, f_X6_stress a1 a2 a3 s = some (r, y) → f_X7_stress a1 a2 a3 t = some (r, t') → ∃ Z : Sto × Sto, st_9 a1 a2 a3 s t = some Z ∧ Inv Z.1 Z.2 := fun r c1 c2 => askL (r := r) hF' hG hT hS c1 c2 y2 y3 y4 (b2.mono (by simp [QM])) (b3 2 (by omega)) (b3 5 (by omega)) (b3 7 (by omega))
  unfold f_X6_stress f_X7_stress at fin
  rw [y1, b1, bds, bds, m_rd1, bds, em] at fin
  rcases ix_or a1 (nS A) (by have := nS_le hB; omega) with ⟨j, hj, rfl⟩ | hx
  · rw [if_neg (nI_pos (by have := nS_le hB; omega)), e0, if_neg (nI_ge hj (by have := nS_le hB; omega)), m_isIn (by have := nS_le hB; omega) hj, bds, if_neg (by decide)] at fin
    rcases ix_or a2 (fM A) (by omega) with ⟨k, hk, rfl⟩ | hx
    · rw [c_hasBar hB y6 hk, bds, if_neg (by decide), m_isBar hB r' hk, bds, if_neg (by decide)] at fin
      rcases pt_or a3 with ⟨w, hw, rfl⟩ | hx
      · have v := y5.1.2.1 j hj k hk
        rw [show 9 * j + k = j * 9 + k by omega] at v
        have nl := nU_le (k := k) hB hj
        have bl := bd_le hB
        have hs9 := nS_le hB
        rw [c_isPart hw, bds, if_neg (by decide), m_isPart hw, bds, if_neg (by decide), m_partOf hB r' b4 hj hk, bds, b4.1.2, m_told (by omega) (by omega) (by omega) (by omega) bl.2.2 hw, bds, y5.1.1.2.2, show nI j * (9 : Int32) + nI k = nI (j * 9 + k) by rw [show (9 : Int32) = nI 9 from rfl, pk_mul, nI_add], rdL_nI (by omega) (by omega), bds, v, c_partOf (by omega) (by omega) (by omega) (by omega) bl.2.2 hw, bds] at fin
        exact fin _ rfl rfl
      · rw [c_noPart hx, bds, if_pos rfl, m_noPart hx, bds, if_pos rfl] at fin
        exact fin _ rfl rfl
    · rw [c_noBar hB y6 hx, bds, if_pos rfl, m_noBar hB r' hx, bds, if_pos rfl] at fin
      exact fin _ rfl rfl
  · rw [m_notIn (by have := nS_le hB; omega) hx, bds, if_pos rfl, e0] at fin
    by_cases c : a1 < 0
    · rw [if_pos c] at fin; exact fin _ rfl rfl
    · rw [if_neg c, if_pos (hx.resolve_left c)] at fin; exact fin _ rfl rfl
theorem P10 (a1 a2 : Int32) (h : Inv s t) : ∃ Z : Sto × Sto, st_10 a1 a2 s t = some Z ∧ Inv Z.1 Z.2 := by
  have hI := h
  obtain ⟨A, n, Hs, hF, hG, hT, hS, hK⟩ := h
  have hF' := hF
  obtain ⟨f1, f2, f3, f4, f5⟩ := hF
  have hB := f1.1
  have h9 := hB.2.1
  rcases ix_or a1 (fM A) (by omega) with ⟨k, hk, rfl⟩ | hx
  · rcases pt_or a2 with ⟨w, hw, rfl⟩ | hx
    · obtain ⟨y, y1, y2, y3, y4, y5, y6⟩ := c_settle f1 f2 hK
      obtain ⟨t', b1, b2, b3, b4⟩ := m_laysAll hB f4.1
      have r' : RowM (t'.1 123) A := by rw [b2.1 123 (by simp)]; exact f4.1
      have v := y5.1.2.2.1 k hk
      have pl := pU_le hB f1.2.2.2.2.1 k
      have bl := bd_le hB
      refine askL (r := fr (pU A k) (bS A all1).2.1 w) hF' hG hT hS (s' := y) (t' := t') ?_ ?_ y2 y3 y4 (b2.mono (by simp [QM])) (b3 2 (by omega)) (b3 5 (by omega)) (b3 7 (by omega))
      · unfold f_X6_pull
        rw [c_hasBar hB f2 hk, bds, if_neg (by decide), c_isPart hw, bds, if_neg (by decide), y1, bds, rdL_nI (by omega) (by omega), bds, v, y5.1.1.2.2, c_partOf (by omega) (by omega) (by omega) (by omega) bl.2.2 hw, bds]
      · unfold f_X7_pull
        rw [m_isBar hB f4.1 hk, bds, if_neg (by decide), m_isPart hw, bds, if_neg (by decide), b1, bds, m_pullOf hB f1.2.2.2.2.1 r' b4 hk, bds, b4.1.2, m_told (by omega) (by omega) (by omega) (by omega) bl.2.2 hw, bds]
    · refine ⟨(s, t), st_ofL (r := -1) ?_ ?_, hI⟩
      · unfold f_X6_pull; rw [c_hasBar hB f2 hk, bds, if_neg (by decide), c_noPart hx, bds, if_pos rfl]
      · unfold f_X7_pull; rw [m_isBar hB f4.1 hk, bds, if_neg (by decide), m_noPart hx, bds, if_pos rfl]
  · refine ⟨(s, t), st_ofL (r := -1) ?_ ?_, hI⟩
    · unfold f_X6_pull; rw [c_noBar hB f2 hx, bds, if_pos rfl]
    · unfold f_X7_pull; rw [m_noBar hB f4.1 hx, bds, if_pos rfl]
end
