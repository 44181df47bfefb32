section
variable {s0 t0 s t s' t' : Sto} {A B B' : Fm} {L : Nat → Nat} {k i : Nat}
theorem bStep (hT : TL s0 t0 L k) (hi : i ≤ k) (hC : Cs s0 k s B i) (hM : Ms t0 A k t B i) (hw : WF (fg A B)) (h1 : 1 ≤ fN B) : ∃ r s' t' j B', f_X5_tellsBar s = some (b2i r, s') ∧ f_X7_readsBar t = some (b2i r, t') ∧ j ≤ k ∧ Cs s0 k s' B' j ∧ Ms t0 A k t' B' j ∧ WF (fg A B') ∧ fN B' = fN B ∧ (r = true → fM B' = fM B + 1) := by
  have hB : BF B := hw.1
  have h6 : fN B ≤ 6 := hB.1
  have h9 : fM B ≤ 9 := hB.2.1
  have dn : fN B - 1 + 1 = fN B := by omega
  obtain ⟨j, s1, t1, hj, C1, M1, hc⟩ := fig2 (d := fN B - 1) hT hi hC hM (by omega)
  have n0 : t.1 123 0 = nI (fN B) := hM.1.1.1
  have m0 : t.1 123 1 = nI (fM B) := hM.1.1.2.1
  have a0 : s.1 7 0 - (1 : Int32) = nI (fN B - 1) := by rw [hC.1.1.1]; exact nI_sub1 h1
  have n1 : s1.1 7 1 = nI (fM B) := C1.1.1.2.1
  rcases hc with ⟨v, hv, jk, f1, c, m1, hcv⟩ | ⟨f1, c, m1, hcv⟩
  · have vn : ¬ nI v < (0 : Int32) := nI_pos (by omega)
    by_cases n9 : fM B = 9
    · refine ⟨false, s1, t1, j, B, ?_, ?_, hj, C1, M1, hw, rfl, fun e => by cases e⟩
      · unfold f_X5_tellsBar
        rw [a0, f1, bds2, if_neg vn, n1, n9, if_neg (by decide)]
        rfl
      · unfold f_X7_readsBar
        rw [m_rd1, bds, m0, n9, if_pos (show nI 9 = (9 : Int32) from rfl), m1, bds2]
        rfl
    · have fig : f_X7_figure (nI (fN B - 1)) t = some (nI v, upI t1 122 26 (t1.1 122 26 + (1 : Int32))) := by
        unfold f_X7_figure
        rw [m1, bds2, lts, hcv, inD hv (by omega) t1, bds, if10, lts]
      obtain ⟨j2, s3, t3, hj2, C3, M3, hc2⟩ := fig2 (d := fN B - 1) hT (by omega) (Cs_up C1) (Ms_up M1) (by omega)
      have a2 : (upI s1 111 2 (s1.1 111 2 + (1 : Int32))).1 7 0 - (1 : Int32) = nI (fN B - 1) := by rw [(Cs_up C1).1.1.1]; exact nI_sub1 h1
      have lt9 : nI (fM B) < (9 : Int32) := nI_lt (b := 9) (by omega) (by omega)
      have R1 : f_X7_readsBar t = bd2 (f_X7_here (upI t1 122 26 (t1.1 122 26 + (1 : Int32)))) fun t7 z8 => j_X7_readsBar_46 (nI v) (t7 - (48 : Int32)) z8 := by
        unfold f_X7_readsBar
        rw [m_rd1, bds, m0, if_neg (nI9 (by omega)), m_rd0, bds, n0, nI_sub1 h1, fig, bds2, if_pos (show (0 : Int32) ≤ nI v from nI_pos' (by omega))]
      have vB : v < fN B := by omega
      rcases hc2 with ⟨w, hw2, jk2, f2, c2, m2, hcw⟩ | ⟨f2, c2, m2, hcw⟩
      · have wn : ¬ nI w < (0 : Int32) := nI_pos (by omega)
        have wB : w < fN B := by omega
        by_cases vw : v = w
        · have rb : f_X1_refuseBar 7 (nI v) (nI w) s3 = some (-1) := c_refuseBar_bad hB C3.1 (Or.inr (Or.inr (by rw [vw])))
          have ad : f_X7_adds (nI v) (nI w) t3 = some (-1, t3) := m_adds_bad hw.1 M3.1 (Or.inr (Or.inr (by rw [vw])))
          refine ⟨false, s3, t3, j2, B, ?_, ?_, hj2, C3, M3, hw, rfl, fun e => by cases e⟩
          · unfold f_X5_tellsBar
            rw [a0, f1, bds2, if_neg vn, n1, if_pos lt9, lts, a2, f2, bds2, if_neg wn, rb, bds, if_neg (by decide)]
            rfl
          · rw [R1, m2, bds2, hcw]
            unfold j_X7_readsBar_46
            rw [if_neg vn, ad, bds2, if_neg (by decide)]
            rfl
        · have rb : f_X1_refuseBar 7 (nI v) (nI w) s3 = some (rfB B v w) := c_refuseBar hB C3.1 vB wB vw
          have ad := m_adds hw.1 M3.1 (a := v) (b := w) vB wB vw
          have re : rfB (fg A B) v w = rfB B v w := rfl
          by_cases c0 : rfB B v w = 0
          · obtain ⟨w1, w2⟩ := WF_br hw (a := v) (b := w) vB wB vw c0
            obtain ⟨s5, p1, p2, p3⟩ := c_putBar hB (Cs_up C3).1 (show fM B < 9 by omega) vB wB
            obtain ⟨g, g1, g2⟩ := ad.2 c0
            refine ⟨true, s5, _, j2 + 1, br B v w, ?_, ?_, by omega, Cs_fr (Cs_up C3) p3 p2, Ms_up (Ms_st (B' := br B v w) M3 g2), w1, rfl, fun _ => rfl⟩
            · unfold f_X5_tellsBar
              rw [a0, f1, bds2, if_neg vn, n1, if_pos lt9, lts, a2, f2, bds2, if_neg wn, rb, bds, if_pos c0, lts, p1, bds2]
              rfl
            · rw [R1, m2, bds2, hcw]
              unfold j_X7_readsBar_46
              rw [if_neg vn, g1, bds2, if_pos (show (0 : Int32) ≤ nI (fM (fg A B)) from nI_pos' (show fM (fg A B) < 2147483648 from Nat.lt_of_le_of_lt h9 (by decide))), lts]
              rfl
          · have ng : rfB B v w < 0 := neg23 (rfB_v B v w) c0
            have a1 := ad.1 c0
            rw [re] at a1
            refine ⟨false, s3, t3, j2, B, ?_, ?_, hj2, C3, M3, hw, rfl, fun e => by cases e⟩
            · unfold f_X5_tellsBar
              rw [a0, f1, bds2, if_neg vn, n1, if_pos lt9, lts, a2, f2, bds2, if_neg wn, rb, bds, if_neg c0]
              rfl
            · rw [R1, m2, bds2, hcw]
              unfold j_X7_readsBar_46
              rw [if_neg vn, a1, bds2, if_neg (fun x => by
                rw [Int32.le_iff_toInt_le] at x
                rw [Int32.lt_iff_toInt_lt] at ng
                omega)]
              rfl
      · rw [dn] at hcw
        have ad : f_X7_adds (nI v) (c2 - (48 : Int32)) t3 = some (-1, t3) := m_adds_bad hw.1 M3.1 (Or.inr (Or.inl hcw))
        refine ⟨false, s3, t3, j2, B, ?_, ?_, hj2, C3, M3, hw, rfl, fun e => by cases e⟩
        · unfold f_X5_tellsBar
          rw [a0, f1, bds2, if_neg vn, n1, if_pos lt9, lts, a2, f2, bds2, if_pos (by decide)]
          rfl
        · rw [R1, m2, bds2]
          unfold j_X7_readsBar_46
          rw [if_neg vn, ad, bds2, if_neg (by decide)]
          rfl
  · refine ⟨false, s1, t1, j, B, ?_, ?_, hj, C1, M1, hw, rfl, fun e => by cases e⟩
    · unfold f_X5_tellsBar
      rw [a0, f1, bds2, if_pos (by decide)]
      rfl
    · unfold f_X7_readsBar
      rw [m_rd1, bds, m0]
      by_cases n9 : fM B = 9
      · rw [n9, if_pos (show nI 9 = (9 : Int32) from rfl), m1, bds2]
        rfl
      · rw [if_neg (nI9 (by omega)), m_rd0, bds, n0, nI_sub1 h1]
        have fig : f_X7_figure (nI (fN B - 1)) t = some (-4, t1) := by
          unfold f_X7_figure
          rw [m1, bds2, lts, noD (by omega) hcv t1, bds, if00]
        rw [fig, bds2, if_neg (by decide)]
        unfold j_X7_readsBar_46
        rw [if_pos (by decide)]
        rfl
/-! all of them -/
def mK (t : Sto) : Option (Int32 × Sto) := bd2 (f_X7_here t) fun t2 z3 => if t2 = (59 : Int32) then (wl2 (b_X7_readsAll_66) fu (1 : Int32) z3) else (wl2 (b_X7_readsAll_66) fu (0 : Int32) z3)
def mE (t : Sto) : Option (Int32 × Sto) := bd2 (f_X7_here t) fun t12 z13 => if t12 = 0 then (some ((1 : Int32), z13)) else (some ((0 : Int32), z13))
theorem jAll (hT : TL s0 t0 L k) : ∀ (d f1 f2 : Nat) (s t : Sto) (B : Fm) (i : Nat), fN B + d = 6 → d < f1 → d + 1 < f2 → i ≤ k → Cs s0 k s B i → Ms t0 A k t B i → WF (fg A B) → fM B = 0 → ∃ r s' t' j B', wl2 b_X5_tellsJoints_2 f1 (nI (fN B)) s = some (b2i r, s') ∧ wl2 b_X7_readsAll_2 f2 (1 : Int32) t = (if r = true then mK t' else some (0, t')) ∧ j ≤ k ∧ Cs s0 k s' B' j ∧ Ms t0 A k t' B' j ∧ WF (fg A B') ∧ fM B' = 0 ∧ (r = true → 1 ≤ fN B') := by
  intro d
  induction d with
  | zero =>
    intro f1 f2 s t B i hd h1 h2 hi hC hM hw h0
    obtain ⟨f1, rfl⟩ : ∃ t, f1 = t + 1 := ⟨f1 - 1, by omega⟩
    obtain ⟨f2, rfl⟩ : ∃ t, f2 = t + 1 := ⟨f2 - 1, by omega⟩
    obtain ⟨r, s', t', j, B', a1, a2, a3, a4, a5, a6, a7, a8⟩ := jStep hT hi hC hM hw h0
    have b6 : fN B' ≤ 6 := a6.1.1
    have rf : r = false := by
      cases r with
      | false => rfl
      | true => have := a8 rfl; omega
    subst rf
    refine ⟨false, s', t', j, B', ?_, ?_, a3, a4, a5, a6, a7, fun e => by cases e⟩
    · show b_X5_tellsJoints_2 _ _ _ = _
      unfold b_X5_tellsJoints_2
      rw [if_neg (show ¬ (6 : Int32) < nI (fN B) from nI_nlt (a := 6) (by omega) (by omega)), a1, bds2, show b2i false = (0 : Int32) from rfl, if00]
    · show b_X7_readsAll_2 _ _ _ = _
      unfold b_X7_readsAll_2
      rw [if10, a2, bds2, show b2i false = (0 : Int32) from rfl, if00, if_neg (by decide)]
  | succ d ih =>
    intro f1 f2 s t B i hd h1 h2 hi hC hM hw h0
    obtain ⟨f1, rfl⟩ : ∃ t, f1 = t + 1 := ⟨f1 - 1, by omega⟩
    obtain ⟨f2, rfl⟩ : ∃ t, f2 = t + 1 := ⟨f2 - 1, by omega⟩
    obtain ⟨r, s', t', j, B', a1, a2, a3, a4, a5, a6, a7, a8⟩ := jStep hT hi hC hM hw h0
    have n6 : ¬ (6 : Int32) < nI (fN B) := nI_nlt (a := 6) (by omega) (by omega)
    cases r with
    | false =>
      refine ⟨false, s', t', j, B', ?_, ?_, a3, a4, a5, a6, a7, fun e => by cases e⟩
      · show b_X5_tellsJoints_2 _ _ _ = _
        unfold b_X5_tellsJoints_2
        rw [if_neg n6, a1, bds2, show b2i false = (0 : Int32) from rfl, if00]
      · show b_X7_readsAll_2 _ _ _ = _
        unfold b_X7_readsAll_2
        rw [if10, a2, bds2, show b2i false = (0 : Int32) from rfl, if00, if_neg (by decide)]
    | true =>
      have a8 := a8 rfl
      obtain ⟨j2, s2, t2, c1, c2, c3, c4, c5⟩ := here2 hT a3 a4 a5
      have l7 := ltr_lt (j := j2) hT
      by_cases cm : ltr L k j2 = 44
      · have jk : j2 < k := ltr_in (L := L) (by omega)
        rw [cm] at c2 c3
        obtain ⟨r, s3, t3, j3, B3, d1, d2, d3⟩ := ih f1 f2 _ _ B' (j2 + 1) (by omega) (by omega) (by omega) (by omega) (Cs_up c4) (Ms_up c5) a6 a7
        refine ⟨r, s3, t3, j3, B3, ?_, ?_, d3⟩
        · rw [← d1, a8]
          show b_X5_tellsJoints_2 _ _ _ = _
          unfold b_X5_tellsJoints_2
          rw [if_neg n6, a1, bds2, show b2i true = (1 : Int32) from rfl, if10, c2, bds2, if_pos (show nI 44 = (44 : Int32) from rfl), lts, lts, show nI (fN B) + (1 : Int32) = nI (fN B + 1) from nI_add _ 1]
        · rw [← d2]
          show b_X7_readsAll_2 _ _ _ = _
          unfold b_X7_readsAll_2 j_X7_readsAll_29
          rw [if10, a2, bds2, show b2i true = (1 : Int32) from rfl, if10, c3, bds2, if_pos (show nI 44 = (44 : Int32) from rfl), if10, lts]
      · have nc : ¬ nI (ltr L k j2) = (44 : Int32) := fun x => cm ((nI_eq (b := 44) (by omega) (by omega)).mp x)
        obtain ⟨f2, rfl⟩ : ∃ t, f2 = t + 1 := ⟨f2 - 1, by omega⟩
        refine ⟨true, s2, _, j2, B', ?_, ?_, c1, c4, Ms_u0 c5, a6, a7, fun _ => by omega⟩
        · show b_X5_tellsJoints_2 _ _ _ = _
          unfold b_X5_tellsJoints_2
          rw [if_neg n6, a1, bds2, show b2i true = (1 : Int32) from rfl, if10, c2, bds2, if_neg nc]
        · rw [if_pos rfl]
          show b_X7_readsAll_2 _ _ _ = _
          unfold b_X7_readsAll_2 j_X7_readsAll_29
          rw [if10, a2, bds2, show b2i true = (1 : Int32) from rfl, if10, c3, bds2, if_neg nc, if00, lts]
          show b_X7_readsAll_2 _ _ _ = _
          unfold b_X7_readsAll_2 mK
          rw [if00]
theorem bAll (hT : TL s0 t0 L k) : ∀ (d f1 f2 : Nat) (s t : Sto) (B : Fm) (i : Nat), fM B + d = 9 → d < f1 → d + 1 < f2 → i < k → Cs s0 k s B (i + 1) → Ms t0 A k t B i → WF (fg A B) → 1 ≤ fN B → ∃ r s' t' j B', wl2 b_X5_tellsBars_2 f1 (nI (fM B)) s = some (b2i r, s') ∧ wl2 b_X7_readsAll_66 f2 (1 : Int32) t = (if r = true then mE t' else some (0, t')) ∧ j ≤ k ∧ Cs s0 k s' B' j ∧ Ms t0 A k t' B' j ∧ WF (fg A B') := by
  intro d
  induction d with
  | zero =>
    intro f1 f2 s t B i hd h1 h2 hi hC hM hw h0
    obtain ⟨f1, rfl⟩ : ∃ t, f1 = t + 1 := ⟨f1 - 1, by omega⟩
    obtain ⟨f2, rfl⟩ : ∃ t, f2 = t + 1 := ⟨f2 - 1, by omega⟩
    obtain ⟨r, s', t', j, B', a1, a2, a3, a4, a5, a6, a7, a8⟩ := bStep hT (show i + 1 ≤ k by omega) hC (Ms_up hM) hw h0
    have b6 : fM B' ≤ 9 := a6.1.2.1
    have rf : r = false := by
      cases r with
      | false => rfl
      | true => have := a8 rfl; omega
    subst rf
    refine ⟨false, s', t', j, B', ?_, ?_, a3, a4, a5, a6⟩
    · show b_X5_tellsBars_2 _ _ _ = _
      unfold b_X5_tellsBars_2
      rw [if_neg (show ¬ (9 : Int32) < nI (fM B) from nI_nlt (a := 9) (by omega) (by omega)), a1, bds2, show b2i false = (0 : Int32) from rfl, if00]
    · show b_X7_readsAll_66 _ _ _ = _
      unfold b_X7_readsAll_66
      rw [if10, lts, a2, bds2, show b2i false = (0 : Int32) from rfl, if00, if_neg (by decide)]
  | succ d ih =>
    intro f1 f2 s t B i hd h1 h2 hi hC hM hw h0
    obtain ⟨f1, rfl⟩ : ∃ t, f1 = t + 1 := ⟨f1 - 1, by omega⟩
    obtain ⟨f2, rfl⟩ : ∃ t, f2 = t + 1 := ⟨f2 - 1, by omega⟩
    obtain ⟨r, s', t', j, B', a1, a2, a3, a4, a5, a6, a7, a8⟩ := bStep hT (show i + 1 ≤ k by omega) hC (Ms_up hM) hw h0
    have n9 : ¬ (9 : Int32) < nI (fM B) := nI_nlt (a := 9) (by omega) (by omega)
    cases r with
    | false =>
      refine ⟨false, s', t', j, B', ?_, ?_, a3, a4, a5, a6⟩
      · show b_X5_tellsBars_2 _ _ _ = _
        unfold b_X5_tellsBars_2
        rw [if_neg n9, a1, bds2, show b2i false = (0 : Int32) from rfl, if00]
      · show b_X7_readsAll_66 _ _ _ = _
        unfold b_X7_readsAll_66
        rw [if10, lts, a2, bds2, show b2i false = (0 : Int32) from rfl, if00, if_neg (by decide)]
    | true =>
      have a8 := a8 rfl
      obtain ⟨j2, s2, t2, c1, c2, c3, c4, c5⟩ := here2 hT a3 a4 a5
      have l7 := ltr_lt (j := j2) hT
      by_cases cm : ltr L k j2 = 44
      · have jk : j2 < k := ltr_in (L := L) (by omega)
        rw [cm] at c2 c3
        obtain ⟨r, s3, t3, j3, B3, d1, d2, d3⟩ := ih f1 f2 _ _ B' j2 (by omega) (by omega) (by omega) jk (Cs_up c4) c5 a6 (by omega)
        refine ⟨r, s3, t3, j3, B3, ?_, ?_, d3⟩
        · rw [← d1, a8]
          show b_X5_tellsBars_2 _ _ _ = _
          unfold b_X5_tellsBars_2
          rw [if_neg n9, a1, bds2, show b2i true = (1 : Int32) from rfl, if10, c2, bds2, if_pos (show nI 44 = (44 : Int32) from rfl), lts, lts, show nI (fM B) + (1 : Int32) = nI (fM B + 1) from nI_add _ 1]
        · rw [← d2]
          show b_X7_readsAll_66 _ _ _ = _
          unfold b_X7_readsAll_66
          rw [if10, lts, a2, bds2, show b2i true = (1 : Int32) from rfl, if10, c3, bds2, if_pos (show nI 44 = (44 : Int32) from rfl)]
      · have nc : ¬ nI (ltr L k j2) = (44 : Int32) := fun x => cm ((nI_eq (b := 44) (by omega) (by omega)).mp x)
        obtain ⟨f2, rfl⟩ : ∃ t, f2 = t + 1 := ⟨f2 - 1, by omega⟩
        refine ⟨true, s2, t2, j2, B', ?_, ?_, c1, c4, c5, a6⟩
        · show b_X5_tellsBars_2 _ _ _ = _
          unfold b_X5_tellsBars_2
          rw [if_neg n9, a1, bds2, show b2i true = (1 : Int32) from rfl, if10, c2, bds2, if_neg nc]
        · rw [if_pos rfl]
          show b_X7_readsAll_66 _ _ _ = _
          unfold b_X7_readsAll_66
          rw [if10, lts, a2, bds2, show b2i true = (1 : Int32) from rfl, if10, c3, bds2, if_neg nc]
          show b_X7_readsAll_66 _ _ _ = _
          unfold b_X7_readsAll_66 mE
          rw [if00]
end
