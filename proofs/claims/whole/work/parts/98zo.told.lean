/-! a joint, a bar of a text -/
section
variable {s0 t0 s t s' t' : Sto} {A B B' : Fm} {L : Nat → Nat} {k i : Nat}
theorem Cs_fr (h : Cs s0 k s B i) (hf : Fr 7 s s') (hR : RepC s' 7 B') : Cs s0 k s' B' i := by
  obtain ⟨h1, h2, h3, h4⟩ := h
  refine ⟨hR, ⟨?_, ?_⟩, fun c hc => ?_, hf.2.trans h4⟩
  · rw [hf.1 111 (by omega)]; exact h2.1
  · rw [hf.1 111 (by omega)]; exact h2.2
  · rw [hf.1 c (by omega)]; exact h3 c hc
theorem Ms_st (h : Ms t0 A k t B i) {g : Nat → Int32} (hR : RowM g (fg A B')) : Ms t0 A k (stI t 123 g) B' i := by
  obtain ⟨h1, h2, h3, h4, h5⟩ := h
  refine ⟨by rw [stI_same]; exact hR, ⟨?_, ?_⟩, fun c hc => ?_, fun c a b => ?_, h5⟩
  · rw [stI_ne (by omega)]; exact h2.1
  · rw [stI_ne (by omega)]; exact h2.2
  · rw [stI_ne (by omega)]; exact h3 c hc
  · rw [stI_ne b]; exact h4 c a b
theorem nI6 {n : Nat} (h : n < 6) : ¬ nI n = (6 : Int32) := fun x => by have := (nI_eq (b := 6) (by omega) (by omega)).mp x; omega
theorem nI9 {n : Nat} (h : n < 9) : ¬ nI n = (9 : Int32) := fun x => by have := (nI_eq (b := 9) (by omega) (by omega)).mp x; omega
theorem jStep (hT : TL s0 t0 L k) (hi : i ≤ k) (hC : Cs s0 k s B i) (hM : Ms t0 A k t B i) (hw : WF (fg A B)) (h0 : fM B = 0) : ∃ r s' t' j B', f_X5_tellsJoint s = some (b2i r, s') ∧ f_X7_readsJoint t = some (b2i r, t') ∧ j ≤ k ∧ Cs s0 k s' B' j ∧ Ms t0 A k t' B' j ∧ WF (fg A B') ∧ fM B' = 0 ∧ (r = true → fN B' = fN B + 1) := by
  have hB : BF B := hw.1
  have h6 : fN B ≤ 6 := hB.1
  obtain ⟨j, s1, t1, hj, C1, M1, hc⟩ := fig2 (d := 5) hT hi hC hM (by omega)
  have n0 : t.1 123 0 = nI (fN B) := hM.1.1.1
  have n1 : s1.1 7 0 = nI (fN B) := C1.1.1.1
  rcases hc with ⟨v, hv, jk, f1, c, m1, hcv⟩ | ⟨f1, c, m1, hcv⟩
  · have f1 : f_X5_figureHere (5 : Int32) s = some (nI v, s1) := f1
    by_cases n6 : fN B = 6
    · refine ⟨false, s1, t1, j, B, ?_, ?_, hj, C1, M1, hw, h0, fun e => by cases e⟩
      · unfold f_X5_tellsJoint
        rw [f1, bds2, if_neg (nI_pos (by omega)), n1, n6, if_neg (by decide)]
        rfl
      · unfold f_X7_readsJoint
        rw [m_rd0, bds, n0, n6, if_pos (show nI 6 = (6 : Int32) from rfl), m1, bds2]
        rfl
    · have fig : f_X7_figure (5 : Int32) t = some (nI v, upI t1 122 26 (t1.1 122 26 + (1 : Int32))) := by
        unfold f_X7_figure
        rw [m1, bds2, lts, hcv, show f_X7_in (nI v).toInt64 0 (5 : Int32).toInt64 t1 = some 1 from inD (d := 5) hv (by omega) t1, bds, if10, lts]
      obtain ⟨j2, s3, t3, hj2, C3, M3, hc2⟩ := fig2 (d := 5) hT (by omega) (Cs_up C1) (Ms_up M1) (by omega)
      have R1 : f_X7_readsJoint t = bd2 (f_X7_here (upI t1 122 26 (t1.1 122 26 + (1 : Int32)))) fun t6 z7 => j_X7_readsJoint_39 (nI v) (t6 - (48 : Int32)) z7 := by
        unfold f_X7_readsJoint
        rw [m_rd0, bds, n0, if_neg (nI6 (by omega)), fig, bds2, if_pos (show (0 : Int32) ≤ nI v from nI_pos' (by omega))]
      rcases hc2 with ⟨w, hw2, jk2, f2, c2, m2, hcw⟩ | ⟨f2, c2, m2, hcw⟩
      · have f2 : f_X5_figureHere (5 : Int32) (upI s1 111 2 (s1.1 111 2 + (1 : Int32))) = some (nI w, s3) := f2
        have it : f_X1_isTaken 7 (nI v) (nI w) s3 = some (b2i (tk B (v : Int) (w : Int))) := by
          rw [nI_iI, nI_iI]
          exact c_isTaken hB C3.1 ⟨by omega, by omega⟩ ⟨by omega, by omega⟩
        obtain ⟨r, r1, r2⟩ := m_find hw.1 M3.1 (px := (v : Int)) (py := (w : Int)) ⟨by omega, by omega⟩ ⟨by omega, by omega⟩
        rw [← nI_iI, ← nI_iI] at r1
        have r2 : r < 0 ↔ tk B (v : Int) (w : Int) = false := r2
        have in5 : f_X7_in (nI w).toInt64 (0 : Int64) (5 : Int64) t3 = some 1 := inD (d := 5) hw2 (by omega) t3
        have vn : ¬ nI v < (0 : Int32) := nI_pos (by omega)
        have wn : ¬ nI w < (0 : Int32) := nI_pos (by omega)
        cases ht : tk B (v : Int) (w : Int) with
        | true =>
          rw [ht] at it
          refine ⟨false, s3, t3, j2, B, ?_, ?_, hj2, C3, M3, hw, h0, fun e => by cases e⟩
          · unfold f_X5_tellsJoint
            rw [f1, bds2, if_neg vn, n1, if_pos (show nI (fN B) < (6 : Int32) from nI_lt (b := 6) (by omega) (by omega)), lts, f2, bds2, if_neg wn, it, bds, show b2i true = (1 : Int32) from rfl, if10]
            rfl
          · rw [R1, m2, bds2, hcw]
            unfold j_X7_readsJoint_39
            rw [if_neg vn, in5, bds, if10, r1, bds, if_neg (fun x => by rw [r2.mp x] at ht; cases ht)]
            rfl
        | false =>
          rw [ht] at it
          have rf : rfJ (fg A B) (v : Int) (w : Int) = 0 := by
            have e1 : tk (fg A B) (v : Int) (w : Int) = false := ht
            have e2 : ub (fg A B) (v : Int) (w : Int) = false := by
              show ex (fun k => onP (fg A B) (fA (fg A B) k) (fB (fg A B) k) (v : Int) (w : Int)) (fM B) = false
              rw [h0]; rfl
            have e3 : ¬ 6 ≤ fN (fg A B) := fun x => by
              have x : 6 ≤ fN B := x
              omega
            unfold rfJ
            rw [e1, e2, if_neg (by decide), if_neg e3]
          obtain ⟨s5, p1, p2, p3⟩ := c_putJoint hB (Cs_up C3).1 (show fN B < 6 by omega) (v : Int) (w : Int)
          obtain ⟨g, g1, g2⟩ := (m_joins hw.1 (Ms_up M3).1 (px := (v : Int)) (py := (w : Int)) ⟨by omega, by omega⟩ ⟨by omega, by omega⟩).2 rf
          rw [← nI_iI, ← nI_iI] at p1 g1
          refine ⟨true, s5, _, j2 + 1, jn B (v : Int) (w : Int), ?_, ?_, by omega, Cs_fr (Cs_up C3) p3 p2, Ms_st (Ms_up M3) g2, (WF_jn hw ⟨by omega, by omega⟩ ⟨by omega, by omega⟩ rf).1, h0, fun _ => rfl⟩
          · unfold f_X5_tellsJoint
            rw [f1, bds2, if_neg vn, n1, if_pos (show nI (fN B) < (6 : Int32) from nI_lt (b := 6) (by omega) (by omega)), lts, f2, bds2, if_neg wn, it, bds, show b2i false = (0 : Int32) from rfl, if00, lts, p1, bds2]
            rfl
          · rw [R1, m2, bds2, hcw]
            unfold j_X7_readsJoint_39
            rw [if_neg vn, in5, bds, if10, r1, bds, if_pos (r2.mpr ht), lts, g1, bds2, if_neg (nI_pos (show fN (fg A B) < 2147483648 from Nat.lt_of_le_of_lt h6 (by decide)))]
            rfl
      · have f2 : f_X5_figureHere (5 : Int32) (upI s1 111 2 (s1.1 111 2 + (1 : Int32))) = some (-1, s3) := f2
        refine ⟨false, s3, t3, j2, B, ?_, ?_, hj2, C3, M3, hw, h0, fun e => by cases e⟩
        · unfold f_X5_tellsJoint
          rw [f1, bds2, if_neg (nI_pos (by omega)), n1, if_pos (show nI (fN B) < (6 : Int32) from nI_lt (b := 6) (by omega) (by omega)), lts, f2, bds2, if_pos (by decide)]
          rfl
        · rw [R1, m2, bds2]
          unfold j_X7_readsJoint_39
          rw [if_neg (nI_pos (by omega)), show f_X7_in (c2 - (48 : Int32)).toInt64 (0 : Int64) (5 : Int64) t3 = some 0 from noD (d := 5) (by omega) hcw t3, bds, if00]
          rfl
  · have f1 : f_X5_figureHere (5 : Int32) s = some (-1, s1) := f1
    refine ⟨false, s1, t1, j, B, ?_, ?_, hj, C1, M1, hw, h0, fun e => by cases e⟩
    · unfold f_X5_tellsJoint
      rw [f1, bds2, if_pos (by decide)]
      rfl
    · unfold f_X7_readsJoint
      rw [m_rd0, bds, n0]
      by_cases n6 : fN B = 6
      · rw [n6, if_pos (show nI 6 = (6 : Int32) from rfl), m1, bds2]
        rfl
      · rw [if_neg (nI6 (by omega))]
        have fig : f_X7_figure (5 : Int32) t = some (-4, t1) := by
          unfold f_X7_figure
          rw [m1, bds2, lts, show f_X7_in (c - (48 : Int32)).toInt64 0 (5 : Int32).toInt64 t1 = some 0 from noD (d := 5) (by omega) hcv t1, bds, if00]
        rw [fig, bds2, if_neg (by decide)]
        unfold j_X7_readsJoint_39
        rw [if_pos (by decide)]
        rfl
end
