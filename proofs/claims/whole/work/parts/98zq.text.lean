section
variable {s0 t0 s t s' t' : Sto} {A B B' : Fm} {L : Nat → Nat} {k i : Nat}
theorem ends (hT : TL s0 t0 L k) (hi : i ≤ k) (hC : Cs s0 k s B i) (hM : Ms t0 A k t B i) : ∃ r s' t' j, j ≤ k ∧ j_X5_tells_54 s = some (b2i r, s') ∧ mE t = some (b2i r, t') ∧ Cs s0 k s' B j ∧ Ms t0 A k t' B j := by
  obtain ⟨j, s', t', a1, a2, a3, a4, a5⟩ := here2 hT hi hC hM
  have l7 := ltr_lt (j := j) hT
  refine ⟨decide (ltr L k j = 0), s', t', j, a1, ?_, ?_, a4, a5⟩
  · unfold j_X5_tells_54
    rw [a2, bds2]
    by_cases c : ltr L k j = 0
    · rw [decide_eq_true c, c, if_pos (show nI 0 = (0 : Int32) from rfl)]; rfl
    · rw [decide_eq_false c, if_neg (show ¬ nI (ltr L k j) = (0 : Int32) from fun x => c ((nI_eq (b := 0) (by omega) (by omega)).mp x))]; rfl
  · unfold mE
    rw [a3, bds2]
    by_cases c : ltr L k j = 0
    · rw [decide_eq_true c, c, if_pos (show nI 0 = (0 : Int32) from rfl)]; rfl
    · rw [decide_eq_false c, if_neg (show ¬ nI (ltr L k j) = (0 : Int32) from fun x => c ((nI_eq (b := 0) (by omega) (by omega)).mp x))]; rfl
/-- class and model read a text alike -/
theorem reads (hT : TL s0 t0 L k) (hC : Cs s0 k (upI (upI (upI s 111 2 (0 : Int32)) 7 0 (0 : Int32)) 7 1 (0 : Int32)) B 0) (hM : Ms t0 A k t B 0) (hw : WF (fg A B)) (hn : fN B = 0) (hm : fM B = 0) : ∃ r s' t' j B', f_X5_tells s = some (b2i r, s') ∧ f_X7_readsAll t = some (b2i r, t') ∧ j ≤ k ∧ Cs s0 k s' B' j ∧ Ms t0 A k t' B' j ∧ WF (fg A B') := by
  obtain ⟨r, s1, t1, j, B1, a1, a2, a3, a4, a5, a6, a7, a8⟩ := jAll hT 6 fu fu _ t B 0 (by omega) (by decide) (by decide) (by omega) hC hM hw hm
  rw [hn] at a1
  have a1 : f_X5_tellsJoints (upI (upI (upI s 111 2 (0 : Int32)) 7 0 (0 : Int32)) 7 1 (0 : Int32)) = some (b2i r, s1) := a1
  have a2 : f_X7_readsAll t = (if r = true then mK t1 else some (0, t1)) := a2
  cases r with
  | false =>
    refine ⟨false, s1, t1, j, B1, ?_, ?_, a3, a4, a5, a6⟩
    · unfold f_X5_tells
      rw [lts, lts, lts, a1, bds2, show b2i false = (0 : Int32) from rfl, if00]
    · rw [a2, if_neg (by decide)]; rfl
  | true =>
    rw [if_pos rfl] at a2
    obtain ⟨j2, s2, t2, c1, c2, c3, c4, c5⟩ := here2 hT a3 a4 a5
    have l7 := ltr_lt (j := j2) hT
    by_cases cm : ltr L k j2 = 59
    · have jk : j2 < k := ltr_in (L := L) (by omega)
      rw [cm] at c2 c3
      obtain ⟨r, s3, t3, j3, B3, d1, d2, d3, d4, d5, d6⟩ := bAll hT 9 fu fu _ t2 B1 j2 (by omega) (by decide) (by decide) jk (Cs_up c4) c5 a6 (a8 rfl)
      rw [a7] at d1
      have d1 : f_X5_tellsBars (upI s2 111 2 (s2.1 111 2 + (1 : Int32))) = some (b2i r, s3) := d1
      have m1 : f_X7_readsAll t = (if r = true then mE t3 else some (0, t3)) := by
        rw [a2, ← d2]
        unfold mK
        rw [c3, bds2, if_pos (show nI 59 = (59 : Int32) from rfl)]
      cases r with
      | false =>
        refine ⟨false, s3, t3, j3, B3, ?_, ?_, d3, d4, d5, d6⟩
        · unfold f_X5_tells
          rw [lts, lts, lts, a1, bds2, show b2i true = (1 : Int32) from rfl, if10, c2, bds2, if_pos (show nI 59 = (59 : Int32) from rfl), lts, d1, bds2, show b2i false = (0 : Int32) from rfl, if00]
        · rw [m1, if_neg (by decide)]; rfl
      | true =>
        rw [if_pos rfl] at m1
        obtain ⟨r, s4, t4, j4, e1, e2, e3, e4, e5⟩ := ends hT d3 d4 d5
        refine ⟨r, s4, t4, j4, B3, ?_, ?_, e1, e4, e5, d6⟩
        · unfold f_X5_tells
          rw [lts, lts, lts, a1, bds2, show b2i true = (1 : Int32) from rfl, if10, c2, bds2, if_pos (show nI 59 = (59 : Int32) from rfl), lts, d1, bds2, show b2i true = (1 : Int32) from rfl, if10, e2]
        · rw [m1, e3]
    · have nc : ¬ nI (ltr L k j2) = (59 : Int32) := fun x => cm ((nI_eq (b := 59) (by omega) (by omega)).mp x)
      obtain ⟨r, s4, t4, j4, e1, e2, e3, e4, e5⟩ := ends hT c1 c4 c5
      refine ⟨r, s4, t4, j4, B1, ?_, ?_, e1, e4, e5, a6⟩
      · unfold f_X5_tells
        rw [lts, lts, lts, a1, bds2, show b2i true = (1 : Int32) from rfl, if10, c2, bds2, if_neg nc, e2]
      · rw [a2]
        unfold mK
        rw [c3, bds2, if_neg nc, ← e3]
        show wl2 b_X7_readsAll_66 (4095 + 1) (0 : Int32) t2 = _
        show b_X7_readsAll_66 _ _ _ = _
        unfold b_X7_readsAll_66 mE
        rw [if00]
end
