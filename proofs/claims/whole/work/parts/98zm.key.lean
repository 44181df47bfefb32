section
variable {A : Fm} {u : Nat}
theorem sf_iff (hw : WF A) (hs : stf A = true) : sfU A u = true ↔ (bS A (qb u)).2.2.1 = (bS A all1).2.2.1 := by
  unfold stf at hs
  rw [Bool.and_eq_true, decide_eq_true_iff, decide_eq_true_iff] at hs
  unfold sfU
  rw [Bool.and_eq_true, decide_eq_true_iff, decide_eq_true_iff, hs.2]
  exact ⟨fun h => h.2, fun h => ⟨hs.1, h⟩⟩
theorem sf_of (hw : WF A) (hs : stf A = true) (h : ∀ k, k < fM A → u.testBit k = false → ∃ z, Rst A z ∧ z k ≠ 0 ∧ ∀ i, i < fM A → u.testBit i = false → i ≠ k → z i = 0) : sfU A u = true :=
  (sf_iff hw hs).mpr (Nat.le_antisymm (rk_mono hw.1) (rk_H (q := qb u) hw.1 h))
theorem sf_to (hw : WF A) (hs : stf A = true) (hu : sfU A u = true) {k : Nat} (hk : k < fM A) (hb : u.testBit k = false) : ∃ z, Rst A z ∧ z k ≠ 0 ∧ ∀ i, i < fM A → u.testBit i = false → i ≠ k → z i = 0 :=
  rk_G (q := qb u) hw.1 ((sf_iff hw hs).mp hu) hk hb
theorem sf_no (hw : WF A) (hs : stf A = false) : sfU A u = false := by
  cases c : sfU A u with
  | false => rfl
  | true =>
    unfold sfU at c
    rw [Bool.and_eq_true, decide_eq_true_iff, decide_eq_true_iff] at c
    have h1 := rk_3 hw c.1
    have h2 := rk_mono (q := qb u) hw.1
    unfold stf at hs
    rw [decide_eq_true c.1, decide_eq_true (show (bS A all1).2.2.1 = 2 * fN A - 3 by omega)] at hs
    cases hs
theorem sf_0 (hw : WF A) (hs : stf A = true) (ha : ∀ i, i < fM A → u.testBit i = true) : sfU A u = true :=
  sf_of hw hs fun k hk hb => by rw [ha k hk] at hb; cases hb
theorem sf_1 (hw : WF A) (hs : stf A = true) {k : Nat} (hk : k < fM A) (hb : u.testBit k = false) (ha : ∀ i, i < fM A → i ≠ k → u.testBit i = true) : sfU A u = !ned A k := by
  have hB := hw.1
  cases c : sfU A u with
  | true =>
    obtain ⟨z, z1, z2, z3⟩ := sf_to hw hs c hk hb
    have e := Rst_K hB z1 hk
    unfold ned
    rw [Bool.not_not]
    refine (ex_iff.mpr (Classical.byContradiction fun n => ?_)).symm
    rw [sm_zero (fun j hj => by
      have : nU A j k = 0 := Classical.byContradiction fun q => n ⟨j, hj, decide_eq_true q⟩
      rw [this, Int.mul_zero])] at e
    exact Int.mul_ne_zero (pq_d hB) z2 e
  | false =>
    unfold ned
    rw [Bool.not_not]
    cases d : ex (fun j => decide (nU A j k ≠ 0)) (nS A) with
    | false => rfl
    | true =>
      obtain ⟨j, j1, j2⟩ := ex_iff.mp d
      have j2 := of_decide_eq_true j2
      rw [sf_of hw hs (fun i hi hbi => by
        have ik : i = k := Classical.byContradiction fun n => by rw [ha i hi n] at hbi; cases hbi
        refine ⟨nU A j, nU_R hB j1, by rw [ik]; exact j2, fun l hl hbl hne => ?_⟩
        rw [ha l hl (by omega)] at hbl
        cases hbl)] at c
      cases c
theorem sf_2 (hw : WF A) (hs : stf A = true) {k l : Nat} (hl : l < k) (hk : k < fM A) (hb : u.testBit k = false) (hc : u.testBit l = false) (ha : ∀ i, i < fM A → i ≠ k → i ≠ l → u.testBit i = true) : sfU A u = (decide (2 ≤ nS A) && dtQ A k l) := by
  have hB := hw.1
  have s2 := nS_2 hw hs
  cases c : sfU A u with
  | true =>
    obtain ⟨z, z1, z2, z3⟩ := sf_to hw hs c hk hb
    obtain ⟨y, y1, y2, y3⟩ := sf_to hw hs c (show l < fM A by omega) hc
    have z4 := z3 l (by omega) hc (by omega)
    have y4 := y3 k hk hb (by omega)
    have t := Rst_T hB (t := 2) (fun i => if i = 0 then k else l) (fun i => if i = 0 then z else y) (fun i _ => by split <;> omega) (fun i _ => by split; exact z1; exact y1) (fun i hi => by
      rcases (show i = 0 ∨ i = 1 by omega) with rfl | rfl
      · exact z2
      · exact y2) (fun i j hi hj hne => by
      rcases (show i = 0 ∨ i = 1 by omega) with rfl | rfl <;> rcases (show j = 0 ∨ j = 1 by omega) with rfl | rfl
      · omega
      · exact z4
      · exact y4
      · omega)
    have n2 : nS A = 2 := by omega
    have kz := Rst_K hB z1 hk
    have lz := Rst_K hB z1 (show l < fM A by omega)
    have ky := Rst_K hB y1 hk
    have ly := Rst_K hB y1 (show l < fM A by omega)
    rw [n2] at kz lz ky ly
    simp only [sm_s, sm_0] at kz lz ky ly
    rw [z4] at lz
    rw [y4] at ky
    rw [decide_eq_true t, Bool.true_and]
    refine (decide_eq_true (show nU A 0 l * nU A 1 k ≠ nU A 0 k * nU A 1 l from fun e => ?_)).symm
    have nz : ((bS A all1).2.1 * z k) * ((bS A all1).2.1 * y l) ≠ 0 := Int.mul_ne_zero (Int.mul_ne_zero (pq_d hB) z2) (Int.mul_ne_zero (pq_d hB) y2)
    rw [Int.mul_zero, Int.zero_add] at lz ky
    rw [Int.zero_add] at kz ly
    rw [kz, ly] at nz
    generalize z (ldr (lead (bS A all1)) (fM A) 0) = a at *
    generalize z (ldr (lead (bS A all1)) (fM A) 1) = b at *
    generalize y (ldr (lead (bS A all1)) (fM A) 0) = a' at *
    generalize y (ldr (lead (bS A all1)) (fM A) 1) = b' at *
    generalize nU A 0 k = p at *
    generalize nU A 1 k = q at *
    generalize nU A 0 l = p' at *
    generalize nU A 1 l = q' at *
    refine nz ?_
    have id : (a * p + b * q) * (a' * p' + b' * q') = (a * p' + b * q') * (a' * p + b' * q) + (a * b' - b * a') * (p * q' - p' * q) := by grind
    rw [id, ← lz, ← ky, e]
    grind
  | false =>
    cases d : (decide (2 ≤ nS A) && dtQ A k l) with
    | false => rfl
    | true =>
      rw [Bool.and_eq_true, decide_eq_true_iff] at d
      have d2 : nU A 0 l * nU A 1 k ≠ nU A 0 k * nU A 1 l := of_decide_eq_true d.2
      have r0 := nU_R hB (j := 0) (by omega)
      have r1 := nU_R hB (j := 1) (by omega)
      rw [sf_of hw hs (fun i hi hbi => by
        have ik : i = k ∨ i = l := Classical.byContradiction fun n => by rw [ha i hi (by omega) (by omega)] at hbi; cases hbi
        have wl : ∀ t, t < fM A → u.testBit t = false → t = k ∨ t = l := fun t ht hbt => Classical.byContradiction fun n => by rw [ha t ht (by omega) (by omega)] at hbt; cases hbt
        rcases ik with rfl | rfl
        · refine ⟨_, Rst_lin r0 r1 (nU A 1 l) (- nU A 0 l), fun e => d2 (by grind), fun t ht hbt hne => ?_⟩
          rcases wl t ht hbt with rfl | rfl
          · omega
          · show nU A 1 t * nU A 0 t + - nU A 0 t * nU A 1 t = 0
            grind
        · refine ⟨_, Rst_lin r0 r1 (nU A 1 k) (- nU A 0 k), fun e => d2 (by grind), fun t ht hbt hne => ?_⟩
          rcases wl t ht hbt with rfl | rfl
          · show nU A 1 t * nU A 0 t + - nU A 0 t * nU A 1 t = 0
            grind
          · omega)] at c
      cases c
theorem sf_3 (hw : WF A) (hs : stf A = true) {a b c : Nat} (h1 : a < b) (h2 : b < c) (h3 : c < fM A) (ha : u.testBit a = false) (hb : u.testBit b = false) (hc : u.testBit c = false) : sfU A u = false := by
  have hB := hw.1
  have s2 := nS_2 hw hs
  cases e : sfU A u with
  | false => rfl
  | true =>
    obtain ⟨x, x1, x2, x3⟩ := sf_to hw hs e (show a < fM A by omega) ha
    obtain ⟨y, y1, y2, y3⟩ := sf_to hw hs e (show b < fM A by omega) hb
    obtain ⟨z, z1, z2, z3⟩ := sf_to hw hs e h3 hc
    have t := Rst_T hB (t := 3) (fun i => if i = 0 then a else if i = 1 then b else c) (fun i => if i = 0 then x else if i = 1 then y else z) (fun i hi => by
      rcases (show i = 0 ∨ i = 1 ∨ i = 2 by omega) with rfl | rfl | rfl
      · exact (show a < fM A by omega)
      · exact (show b < fM A by omega)
      · exact h3) (fun i hi => by
      rcases (show i = 0 ∨ i = 1 ∨ i = 2 by omega) with rfl | rfl | rfl
      · exact x1
      · exact y1
      · exact z1) (fun i hi => by
      rcases (show i = 0 ∨ i = 1 ∨ i = 2 by omega) with rfl | rfl | rfl
      · exact x2
      · exact y2
      · exact z2) (fun i j hi hj hne => by
      rcases (show i = 0 ∨ i = 1 ∨ i = 2 by omega) with rfl | rfl | rfl <;> rcases (show j = 0 ∨ j = 1 ∨ j = 2 by omega) with rfl | rfl | rfl
      · omega
      · exact x3 b (by omega) hb (by omega)
      · exact x3 c (by omega) hc (by omega)
      · exact y3 a (by omega) ha (by omega)
      · omega
      · exact y3 c (by omega) hc (by omega)
      · exact z3 a (by omega) ha (by omega)
      · exact z3 b (by omega) hb (by omega)
      · omega)
    omega
theorem sf_sum (hw : WF A) (hs : stf A = true) (u : Nat) : (sfU A u).toNat = (mi0 u (fM A)).toNat + (mi1 (fun k => !ned A k) u (fM A)).toNat + (mi2 (fun k l => decide (2 ≤ nS A) && dtQ A k l) u (fM A)).toNat := by
  rcases wants u (fM A) with h | ⟨k, h1, h2, h3⟩ | ⟨k, l, h1, h2, h3, h4, h5⟩ | ⟨a, b, c, h1, h2, h3, h4, h5, h6⟩
  · rw [sf_0 hw hs h, e0_t h, e1_0 h, e2_0 h]; rfl
  · rw [sf_1 hw hs h1 h2 h3, e0_f h1 h2, e1_1 h1 h2 h3, e2_1 h1 h2 h3]; show _ = 0 + _ + 0; omega
  · rw [sf_2 hw hs h1 h2 h3 h4 h5, e0_f h2 h3, e1_2 h1 h2 h3 h4, e2_2 h1 h2 h3 h4 h5]; show _ = 0 + 0 + _; omega
  · rw [sf_3 hw hs h1 h2 h3 h4 h5 h6, e0_f h3 h6, e1_2 h2 h3 h6 h5, e2_3 h1 h2 h3 h4 h5 h6]; rfl
theorem tot_ts (A : Fm) (p N : Nat) : tot A p N = ts (fun u => (sfU A u).toNat) p (fM A) N := by
  induction N with
  | zero => rfl
  | succ N ih =>
    show tot A p N + (if sfU A N = true then wtS p N (fM A) else 0) = _
    rw [ts_s, ih]
    cases sfU A N with
    | true => rw [if_pos rfl, show true.toNat = 1 from rfl, Nat.one_mul]
    | false => rw [if_neg (by decide), show false.toNat = 0 from rfl, Nat.zero_mul]
theorem prs_frP (A : Fm) (n : Nat) : prs (dtQ A) n = frP A n := by
  induction n with
  | zero => rfl
  | succ n ih =>
    show prs (dtQ A) n + cnt (dtQ A n) n = frP A n + frR A n n
    rw [ih]; rfl
theorem prs_0 (n : Nat) : prs (fun _ _ => false) n = 0 := by
  induction n with
  | zero => rfl
  | succ n ih =>
    show prs (fun _ _ => false) n + cnt (fun _ => false) n = 0
    rw [ih, cnt_0 (fun _ _ => rfl)]
theorem keyF (A : Fm) (hw : WF A) (p : Nat) (hp : p ≤ 10) : ((tot A p (2 ^ fM A) : Nat) : Int) = if stf A = true then stT A p else 0 := by
  cases hs : stf A with
  | false =>
    rw [if_neg (by decide), tot_ts, ts_congr (G := fun _ => 0) (fun u _ => by rw [sf_no hw hs]; rfl), ts_0]
    rfl
  | true =>
    rw [if_pos rfl, tot_ts, ts_congr (fun u _ => sf_sum hw hs u), ts_add, ts_add, ts_e0, ts_e1, ts_e2]
    unfold stT
    have f1 : cnt (fun k => !ned A k) (fM A) = frB A (fM A) := rfl
    rw [f1, Int.natCast_add, Int.natCast_add, Int.natCast_pow]
    congr 1
    · congr 1
      by_cases c : 1 ≤ nS A
      · rw [if_pos c, Int.natCast_mul, Int.natCast_mul, Int.natCast_pow]
      · rw [if_neg c]
        have : frB A (fM A) = 0 := cnt_0 fun k _ => by
          unfold ned
          rw [show nS A = 0 by omega]
          rfl
        rw [this, Nat.zero_mul, Nat.zero_mul]
        rfl
    · by_cases c : 2 ≤ nS A
      · rw [if_pos c, show (fun k l => decide (2 ≤ nS A) && dtQ A k l) = dtQ A from funext fun k => funext fun l => by rw [decide_eq_true c, Bool.true_and], prs_frP, Int.natCast_mul, Int.natCast_mul, Int.natCast_mul, Int.natCast_pow]
      · rw [if_neg c, show (fun k l => decide (2 ≤ nS A) && dtQ A k l) = fun _ _ => false from funext fun k => funext fun l => by rw [decide_eq_false c, Bool.false_and], prs_0, Nat.zero_mul, Nat.zero_mul, Nat.zero_mul]
        rfl
end
section
variable {s t : Sto}
theorem P11 (a1 a2 : Int32) (h : Inv s t) : ∃ Z : Sto × Sto, st_11 a1 a2 s t = some Z ∧ Inv Z.1 Z.2 := P11_of keyF a1 a2 h
end
