/-! how many pivots a part of the bars has -/
section
variable {A : Fm} {q : Nat → Bool}
theorem mA_q {r k : Nat} (h : q k = true) : mA A q r k = mA A all1 r k := by
  unfold mA
  by_cases c : k < fM A
  · rw [if_pos ⟨c, h⟩, if_pos ⟨c, rfl⟩]
  · rw [if_neg (fun x => c x.1), if_neg (fun x => c x.1)]
theorem pq_q (hB : BF A) {l : Nat} (hl : l < (bS A q).2.2.1) : q ((bS A q).2.2.2 l) = true := by
  refine Classical.byContradiction fun c => ?_
  have := BI_ind hB.2.1 (bI (q := q) hB) (x := fun i => if i = l then 1 else 0) (fun r _ => by
    rw [sm_one (k := l) hl (fun i _ hne => by rw [if_neg hne, Int.zero_mul]), if_pos rfl, Int.one_mul]
    unfold mA
    rw [if_neg (fun x => c x.2)]) l hl
  rw [if_pos rfl] at this
  exact absurd this (by decide)
theorem pq_ind (hB : BF A) {x : Nat → Int} (hx : ∀ r, r < 12 → sm (bS A q).2.2.1 (fun l => x l * mA A all1 r ((bS A q).2.2.2 l)) = 0) : ∀ i, i < (bS A q).2.2.1 → x i = 0 :=
  BI_ind hB.2.1 (bI (q := q) hB) fun r hr => (sm_congr fun l hl => by rw [mA_q (pq_q hB hl)]).trans (hx r hr)
theorem pq_end (hB : BF A) {k r : Nat} (hk : k < fM A) (hq : q k = true) (hr : r < 12) : (bS A q).2.1 * mA A all1 r k = sm (bS A q).2.2.1 (fun l => (bS A q).1 l k * mA A all1 r ((bS A q).2.2.2 l)) := by
  have := BI_end hB.2.1 (bI (q := q) hB) hk hr
  rw [mA_q hq] at this
  rw [this]
  exact sm_congr fun l hl => by rw [mA_q (pq_q hB hl)]
theorem pq_d (hB : BF A) : (bS A q).2.1 ≠ 0 := (BI_p (bI (q := q) hB)).2.1
theorem pq_m (hB : BF A) {l : Nat} (hl : l < (bS A q).2.2.1) : (bS A q).2.2.2 l < fM A := (BI_p (bI (q := q) hB)).2.2 l hl
theorem rk_mono (hB : BF A) : (bS A q).2.2.1 ≤ (bS A all1).2.2.1 :=
  stz (fun i p => mA A all1 p ((bS A q).2.2.2 i)) (fun l p => mA A all1 p ((bS A all1).2.2.2 l)) (fun _ hx => pq_ind hB hx) (fun _ => (bS A all1).2.1) (fun _ _ => pq_d hB) (fun i l => (bS A all1).1 l ((bS A q).2.2.2 i)) (fun _ hi _ hp => pq_end hB (pq_m hB hi) rfl hp)
def Rst (A : Fm) (z : Nat → Int) : Prop := ∀ r, r < 12 → sm (fM A) (fun k => mA A all1 r k * z k) = 0
/-- as many pivots without some bars: a stress for each of them -/
theorem rk_G (hB : BF A) (he : (bS A q).2.2.1 = (bS A all1).2.2.1) {k : Nat} (hk : k < fM A) (hq : q k = false) : ∃ z, Rst A z ∧ z k ≠ 0 ∧ ∀ i, i < fM A → q i = false → i ≠ k → z i = 0 := by
  obtain ⟨g, hg⟩ : ∃ g : Nat → Nat, g = fun i => if i < (bS A q).2.2.1 then (bS A q).2.2.2 i else k := ⟨_, rfl⟩
  have g1 : ∀ i, i < (bS A q).2.2.1 → g i = (bS A q).2.2.2 i := fun i hi => by rw [hg]; exact if_pos hi
  have g2 : g (bS A q).2.2.1 = k := by rw [hg]; exact if_neg (Nat.lt_irrefl _)
  have g3 : ∀ i, i < (bS A q).2.2.1 + 1 → g i < fM A := fun i hi => by
    by_cases e : i < (bS A q).2.2.1
    · rw [g1 i e]; exact pq_m hB e
    · rw [show i = (bS A q).2.2.1 by omega, g2]; exact hk
  obtain ⟨x, ⟨i0, h1, h2⟩, h3⟩ := hom (bS A all1).2.2.1 ((bS A q).2.2.1 + 1) (fun i l => (bS A all1).1 l (g i)) (by omega)
  have e1 : ∀ r, r < 12 → sm ((bS A q).2.2.1 + 1) (fun i => x i * mA A all1 r (g i)) = 0 := by
    intro r hr
    have e2 : (bS A all1).2.1 * sm ((bS A q).2.2.1 + 1) (fun i => x i * mA A all1 r (g i)) = sm ((bS A q).2.2.1 + 1) (fun i => sm (bS A all1).2.2.1 (fun l => x i * ((bS A all1).1 l (g i) * mA A all1 r ((bS A all1).2.2.2 l)))) := by
      rw [← sm_mul]
      refine sm_congr fun i hi => ?_
      rw [sm_mul, ← pq_end hB (g3 i hi) rfl hr]
      grind
    have e3 : sm (bS A all1).2.2.1 (fun l => sm ((bS A q).2.2.1 + 1) (fun i => x i * ((bS A all1).1 l (g i) * mA A all1 r ((bS A all1).2.2.2 l)))) = 0 := sm_zero fun l hl => by
      have e4 : sm ((bS A q).2.2.1 + 1) (fun i => x i * ((bS A all1).1 l (g i) * mA A all1 r ((bS A all1).2.2.2 l))) = sm ((bS A q).2.2.1 + 1) (fun i => x i * (bS A all1).1 l (g i)) * mA A all1 r ((bS A all1).2.2.2 l) := by
        rw [← sm_mulr]
        exact sm_congr fun i _ => by rw [Int.mul_assoc]
      rw [e4, h3 l hl, Int.zero_mul]
    rw [sm_swap, e3] at e2
    exact (Int.mul_eq_zero.mp e2).resolve_left (pq_d hB)
  have e5 : ∀ r, r < 12 → sm (bS A q).2.2.1 (fun i => x i * mA A all1 r ((bS A q).2.2.2 i)) + x (bS A q).2.2.1 * mA A all1 r k = 0 := by
    intro r hr
    have e := e1 r hr
    rw [sm_s, g2] at e
    rw [← e]
    congr 1
    exact sm_congr fun i hi => by rw [g1 i hi]
  have xr : x (bS A q).2.2.1 ≠ 0 := fun c => by
    have z := pq_ind (q := q) hB (x := x) (fun r hr => by
      have := e5 r hr
      rw [c, Int.zero_mul, Int.add_zero] at this
      exact this)
    by_cases e : i0 < (bS A q).2.2.1
    · exact h2 (z i0 e)
    · rw [show i0 = (bS A q).2.2.1 by omega] at h2
      exact h2 c
  have fk : ∀ i, i < (bS A q).2.2.1 → ∀ j, q j = false → (bS A q).2.2.2 i ≠ j := fun i hi j hj e => by
    have := pq_q (q := q) hB hi
    rw [e, hj] at this
    cases this
  refine ⟨fun j => sm (bS A q).2.2.1 (fun i => if (bS A q).2.2.2 i = j then x i else 0) + (if j = k then x (bS A q).2.2.1 else 0), fun r hr => ?_, ?_, fun j _ hqj hj => ?_⟩
  · have e6 : sm (fM A) (fun j => mA A all1 r j * (sm (bS A q).2.2.1 (fun i => if (bS A q).2.2.2 i = j then x i else 0) + (if j = k then x (bS A q).2.2.1 else 0))) = sm (fM A) (fun j => sm (bS A q).2.2.1 (fun i => mA A all1 r j * (if (bS A q).2.2.2 i = j then x i else 0))) + sm (fM A) (fun j => mA A all1 r j * (if j = k then x (bS A q).2.2.1 else 0)) := by
      rw [← sm_add]
      exact sm_congr fun j _ => by rw [Int.mul_add, sm_mul]
    rw [e6, sm_swap, sm_one (k := k) hk (fun j _ hne => by rw [if_neg hne, Int.mul_zero]), if_pos rfl]
    refine Eq.trans ?_ (e5 r hr)
    congr 1
    · refine sm_congr fun i hi => ?_
      rw [sm_one (k := (bS A q).2.2.2 i) (pq_m hB hi) (fun j _ hne => by rw [if_neg (fun e => hne e.symm), Int.mul_zero]), if_pos rfl, Int.mul_comm]
    · rw [Int.mul_comm]
  · show sm (bS A q).2.2.1 (fun i => if (bS A q).2.2.2 i = k then x i else 0) + (if k = k then x (bS A q).2.2.1 else 0) ≠ 0
    rw [sm_zero (fun i hi => if_neg (fk i hi k hq)), if_pos rfl, Int.zero_add]
    exact xr
  · show sm (bS A q).2.2.1 (fun i => if (bS A q).2.2.2 i = j then x i else 0) + (if j = k then x (bS A q).2.2.1 else 0) = 0
    rw [sm_zero (fun i hi => if_neg (fk i hi j hqj)), if_neg hj]
    rfl
/-- a stress for each bar that is wanting: as many pivots -/
theorem rk_H (hB : BF A) (h : ∀ k, k < fM A → q k = false → ∃ z, Rst A z ∧ z k ≠ 0 ∧ ∀ i, i < fM A → q i = false → i ≠ k → z i = 0) : (bS A all1).2.2.1 ≤ (bS A q).2.2.1 := by
  have main : ∀ k, ∃ dc : Int × (Nat → Int), k < fM A → dc.1 ≠ 0 ∧ ∀ r, r < 12 → dc.1 * mA A all1 r k = sm (bS A q).2.2.1 (fun l => dc.2 l * mA A all1 r ((bS A q).2.2.2 l)) := by
    intro k
    by_cases hk : k < fM A
    · cases hq : q k with
      | true => exact ⟨((bS A q).2.1, fun l => (bS A q).1 l k), fun _ => ⟨pq_d hB, fun r hr => pq_end hB hk hq hr⟩⟩
      | false =>
        obtain ⟨z, z1, z2, z3⟩ := h k hk hq
        refine ⟨(z k * (bS A q).2.1, fun l => - sm (fM A) (fun j => if j = k then 0 else z j * (bS A q).1 l j)), fun _ => ⟨Int.mul_ne_zero z2 (pq_d hB), fun r hr => ?_⟩⟩
        show z k * (bS A q).2.1 * mA A all1 r k = sm (bS A q).2.2.1 (fun l => - sm (fM A) (fun j => if j = k then 0 else z j * (bS A q).1 l j) * mA A all1 r ((bS A q).2.2.2 l))
        have e1 : sm (bS A q).2.2.1 (fun l => - sm (fM A) (fun j => if j = k then 0 else z j * (bS A q).1 l j) * mA A all1 r ((bS A q).2.2.2 l)) = - sm (bS A q).2.2.1 (fun l => sm (fM A) (fun j => (if j = k then 0 else z j * (bS A q).1 l j) * mA A all1 r ((bS A q).2.2.2 l))) := by
          rw [← sm_neg]
          exact sm_congr fun l _ => by rw [sm_mulr, Int.neg_mul]
        have e2 : sm (fM A) (fun j => sm (bS A q).2.2.1 (fun l => (if j = k then 0 else z j * (bS A q).1 l j) * mA A all1 r ((bS A q).2.2.2 l))) = sm (fM A) (fun j => (bS A q).2.1 * (mA A all1 r j * z j) - (if j = k then (bS A q).2.1 * (mA A all1 r k * z k) else 0)) := by
          refine sm_congr fun j hj => ?_
          by_cases c : j = k
          · subst c
            rw [if_pos rfl, sm_zero (fun l _ => by rw [if_pos rfl, Int.zero_mul])]
            omega
          · rw [if_neg c]
            have e3 : sm (bS A q).2.2.1 (fun l => (if j = k then 0 else z j * (bS A q).1 l j) * mA A all1 r ((bS A q).2.2.2 l)) = z j * sm (bS A q).2.2.1 (fun l => (bS A q).1 l j * mA A all1 r ((bS A q).2.2.2 l)) := by
              rw [← sm_mul]
              exact sm_congr fun l _ => by rw [if_neg c, Int.mul_assoc]
            rw [e3]
            cases hj2 : q j with
            | true => rw [← pq_end hB hj hj2 hr]; grind
            | false => rw [z3 j hj hj2 c]; simp
        rw [e1, sm_swap, e2, sm_sub, sm_mul, z1 r hr, sm_one (k := k) hk (fun j _ hne => if_neg hne), if_pos rfl]
        grind
    · exact ⟨(0, fun _ => 0), fun c => absurd c hk⟩
  exact stz (fun i p => mA A all1 p ((bS A all1).2.2.2 i)) (fun l p => mA A all1 p ((bS A q).2.2.2 l)) (fun _ hx => pq_ind hB hx) (fun i => (Classical.choose (main ((bS A all1).2.2.2 i))).1) (fun i hi => (Classical.choose_spec (main ((bS A all1).2.2.2 i)) (pq_m hB hi)).1) (fun i => (Classical.choose (main ((bS A all1).2.2.2 i))).2) (fun i hi p hp => (Classical.choose_spec (main ((bS A all1).2.2.2 i)) (pq_m hB hi)).2 p hp)
end
