section
variable {s t y z : Sto} {A : Fm} {v : Nat → Int}
def al (f : Nat → Bool) : Nat → Bool
  | 0 => true
  | n + 1 => al f n && f n
theorem al_s (f : Nat → Bool) (n : Nat) : al f (n + 1) = (al f n && f n) := rfl
theorem al_iff {f : Nat → Bool} : ∀ {n : Nat}, al f n = true ↔ ∀ i, i < n → f i = true := by
  intro n
  induction n with
  | zero => exact ⟨fun _ i hi => by omega, fun _ => rfl⟩
  | succ n ih =>
    rw [al_s, Bool.and_eq_true, ih]
    constructor
    · rintro ⟨a, b⟩ i hi
      by_cases e : i = n
      · rw [e]; exact b
      · exact a i (by omega)
    · intro a
      exact ⟨fun i hi => a i (by omega), a n (by omega)⟩
def az (v : Nat → Int) : Nat → Bool := al fun k => decide (v k = 0)
def rw1 (A : Fm) (v : Nat → Int) (k : Nat) : Nat → Bool := al fun j => decide (v k * pU A j = v j * pU A k)
def rws (A : Fm) (v : Nat → Int) : Nat → Bool := al fun k => rw1 A v k k
def zer (A : Fm) (v : Nat → Int) : Nat → Bool := al fun k => !decide (pU A k = 0) || decide (v k = 0)
def tms (A : Fm) (v : Nat → Int) : Bool := az v (fM A) || (rws A v (fM A) && zer A v (fM A))
theorem vp_le {a b : Int} (h1 : -99 ≤ a) (h2 : a ≤ 99) (h3 : -81000000000 ≤ b) (h4 : b ≤ 81000000000) : -8100000000000 ≤ a * b ∧ a * b ≤ 8100000000000 := by
  have p1 := Int.mul_nonneg (show 0 ≤ 99 - a by omega) (show 0 ≤ 81000000000 - b by omega)
  have p2 := Int.mul_nonneg (show 0 ≤ 99 + a by omega) (show 0 ≤ 81000000000 + b by omega)
  have p3 := Int.mul_nonneg (show 0 ≤ 99 - a by omega) (show 0 ≤ 81000000000 + b by omega)
  have p4 := Int.mul_nonneg (show 0 ≤ 99 + a by omega) (show 0 ≤ 81000000000 - b by omega)
  simp only [Int.sub_mul, Int.mul_sub, Int.add_mul, Int.mul_add] at p1 p2 p3 p4
  omega
def ckm (A : Fm) (v : Nat → Int) (x k : Nat) : Prop := v k * pU A x = v x * pU A k ∧ (pU A k = 0 → v k = 0)
theorem tms_iff {x : Nat} (hx : ((∀ k, k < fM A → pU A k = 0) ∧ x = 0) ∨ (x < fM A ∧ pU A x ≠ 0)) : tms A v = true ↔ ∀ k, k < fM A → ckm A v x k := by
  unfold tms az rws zer rw1
  rw [Bool.or_eq_true, Bool.and_eq_true, al_iff, al_iff, al_iff]
  simp only [al_iff, decide_eq_true_eq, Bool.or_eq_true, Bool.not_eq_true', decide_eq_false_iff_not]
  rcases hx with ⟨h0, rfl⟩ | ⟨h1, h2⟩
  · constructor
    · rintro (a | ⟨a, b⟩) k hk
      · exact ⟨by rw [h0 k hk, h0 0 (by omega), Int.mul_zero, Int.mul_zero], fun _ => a k hk⟩
      · exact ⟨by rw [h0 k hk, h0 0 (by omega), Int.mul_zero, Int.mul_zero], fun e => (b k hk).resolve_left (fun n => n e)⟩
    · intro a
      exact Or.inl fun k hk => (a k hk).2 (h0 k hk)
  · constructor
    · rintro (a | ⟨a, b⟩) k hk
      · exact ⟨by rw [a k hk, a x h1, Int.zero_mul, Int.zero_mul], fun _ => a k hk⟩
      · refine ⟨?_, fun e => (b k hk).resolve_left (fun n => n e)⟩
        rcases Nat.lt_trichotomy k x with c | c | c
        · exact (a x h1 k c).symm
        · rw [c]
        · exact a k hk x c
    · intro a
      refine Or.inr ⟨fun k hk j hj => ?_, fun k hk => ?_⟩
      · have e1 := (a k hk).1
        have e2 := (a j (by omega)).1
        have : pU A x * (v k * pU A j - v j * pU A k) = 0 := by
          have q1 : pU A x * (v k * pU A j) = (v k * pU A x) * pU A j := by grind
          have q2 : pU A x * (v j * pU A k) = (v j * pU A x) * pU A k := by grind
          rw [Int.mul_sub, q1, q2, e1, e2]
          grind
        rcases Int.mul_eq_zero.mp this with c | c
        · exact absurd c h2
        · omega
      · by_cases c : pU A k = 0
        · exact Or.inr ((a k hk).2 c)
        · exact Or.inl c
theorem c_isMultiple (hw : WF A) (hS : StC z A) (hv : ∀ k, k < fM A → -99 ≤ v k ∧ v k ≤ 99) {c i : Nat} (hi : i + fM A ≤ 24) (hd : ∀ k, k < fM A → z.2 c (i + k) = iL (v k)) : f_X4_isMultiple c (nI i) z = some (b2i (tms A v)) := by
  have hB := hw.1
  have h9 := hB.2.1
  have hm := hS.1.2.1
  have pl := pU_le hB hw.2.2.2.2.1
  have two : ∀ x, (((∀ k, k < fM A → pU A k = 0) ∧ x = 0) ∨ (x < fM A ∧ pU A x ≠ 0)) → wl3 (b_X4_isMultiple_38 c z) fu (nI i) (nI x) (nI 0) = some (b2i (tms A v)) := by
    intro x hx
    have ti := tms_iff (v := v) hx
    refine wl3_inv (Q := fun o => o = some (b2i (tms A v))) (fun h a b d => a = nI i ∧ b = nI x ∧ d = nI h ∧ ∀ k, k < h → ckm A v x k) (fM A) ?_ ?_ (by omega) ⟨rfl, rfl, rfl, fun k hk => by omega⟩
    · rintro h hh _ _ _ ⟨rfl, rfl, rfl, hk⟩
      have xl : x < fM A := by rcases hx with a | a <;> omega
      have d1 := hd h hh
      have d2 := hd x xl
      have p1 := hS.2.2.1 h hh
      have p2 := hS.2.2.1 x xl
      have q1 := pl h
      have q2 := pl x
      have w1 := hv h hh
      have w2 := hv x xl
      have m1 := vp_le w1.1 w1.2 q2.1 q2.2
      have m2 := vp_le w2.1 w2.2 q1.1 q1.2
      by_cases e1 : v h * pU A x = v x * pU A h
      · by_cases e2 : pU A h = 0
        · by_cases e3 : v h = 0
          · refine Or.inl ⟨nI i, nI x, nI (h + 1), ⟨rfl, rfl, rfl, fun k hk' => ?_⟩, fun ag => ?_⟩
            · by_cases e : k = h
              · rw [e]; exact ⟨e1, fun _ => e3⟩
              · exact hk k (by omega)
            · unfold b_X4_isMultiple_38
              simp (disch := omega) only [bds, bds2, lts, lit, nI_add, pk_mul, nI_leI, nI_ltI, nI_eq, rdI_nI, rdL_nI, wrI_nI, wrL_nI, rdR_nI, if_pos, if_neg, and_true, true_and, and_false, false_and, reduceIte, hm, d1, d2, p1, p2, iL_mul, lL0, cmE]
          · refine Or.inr fun ag => ?_
            have : tms A v = false := by
              cases q : tms A v with
              | false => rfl
              | true => exact absurd ((ti.mp q h hh).2 e2) e3
            rw [this]
            unfold b_X4_isMultiple_38
            simp (disch := omega) only [bds, bds2, lts, lit, nI_add, pk_mul, nI_leI, nI_ltI, nI_eq, rdI_nI, rdL_nI, wrI_nI, wrL_nI, rdR_nI, if_pos, if_neg, and_true, true_and, and_false, false_and, reduceIte, hm, d1, d2, p1, p2, iL_mul, lL0, cmE]
            rfl
        · refine Or.inl ⟨nI i, nI x, nI (h + 1), ⟨rfl, rfl, rfl, fun k hk' => ?_⟩, fun ag => ?_⟩
          · by_cases e : k = h
            · rw [e]; exact ⟨e1, fun x => absurd x e2⟩
            · exact hk k (by omega)
          · unfold b_X4_isMultiple_38
            simp (disch := omega) only [bds, bds2, lts, lit, nI_add, pk_mul, nI_leI, nI_ltI, nI_eq, rdI_nI, rdL_nI, wrI_nI, wrL_nI, rdR_nI, if_pos, if_neg, and_true, true_and, and_false, false_and, reduceIte, hm, d1, d2, p1, p2, iL_mul, lL0, cmE]
      · refine Or.inr fun ag => ?_
        have : tms A v = false := by
          cases q : tms A v with
          | false => rfl
          | true => exact absurd (ti.mp q h hh).1 e1
        rw [this]
        unfold b_X4_isMultiple_38
        simp (disch := omega) only [bds, bds2, lts, lit, nI_add, pk_mul, nI_leI, nI_ltI, nI_eq, rdI_nI, rdL_nI, wrI_nI, wrL_nI, rdR_nI, if_pos, if_neg, and_true, true_and, and_false, false_and, reduceIte, hm, d1, d2, p1, p2, iL_mul, lL0, cmE]
        rfl
    · rintro _ _ _ ⟨rfl, rfl, rfl, hk⟩ ag
      rw [ti.mpr hk]
      unfold b_X4_isMultiple_38
      simp (disch := omega) only [bds, bds2, lts, lit, nI_add, pk_mul, nI_leI, nI_ltI, nI_eq, rdI_nI, rdL_nI, wrI_nI, wrL_nI, rdR_nI, if_pos, if_neg, and_true, true_and, and_false, false_and, reduceIte, hm]
      rfl
  refine wl3_inv (Q := fun o => o = some (b2i (tms A v))) (fun h a b d => a = nI i ∧ d = nI h ∧ ∃ x, b = nI x ∧ (((∀ k, k < h → pU A k = 0) ∧ x = 0) ∨ (x < h ∧ pU A x ≠ 0))) (fM A) ?_ ?_ (by omega) ⟨rfl, rfl, 0, rfl, Or.inl ⟨fun k hk => by omega, rfl⟩⟩
  · rintro h hh _ _ _ ⟨rfl, rfl, x, rfl, hx⟩
    have p1 := hS.2.2.1 h hh
    have q1 := pl h
    by_cases e : pU A h = 0
    · refine Or.inl ⟨nI i, nI x, nI (h + 1), ⟨rfl, rfl, x, rfl, ?_⟩, fun ag => ?_⟩
      · rcases hx with ⟨a, b⟩ | ⟨a, b⟩
        · refine Or.inl ⟨fun k hk => ?_, b⟩
          by_cases e' : k = h
          · rw [e']; exact e
          · exact a k (by omega)
        · exact Or.inr ⟨by omega, b⟩
      · unfold b_X4_isMultiple_5
        simp (disch := omega) only [bds, bds2, lts, lit, nI_add, pk_mul, nI_leI, nI_ltI, nI_eq, rdI_nI, rdL_nI, wrI_nI, wrL_nI, rdR_nI, if_pos, if_neg, and_true, true_and, and_false, false_and, reduceIte, hm, p1, lL0, cmE]
    · refine Or.inl ⟨nI i, nI h, nI (h + 1), ⟨rfl, rfl, h, rfl, Or.inr ⟨by omega, e⟩⟩, fun ag => ?_⟩
      unfold b_X4_isMultiple_5
      simp (disch := omega) only [bds, bds2, lts, lit, nI_add, pk_mul, nI_leI, nI_ltI, nI_eq, rdI_nI, rdL_nI, wrI_nI, wrL_nI, rdR_nI, if_pos, if_neg, and_true, true_and, and_false, false_and, reduceIte, hm, p1, lL0, cmE]
  · rintro _ _ _ ⟨rfl, rfl, x, rfl, hx⟩ ag
    unfold b_X4_isMultiple_5
    rw [hm, if_pos (nI_le (Nat.le_refl _) (by omega))]
    exact two x hx
theorem m_isTimes (hw : WF A) (hR : RowM (z.1 123) A) (hS : StM z A) (hv : ∀ k, k < fM A → -99 ≤ v k ∧ v k ≤ 99) {i : Nat} (hi : i + fM A ≤ 96) (hd : ∀ k, k < fM A → z.2 130 (i + k) = iL (v k)) : wl5 b_X7_isTimes_11 fu (nI i) (1 : Int32) (1 : Int32) (nI 0) z = some (b2i (tms A v), z) := by
  have hB := hw.1
  have h9 := hB.2.1
  have hm := hR.1.2.1
  have pl := pU_le hB hw.2.2.2.2.1
  have two : wl5 b_X7_isTimes_117 fu (nI i) (b2i (az v (fM A))) (b2i (rws A v (fM A))) (nI 0) z = some (b2i (tms A v), z) := by
    refine wl5_inv (Q := fun o => o = some (b2i (tms A v), z)) (fun k a1 a2 a3 a4 a5 => a1 = nI i ∧ a2 = b2i (az v (fM A)) ∧ a3 = b2i (rws A v (fM A) && zer A v k) ∧ a4 = nI k ∧ a5 = z) (fM A) ?_ ?_ (by omega) ⟨rfl, rfl, by show _ = b2i (rws A v (fM A) && true); rw [Bool.and_true], rfl, rfl⟩
    · rintro k hk _ _ _ _ z ⟨rfl, rfl, rfl, rfl, rfl⟩
      have d1 := hd k hk
      have p1 := m_pullOf hB hw.2.2.2.2.1 hR hS hk
      have q1 := pl k
      have w1 := hv k hk
      refine Or.inl ⟨nI i, b2i (az v (fM A)), b2i (rws A v (fM A) && zer A v (k + 1)), nI (k + 1), z, ⟨rfl, rfl, rfl, rfl, rfl⟩, fun ag => ?_⟩
      rw [show zer A v (k + 1) = (zer A v k && (!decide (pU A k = 0) || decide (v k = 0))) from rfl, ← Bool.and_assoc]
      unfold b_X7_isTimes_117 j_X7_isTimes_157
      rw [m_rd1]
      cases (rws A v (fM A) && zer A v k) with
      | false =>
        rw [show b2i false = nI 0 from rfl]
        simp (disch := omega) only [bds, bds2, lts, lit, nI_add, pk_mul, nI_leI, nI_ltI, nI_eq, rdI_nI, rdL_nI, wrI_nI, wrL_nI, rdR_nI, if_pos, if_neg, and_true, true_and, and_false, false_and, reduceIte, hm]
        rfl
      | true =>
        rw [show b2i true = nI 1 from rfl]
        by_cases e2 : pU A k = 0
        · by_cases e3 : v k = 0
          · rw [decide_eq_true e2, decide_eq_true e3]
            simp (disch := omega) only [bds, bds2, lts, lit, nI_add, pk_mul, nI_leI, nI_ltI, nI_eq, rdI_nI, rdL_nI, wrI_nI, wrL_nI, rdR_nI, if_pos, if_neg, and_true, true_and, and_false, false_and, reduceIte, hm, d1, p1, lL0, cmE]
            rfl
          · rw [decide_eq_true e2, decide_eq_false e3]
            simp (disch := omega) only [bds, bds2, lts, lit, nI_add, pk_mul, nI_leI, nI_ltI, nI_eq, rdI_nI, rdL_nI, wrI_nI, wrL_nI, rdR_nI, if_pos, if_neg, and_true, true_and, and_false, false_and, reduceIte, hm, d1, p1, lL0, cmE]
            rfl
        · rw [decide_eq_false e2]
          simp (disch := omega) only [bds, bds2, lts, lit, nI_add, pk_mul, nI_leI, nI_ltI, nI_eq, rdI_nI, rdL_nI, wrI_nI, wrL_nI, rdR_nI, if_pos, if_neg, and_true, true_and, and_false, false_and, reduceIte, hm, d1, p1, lL0, cmE]
          rfl
    · rintro _ _ _ _ z ⟨rfl, rfl, rfl, rfl, rfl⟩ ag
      unfold b_X7_isTimes_117 tms j_X7_isTimes_177
      rw [m_rd1, bds, hm, if_pos (nI_le (Nat.le_refl _) (by omega))]
      cases az v (fM A) <;> cases (rws A v (fM A) && zer A v (fM A)) <;> rfl
  refine wl5_ind (Q := fun o => o = some (b2i (tms A v), z)) (fun k a1 a2 a3 a4 a5 => a1 = nI i ∧ a2 = b2i (az v k) ∧ a3 = b2i (rws A v k) ∧ a4 = nI k ∧ a5 = z) (fM A) ?_ ?_ (by omega) ⟨rfl, rfl, rfl, rfl, rfl⟩
  · rintro k hk _ _ _ _ z ⟨rfl, rfl, rfl, rfl, rfl⟩ ag
    have d1 := hd k hk
    have w1 := hv k hk
    have p1 := m_pullOf hB hw.2.2.2.2.1 hR hS hk
    have q1 := pl k
    have inn : wl6 (b_X7_isTimes_49 ag) fu (nI i) (b2i (az v (k + 1))) (b2i (rws A v k)) (nI k) (0 : Int32) z = ag (nI i) (b2i (az v (k + 1))) (b2i (rws A v (k + 1))) (nI (k + 1)) z := by
      refine wl6_inv (Q := fun o => o = ag (nI i) (b2i (az v (k + 1))) (b2i (rws A v (k + 1))) (nI (k + 1)) z) (fun j a1 a2 a3 a4 a5 a6 => a1 = nI i ∧ a2 = b2i (az v (k + 1)) ∧ a3 = b2i (rws A v k && rw1 A v k j) ∧ a4 = nI k ∧ a5 = nI j ∧ a6 = z) k ?_ ?_ (by omega) ⟨rfl, rfl, by show _ = b2i (rws A v k && true); rw [Bool.and_true], rfl, rfl, rfl⟩
      · rintro j hj _ _ _ _ _ z ⟨rfl, rfl, rfl, rfl, rfl, rfl⟩
        have d2 := hd j (by omega)
        have w2 := hv j (by omega)
        have p2 := m_pullOf hB hw.2.2.2.2.1 hR hS (k := j) (by omega)
        have q2 := pl j
        have m1 := vp_le w1.1 w1.2 q2.1 q2.2
        have m2 := vp_le w2.1 w2.2 q1.1 q1.2
        refine Or.inl ⟨nI i, b2i (az v (k + 1)), b2i (rws A v k && rw1 A v k (j + 1)), nI k, nI (j + 1), z, ⟨rfl, rfl, rfl, rfl, rfl, rfl⟩, fun ag2 => ?_⟩
        rw [show rw1 A v k (j + 1) = (rw1 A v k j && decide (v k * pU A j = v j * pU A k)) from rfl, ← Bool.and_assoc]
        unfold b_X7_isTimes_49
        cases (rws A v k && rw1 A v k j) with
        | false =>
          rw [show b2i false = nI 0 from rfl]
          simp (disch := omega) only [bds, bds2, lts, lit, nI_add, pk_mul, nI_leI, nI_ltI, nI_eq, rdI_nI, rdL_nI, wrI_nI, wrL_nI, rdR_nI, if_pos, if_neg, and_true, true_and, and_false, false_and, reduceIte, hm]
          rfl
        | true =>
          rw [show b2i true = nI 1 from rfl]
          by_cases e : v k * pU A j = v j * pU A k
          · rw [decide_eq_true e]
            simp (disch := omega) only [bds, bds2, lts, lit, nI_add, pk_mul, nI_leI, nI_ltI, nI_eq, rdI_nI, rdL_nI, wrI_nI, wrL_nI, rdR_nI, if_pos, if_neg, and_true, true_and, and_false, false_and, reduceIte, hm, d1, d2, p1, p2, iL_mul, cmE]
            rfl
          · rw [decide_eq_false e]
            simp (disch := omega) only [bds, bds2, lts, lit, nI_add, pk_mul, nI_leI, nI_ltI, nI_eq, rdI_nI, rdL_nI, wrI_nI, wrL_nI, rdR_nI, if_pos, if_neg, and_true, true_and, and_false, false_and, reduceIte, hm, d1, d2, p1, p2, iL_mul, cmE]
            rfl
      · rintro _ _ _ _ _ z ⟨rfl, rfl, rfl, rfl, rfl, rfl⟩ ag2
        unfold b_X7_isTimes_49
        simp (disch := omega) only [bds, bds2, lts, lit, nI_add, pk_mul, nI_leI, nI_ltI, nI_eq, rdI_nI, rdL_nI, wrI_nI, wrL_nI, rdR_nI, if_pos, if_neg, and_true, true_and, and_false, false_and, reduceIte]
        rfl
    refine Or.inl ⟨_, _, _, _, _, ⟨rfl, rfl, rfl, rfl, rfl⟩, ?_⟩
    rw [← inn, show az v (k + 1) = (az v k && decide (v k = 0)) from rfl]
    unfold b_X7_isTimes_11
    rw [m_rd1]
    cases az v k with
    | false =>
      rw [show b2i false = nI 0 from rfl]
      simp (disch := omega) only [bds, bds2, lts, lit, nI_add, pk_mul, nI_leI, nI_ltI, nI_eq, rdI_nI, rdL_nI, wrI_nI, wrL_nI, rdR_nI, if_pos, if_neg, and_true, true_and, and_false, false_and, reduceIte, hm]
      rfl
    | true =>
      rw [show b2i true = nI 1 from rfl]
      by_cases e : v k = 0
      · rw [decide_eq_true e]
        simp (disch := omega) only [bds, bds2, lts, lit, nI_add, pk_mul, nI_leI, nI_ltI, nI_eq, rdI_nI, rdL_nI, wrI_nI, wrL_nI, rdR_nI, if_pos, if_neg, and_true, true_and, and_false, false_and, reduceIte, hm, d1, lL0, cmE]
        rfl
      · rw [decide_eq_false e]
        simp (disch := omega) only [bds, bds2, lts, lit, nI_add, pk_mul, nI_leI, nI_ltI, nI_eq, rdI_nI, rdL_nI, wrI_nI, wrL_nI, rdR_nI, if_pos, if_neg, and_true, true_and, and_false, false_and, reduceIte, hm, d1, lL0, cmE]
        rfl
  · rintro _ _ _ _ z ⟨rfl, rfl, rfl, rfl, rfl⟩ ag
    unfold b_X7_isTimes_11
    rw [m_rd1, bds, hm, if_pos (nI_le (Nat.le_refl _) (by omega))]
    exact two
end
