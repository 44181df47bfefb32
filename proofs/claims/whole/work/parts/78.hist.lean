/-! the class's known steps -/
theorem RepC_congr {z z' : Sto} {q : Nat} {A : Fm} (h : ∀ c, q ≤ c → c ≤ q + 5 → z'.1 c = z.1 c) (hR : RepC z q A) : RepC z' q A := by
  refine ⟨⟨?_, ?_, ?_⟩, fun j hj => ?_, fun j hj => ?_, fun k hk => ?_, fun k hk => ?_, fun j hj => ?_⟩
  · rw [h _ (by omega) (by omega)]; exact hR.1.1
  · rw [h _ (by omega) (by omega)]; exact hR.1.2.1
  · rw [h _ (by omega) (by omega)]; exact hR.1.2.2
  · rw [h _ (by omega) (by omega)]; exact hR.2.1 j hj
  · rw [h _ (by omega) (by omega)]; exact hR.2.2.1 j hj
  · rw [h _ (by omega) (by omega)]; exact hR.2.2.2.1 k hk
  · rw [h _ (by omega) (by omega)]; exact hR.2.2.2.2.1 k hk
  · rw [h _ (by omega) (by omega)]; exact hR.2.2.2.2.2 j hj
theorem c_copy {z : Sto} {q q1 : Nat} (hd : q1 + 5 < q ∨ q + 5 < q1) : ∃ z', f_X1_takeAll q q1 z = some z' ∧ Fr q z z' ∧ ∀ A2, BF A2 → RepC z q1 A2 → RepC z' q A2 := by
  obtain ⟨w, hw⟩ : ∃ w : Fm, w = ((0, 0), (fun _ => 0, fun _ => 0), (fun _ => 0, fun _ => 0), fun _ => 0, 0) := ⟨_, rfl⟩
  unfold f_X1_takeAll f_X1_takeFigure
  simp (disch := omega) only [bds, bds2, lts, lit, nI_add, pk_mul, nI_leI, nI_ltI, nI_eq, rdI_nI, rdL_nI, wrI_nI, wrL_nI, rdR_nI, if_pos, if_neg, and_true, true_and, and_false, false_and, reduceIte, cpI_nI]
  refine ⟨_, rfl, ?_, fun A2 hB hR => ?_⟩
  · exact ((((((((Fr.rf.up (by omega)).up (by omega)).st (by omega)).st (by omega)).st (by omega)).st (by omega)).up (by omega)).st (by omega))
  · have h6 := hB.1
    have h9 := hB.2.1
    refine ⟨⟨?_, ?_, ?_⟩, fun j hj => ?_, fun j hj => ?_, fun k hk => ?_, fun k hk => ?_, fun j hj => ?_⟩
    · simp (disch := omega) only [stI_at, upI_at, if_neg, if_pos, cpy0]; exact hR.1.1
    · simp (disch := omega) only [stI_at, upI_at, if_neg, if_pos, cpy0]; exact hR.1.2.1
    · simp (disch := omega) only [stI_at, upI_at, if_neg, if_pos, cpy0]; exact hR.1.2.2
    · simp (disch := omega) only [stI_at, upI_at, if_neg, if_pos, cpy0]; exact hR.2.1 j hj
    · simp (disch := omega) only [stI_at, upI_at, if_neg, if_pos, cpy0]; exact hR.2.2.1 j hj
    · simp (disch := omega) only [stI_at, upI_at, if_neg, if_pos, cpy0]; exact hR.2.2.2.1 k hk
    · simp (disch := omega) only [stI_at, upI_at, if_neg, if_pos, cpy0]; exact hR.2.2.2.2.1 k hk
    · simp (disch := omega) only [stI_at, upI_at, if_neg, if_pos, cpy0]; exact hR.2.2.2.2.2 j hj
def IC (z : Sto) (q n : Nat) (Hs : Nat → Fm) : Prop := (n ≤ 6 ∧ z.1 q 1 = nI n) ∧ ∃ e, e < 6 ∧ z.1 q 2 = nI e ∧ ∀ i, i < n → RepC z (q + 1 + 1 + 6 * ((e + 6 - n + i) % 6)) (Hs i)
theorem IC_congr {z z' : Sto} {q n : Nat} {Hs : Nat → Fm} (h : ∀ c, q ≤ c → c ≤ q + 37 → z'.1 c = z.1 c) (hI : IC z q n Hs) : IC z' q n Hs := by
  obtain ⟨⟨h1, h2⟩, e, h3, h4, h5⟩ := hI
  refine ⟨⟨h1, by rw [h q (by omega) (by omega)]; exact h2⟩, e, h3, by rw [h q (by omega) (by omega)]; exact h4, fun i hi => RepC_congr (fun c hc1 hc2 => h c (by omega) (by omega)) (h5 i hi)⟩
/-- cells beside some from one to another are as they were -/
def Fq (lo hi : Nat) (z z' : Sto) : Prop := (∀ c, c < lo ∨ hi < c → z'.1 c = z.1 c) ∧ z'.2 = z.2
theorem Fq.rf {lo hi : Nat} {z : Sto} : Fq lo hi z z := ⟨fun _ _ => rfl, rfl⟩
theorem Fq.tr {lo hi : Nat} {z z' z'' : Sto} (h : Fq lo hi z z') (h' : Fq lo hi z' z'') : Fq lo hi z z'' := ⟨fun c hc => (h'.1 c hc).trans (h.1 c hc), h'.2.trans h.2⟩
theorem Fq.up {lo hi : Nat} {z z' : Sto} (h : Fq lo hi z z') {c k : Nat} {x : Int32} (hc : lo ≤ c ∧ c ≤ hi) : Fq lo hi z (upI z' c k x) := ⟨fun b hb => (upI_ne (by omega)).trans (h.1 b hb), h.2⟩
theorem Fr.fq {q lo hi : Nat} {z z' : Sto} (h : Fr q z z') (h1 : lo ≤ q) (h2 : q + 5 ≤ hi) : Fq lo hi z z' := ⟨fun c hc => h.1 c (by omega), h.2⟩
theorem Fq.mono {lo hi lo' hi' : Nat} {z z' : Sto} (h : Fq lo hi z z') (h1 : lo' ≤ lo) (h2 : hi ≤ hi') : Fq lo' hi' z z' := ⟨fun c hc => h.1 c (by omega), h.2⟩
section
variable {z : Sto} {A : Fm} {n : Nat} {Hs : Nat → Fm}
theorem c_remember {q : Nat} (hq : 6 < q) (hB : BF A) (hR : RepC z 1 A) (hI : IC z q n Hs) : ∃ z', f_X2_remember q z = some z' ∧ Fq q (q + 37) z z' ∧ IC z' q (min (n + 1) 6) (psh n Hs A) := by
  obtain ⟨⟨h1, h2⟩, e, h3, h4, h5⟩ := hI
  unfold f_X2_remember
  rw [h4, rdR_nI h3 (by omega), bds]
  obtain ⟨z1, a1, a2, a3⟩ := c_copy (z := z) (q := q + 1 + 1 + 6 * e) (q1 := 1) (by omega)
  have v2 : z1.1 q 2 = nI e := by rw [a2.1 q (by omega)]; exact h4
  have v1 : z1.1 q 1 = nI n := by rw [a2.1 q (by omega)]; exact h2
  rw [a1, bds]
  simp (disch := omega) only [bds, bds2, lts, lit, nI_add, pk_mul, nI_leI, nI_ltI, nI_eq, rdI_nI, rdL_nI, wrI_nI, wrL_nI, rdR_nI, if_pos, if_neg, and_true, true_and, and_false, false_and, reduceIte, v2, pk_rem, upI_at, v1]
  rw [mnI_nI (by omega) (by omega)]
  refine ⟨_, rfl, ((a2.fq (by omega) (by omega)).up (by omega)).up (by omega), ⟨by omega, ?_⟩, (e + 1) % 6, by omega, ?_, fun i hi => ?_⟩
  · rw [upI_at, if_pos ⟨rfl, rfl⟩]
  · rw [upI_at, if_neg (by omega), upI_at, if_pos ⟨rfl, rfl⟩]
  · refine RepC_congr (z := z1) (fun c hc1 hc2 => by rw [upI_ne (by omega), upI_ne (by omega)]) ?_
    unfold psh
    by_cases c : n < 6
    · rw [if_pos c]
      by_cases c2 : i = n
      · rw [if_pos c2]
        have : ((e + 1) % 6 + 6 - min (n + 1) 6 + i) % 6 = e := by omega
        rw [this]
        exact a3 A hB hR
      · rw [if_neg c2]
        have : ((e + 1) % 6 + 6 - min (n + 1) 6 + i) % 6 = (e + 6 - n + i) % 6 := by omega
        rw [this]
        exact RepC_congr (fun c hc1 hc2 => a2.1 c (by omega)) (h5 i (by omega))
    · rw [if_neg c]
      by_cases c2 : i = 5
      · rw [if_pos c2]
        have : ((e + 1) % 6 + 6 - min (n + 1) 6 + i) % 6 = e := by omega
        rw [this]
        exact a3 A hB hR
      · rw [if_neg c2]
        have : ((e + 1) % 6 + 6 - min (n + 1) 6 + i) % 6 = (e + 6 - n + (i + 1)) % 6 := by omega
        rw [this]
        exact RepC_congr (fun c hc1 hc2 => a2.1 c (by omega)) (h5 (i + 1) (by omega))
theorem c_takeBack {q : Nat} (hq : 6 < q) (hn : 0 < n) (hBH : ∀ i, i < n → BF (Hs i)) (hI : IC z q n Hs) : ∃ z', f_X2_takeBack q z = some z' ∧ (∀ c, (c < 1 ∨ 6 < c) → c ≠ q → z'.1 c = z.1 c) ∧ z'.2 = z.2 ∧ RepC z' 1 (Hs (n - 1)) ∧ IC z' q (n - 1) Hs := by
  obtain ⟨⟨h1, h2⟩, e, h3, h4, h5⟩ := hI
  have ee : ((e + 6 - 1) % 6) = (e + 6 - n + (n - 1)) % 6 := by omega
  unfold f_X2_takeBack
  simp (disch := omega) only [bds, bds2, lts, lit, nI_add, pk_mul, nI_leI, nI_ltI, nI_eq, rdI_nI, rdL_nI, wrI_nI, wrL_nI, rdR_nI, if_pos, if_neg, and_true, true_and, and_false, false_and, reduceIte, h4, pk_sub, pk_rem, upI_at, h2]
  obtain ⟨z1, a1, a2, a3⟩ := c_copy (z := upI (upI z q 2 (nI ((e + 6 - 1) % 6))) q 1 (nI (n - 1))) (q := 1) (q1 := q + 1 + 1 + 6 * ((e + 6 - 1) % 6)) (by omega)
  rw [a1, bds]
  have fz : ∀ c, c ≠ q → (upI (upI z q 2 (nI ((e + 6 - 1) % 6))) q 1 (nI (n - 1))).1 c = z.1 c := fun c hc => by rw [upI_ne hc, upI_ne hc]
  refine ⟨z1, rfl, fun c hc hne => ?_, a2.2, ?_, ⟨by omega, ?_⟩, (e + 6 - 1) % 6, by omega, ?_, fun i hi => ?_⟩
  · rw [a2.1 c (by omega), fz c hne]
  · refine a3 _ (hBH _ (by omega)) ?_
    have := h5 (n - 1) (by omega)
    rw [← ee] at this
    exact RepC_congr (fun c h1 h2 => fz c (by omega)) this
  · rw [a2.1 q (by omega), upI_at, if_pos ⟨rfl, rfl⟩]
  · rw [a2.1 q (by omega), upI_at, if_neg (by omega), upI_at, if_pos ⟨rfl, rfl⟩]
  · have : ((e + 6 - 1) % 6 + 6 - (n - 1) + i) % 6 = (e + 6 - n + i) % 6 := by omega
    rw [this]
    exact RepC_congr (fun c h1 h2 => by rw [a2.1 c (by omega), fz c (by omega)]) (h5 i (by omega))
/-- all known steps come to another place -/
theorem c_histAll {q q1 : Nat} (hd : q1 + 37 < q ∨ q + 37 < q1) (hBH : ∀ i, i < n → BF (Hs i)) (hI : IC z q1 n Hs) : ∃ z', f_X2_takeAll q q1 z = some z' ∧ Fq q (q + 37) z z' ∧ IC z' q n Hs := by
  obtain ⟨⟨h1, h2⟩, e, h3, h4, h5⟩ := hI
  have v1 : z.1 q1 1 = nI n := h2
  have v2 : z.1 q1 2 = nI e := h4
  have main : ∃ z', wl2 (b_X2_takeAll_18 q q1) fu (nI 0) (upI (upI z q 1 (nI n)) q 2 (nI e)) = some z' ∧ Fq q (q + 37) z z' ∧ IC z' q n Hs := by
    refine wl2_inv (Q := fun o => ∃ z', o = some z' ∧ Fq q (q + 37) z z' ∧ IC z' q n Hs) (fun k x y => x = nI k ∧ Fq q (q + 37) z y ∧ y.1 q 1 = nI n ∧ y.1 q 2 = nI e ∧ ∀ i, i < k → ∀ A2, BF A2 → RepC z (q1 + 1 + 1 + 6 * i) A2 → RepC y (q + 1 + 1 + 6 * i) A2) 6 ?_ ?_ (by omega) ⟨rfl, ((Fq.rf.up (by omega)).up (by omega)), by rw [upI_at, if_neg (by omega), upI_at, if_pos ⟨rfl, rfl⟩], by rw [upI_at, if_pos ⟨rfl, rfl⟩], fun i hi => by omega⟩
    · rintro k hk _ y ⟨rfl, y1, y2, y3, y4⟩
      obtain ⟨z1, a1, a2, a3⟩ := c_copy (z := y) (q := q + 1 + 1 + 6 * k) (q1 := q1 + 1 + 1 + 6 * k) (by omega)
      refine Or.inl ⟨nI (k + 1), z1, ⟨rfl, y1.tr (a2.fq (by omega) (by omega)), by rw [a2.1 q (by omega)]; exact y2, by rw [a2.1 q (by omega)]; exact y3, fun i hi A2 hB hR => ?_⟩, fun ag => ?_⟩
      · by_cases c : i = k
        · subst c; exact a3 A2 hB (RepC_congr (fun c h1 h2 => y1.1 c (by omega)) hR)
        · exact RepC_congr (fun c h1 h2 => a2.1 c (by omega)) (y4 i (by omega) A2 hB hR)
      · unfold b_X2_takeAll_18
        simp (disch := omega) only [bds, bds2, lts, lit, nI_add, pk_mul, nI_leI, nI_ltI, nI_eq, rdI_nI, rdL_nI, wrI_nI, wrL_nI, rdR_nI, if_pos, if_neg, and_true, true_and, and_false, false_and, reduceIte, a1]
    · rintro _ y ⟨rfl, y1, y2, y3, y4⟩ ag
      refine ⟨y, ?_, y1, ⟨h1, y2⟩, e, h3, y3, fun i hi => y4 _ (by omega) _ (hBH i hi) (h5 i hi)⟩
      unfold b_X2_takeAll_18
      simp (disch := omega) only [bds, bds2, lts, lit, nI_add, pk_mul, nI_leI, nI_ltI, nI_eq, rdI_nI, rdL_nI, wrI_nI, wrL_nI, rdR_nI, if_pos, if_neg, and_true, true_and, and_false, false_and, reduceIte]
  obtain ⟨z', p1, p2, p3⟩ := main
  refine ⟨z', ?_, p2, p3⟩
  unfold f_X2_takeAll
  simp (disch := omega) only [bds, bds2, lts, lit, nI_add, pk_mul, nI_leI, nI_ltI, nI_eq, rdI_nI, rdL_nI, wrI_nI, wrL_nI, rdR_nI, if_pos, if_neg, and_true, true_and, and_false, false_and, reduceIte, v1, v2, upI_at]
  exact p1
end
