/-! what both sides hold -/
def HW (n : Nat) (Hs : Nat → Fm) : Prop := ∀ i, i < n → WF (Hs i)
def IF (s t : Sto) (A : Fm) (n : Nat) (Hs : Nat → Fm) : Prop := WF A ∧ RepC s 1 A ∧ IC s 19 n Hs ∧ IM t A n Hs ∧ HW n Hs
def IG (s t : Sto) : Prop := (s.1 0 9 = 0 ∧ t.1 122 5 = -1) ∨ ∃ (A : Fm) (n : Nat) (Hs : Nat → Fm), s.1 0 9 = 1 ∧ WF A ∧ HW n Hs ∧ RepC s 13 A ∧ IC s 57 n Hs ∧ (n ≤ 6 ∧ t.1 122 5 = nI n) ∧ RowM (t.1 125) A ∧ ∀ i, i < n → RowM (fun k => t.1 126 (42 * i + k)) (Hs i)
def IT (s t : Sto) : Prop := ∃ k, k ≤ 60 ∧ s.1 111 1 = nI k ∧ t.1 122 7 = nI k ∧ ∀ i, i < k → ∃ c, 32 ≤ c ∧ c ≤ 126 ∧ s.1 112 i = nI c ∧ t.1 127 i = nI c
def IS (s t : Sto) : Prop := ∀ k, k < 4 → (∀ i, i < 24 → s.2 (115 + 2 * k) i = t.2 130 (24 * k + i)) ∧ ((s.1 (114 + 2 * k) 0 = 0 ∧ t.1 128 k = -1) ∨ ∃ l n, s.1 (114 + 2 * k) 0 = 1 ∧ l < 4 ∧ n ≤ 24 ∧ s.1 (114 + 2 * k) 1 = nI l ∧ t.1 128 k = nI l ∧ s.1 (114 + 2 * k) 2 = nI n ∧ t.1 129 k = nI n)
def CC (s : Sto) (A : Fm) : Prop := StC s A ∧ FcC s A ∧ ∀ o, oF A = some o → LfC A o s (kB A o (nF A))
def IK (s : Sto) (A : Fm) : Prop := s.1 0 10 = 0 ∨ (s.1 0 10 = 1 ∧ CC s A)
def Inv (s t : Sto) : Prop := ∃ (A : Fm) (n : Nat) (Hs : Nat → Fm), IF s t A n Hs ∧ IG s t ∧ IT s t ∧ IS s t ∧ IK s A
section
variable {s t s' t' : Sto} {A A' : Fm} {n : Nat} {Hs : Nat → Fm}
theorem IG_k (h : IG s t) (h0 : s'.1 0 9 = s.1 0 9) (h1 : ∀ c, (13 ≤ c ∧ c ≤ 18) ∨ (57 ≤ c ∧ c ≤ 94) → s'.1 c = s.1 c) (h2 : t'.1 122 5 = t.1 122 5) (h3 : t'.1 125 = t.1 125) (h4 : t'.1 126 = t.1 126) : IG s' t' := by
  rcases h with ⟨a, b⟩ | ⟨A, n, Hs, a, b, c, d, e, f, g, i⟩
  · exact Or.inl ⟨h0.trans a, h2.trans b⟩
  · exact Or.inr ⟨A, n, Hs, h0.trans a, b, c, RepC_congr (fun c p q => h1 c (by omega)) d, IC_congr (fun c p q => h1 c (by omega)) e, ⟨f.1, h2.trans f.2⟩, by rw [h3]; exact g, by rw [h4]; exact i⟩
theorem IT_k (h : IT s t) (h1 : s'.1 111 1 = s.1 111 1) (h2 : s'.1 112 = s.1 112) (h3 : t'.1 122 7 = t.1 122 7) (h4 : t'.1 127 = t.1 127) : IT s' t' := by
  obtain ⟨k, a, b, c, d⟩ := h
  exact ⟨k, a, h1.trans b, h3.trans c, by rw [h2, h4]; exact d⟩
theorem IS_k (h : IS s t) (h1 : ∀ c, 114 ≤ c → c ≤ 121 → s'.1 c = s.1 c ∧ s'.2 c = s.2 c) (h2 : t'.1 128 = t.1 128) (h3 : t'.1 129 = t.1 129) (h4 : t'.2 130 = t.2 130) : IS s' t' := by
  intro k hk
  rw [(h1 (115 + 2 * k) (by omega) (by omega)).2, (h1 (114 + 2 * k) (by omega) (by omega)).1, h2, h3, h4]
  exact h k hk
def SC : List Nat := [0, 95, 96, 97, 98, 99, 100, 101, 102, 103, 104, 105, 106, 107, 108, 109, 110]
def QM : List Nat := [122, 131, 132, 133, 134, 135, 136, 137, 138, 139, 140, 141, 142, 143]
/-- what is asked changes nothing that lasts -/
theorem Inv_q (hF : IF s t A n Hs) (hG : IG s t) (hT : IT s t) (hS : IS s t) (ks : Ke SC s s') (k9 : s'.1 0 9 = s.1 0 9) (kt : Ke QM t t') (k2 : t'.1 122 2 = t.1 122 2) (k5 : t'.1 122 5 = t.1 122 5) (k7 : t'.1 122 7 = t.1 122 7) (hK : IK s' A) : Inv s' t' := by
  have nc : ∀ c, (1 ≤ c ∧ c ≤ 94) ∨ 111 ≤ c → c ∉ SC := fun c h => by simp only [SC, List.mem_cons, List.not_mem_nil, or_false, not_or]; omega
  have nm : ∀ c, (123 ≤ c ∧ c ≤ 130) → c ∉ QM := fun c h => by simp only [QM, List.mem_cons, List.not_mem_nil, or_false, not_or]; omega
  obtain ⟨f1, f2, f3, f4, f5⟩ := hF
  refine ⟨A, n, Hs, ⟨f1, RepC_congr (fun c a b => ks.1 c (nc c (by omega))) f2, IC_congr (fun c a b => ks.1 c (nc c (by omega))) f3, ⟨?_, ⟨f4.2.1.1, k2.trans f4.2.1.2⟩, ?_⟩, f5⟩, IG_k hG k9 (fun c h => ks.1 c (nc c (by omega))) k5 (kt.1 _ (nm _ (by omega))) (kt.1 _ (nm _ (by omega))), IT_k hT (by rw [ks.1 111 (nc _ (by omega))]) (ks.1 _ (nc _ (by omega))) k7 (kt.1 _ (nm _ (by omega))), IS_k hS (fun c a b => ⟨ks.1 c (nc c (by omega)), ks.2 c (nc c (by omega))⟩) (kt.1 _ (nm _ (by omega))) (kt.1 _ (nm _ (by omega))) (kt.2 _ (nm _ (by omega))), hK⟩
  · rw [kt.1 123 (nm _ (by omega))]; exact f4.1
  · rw [kt.1 124 (nm _ (by omega))]; exact f4.2.2
theorem c_settle (hw : WF A) (hR : RepC s 1 A) (hK : IK s A) : ∃ y, f_X6_settle s = some y ∧ Ke SC s y ∧ y.1 0 9 = s.1 0 9 ∧ IK y A ∧ CC y A ∧ RepC y 1 A := by
  have hB := hw.1
  unfold f_X6_settle
  rcases hK with h0 | ⟨h1, hc⟩
  · rw [if_pos h0]
    obtain ⟨y1, a1, a2, a3⟩ := c_solve hB hw.2.2.2.2.1 hR
    have r1 : RepC y1 1 A := RepC_congr (fun c p q => a2.1 c (by simp; omega)) hR
    obtain ⟨y2, b1, b2, b3⟩ := c_walk hw r1
    have r2 : RepC y2 1 A := RepC_congr (fun c p q => b2.1 c (by simp; omega)) r1
    have s2 : StC y2 A := ⟨⟨by rw [b2.1 95 (by simp)]; exact a3.1.1, by rw [b2.1 95 (by simp)]; exact a3.1.2.1, by rw [b2.2 95 (by simp)]; exact a3.1.2.2⟩, by rw [b2.2 96 (by simp)]; exact a3.2.1, by rw [b2.2 97 (by simp)]; exact a3.2.2.1, by rw [b2.1 99 (by simp)]; exact a3.2.2.2⟩
    have lift : ∃ y3, f_X0_lift y2 = some y3 ∧ Ke [107, 108, 109, 110] y2 y3 ∧ ∀ o, oF A = some o → LfC A o y3 (kB A o (nF A)) := by
      cases c : whB A with
      | false => exact ⟨y2, c_nolift b3 c, Ke.rf, fun o e => by rw [oF_none c] at e; cases e⟩
      | true =>
        obtain ⟨o, o1, o2⟩ := oF_some hw c
        obtain ⟨y3, c1, c2, c3⟩ := c_lift hw r2 b3 s2 o2 o1 c
        exact ⟨y3, c1, c2, fun o' e => by rw [o1] at e; cases e; exact c3⟩
    obtain ⟨y3, c1, c2, c3⟩ := lift
    rw [a1, bds, b1, bds, c1, bds, lts]
    have k3 : Ke SC s y3 := ((a2.mono (by simp [SC])).tr (b2.mono (by simp [SC]))).tr (c2.mono (by simp [SC]))
    have e0 : y3.1 0 = s.1 0 := by rw [c2.1 0 (by simp), b2.1 0 (by simp), a2.1 0 (by simp)]
    have s3 : StC y3 A := ⟨⟨by rw [c2.1 95 (by simp)]; exact s2.1.1, by rw [c2.1 95 (by simp)]; exact s2.1.2.1, by rw [c2.2 95 (by simp)]; exact s2.1.2.2⟩, by rw [c2.2 96 (by simp)]; exact s2.2.1, by rw [c2.2 97 (by simp)]; exact s2.2.2.1, by rw [c2.1 99 (by simp)]; exact s2.2.2.2⟩
    have f3 : FcC y3 A := ⟨⟨by rw [c2.1 100 (by simp)]; exact b3.1.1, by rw [c2.1 100 (by simp)]; exact b3.1.2⟩, by rw [c2.1 101 (by simp), c2.1 102 (by simp), c2.1 103 (by simp)]; exact b3.2.1, by rw [c2.1 104 (by simp), c2.1 105 (by simp), c2.1 106 (by simp)]; exact b3.2.2⟩
    have up : ∀ c, c ≠ 0 → (upI y3 0 10 1).1 c = y3.1 c := fun c h => upI_ne h
    have cc : CC (upI y3 0 10 1) A := by
      refine ⟨⟨⟨by rw [up 95 (by decide)]; exact s3.1.1, by rw [up 95 (by decide)]; exact s3.1.2.1, s3.1.2.2⟩, s3.2.1, s3.2.2.1, by rw [up 99 (by decide)]; exact s3.2.2.2⟩, ⟨⟨by rw [up 100 (by decide)]; exact f3.1.1, by rw [up 100 (by decide)]; exact f3.1.2⟩, by rw [up 101 (by decide), up 102 (by decide), up 103 (by decide)]; exact f3.2.1, by rw [up 104 (by decide), up 105 (by decide), up 106 (by decide)]; exact f3.2.2⟩, fun o e => ⟨by rw [up 110 (by decide)]; exact (c3 o e).1, (c3 o e).2⟩⟩
    refine ⟨_, rfl, k3.up (by simp [SC]), ?_, Or.inr ⟨by rw [upI_at, if_pos ⟨rfl, rfl⟩], cc⟩, cc, ?_⟩
    · rw [upI_at, if_neg (by omega), e0]
    · refine RepC_congr (fun c p q => ?_) hR
      rw [upI_ne (by omega), c2.1 c (by simp; omega), b2.1 c (by simp; omega), a2.1 c (by simp; omega)]
  · rw [if_neg (by rw [h1]; decide)]
    exact ⟨s, rfl, Ke.rf, rfl, Or.inr ⟨h1, hc⟩, hc, hR⟩
/-! steps that may be undone -/
def SP (s s1 : Sto) (n : Nat) (Hs : Nat → Fm) (A : Fm) : Prop := (∀ c, c ≠ 0 → (c < 19 ∨ 56 < c) → s1.1 c = s.1 c) ∧ s1.2 = s.2 ∧ s1.1 0 10 = 0 ∧ s1.1 0 9 = s.1 0 9 ∧ IC s1 19 (min (n + 1) 6) (psh n Hs A)
theorem c_startStep (hB : BF A) (hR : RepC s 1 A) (hI : IC s 19 n Hs) : ∃ s1, f_X6_startStep s = some s1 ∧ SP s s1 n Hs A ∧ RepC s1 1 A := by
  obtain ⟨y, a1, a2, a3⟩ := c_remember (q := 19) (by omega) hB hR hI
  refine ⟨upI y 0 10 0, ?_, ⟨fun c h1 h2 => ?_, a2.2, ?_, ?_, ?_⟩, ?_⟩
  · unfold f_X6_startStep
    rw [a1, bds, lts]
  · rw [upI_ne h1]; exact a2.1 c (by omega)
  · rw [upI_at, if_pos ⟨rfl, rfl⟩]
  · rw [upI_at, if_neg (by omega), a2.1 0 (by omega)]
  · exact IC_congr (fun c p q => upI_ne (by omega)) a3
  · exact RepC_congr (fun c p q => by rw [upI_ne (by omega)]; exact a2.1 c (by omega)) hR
theorem HW_psh (hw : WF A) (h : HW n Hs) (hn : n ≤ 6) : HW (min (n + 1) 6) (psh n Hs A) := by
  intro i hi
  unfold psh
  by_cases c : n < 6
  · rw [if_pos c]
    by_cases e : i = n
    · rw [if_pos e]; exact hw
    · rw [if_neg e]; exact h i (by omega)
  · rw [if_neg c]
    by_cases e : i = 5
    · rw [if_pos e]; exact hw
    · rw [if_neg e]; exact h (i + 1) (by omega)
theorem Inv_act {s1 : Sto} (hF : IF s t A n Hs) (hG : IG s t) (hT : IT s t) (hS : IS s t) (hP : SP s s1 n Hs A) (hf : Fr 1 s1 s') (hR : RepC s' 1 A') (hw' : WF A') (kt : Ke [122, 123, 124, 132, 133] t t') (k2 : ∀ j, j ≠ 2 → t'.1 122 j = t.1 122 j) (hM : IM t' A' (min (n + 1) 6) (psh n Hs A)) : Inv s' t' := by
  obtain ⟨f1, f2, f3, f4, f5⟩ := hF
  obtain ⟨p1, p2, p3, p4, p5⟩ := hP
  have e : ∀ c, (7 ≤ c ∧ c < 19) ∨ 56 < c → s'.1 c = s.1 c := fun c h => (hf.1 c (by omega)).trans (p1 c (by omega) (by omega))
  have e0 : s'.1 0 = s1.1 0 := hf.1 0 (by omega)
  refine ⟨A', min (n + 1) 6, psh n Hs A, ⟨hw', hR, IC_congr (fun c a b => hf.1 c (by omega)) p5, hM, HW_psh f1 f5 f4.2.1.1⟩, IG_k hG (by rw [e0, p4]) (fun c h => e c (by omega)) (k2 5 (by omega)) (kt.1 _ (by simp)) (kt.1 _ (by simp)), IT_k hT (by rw [e 111 (by omega)]) (e 112 (by omega)) (k2 7 (by omega)) (kt.1 _ (by simp)), IS_k hS (fun c a b => ⟨e c (by omega), by rw [hf.2, p2]⟩) (kt.1 _ (by simp)) (kt.1 _ (by simp)) (kt.2 _ (by simp)), Or.inl (by rw [e0]; exact p3)⟩
/-- what is refused -/
theorem Inv_no {s : Sto} (hF : IF s t A n Hs) (hG : IG s t) (hT : IT s t) (hS : IS s t) (hK : IK s A) (fr : Fr 1 s s') (hR : RepC s' 1 A) (hK' : IK s' A) (kt : Ke [122, 123, 124, 132, 133] t t') (k2 : ∀ j, j ≠ 2 → t'.1 122 j = t.1 122 j) (hM : IM t' A n Hs) : Inv s' t' := by
  obtain ⟨f1, f2, f3, f4, f5⟩ := hF
  have e : ∀ c, 7 ≤ c → s'.1 c = s.1 c := fun c h => fr.1 c (by omega)
  have e0 : s'.1 0 = s.1 0 := fr.1 0 (by omega)
  exact ⟨A, n, Hs, ⟨f1, hR, IC_congr (fun c a b => e c (by omega)) f3, hM, f5⟩, IG_k hG (by rw [e0]) (fun c h => e c (by omega)) (k2 5 (by omega)) (kt.1 _ (by simp)) (kt.1 _ (by simp)), IT_k hT (by rw [e 111 (by omega)]) (e 112 (by omega)) (k2 7 (by omega)) (kt.1 _ (by simp)), IS_k hS (fun c a b => ⟨e c (by omega), by rw [fr.2]⟩) (kt.1 _ (by simp)) (kt.1 _ (by simp)) (kt.2 _ (by simp)), hK'⟩
theorem IK_fr (fr : Fr 1 s s') (h : IK s A) : IK s' A := by
  have e : ∀ c, 7 ≤ c → s'.1 c = s.1 c := fun c h => fr.1 c (by omega)
  have e0 : s'.1 0 = s.1 0 := fr.1 0 (by omega)
  rcases h with h | ⟨h, c1, c2, c3⟩
  · exact Or.inl (by rw [e0]; exact h)
  · refine Or.inr ⟨by rw [e0]; exact h, ⟨⟨by rw [e 95 (by omega)]; exact c1.1.1, by rw [e 95 (by omega)]; exact c1.1.2.1, by rw [fr.2]; exact c1.1.2.2⟩, by rw [fr.2]; exact c1.2.1, by rw [fr.2]; exact c1.2.2.1, by rw [e 99 (by omega)]; exact c1.2.2.2⟩, ⟨⟨by rw [e 100 (by omega)]; exact c2.1.1, by rw [e 100 (by omega)]; exact c2.1.2⟩, by rw [e 101 (by omega), e 102 (by omega), e 103 (by omega)]; exact c2.2.1, by rw [e 104 (by omega), e 105 (by omega), e 106 (by omega)]; exact c2.2.2⟩, fun o ho => ⟨by rw [e 110 (by omega)]; exact (c3 o ho).1, by rw [fr.2]; exact (c3 o ho).2⟩⟩
theorem st_of {r : Int32} {f1 f2 : Option (Int32 × Sto)} (h1 : f1 = some (r, s')) (h2 : f2 = some (r, t')) : (bd2 f1 fun r1 s1 => bd2 f2 fun r2 s2 => if r1 = r2 then some (s1, s2) else none) = some (s', t') := by rw [h1, h2, bds2, bds2, if_pos rfl]
theorem st_ofL {r : Int64} {f1 f2 : Option (Int64 × Sto)} (h1 : f1 = some (r, s')) (h2 : f2 = some (r, t')) : (bd2 f1 fun r1 s1 => bd2 f2 fun r2 s2 => if r1 = r2 then some (s1, s2) else none) = some (s', t') := by rw [h1, h2, bds2, bds2, if_pos rfl]
theorem bd2_id {α : Type} (o : Option (α × Sto)) : (bd2 o fun a z => some (a, z)) = o := by cases o <;> rfl
end
