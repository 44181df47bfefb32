/-! THE DRAW counts for nothing in what is asked -/
section
variable (A : Fm) (v : Int)
theorem wk_dr : ∀ (n h f : Nat) (c : Nat → Nat), wk (dr A v) n h f c = wk A n h f c := by
  intro n
  induction n with
  | zero => intros; rfl
  | succ n ih =>
    intro h f c
    rw [wk_s, wk_s, ih]
    rfl
theorem ly_dr : ∀ h, ly (dr A v) h = ly A h := by
  intro h
  induction h with
  | zero => rfl
  | succ h ih =>
    rw [ly_s, ly_s, ih, wk_dr]
    rfl
theorem fc_dr : fc (dr A v) = fc A := by
  show (ly (dr A v) (2 * fM A)).1 = (ly A (2 * fM A)).1
  rw [ly_dr]
theorem nF_dr : nF (dr A v) = nF A := by
  show (ly (dr A v) (2 * fM A)).2 = (ly A (2 * fM A)).2
  rw [ly_dr]
theorem pmN_dr (x : Int32) : ∀ n, pmN (dr A v) x n = pmN A x n := by
  intro n
  induction n with
  | zero => rfl
  | succ n ih =>
    show pm (dr A v) n (pmN (dr A v) x n) = pm A n (pmN A x n)
    rw [ih]
    rfl
theorem wm_dr : ∀ k, wm (dr A v) k = wm A k := by
  intro k
  induction k with
  | zero => rfl
  | succ k ih =>
    show pmN (dr A v) (wm (dr A v) k) (2 * fM A) = pmN A (wm A k) (2 * fM A)
    rw [ih, pmN_dr]
theorem whB_dr : whB (dr A v) = whB A := by
  show (decide (0 < fM A) && decide (wm (dr A v) (fN A) = fullM (fN A))) = (decide (0 < fM A) && decide (wm A (fN A) = fullM (fN A)))
  rw [wm_dr]
theorem arc_dr (c : Nat → Nat) (f : Nat) : arc (dr A v) c f = arc A c f := rfl
theorem szc_dr (c : Nat → Nat) (f : Nat) : szc (dr A v) c f = szc A c f := rfl
theorem ar_dr : ar (dr A v) = ar A := by
  funext f
  show arc (dr A v) (fc (dr A v)) f = arc A (fc A) f
  rw [fc_dr]
  rfl
theorem oF_dr : oF (dr A v) = oF A := by
  unfold oF flt
  rw [whB_dr, nF_dr, ar_dr]
theorem lk_dr (kn : Nat → Bool) : ∀ h, lk (dr A v) kn h = lk A kn h := by
  intro h
  induction h with
  | zero => rfl
  | succ h ih => rw [lk_s, lk_s, ih, fc_dr]
theorem kB_dr (o : Nat) : ∀ k, kB (dr A v) o k = kB A o k := by
  intro k
  induction k with
  | zero => rfl
  | succ k ih =>
    show lk (dr A v) (kB (dr A v) o k) (2 * fM A) = lk A (kB A o k) (2 * fM A)
    rw [ih, lk_dr]
theorem phi_dr (F : Nat → Int) (f : Nat) : phi (dr A v) F f = phi A F f := by
  unfold phi
  rw [fc_dr]
  rfl
theorem q_dr (o f : Nat) : qX (dr A v) o f = qX A o f ∧ qY (dr A v) o f = qY A o f ∧ qL (dr A v) o f = qL A o f := by
  refine ⟨?_, ?_, ?_⟩
  · show phi (dr A v) (gX A) f - phi (dr A v) (gX A) o = _
    rw [phi_dr, phi_dr]; rfl
  · show phi (dr A v) (gY A) f - phi (dr A v) (gY A) o = _
    rw [phi_dr, phi_dr]; rfl
  · show phi (dr A v) (gL A) f - phi (dr A v) (gL A) o = _
    rw [phi_dr, phi_dr]; rfl
theorem CC_dr {s : Sto} (h : CC s A) : CC s (dr A v) := by
  obtain ⟨h1, h2, h3⟩ := h
  refine ⟨h1, ⟨⟨by rw [nF_dr]; exact h2.1.1, by rw [oF_dr]; exact h2.1.2⟩, fun i hi => ?_, fun f hf => ?_⟩, fun o ho => ?_⟩
  · rw [fc_dr]; exact h2.2.1 i hi
  · rw [nF_dr] at hf
    rw [fc_dr, ar_dr]; exact h2.2.2 f hf
  · rw [oF_dr] at ho
    obtain ⟨a, b⟩ := h3 o ho
    refine ⟨fun f hf => ?_, fun f hf e => ?_⟩
    · rw [nF_dr] at hf
      rw [kB_dr, nF_dr]; exact a f hf
    · rw [nF_dr] at hf
      rw [kB_dr, nF_dr] at e
      have q := q_dr A v o f
      rw [q.1, q.2.1, q.2.2]; exact b f hf e
end
section
variable {s t : Sto}
theorem P24 (a1 : Int32) (h : Inv s t) : ∃ Z : Sto × Sto, st_24 a1 s t = some Z ∧ Inv Z.1 Z.2 := by
  obtain ⟨A, n, Hs, hF, hG, hT, hS, hK⟩ := h
  have hI : Inv s t := ⟨A, n, Hs, hF, hG, hT, hS, hK⟩
  obtain ⟨f1, f2, f3, f4, f5⟩ := hF
  by_cases c : (0 : Int32) ≤ a1
  · have hv : 0 ≤ a1.toInt ∧ a1.toInt ≤ 2147483647 := ⟨by have := Int32.le_iff_toInt_le.mp c; exact this, (toInt_in32 a1).2⟩
    have e : a1 = iI a1.toInt := (iI_of a1).symm
    obtain ⟨v, hv'⟩ : ∃ v, v = a1.toInt := ⟨_, rfl⟩
    rw [← hv'] at e hv
    obtain ⟨d1, d2⟩ := c_putDraw f2 v
    rw [← e] at d1 d2
    refine ⟨(upI s 1 2 a1, stI t 123 (upd (t.1 123) 2 a1)), st_of (r := iI (fD A)) ?_ ?_, dr A v, n, Hs, ⟨WF_dr f1 hv, d1, IC_congr (fun c a b => d2.1 c (by omega)) f3, ⟨?_, ⟨f4.2.1.1, ?_⟩, ?_⟩, f5⟩, IG_k hG (by show (upI s 1 2 a1).1 0 9 = _; rw [upI_ne (by decide)]) (fun c h => d2.1 c (by omega)) (by show (stI t 123 _).1 122 5 = _; rw [stI_ne (by decide)]) (stI_ne (by decide)) (stI_ne (by decide)), IT_k hT (by show (upI s 1 2 a1).1 111 1 = _; rw [upI_ne (by decide)]) (upI_ne (by decide)) (by show (stI t 123 _).1 122 7 = _; rw [stI_ne (by decide)]) (stI_ne (by decide)), IS_k hS (fun c a b => ⟨d2.1 c (by omega), rfl⟩) (stI_ne (by decide)) (stI_ne (by decide)) rfl, ?_⟩
    · unfold f_X6_seed
      rw [if_pos c, lts, lts, f2.1.2.2]
    · unfold f_X7_seed
      rw [if_pos c, show (2 : Int32) = nI 2 from rfl, rdI_nI (by omega) (by omega), bds, wrI_nI (by omega) (by omega), bds, f4.1.1.2.2]
      rfl
    · show RowM ((stI t 123 (upd (t.1 123) 2 a1)).1 123) (dr A v)
      rw [stI_same]
      have h6 := f1.1.1
      have h9 := f1.1.2.1
      refine ⟨⟨?_, ?_, ?_⟩, fun j hj => ?_, fun j hj => ?_, fun k hk => ?_, fun k hk => ?_, fun j hj => ?_⟩
      · rw [upd_at, if_neg (by omega)]; exact f4.1.1.1
      · rw [upd_at, if_neg (by omega)]; exact f4.1.1.2.1
      · rw [upd_at, if_pos rfl]; exact e
      · rw [upd_at, if_neg (by omega)]; exact f4.1.2.1 j hj
      · rw [upd_at, if_neg (by omega)]; exact f4.1.2.2.1 j hj
      · rw [upd_at, if_neg (by omega)]; exact f4.1.2.2.2.1 k hk
      · rw [upd_at, if_neg (by omega)]; exact f4.1.2.2.2.2.1 k hk
      · rw [upd_at, if_neg (by omega)]; exact f4.1.2.2.2.2.2 j hj
    · show (stI t 123 _).1 122 2 = _
      rw [stI_ne (by decide)]; exact f4.2.1.2
    · intro i hi
      show RowM (fun k => (stI t 123 _).1 124 (42 * i + k)) _
      rw [stI_ne (by decide)]; exact f4.2.2 i hi
    · have := IK_fr d2 hK
      rcases this with x | ⟨x, y⟩
      · exact Or.inl x
      · exact Or.inr ⟨x, CC_dr A v y⟩
  · refine ⟨(s, t), st_of (r := -1) ?_ ?_, hI⟩
    · unfold f_X6_seed; rw [if_neg c]
    · unfold f_X7_seed; rw [if_neg c]
theorem P23 (h : Inv s t) : ∃ Z : Sto × Sto, st_23 s t = some Z ∧ Inv Z.1 Z.2 := by
  obtain ⟨A, n, Hs, hF, hG, hT, hS, hK⟩ := h
  have hI : Inv s t := ⟨A, n, Hs, hF, hG, hT, hS, hK⟩
  obtain ⟨f1, f2, f3, f4, f5⟩ := hF
  have hn := f4.2.1.1
  have k1 := f3.1.2
  have k2 := f4.2.1.2
  by_cases c : n = 0
  · refine ⟨(s, t), st_of (r := -4) ?_ ?_, hI⟩
    · unfold f_X6_undo; rw [k1, c]; rfl
    · unfold f_X7_undo; rw [k2, c]; rfl
  · obtain ⟨s1, a1, a2, a3, a4, a5⟩ := c_takeBack (q := 19) (by omega) (by omega) (fun i hi => (f5 i hi).1) f3
    have wl := f5 (n - 1) (by omega)
    obtain ⟨t1, ht1⟩ : ∃ t1, t1 = upI t 122 2 (nI (n - 1)) := ⟨_, rfl⟩
    have e1 : t1.1 122 2 = nI (n - 1) := by rw [ht1, upI_at, if_pos ⟨rfl, rfl⟩]
    have mm : ∃ g, wl2 b_X7_undo_22 fu (nI 0) t1 = some (nI (n - 1), stI t1 123 g) ∧ ∀ k, k < 42 → g k = t.1 124 (42 * (n - 1) + k) := by
      refine wl2_inv (Q := fun o => ∃ g, o = some (nI (n - 1), stI t1 123 g) ∧ ∀ k, k < 42 → g k = t.1 124 (42 * (n - 1) + k)) (fun k a y => a = nI k ∧ ∃ g, y = stI t1 123 g ∧ ∀ i, i < k → g i = t.1 124 (42 * (n - 1) + i)) 42 ?_ ?_ (by omega) ⟨rfl, t1.1 123, stI_self.symm, fun i hi => by omega⟩
      · rintro k hk _ _ ⟨rfl, g, rfl, hg⟩
        have v : t1.1 124 (42 * (n - 1) + k) = t.1 124 (42 * (n - 1) + k) := by rw [ht1, upI_ne (by decide)]
        refine Or.inl ⟨nI (k + 1), stI t1 123 (upd g k (t.1 124 (42 * (n - 1) + k))), ⟨rfl, _, rfl, fun i hi => ?_⟩, fun ag => ?_⟩
        · rw [upd_at]
          by_cases x : i = k
          · rw [if_pos x, x]
          · rw [if_neg x]; exact hg i (by omega)
        · unfold b_X7_undo_22
          simp (disch := omega) only [bds, bds2, lts, lit, nI_add, pk_mul, nI_leI, nI_ltI, nI_eq, rdI_nI, rdL_nI, wrI_nI, wrL_nI, rdR_nI, if_pos, if_neg, and_true, true_and, and_false, false_and, reduceIte, stI_at, e1, v, upI_st]
      · rintro _ _ ⟨rfl, g, rfl, hg⟩ ag
        refine ⟨g, ?_, hg⟩
        unfold b_X7_undo_22
        simp (disch := omega) only [bds, bds2, lts, lit, nI_add, pk_mul, nI_leI, nI_ltI, nI_eq, rdI_nI, rdL_nI, wrI_nI, wrL_nI, rdR_nI, if_pos, if_neg, and_true, true_and, and_false, false_and, reduceIte, stI_at, e1]
    obtain ⟨g, b1, b2⟩ := mm
    have e : ∀ c, 7 ≤ c → c ≠ 19 → s1.1 c = s.1 c := fun c h h2 => a2 c (by omega) h2
    have ee : ∀ c, 7 ≤ c → c ≠ 19 → (upI s1 0 10 0).1 c = s.1 c := fun c h h2 => by rw [upI_ne (by omega)]; exact e c h h2
    have e122 : ∀ j, j ≠ 2 → (stI t1 123 g).1 122 j = t.1 122 j := fun j hj => by rw [stI_ne (by decide), ht1, upI_at, if_neg (by omega)]
    have eo : ∀ c, c ≠ 122 → c ≠ 123 → (stI t1 123 g).1 c = t.1 c := fun c h1 h2 => by rw [stI_ne h2, ht1, upI_ne h1]
    refine ⟨(upI s1 0 10 0, stI t1 123 g), st_of (r := nI (n - 1)) ?_ ?_, Hs (n - 1), n - 1, Hs, ⟨wl, ?_, ?_, ⟨?_, ⟨by omega, ?_⟩, fun i hi => ?_⟩, fun i hi => f5 i (by omega)⟩, IG_k hG ?_ (fun c h => ee c (by omega) (by omega)) (e122 5 (by omega)) (eo _ (by omega) (by omega)) (eo _ (by omega) (by omega)), IT_k hT (by show (upI s1 0 10 0).1 111 1 = _; rw [ee 111 (by omega) (by omega)]) (ee 112 (by omega) (by omega)) (e122 7 (by omega)) (eo _ (by omega) (by omega)), IS_k hS (fun c a b => ⟨ee c (by omega) (by omega), by show s1.2 c = _; rw [a3]⟩) (eo _ (by omega) (by omega)) (eo _ (by omega) (by omega)) (by rw [ht1]; rfl), Or.inl ?_⟩
    · have k3 : (upI s1 0 10 0).1 19 1 = nI (n - 1) := by rw [upI_ne (by decide)]; exact a5.1.2
      unfold f_X6_undo
      rw [if_neg (by rw [k1]; exact nI_ne0 (by omega) (by omega)), a1, bds, lts, k3]
    · unfold f_X7_undo
      rw [if_neg (by rw [k2]; exact nI_ne0 (by omega) (by omega)), lts, k2, show nI n - (1 : Int32) = nI (n - 1) from nI_sub1 (by omega), ← ht1]
      exact b1
    · exact RepC_congr (fun c p q => upI_ne (by omega)) a4
    · exact IC_congr (fun c p q => upI_ne (by omega)) a5
    · show RowM ((stI t1 123 g).1 123) _
      rw [stI_same]
      exact RowM_congr wl.1 b2 (f4.2.2 (n - 1) (by omega))
    · show (stI t1 123 g).1 122 2 = _
      rw [stI_ne (by decide)]; exact e1
    · show RowM (fun k => (stI t1 123 g).1 124 (42 * i + k)) _
      rw [eo 124 (by omega) (by omega)]; exact f4.2.2 i (by omega)
    · show (upI s1 0 10 0).1 0 9 = _
      rw [upI_at, if_neg (by omega), a2 0 (by omega) (by omega)]
    · show (upI s1 0 10 0).1 0 10 = 0
      rw [upI_at, if_pos ⟨rfl, rfl⟩]
end
