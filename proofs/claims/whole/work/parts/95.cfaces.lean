def cI (v : Nat) : Int32 := if v = 99 then -1 else nI v
def cx (A : Fm) (h : Nat) : Int := fX A (fS A h) * fY A (fE A h) - fX A (fE A h) * fY A (fS A h)
def szc (A : Fm) (c : Nat → Nat) (f : Nat) : Nat := cnt (fun g => decide (c g = f)) (2 * fM A)
def arc (A : Fm) (c : Nat → Nat) (f : Nat) : Int := sm (2 * fM A) (fun g => if c g = f then cx A g else 0)
theorem cI_lt {v : Nat} (h : v = 99 ∨ v < 18) : (nI 0 ≤ cI v) ↔ v ≠ 99 := by
  unfold cI
  by_cases c : v = 99
  · rw [if_pos c]; exact ⟨fun e => absurd e (by decide), fun e => absurd c e⟩
  · rw [if_neg c]; exact ⟨fun _ => c, fun _ => nI_pos' (by omega)⟩
section
variable {A : Fm} {c : Nat → Nat} {h f f' : Nat}
theorem szc_s (hh : h < 2 * fM A) (hc : c h = 99) (hf : f ≠ 99) : szc A (va_up c h f) f = szc A c f + 1 := by
  unfold szc
  rw [cnt_rm (p := fun g => decide (va_up c h f g = f)) (k := h) hh (by rw [va_up_self]; simp)]
  congr 1
  refine cnt_congr fun i hi => ?_
  by_cases e : i = h
  · subst e; rw [hc]
    have : ¬ 99 = f := fun e => hf e.symm
    simp [this]
  · rw [va_up_ne _ _ e]; simp [e]
theorem szc_o (hc : c h = 99) (hf' : f' ≠ 99) (hne : f' ≠ f) : szc A (va_up c h f) f' = szc A c f' := by
  refine cnt_congr fun i hi => ?_
  by_cases e : i = h
  · subst e; rw [hc, va_up_self, decide_eq_false (fun e => hne e.symm), decide_eq_false (fun e => hf' e.symm)]
  · rw [va_up_ne _ _ e]
theorem arc_s (hh : h < 2 * fM A) (hc : c h = 99) (hf : f ≠ 99) : arc A (va_up c h f) f = arc A c f + cx A h := by
  unfold arc
  have e : cx A h = sm (2 * fM A) (fun g => if g = h then cx A h else 0) := by rw [sm_one (k := h) hh (fun i _ hne => if_neg hne), if_pos rfl]
  rw [e, ← sm_add]
  refine sm_congr fun i hi => ?_
  by_cases e : i = h
  · subst e; rw [va_up_self, if_pos rfl, if_pos rfl, hc, if_neg (fun e => hf e.symm)]; omega
  · rw [va_up_ne _ _ e, if_neg e]; omega
theorem arc_o (hc : c h = 99) (hf' : f' ≠ 99) (hne : f' ≠ f) : arc A (va_up c h f) f' = arc A c f' := by
  refine sm_congr fun i hi => ?_
  by_cases e : i = h
  · subst e; rw [hc, va_up_self, if_neg (fun e => hne e.symm), if_neg (fun e => hf' e.symm)]
  · rw [va_up_ne _ _ e]
end
/-- what the class has of faces so far -/
def FS (A : Fm) (y : Sto) (c : Nat → Nat) (t : Nat) : Prop := (y.1 100 0 = nI t ∧ ∀ g, g < 2 * fM A → y.1 103 g = cI (c g)) ∧ ∀ f, f < t → y.1 105 f = nI (szc A c f) ∧ y.1 106 f = iI (arc A c f) ∧ ∃ g, g < 2 * fM A ∧ y.1 104 f = nI g ∧ c g = f ∧ ∀ i, i < g → c i ≠ f
section
variable {A : Fm} {z y : Sto}
theorem c_walkRound (hw : WF A) (hR : RepC z 1 A) (hn : ∀ h, h < 2 * fM A → z.1 102 h = nI (nx A h)) {h t : Nat} {c : Nat → Nat} (hh : h < 2 * fM A) (hI : LI A h c t) (hc : c h = 99) (hF : FS A z c t) : ∃ z', f_X0_walkRound (nI h) z = some z' ∧ Ke [100, 103, 104, 105, 106] z z' ∧ z'.1 100 1 = z.1 100 1 ∧ FS A z' (wk A (2 * fM A) h t c) (t + 1) := by
  have hB := hw.1
  have h9 := hB.2.1
  have h6 := hB.1
  obtain ⟨hL, hk⟩ := LI_wk hw hh hI hc
  have htl : t ≤ h := hI.1.1
  obtain ⟨⟨F1, F2⟩, F3⟩ := hF
  obtain ⟨z5, hz5⟩ : ∃ z5, z5 = upI (upI (upI (upI z 100 0 (nI (t + 1))) 104 t (nI h)) 105 t (nI 0)) 106 t (nI 0) := ⟨_, rfl⟩
  have k5 : Ke [100, 103, 104, 105, 106] z z5 := by rw [hz5]; exact (((Ke.rf.up (by simp)).up (by simp)).up (by simp)).up (by simp)
  have e100 : z5.1 100 0 = nI (t + 1) := by rw [hz5, upI_ne (by decide), upI_ne (by decide), upI_ne (by decide), upI_at, if_pos ⟨rfl, rfl⟩]
  have e1001 : z5.1 100 1 = z.1 100 1 := by rw [hz5, upI_ne (by decide), upI_ne (by decide), upI_ne (by decide), upI_at, if_neg (by omega)]
  have e104 : ∀ f, z5.1 104 f = if f = t then nI h else z.1 104 f := fun f => by
    rw [hz5, upI_ne (by decide), upI_ne (by decide), upI_at, upI_ne (by decide)]
    by_cases e : f = t
    · rw [if_pos ⟨rfl, e⟩, if_pos e]
    · rw [if_neg (fun x => e x.2), if_neg e]
  have e105 : ∀ f, z5.1 105 f = if f = t then nI 0 else z.1 105 f := fun f => by
    rw [hz5, upI_ne (by decide), upI_at, upI_ne (by decide), upI_ne (by decide)]
    by_cases e : f = t
    · rw [if_pos ⟨rfl, e⟩, if_pos e]
    · rw [if_neg (fun x => e x.2), if_neg e]
  have e106 : ∀ f, z5.1 106 f = if f = t then nI 0 else z.1 106 f := fun f => by
    rw [hz5, upI_at, upI_ne (by decide), upI_ne (by decide), upI_ne (by decide)]
    by_cases e : f = t
    · rw [if_pos ⟨rfl, e⟩, if_pos e]
    · rw [if_neg (fun x => e x.2), if_neg e]
  have zero : szc A c t = 0 ∧ arc A c t = 0 := by
    constructor
    · exact cnt_0 fun g hg => decide_eq_false (fun e => by have := hI.1.2 g hg; omega)
    · exact sm_zero fun g hg => if_neg (fun e => by have := hI.1.2 g hg; omega)
  have main : ∃ z', wl4 b_X0_walkRound_42 fu (nI t) (nI h) (nI 0) z5 = some z' ∧ Ke [103, 105, 106] z5 z' ∧ (∀ g, g < 2 * fM A → z'.1 103 g = cI (wk A (2 * fM A) h t c g)) ∧ ∀ f, f ≤ t → z'.1 105 f = nI (szc A (wk A (2 * fM A) h t c) f) ∧ z'.1 106 f = iI (arc A (wk A (2 * fM A) h t c) f) := by
    refine wl4_inv (Q := fun o => ∃ z', o = some z' ∧ Ke [103, 105, 106] z5 z' ∧ (∀ g, g < 2 * fM A → z'.1 103 g = cI (wk A (2 * fM A) h t c g)) ∧ ∀ f, f ≤ t → z'.1 105 f = nI (szc A (wk A (2 * fM A) h t c) f) ∧ z'.1 106 f = iI (arc A (wk A (2 * fM A) h t c) f)) (fun i a b d y => a = nI t ∧ d = nI i ∧ Ke [103, 105, 106] z5 y ∧ ∃ k c', b = nI k ∧ k < 2 * fM A ∧ wk A (2 * fM A - i) k t c' = wk A (2 * fM A) h t c ∧ (∀ g, g < 2 * fM A → c' g = 99 ∨ c' g < t + 1) ∧ (∀ g, g < 2 * fM A → y.1 103 g = cI (c' g)) ∧ ∀ f, f ≤ t → y.1 105 f = nI (szc A c' f) ∧ y.1 106 f = iI (arc A c' f)) (2 * fM A) ?_ ?_ (by omega) ⟨rfl, rfl, Ke.rf, h, c, rfl, hh, rfl, fun g hg => by have := hI.1.2 g hg; omega, fun g hg => ?_, fun f hf => ?_⟩
    · rintro i hi _ _ _ y ⟨rfl, rfl, ky, k, c', rfl, hk2, hwk, hcl, y3, y5⟩
      have rY : RepC y 1 A := RepC_congr (fun c h1 h2 => (ky.1 c (by simp; omega)).trans (k5.1 c (by simp; omega))) hR
      have hm := rY.1.2.1
      have nxk : y.1 102 k = nI (nx A k) := by rw [ky.1 102 (by simp), k5.1 102 (by simp)]; exact hn k hk2
      have v3 := y3 k hk2
      have cl := hcl k hk2
      have gg := cI_lt (v := c' k) (by omega)
      by_cases e : c' k = 99
      · have nge : ¬ nI 0 ≤ cI (c' k) := fun x => (gg.mp x) e
        have s1 := c_startOf hB rY hk2
        have s2 := c_endOf hB rY hk2
        have l1 := fS_lt hB hk2
        have l2 := fE_lt hB hk2
        have x1 := rY.2.1 _ l1
        have x2 := rY.2.1 _ l2
        have x3 := rY.2.2.1 _ l1
        have x4 := rY.2.2.1 _ l2
        have a5 := (y5 t (Nat.le_refl _)).1
        have a6 := (y5 t (Nat.le_refl _)).2
        have hwk' : wk A (2 * fM A - (i + 1)) (nx A k) t (va_up c' k t) = wk A (2 * fM A) h t c := by
          rw [← hwk, show 2 * fM A - i = (2 * fM A - (i + 1)) + 1 by omega, wk_s, if_pos e]
        refine Or.inl ⟨nI t, nI (nx A k), nI (i + 1), upI (upI (upI y 103 k (nI t)) 105 t (nI (szc A c' t + 1))) 106 t (iI (arc A c' t + cx A k)), ⟨rfl, rfl, ((ky.up (by simp)).up (by simp)).up (by simp), nx A k, va_up c' k t, rfl, (nx_spec hw hk2).1, hwk', fun g hg => ?_, fun g hg => ?_, fun f hf => ?_⟩, fun ag => ?_⟩
        · by_cases x : g = k
          · rw [x, va_up_self]; omega
          · rw [va_up_ne _ _ x]; exact hcl g hg
        · rw [upI_ne (by decide), upI_ne (by decide), upI_at]
          by_cases x : g = k
          · rw [if_pos ⟨rfl, x⟩, x, va_up_self]; unfold cI; rw [if_neg (by omega)]
          · rw [if_neg (fun a => x a.2), va_up_ne _ _ x]; exact y3 g hg
        · by_cases x : f = t
          · rw [x, szc_s hk2 e (by omega), arc_s hk2 e (by omega)]
            exact ⟨by rw [upI_ne (by decide), upI_at, if_pos ⟨rfl, rfl⟩], by rw [upI_at, if_pos ⟨rfl, rfl⟩]⟩
          · rw [szc_o e (by omega) x, arc_o e (by omega) x]
            exact ⟨by rw [upI_ne (by decide), upI_at, if_neg (fun a => x a.2), upI_ne (by decide)]; exact (y5 f hf).1, by rw [upI_at, if_neg (fun a => x a.2), upI_ne (by decide), upI_ne (by decide)]; exact (y5 f hf).2⟩
        · unfold b_X0_walkRound_42
          simp (disch := omega) only [bds, bds2, lts, lit, nI_add, pk_mul, nI_leI, nI_ltI, nI_eq, rdI_nI, rdL_nI, wrI_nI, wrL_nI, rdR_nI, if_pos, if_neg, and_true, true_and, and_false, false_and, reduceIte, hm, v3, s1, s2, upI_at, a5, a6, x1, x2, x3, x4, nxk, iI_mul, iI_sub, iI_add]
          rfl
      · refine Or.inr fun ag => ?_
        have ge : nI 0 ≤ cI (c' k) := gg.mpr e
        have ee : wk A (2 * fM A - i) k t c' = c' := by rw [show 2 * fM A - i = (2 * fM A - (i + 1)) + 1 by omega, wk_s, if_neg e]
        rw [← hwk, ee]
        refine ⟨y, ?_, ky, y3, y5⟩
        unfold b_X0_walkRound_42
        simp (disch := omega) only [bds, bds2, lts, lit, nI_add, pk_mul, nI_leI, nI_ltI, nI_eq, rdI_nI, rdL_nI, wrI_nI, wrL_nI, rdR_nI, if_pos, if_neg, and_true, true_and, and_false, false_and, reduceIte, hm, v3]
    · rintro _ _ _ y ⟨rfl, rfl, ky, k, c', rfl, hk2, hwk, hcl, y3, y5⟩ ag
      have rY : RepC y 1 A := RepC_congr (fun c h1 h2 => (ky.1 c (by simp; omega)).trans (k5.1 c (by simp; omega))) hR
      have hm := rY.1.2.1
      rw [Nat.sub_self] at hwk
      have hwk : c' = wk A (2 * fM A) h t c := hwk
      rw [← hwk]
      refine ⟨y, ?_, ky, y3, y5⟩
      unfold b_X0_walkRound_42
      simp (disch := omega) only [bds, bds2, lts, lit, nI_add, pk_mul, nI_leI, nI_ltI, nI_eq, rdI_nI, rdL_nI, wrI_nI, wrL_nI, rdR_nI, if_pos, if_neg, and_true, true_and, and_false, false_and, reduceIte, hm]
    · rw [hz5, upI_ne (by decide), upI_ne (by decide), upI_ne (by decide), upI_ne (by decide)]; exact F2 g hg
    · rw [e105, e106]
      by_cases x : f = t
      · rw [if_pos x, if_pos x, x, zero.1, zero.2]; exact ⟨rfl, rfl⟩
      · rw [if_neg x, if_neg x]; have := F3 f (by omega); exact ⟨this.1, this.2.1⟩
  obtain ⟨z', m1, m2, m3, m4⟩ := main
  refine ⟨z', ?_, k5.tr (m2.mono (by simp)), ?_, ⟨?_, m3⟩, fun f hf => ⟨(m4 f (by omega)).1, (m4 f (by omega)).2, ?_⟩⟩
  · unfold f_X0_walkRound
    simp (disch := omega) only [bds, bds2, lts, lit, nI_add, pk_mul, nI_leI, nI_ltI, nI_eq, rdI_nI, rdL_nI, wrI_nI, wrL_nI, rdR_nI, if_pos, if_neg, and_true, true_and, and_false, false_and, reduceIte, F1, upI_at]
    rw [← hz5]
    exact m1
  · rw [m2.1 100 (by simp)]; exact e1001
  · rw [m2.1 100 (by simp)]; exact e100
  · rw [m2.1 104 (by simp), e104]
    by_cases x : f = t
    · rw [if_pos x]
      obtain ⟨g, g1, g2, g3, g4⟩ := hL.2.2.2 f (by omega)
      refine ⟨h, hh, rfl, ?_, fun i hi e => ?_⟩
      · have a := hL.2.1 h (by omega) hh
        have b := (hL.1.2 h hh).resolve_left a
        refine Classical.byContradiction fun e => ?_
        have hgh : g = h := by
          refine Classical.byContradiction fun e2 => ?_
          have c1 := hI.2.1 g (by omega) g2
          have c2 := (hI.1.2 g g2).resolve_left c1
          rw [hk g g2 c1] at g3
          omega
        rw [hgh] at g3
        exact e g3
      · have c1 := hI.2.1 i hi (by omega)
        have c2 := (hI.1.2 i (by omega)).resolve_left c1
        rw [hk i (by omega) c1] at e
        omega
    · rw [if_neg x]
      obtain ⟨g, g1, g2, g3, g4⟩ := (F3 f (by omega)).2.2
      refine ⟨g, g1, g2, by rw [hk g g1 (by rw [g3]; omega)]; exact g3, fun i hi e => ?_⟩
      by_cases c1 : c i = 99
      · have il : i < 2 * fM A := by omega
        have n1 : i ≥ h := Nat.le_of_not_lt fun c2 => hI.2.1 i c2 il c1
        have gl : h < g := by omega
        obtain ⟨g', a1, a2, a3, a4⟩ := hI.2.2.2 f (by omega)
        have : g' < g := by omega
        exact g4 g' this a3
      · rw [hk i (by omega) c1] at e
        exact g4 i hi e
end
