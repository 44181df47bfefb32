def lfd (p : Nat → Bool) (n : Nat) : Nat → Option Nat
  | 0 => none
  | d + 1 => if p (n - (d + 1)) = true then some (n - (d + 1)) else lfd p n d
theorem lfd_s (p : Nat → Bool) (n d : Nat) : lfd p n (d + 1) = if p (n - (d + 1)) = true then some (n - (d + 1)) else lfd p n d := rfl
theorem lfd_first {p : Nat → Bool} {n f : Nat} (hf : f < n) (hp : p f = true) : ∀ d, d ≤ n → n - d ≤ f → (∀ i, n - d ≤ i → i < f → p i = false) → lfd p n d = some f := by
  intro d
  induction d with
  | zero => intro _ h; omega
  | succ d ih =>
    intro hd h1 h2
    rw [lfd_s]
    by_cases e : f = n - (d + 1)
    · rw [← e, if_pos hp]
    · rw [if_neg (by rw [h2 _ (Nat.le_refl _) (by omega)]; decide)]
      exact ih (by omega) (by omega) (fun i a b => h2 i (by omega) b)
theorem lfd_none {p : Nat → Bool} {n : Nat} : ∀ d, d ≤ n → (∀ i, n - d ≤ i → i < n → p i = false) → lfd p n d = none := by
  intro d
  induction d with
  | zero => intro _ _; rfl
  | succ d ih =>
    intro hd h2
    rw [lfd_s, if_neg (by rw [h2 _ (Nat.le_refl _) (by omega)]; decide)]
    exact ih (by omega) (fun i a b => h2 i (by omega) b)
def ar (A : Fm) (f : Nat) : Int := arc A (fc A) f
def flt (A : Fm) : Nat → Bool := fun f => decide (ar A f ≤ 0)
def oF (A : Fm) : Option Nat := if whB A = true then lfd (flt A) (nF A) (nF A) else none
def FcC (y : Sto) (A : Fm) : Prop := (y.1 100 0 = nI (nF A) ∧ y.1 100 1 = oM (oF A)) ∧ (∀ h, h < 2 * fM A → y.1 101 h = nI (trn A h) ∧ y.1 102 h = nI (nx A h) ∧ y.1 103 h = nI (fc A h)) ∧ ∀ f, f < nF A → y.1 105 f = nI (szc A (fc A) f) ∧ y.1 106 f = iI (ar A f) ∧ ∃ g, g < 2 * fM A ∧ y.1 104 f = nI g ∧ fc A g = f ∧ ∀ i, i < g → fc A i ≠ f
section
variable {A : Fm} {z y : Sto}
theorem cx_le (hB : BF A) {h : Nat} (hh : h < 2 * fM A) : -25 ≤ cx A h ∧ cx A h ≤ 25 := by
  have x1 := hB.2.2.1 _ (fS_lt hB hh)
  have x2 := hB.2.2.1 _ (fE_lt hB hh)
  have a := mul5 (a := fX A (fS A h)) (b := fY A (fE A h)) (by omega) (by omega) (by omega) (by omega)
  have b := mul5 (a := fX A (fE A h)) (b := fY A (fS A h)) (by omega) (by omega) (by omega) (by omega)
  have c := Int.mul_nonneg x1.1.1 x2.2.1
  have d := Int.mul_nonneg x2.1.1 x1.2.1
  unfold cx
  omega
theorem ar_le (hB : BF A) (c : Nat → Nat) (f : Nat) : -450 ≤ arc A c f ∧ arc A c f ≤ 450 := by
  have h9 := hB.2.1
  have := sm_le (n := 2 * fM A) (f := fun g => if c g = f then cx A g else 0) (b := 25) (fun i hi => by
    have := cx_le hB hi
    show _ ≤ (if c i = f then cx A i else 0) ∧ (if c i = f then cx A i else 0) ≤ _
    split <;> omega)
  unfold arc
  omega
theorem c_flatFace (hB : BF A) {t : Nat} (ht : t ≤ 18) {w : Nat → Int} (hw : ∀ f, f < t → -450 ≤ w f ∧ w f ≤ 450) (h0 : y.1 100 0 = nI t) (h1 : ∀ f, f < t → y.1 106 f = iI (w f)) : f_X0_flatFace y = some (oM (lfd (fun f => decide (w f ≤ 0)) t t)) := by
  refine wl1_inv (Q := fun o => o = some (oM (lfd (fun f => decide (w f ≤ 0)) t t))) (fun f a => a = nI f ∧ ∀ i, i < f → ¬ w i ≤ 0) t ?_ ?_ (by omega) ⟨rfl, fun i hi => by omega⟩
  · rintro f hf _ ⟨rfl, hn⟩
    have v := h1 f hf
    have hl := hw f hf
    have p : (nI 0 < iI (w f)) ↔ 0 < w f := iI_lt (a := 0) (small32 (by omega) (by omega)) (small32 (by omega) (by omega))
    by_cases c : w f ≤ 0
    · refine Or.inr fun ag => ?_
      have np : ¬ nI 0 < iI (w f) := fun e => by have := p.mp e; omega
      rw [lfd_first hf (by simp [c]) t (Nat.le_refl _) (by omega) (fun i _ hi => decide_eq_false (hn i hi))]
      unfold b_X0_flatFace_2
      simp (disch := omega) only [bds, bds2, lts, lit, nI_add, pk_mul, nI_leI, nI_ltI, nI_eq, rdI_nI, rdL_nI, wrI_nI, wrL_nI, rdR_nI, if_pos, if_neg, and_true, true_and, and_false, false_and, reduceIte, h0, v]
      rfl
    · refine Or.inl ⟨nI (f + 1), ⟨rfl, fun i hi => ?_⟩, fun ag => ?_⟩
      · by_cases e : i = f
        · rw [e]; exact c
        · exact hn i (by omega)
      · have np : nI 0 < iI (w f) := p.mpr (by omega)
        unfold b_X0_flatFace_2
        simp (disch := omega) only [bds, bds2, lts, lit, nI_add, pk_mul, nI_leI, nI_ltI, nI_eq, rdI_nI, rdL_nI, wrI_nI, wrL_nI, rdR_nI, if_pos, if_neg, and_true, true_and, and_false, false_and, reduceIte, h0, v]
  · rintro _ ⟨rfl, hn⟩ ag
    rw [lfd_none t (Nat.le_refl _) (fun i _ hi => decide_eq_false (hn i hi))]
    unfold b_X0_flatFace_2
    simp (disch := omega) only [bds, bds2, lts, lit, nI_add, pk_mul, nI_leI, nI_ltI, nI_eq, rdI_nI, rdL_nI, wrI_nI, wrL_nI, rdR_nI, if_pos, if_neg, and_true, true_and, and_false, false_and, reduceIte, h0]
    rfl
theorem c_walk (hw : WF A) (hR : RepC z 1 A) : ∃ y, f_X0_walk z = some y ∧ Ke [100, 101, 102, 103, 104, 105, 106] z y ∧ FcC y A := by
  have hB := hw.1
  have h9 := hB.2.1
  have h6 := hB.1
  have rep : ∀ {S : List Nat} {y : Sto}, Ke S z y → (∀ c, c ∈ S → 100 ≤ c) → RepC y 1 A := fun {S y} k hS => RepC_congr (fun c h1 h2 => k.1 c (fun e => by have := hS c e; omega)) hR
  have hS0 : ∀ c, c ∈ [100, 101, 102, 103, 104, 105, 106] → 100 ≤ c := by simp
  -- the walks
  have ph3 : ∀ y0 : Sto, Ke [100, 101, 102, 103, 104, 105, 106] z y0 → (∀ h, h < 2 * fM A → y0.1 101 h = nI (trn A h) ∧ y0.1 102 h = nI (nx A h) ∧ y0.1 103 h = -1) → ∃ y, wl3 b_X0_walk_72 fu (nI (2 * fM A)) (nI 0) (upI y0 100 0 (nI 0)) = some y ∧ Ke [100, 101, 102, 103, 104, 105, 106] z y ∧ FcC y A := by
    intro y0 k0 h0
    refine wl3_inv (Q := fun o => ∃ y, o = some y ∧ Ke [100, 101, 102, 103, 104, 105, 106] z y ∧ FcC y A) (fun h a b y => a = nI (2 * fM A) ∧ b = nI h ∧ Ke [100, 103, 104, 105, 106] y0 y ∧ FS A y (ly A h).1 (ly A h).2) (2 * fM A) ?_ ?_ (by omega) ⟨rfl, rfl, Ke.rf.up (by simp), ⟨by rw [upI_at, if_pos ⟨rfl, rfl⟩]; rfl, fun g hg => by rw [upI_ne (by decide), (h0 g hg).2.2]; rfl⟩, fun f hf => absurd hf (Nat.not_lt_zero _)⟩
    · rintro h hh _ _ y ⟨rfl, rfl, ky, hF⟩
      have kz : Ke [100, 101, 102, 103, 104, 105, 106] z y := k0.tr (ky.mono (by simp))
      have rY := rep kz hS0
      have hL := LI_ly hw h (by omega)
      have v := hF.1.2 h hh
      have cl := hL.1.2 h hh
      have tl := hL.1.1
      have gg := cI_lt (v := (ly A h).1 h) (by omega)
      by_cases c : (ly A h).1 h = 99
      · obtain ⟨z', w1, w2, w3, w4⟩ := c_walkRound hw rY (fun g hg => by rw [ky.1 102 (by simp)]; exact (h0 g hg).2.1) hh hL c hF
        have ng : ¬ nI 0 ≤ cI ((ly A h).1 h) := fun e => (gg.mp e) c
        refine Or.inl ⟨_, nI (h + 1), z', ⟨rfl, rfl, ky.tr w2, ?_⟩, fun ag => ?_⟩
        · rw [ly_s, if_pos c]; exact w4
        · unfold b_X0_walk_72
          simp (disch := omega) only [bds, bds2, lts, lit, nI_add, pk_mul, nI_leI, nI_ltI, nI_eq, rdI_nI, rdL_nI, wrI_nI, wrL_nI, rdR_nI, if_pos, if_neg, and_true, true_and, and_false, false_and, reduceIte, v, w1]
      · have ng : nI 0 ≤ cI ((ly A h).1 h) := gg.mpr c
        refine Or.inl ⟨_, nI (h + 1), y, ⟨rfl, rfl, ky, ?_⟩, fun ag => ?_⟩
        · rw [ly_s, if_neg c]; exact hF
        · unfold b_X0_walk_72
          simp (disch := omega) only [bds, bds2, lts, lit, nI_add, pk_mul, nI_leI, nI_ltI, nI_eq, rdI_nI, rdL_nI, wrI_nI, wrL_nI, rdR_nI, if_pos, if_neg, and_true, true_and, and_false, false_and, reduceIte, v]
    · rintro _ _ y ⟨rfl, rfl, ky, hF⟩ ag
      have kz : Ke [100, 101, 102, 103, 104, 105, 106] z y := k0.tr (ky.mono (by simp))
      have rY := rep kz hS0
      have fs := fc_spec hw
      have wh := c_isWhole hB rY
      have ff := c_flatFace (t := nF A) (w := ar A) hB (by omega) (fun f _ => ar_le hB _ f) hF.1.1 (fun f hf => (hF.2 f hf).2.1)
      have e : b_X0_walk_72 ag (nI (2 * fM A)) (nI (2 * fM A)) y = some (upI y 100 1 (oM (oF A))) := by
        unfold b_X0_walk_72 oF
        cases c : whB A with
        | false =>
          rw [c] at wh
          simp (disch := omega) only [bds, bds2, lts, lit, nI_add, pk_mul, nI_leI, nI_ltI, nI_eq, rdI_nI, rdL_nI, wrI_nI, wrL_nI, rdR_nI, if_pos, if_neg, and_true, true_and, and_false, false_and, reduceIte, wh, b2i_f]
          rfl
        | true =>
          rw [c] at wh
          simp (disch := omega) only [bds, bds2, lts, lit, nI_add, pk_mul, nI_leI, nI_ltI, nI_eq, rdI_nI, rdL_nI, wrI_nI, wrL_nI, rdR_nI, if_pos, if_neg, and_true, true_and, and_false, false_and, reduceIte, wh, b2i, ff]
          rfl
      refine ⟨_, e, kz.up (by simp), ⟨⟨?_, ?_⟩, fun h hh => ⟨?_, ?_, ?_⟩, fun f hf => ⟨?_, ?_, ?_⟩⟩⟩
      · rw [upI_at, if_neg (by omega)]; exact hF.1.1
      · rw [upI_at, if_pos ⟨rfl, rfl⟩]
      · rw [upI_ne (by decide), ky.1 101 (by simp)]; exact (h0 h hh).1
      · rw [upI_ne (by decide), ky.1 102 (by simp)]; exact (h0 h hh).2.1
      · rw [upI_ne (by decide), hF.1.2 h hh]
        have := fs.2.1 h hh
        show cI (fc A h) = _
        unfold cI
        rw [if_neg (by omega)]
      · rw [upI_ne (by decide)]; exact (hF.2 f hf).1
      · rw [upI_ne (by decide)]; exact (hF.2 f hf).2.1
      · rw [upI_ne (by decide)]; exact (hF.2 f hf).2.2
  have ph2 : ∀ y0 : Sto, Ke [100, 101, 102, 103, 104, 105, 106] z y0 → (∀ h, h < 2 * fM A → y0.1 101 h = nI (trn A h) ∧ y0.1 103 h = -1) → ∃ y, wl3 b_X0_walk_40 fu (nI (2 * fM A)) (nI 0) y0 = some y ∧ Ke [100, 101, 102, 103, 104, 105, 106] z y ∧ FcC y A := by
    intro y0 k0 h0
    refine wl3_inv (Q := fun o => ∃ y, o = some y ∧ Ke [100, 101, 102, 103, 104, 105, 106] z y ∧ FcC y A) (fun h a b y => a = nI (2 * fM A) ∧ b = nI h ∧ Ke [102] y0 y ∧ ∀ g, g < h → y.1 102 g = nI (nx A g)) (2 * fM A) ?_ ?_ (by omega) ⟨rfl, rfl, Ke.rf, fun g hg => by omega⟩
    · rintro h hh _ _ y ⟨rfl, rfl, ky, hy⟩
      have kz : Ke [100, 101, 102, 103, 104, 105, 106] z y := k0.tr (ky.mono (by simp))
      have rY := rep kz hS0
      have cw := c_clockwiseOf hw rY (fun g hg => by rw [ky.1 101 (by simp)]; exact (h0 g hg).1) (b := bk h) (bk_lt hh)
      rw [fS_bk] at cw
      change f_X0_clockwiseOf (nI (bk h)) y = some (nI (nx A h)) at cw
      have xr := xor1 (h := h) (by omega)
      refine Or.inl ⟨_, nI (h + 1), upI y 102 h (nI (nx A h)), ⟨rfl, rfl, ky.up (by simp), fun g hg => ?_⟩, fun ag => ?_⟩
      · rw [upI_at]
        by_cases e : g = h
        · rw [if_pos ⟨rfl, e⟩, e]
        · rw [if_neg (fun x => e x.2)]; exact hy g (by omega)
      · unfold b_X0_walk_40
        simp (disch := omega) only [bds, bds2, lts, lit, nI_add, pk_mul, nI_leI, nI_ltI, nI_eq, rdI_nI, rdL_nI, wrI_nI, wrL_nI, rdR_nI, if_pos, if_neg, and_true, true_and, and_false, false_and, reduceIte, xr, cw]
    · rintro _ _ y ⟨rfl, rfl, ky, hy⟩ ag
      have kz : Ke [100, 101, 102, 103, 104, 105, 106] z y := k0.tr (ky.mono (by simp))
      obtain ⟨y', a1, a2, a3⟩ := ph3 y kz (fun g hg => ⟨by rw [ky.1 101 (by simp)]; exact (h0 g hg).1, hy g hg, by rw [ky.1 103 (by simp)]; exact (h0 g hg).2⟩)
      refine ⟨y', ?_, a2, a3⟩
      rw [← a1]
      unfold b_X0_walk_40
      simp (disch := omega) only [bds, bds2, lts, lit, nI_add, pk_mul, nI_leI, nI_ltI, nI_eq, rdI_nI, rdL_nI, wrI_nI, wrL_nI, rdR_nI, if_pos, if_neg, and_true, true_and, and_false, false_and, reduceIte]
  have ph1 : ∃ y, wl3 b_X0_walk_9 fu (nI (2 * fM A)) (nI 0) z = some y ∧ Ke [100, 101, 102, 103, 104, 105, 106] z y ∧ FcC y A := by
    refine wl3_inv (Q := fun o => ∃ y, o = some y ∧ Ke [100, 101, 102, 103, 104, 105, 106] z y ∧ FcC y A) (fun h a b y => a = nI (2 * fM A) ∧ b = nI h ∧ Ke [101, 103] z y ∧ ∀ g, g < h → y.1 101 g = nI (trn A g) ∧ y.1 103 g = -1) (2 * fM A) ?_ ?_ (by omega) ⟨rfl, rfl, Ke.rf, fun g hg => by omega⟩
    · rintro h hh _ _ y ⟨rfl, rfl, ky, hy⟩
      have rY := rep ky (by simp)
      have tu := c_turnOf hw rY hh
      refine Or.inl ⟨_, nI (h + 1), upI (upI y 101 h (nI (trn A h))) 103 h (-1), ⟨rfl, rfl, (ky.up (by simp)).up (by simp), fun g hg => ?_⟩, fun ag => ?_⟩
      · rw [upI_ne (show (101 : Nat) ≠ 103 by decide)]
        by_cases e : g = h
        · exact ⟨by rw [upI_at, if_pos ⟨rfl, e⟩, e], by rw [upI_at, if_pos ⟨rfl, e⟩]⟩
        · exact ⟨by rw [upI_at, if_neg (fun x => e x.2)]; exact (hy g (by omega)).1, by rw [upI_at, if_neg (fun x => e x.2), upI_ne (by decide)]; exact (hy g (by omega)).2⟩
      · unfold b_X0_walk_9
        simp (disch := omega) only [bds, bds2, lts, lit, nI_add, pk_mul, nI_leI, nI_ltI, nI_eq, rdI_nI, rdL_nI, wrI_nI, wrL_nI, rdR_nI, if_pos, if_neg, and_true, true_and, and_false, false_and, reduceIte, tu]
    · rintro _ _ y ⟨rfl, rfl, ky, hy⟩ ag
      obtain ⟨y', a1, a2, a3⟩ := ph2 y (ky.mono (by simp)) hy
      refine ⟨y', ?_, a2, a3⟩
      rw [← a1]
      unfold b_X0_walk_9
      simp (disch := omega) only [bds, bds2, lts, lit, nI_add, pk_mul, nI_leI, nI_ltI, nI_eq, rdI_nI, rdL_nI, wrI_nI, wrL_nI, rdR_nI, if_pos, if_neg, and_true, true_and, and_false, false_and, reduceIte]
  obtain ⟨y, a1, a2, a3⟩ := ph1
  refine ⟨y, ?_, a2, a3⟩
  unfold f_X0_walk
  rw [lts, hR.1.2.1, show (2 : Int32) * nI (fM A) = nI (2 * fM A) from pk_mul 2 _]
  exact a1
end
