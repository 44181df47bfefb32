/-! faces, walked round -/
def px (A : Fm) (g : Nat) : Nat := bk (hv A (fS A g) ((trn A g + 1) % dg A (fS A g)))
def wk (A : Fm) : Nat → Nat → Nat → (Nat → Nat) → (Nat → Nat)
  | 0, _, _, c => c
  | n + 1, h, f, c => if c h = 99 then wk A n (nx A h) f (va_up c h f) else c
def ly (A : Fm) : Nat → (Nat → Nat) × Nat
  | 0 => (fun _ => 99, 0)
  | h + 1 => if (ly A h).1 h = 99 then (wk A (2 * fM A) h (ly A h).2 (ly A h).1, (ly A h).2 + 1) else ly A h
def fc (A : Fm) : Nat → Nat := (ly A (2 * fM A)).1
def nF (A : Fm) : Nat := (ly A (2 * fM A)).2
theorem wk_s (A : Fm) (n h f : Nat) (c : Nat → Nat) : wk A (n + 1) h f c = if c h = 99 then wk A n (nx A h) f (va_up c h f) else c := rfl
theorem ly_s (A : Fm) (h : Nat) : ly A (h + 1) = if (ly A h).1 h = 99 then (wk A (2 * fM A) h (ly A h).2 (ly A h).1, (ly A h).2 + 1) else ly A h := rfl
section
variable {A : Fm}
theorem px_lt (hw : WF A) {g : Nat} (hg : g < 2 * fM A) : px A g < 2 * fM A := by
  have := trn_lt hw hg
  exact bk_lt (hv_spec hw (Nat.mod_lt _ (by omega))).1
theorem px_nx (hw : WF A) {h : Nat} (hh : h < 2 * fM A) : px A (nx A h) = h := by
  obtain ⟨n1, n2, n3⟩ := nx_spec hw hh
  have tl := trn_lt hw (bk_lt hh)
  rw [fS_bk] at tl
  unfold px
  rw [n2, n3]
  have e : ((trn A (bk h) + dg A (fE A h) - 1) % dg A (fE A h) + 1) % dg A (fE A h) = trn A (bk h) := by
    generalize dg A (fE A h) = d at *
    generalize trn A (bk h) = t at *
    by_cases c : t = 0
    · subst c
      rw [show 0 + d - 1 = d - 1 by omega, Nat.mod_eq_of_lt (show d - 1 < d by omega), show d - 1 + 1 = d by omega, Nat.mod_self]
    · rw [show t + d - 1 = (t - 1) + d by omega, Nat.add_mod_right, Nat.mod_eq_of_lt (show t - 1 < d by omega), show t - 1 + 1 = t by omega, Nat.mod_eq_of_lt tl]
  rw [e]
  have := hv_of hw (bk_lt hh)
  rw [fS_bk] at this
  rw [this, bk_bk]
theorem nx_px (hw : WF A) {g : Nat} (hg : g < 2 * fM A) : nx A (px A g) = g := by
  have tl := trn_lt hw hg
  obtain ⟨v1, v2, v3⟩ := hv_spec hw (j := fS A g) (t := (trn A g + 1) % dg A (fS A g)) (Nat.mod_lt _ (by omega))
  unfold nx px
  rw [fE_bk, bk_bk, v2, v3]
  have e : ((trn A g + 1) % dg A (fS A g) + dg A (fS A g) - 1) % dg A (fS A g) = trn A g := by
    generalize dg A (fS A g) = d at *
    generalize trn A g = t at *
    by_cases c : t + 1 = d
    · rw [c, Nat.mod_self, show 0 + d - 1 = t by omega, Nat.mod_eq_of_lt tl]
    · rw [Nat.mod_eq_of_lt (show t + 1 < d by omega), show t + 1 + d - 1 = t + d by omega, Nat.add_mod_right, Nat.mod_eq_of_lt tl]
  rw [e]
  exact hv_of hw hg
/-- whole walks are laid -/
def Cl (A : Fm) (c : Nat → Nat) : Prop := ∀ g, g < 2 * fM A → c g ≠ 99 → c (nx A g) = c g ∧ c (px A g) = c g
theorem un_up {c : Nat → Nat} {h f n : Nat} (hh : h < n) (hc : c h = 99) (hf : f ≠ 99) : cnt (fun g => decide (c g = 99)) n = cnt (fun g => decide (va_up c h f g = 99)) n + 1 := by
  rw [cnt_rm (k := h) hh (by simp [hc])]
  congr 1
  refine cnt_congr fun i hi => ?_
  by_cases e : i = h
  · subst e; rw [va_up_self]; simp [hf]
  · rw [va_up_ne _ _ e]; simp [e]
theorem wk_spec (hw : WF A) {h0 f : Nat} {c0 : Nat → Nat} (h0l : h0 < 2 * fM A) (hf : f ≠ 99) (hcl : Cl A c0) (hnew : ∀ g, g < 2 * fM A → c0 g ≠ f) (h00 : c0 h0 = 99) : ∀ (n h : Nat) (c : Nat → Nat), h < 2 * fM A → cnt (fun g => decide (c g = 99)) (2 * fM A) ≤ n → (∀ g, g < 2 * fM A → c0 g ≠ 99 → c g = c0 g) → (∀ g, g < 2 * fM A → c0 g = 99 → c g ≠ 99 → c g = f) → (∀ g, g < 2 * fM A → c0 g = 99 → c g = f → nx A g = h ∨ c (nx A g) = f) → (∀ g, g < 2 * fM A → c0 g = 99 → c g = f → g ≠ h0 → c (px A g) = f) → ((h = h0 ∧ c h0 = 99) ∨ (c h0 = f ∧ c (px A h) = f)) → (c h = 99 ∨ h = h0) → c0 h = 99 → let c' := wk A n h f c
    (∀ g, g < 2 * fM A → c0 g ≠ 99 → c' g = c0 g) ∧ (∀ g, g < 2 * fM A → c0 g = 99 → c' g ≠ 99 → c' g = f) ∧ c' h0 = f ∧ Cl A c' := by
  intro n
  induction n with
  | zero =>
    intro h c hh hu w1 w2 w4 w5 w6 w8 w9
    have ch : c h ≠ 99 := fun e => by
      have := cnt_rm (p := fun g => decide (c g = 99)) hh (by simp [e])
      omega
    have hE : h = h0 := w8.resolve_left ch
    have c0f : c h0 = f := by rcases w6 with ⟨_, e⟩ | ⟨e, _⟩; · exact absurd (hE ▸ e) ch
                              · exact e
    refine ⟨w1, w2, c0f, fun g hg hgn => ?_⟩
    show c (nx A g) = c g ∧ c (px A g) = c g
    by_cases e : c0 g = 99
    · have cg := w2 g hg e hgn
      have a1 : c (nx A g) = f := by
        rcases w4 g hg e cg with x | x
        · rw [x, hE]; exact c0f
        · exact x
      refine ⟨a1.trans cg.symm, ?_⟩
      by_cases e2 : g = h0
      · rw [e2, ← hE]
        rcases w6 with ⟨_, x⟩ | ⟨_, x⟩
        · exact absurd (hE ▸ x) ch
        · rw [x, hE, c0f]
      · rw [w5 g hg e cg e2, cg]
    · have a := hcl g hg e
      have b1 := (nx_spec hw hg).1
      have b2 := px_lt hw hg
      rw [w1 g hg e, w1 _ b1 (by rw [a.1]; exact e), w1 _ b2 (by rw [a.2]; exact e)]
      exact a
  | succ n ih =>
    intro h c hh hu w1 w2 w4 w5 w6 w8 w9
    rw [wk_s]
    by_cases ch : c h = 99
    · rw [if_pos ch]
      have n1 := (nx_spec hw hh).1
      have pn := px_nx hw hh
      have u := un_up (f := f) hh ch hf
      have n0 : c0 (nx A h) = 99 := Classical.byContradiction fun e => by
        have := (hcl _ n1 e).2
        rw [pn, w9] at this
        exact e this.symm
      refine ih (nx A h) (va_up c h f) n1 (by omega) (fun g hg e => ?_) (fun g hg e e2 => ?_) (fun g hg e e2 => ?_) (fun g hg e e2 e3 => ?_) ?_ ?_ n0
      · have : g ≠ h := fun x => by rw [x] at e; exact e w9
        rw [va_up_ne _ _ this]; exact w1 g hg e
      · by_cases x : g = h
        · rw [x, va_up_self]
        · rw [va_up_ne _ _ x] at e2 ⊢; exact w2 g hg e e2
      · by_cases x : g = h
        · rw [x]; exact Or.inl rfl
        · rw [va_up_ne _ _ x] at e2
          rcases w4 g hg e e2 with y | y
          · right; rw [y, va_up_self]
          · right
            by_cases z : nx A g = h
            · rw [z, va_up_self]
            · rw [va_up_ne _ _ z]; exact y
      · by_cases x : g = h
        · rcases w6 with ⟨y, _⟩ | ⟨_, y⟩
          · exact absurd (x.trans y) e3
          · rw [x]
            have : px A h ≠ h := fun z => by rw [z, ch] at y; exact hf y.symm
            rw [va_up_ne _ _ this]; exact y
        · rw [va_up_ne _ _ x] at e2
          have y := w5 g hg e e2 e3
          have : px A g ≠ h := fun z => by rw [z, ch] at y; exact hf y.symm
          rw [va_up_ne _ _ this]; exact y
      · right
        rw [pn, va_up_self]
        refine ⟨?_, rfl⟩
        rcases w6 with ⟨y, _⟩ | ⟨y, _⟩
        · rw [← y, va_up_self]
        · have : h0 ≠ h := fun z => by rw [z, ch] at y; exact hf y.symm
          rw [va_up_ne _ _ this]; exact y
      · by_cases e : va_up c h f (nx A h) = 99
        · exact Or.inl e
        · right
          refine Classical.byContradiction fun x => ?_
          by_cases y : nx A h = h
          · rcases w6 with ⟨a, _⟩ | ⟨_, b⟩
            · rw [y] at x; exact x a
            · have : px A h = h := by have := pn; rw [y] at this; exact this
              rw [this, ch] at b
              exact hf b.symm
          · rw [va_up_ne _ _ y] at e
            have b := w5 _ n1 n0 (w2 _ n1 n0 e) x
            rw [pn, ch] at b
            exact hf b.symm
    · rw [if_neg ch]
      have hE : h = h0 := w8.resolve_left ch
      have c0f : c h0 = f := by rcases w6 with ⟨_, e⟩ | ⟨e, _⟩; · exact absurd (hE ▸ e) ch
                                · exact e
      refine ⟨w1, w2, c0f, fun g hg hgn => ?_⟩
      show c (nx A g) = c g ∧ c (px A g) = c g
      by_cases e : c0 g = 99
      · have cg := w2 g hg e hgn
        have a1 : c (nx A g) = f := by
          rcases w4 g hg e cg with x | x
          · rw [x, hE]; exact c0f
          · exact x
        refine ⟨a1.trans cg.symm, ?_⟩
        by_cases e2 : g = h0
        · rw [e2, ← hE]
          rcases w6 with ⟨_, x⟩ | ⟨_, x⟩
          · exact absurd (hE ▸ x) ch
          · rw [x, hE, c0f]
        · rw [w5 g hg e cg e2, cg]
      · have a := hcl g hg e
        have b1 := (nx_spec hw hg).1
        have b2 := px_lt hw hg
        rw [w1 g hg e, w1 _ b1 (by rw [a.1]; exact e), w1 _ b2 (by rw [a.2]; exact e)]
        exact a
/-- what is laid, half bar by half bar -/
def LI (A : Fm) (h : Nat) (c : Nat → Nat) (t : Nat) : Prop := (t ≤ h ∧ ∀ g, g < 2 * fM A → c g = 99 ∨ c g < t) ∧ (∀ g, g < h → g < 2 * fM A → c g ≠ 99) ∧ Cl A c ∧ ∀ f, f < t → ∃ g, g < h ∧ g < 2 * fM A ∧ c g = f ∧ ∀ i, i < g → c i ≠ f
theorem LI_0 : LI A 0 (fun _ => 99) 0 := ⟨⟨Nat.le_refl _, fun _ _ => Or.inl rfl⟩, fun g hg => absurd hg (Nat.not_lt_zero _), fun g _ e => absurd rfl e, fun f hf => absurd hf (Nat.not_lt_zero _)⟩
theorem LI_wk (hw : WF A) {h t : Nat} {c : Nat → Nat} (hh : h < 2 * fM A) (hI : LI A h c t) (hc : c h = 99) : LI A (h + 1) (wk A (2 * fM A) h t c) (t + 1) ∧ (∀ g, g < 2 * fM A → c g ≠ 99 → wk A (2 * fM A) h t c g = c g) := by
  have h9 := hw.1.2.1
  obtain ⟨⟨i1, i2⟩, i3, i4, i5⟩ := hI
  have ht : t ≠ 99 := by omega
  obtain ⟨p1, p2, p3, p4⟩ := wk_spec (f := t) (c0 := c) hw hh ht i4 (fun g hg => by rcases i2 g hg with x | x <;> omega) hc (2 * fM A) h c hh cnt_le (fun g _ _ => rfl) (fun g hg e e2 => absurd e e2) (fun g hg e e2 => by omega) (fun g hg e e2 => by omega) (Or.inl ⟨rfl, hc⟩) (Or.inl hc) hc
  refine ⟨⟨⟨by omega, fun g hg => ?_⟩, fun g hg hg2 => ?_, p4, fun f hf => ?_⟩, p1⟩
  · by_cases e : c g = 99
    · by_cases e2 : wk A (2 * fM A) h t c g = 99
      · exact Or.inl e2
      · right; rw [p2 g hg e e2]; omega
    · right; rw [p1 g hg e]; have := (i2 g hg).resolve_left e; omega
  · by_cases e : c g = 99
    · have : g = h := by
        refine Classical.byContradiction fun x => ?_
        exact i3 g (by omega) hg2 e
      rw [this, p3]; exact ht
    · rw [p1 g hg2 e]; exact e
  · by_cases x : f = t
    · refine ⟨h, by omega, hh, by rw [x]; exact p3, fun i hi e => ?_⟩
      have a := i3 i hi (by omega)
      rw [p1 i (by omega) a] at e
      have := (i2 i (by omega)).resolve_left a
      omega
    · obtain ⟨g, g1, g2, g3, g4⟩ := i5 f (by omega)
      refine ⟨g, by omega, g2, by rw [p1 g g2 (by rw [g3]; omega)]; exact g3, fun i hi e => ?_⟩
      have a := i3 i (by omega) (by omega)
      rw [p1 i (by omega) a] at e
      exact g4 i hi e
theorem LI_ly (hw : WF A) : ∀ h, h ≤ 2 * fM A → LI A h (ly A h).1 (ly A h).2 := by
  intro h
  induction h with
  | zero => intro _; exact LI_0
  | succ h ih =>
    intro hh
    have ih := ih (by omega)
    rw [ly_s]
    by_cases c : (ly A h).1 h = 99
    · rw [if_pos c]; exact (LI_wk hw (by omega) ih c).1
    · rw [if_neg c]
      obtain ⟨⟨i1, i2⟩, i3, i4, i5⟩ := ih
      refine ⟨⟨by omega, i2⟩, fun g hg hg2 => ?_, i4, fun f hf => ?_⟩
      · by_cases e : g = h
        · rw [e]; exact c
        · exact i3 g (by omega) hg2
      · obtain ⟨g, g1, g2, g3, g4⟩ := i5 f hf
        exact ⟨g, by omega, g2, g3, g4⟩
theorem fc_spec (hw : WF A) : nF A ≤ 2 * fM A ∧ (∀ h, h < 2 * fM A → fc A h < nF A) ∧ (∀ h, h < 2 * fM A → fc A (nx A h) = fc A h) ∧ ∀ f, f < nF A → ∃ g, g < 2 * fM A ∧ fc A g = f ∧ ∀ i, i < g → fc A i ≠ f := by
  obtain ⟨⟨i1, i2⟩, i3, i4, i5⟩ := LI_ly hw (2 * fM A) (Nat.le_refl _)
  refine ⟨i1, fun h hh => (i2 h hh).resolve_left (i3 h hh hh), fun h hh => (i4 h hh (i3 h hh hh)).1, fun f hf => ?_⟩
  obtain ⟨g, g1, g2, g3, g4⟩ := i5 f hf
  exact ⟨g, g2, g3, g4⟩
end
