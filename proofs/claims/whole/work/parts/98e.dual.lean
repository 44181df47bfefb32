/-! faces beside faces -/
section
variable {A : Fm}
theorem wk_o (A : Fm) : ∀ (n h f : Nat) (c : Nat → Nat) (g : Nat), wk A n h f c g ≠ f → wk A n h f c g = c g := by
  intro n
  induction n with
  | zero => intro h f c g _; rfl
  | succ n ih =>
    intro h f c g hne
    rw [wk_s] at hne ⊢
    by_cases e : c h = 99
    · rw [if_pos e] at hne ⊢
      have := ih _ _ _ _ hne
      rw [this] at hne ⊢
      by_cases x : g = h
      · rw [x, va_up_self] at hne; exact absurd rfl hne
      · exact va_up_ne _ _ x
    · rw [if_neg e]
theorem wk_c (hw : WF A) {p : Nat → Int} (hp : ∀ h, h < 2 * fM A → p (nx A h) = p h) {v : Int} {f : Nat} : ∀ (n h : Nat) (c : Nat → Nat), h < 2 * fM A → p h = v → (∀ g, g < 2 * fM A → c g = f → p g = v) → ∀ g, g < 2 * fM A → wk A n h f c g = f → p g = v := by
  intro n
  induction n with
  | zero => intro h c _ _ hc g hg e; exact hc g hg e
  | succ n ih =>
    intro h c hh hv hc g hg e
    rw [wk_s] at e
    by_cases x : c h = 99
    · rw [if_pos x] at e
      refine ih _ _ (nx_spec hw hh).1 ((hp h hh).trans hv) (fun i hi e2 => ?_) g hg e
      by_cases y : i = h
      · rw [y]; exact hv
      · rw [va_up_ne _ _ y] at e2; exact hc i hi e2
    · rw [if_neg x] at e; exact hc g hg e
theorem fc_const (hw : WF A) {p : Nat → Int} (hp : ∀ h, h < 2 * fM A → p (nx A h) = p h) {g g' : Nat} (hg : g < 2 * fM A) (hg' : g' < 2 * fM A) (e : fc A g = fc A g') : p g = p g' := by
  have key : ∀ h, h ≤ 2 * fM A → ∀ g g', g < 2 * fM A → g' < 2 * fM A → (ly A h).1 g ≠ 99 → (ly A h).1 g = (ly A h).1 g' → p g = p g' := by
    intro h
    induction h with
    | zero => intro _ g g' _ _ x; exact absurd rfl x
    | succ h ih =>
      intro hh g g' hg hg' hn e
      have ih := ih (by omega)
      have hL := LI_ly hw h (by omega)
      rw [ly_s] at hn e
      by_cases x : (ly A h).1 h = 99
      · rw [if_pos x] at hn e
        have hn : wk A (2 * fM A) h (ly A h).2 (ly A h).1 g ≠ 99 := hn
        have e : wk A (2 * fM A) h (ly A h).2 (ly A h).1 g = wk A (2 * fM A) h (ly A h).2 (ly A h).1 g' := e
        have fresh : ∀ i, i < 2 * fM A → (ly A h).1 i = (ly A h).2 → p i = p h := fun i hi e2 => by
          have := hL.1.2 i hi
          have := hL.1.1
          have := hw.1.2.1
          omega
        by_cases y : wk A (2 * fM A) h (ly A h).2 (ly A h).1 g = (ly A h).2
        · rw [wk_c hw hp (2 * fM A) h (ly A h).1 (by omega) rfl fresh g hg y, wk_c hw hp (2 * fM A) h (ly A h).1 (by omega) rfl fresh g' hg' (by rw [← e]; exact y)]
        · have e1 := wk_o A _ _ _ _ g y
          have e2 := wk_o A (2 * fM A) h (ly A h).2 (ly A h).1 g' (by rw [← e]; exact y)
          exact ih g g' hg hg' (by rw [← e1]; exact hn) (by rw [← e1, ← e2]; exact e)
      · rw [if_neg x] at hn e
        exact ih g g' hg hg' hn e
  have fs := (fc_spec hw).2.1 g hg
  have := (fc_spec hw).1
  have := hw.1.2.1
  exact key (2 * fM A) (Nat.le_refl _) g g' hg hg' (by show fc A g ≠ 99; omega) e
def phi (A : Fm) (F : Nat → Int) (f : Nat) : Int := psi A F (fnd (fun g => decide (fc A g = f)) (2 * fM A))
theorem fnd_spec {p : Nat → Bool} {n k : Nat} (hk : k < n) (hp : p k = true) : fnd p n < n ∧ p (fnd p n) = true := by
  induction n with
  | zero => omega
  | succ n ih =>
    rw [fnd_s]
    by_cases c : p n = true
    · rw [if_pos c]; exact ⟨by omega, c⟩
    · rw [if_neg c]
      have : k ≠ n := fun e => c (by rw [← e]; exact hp)
      have := ih (by omega)
      exact ⟨by omega, this.2⟩
theorem phi_fc (hw : WF A) {F : Nat → Int} (hF : Fo A F) {h : Nat} (hh : h < 2 * fM A) : phi A F (fc A h) = psi A F h := by
  have sp := fnd_spec (p := fun g => decide (fc A g = fc A h)) hh (by simp)
  exact fc_const hw (fun g hg => psi_nx hw hF hg) sp.1 hh (by simpa using sp.2)
theorem phi_st (hw : WF A) {F : Nat → Int} (hF : Fo A F) {h : Nat} (hh : h < 2 * fM A) : phi A F (fc A h) = phi A F (fc A (bk h)) + F h := by
  rw [phi_fc hw hF hh, phi_fc hw hF (bk_lt hh)]
  have := psi_bk hw hF hh
  omega
/-- the outer face -/
theorem cx_bk (A : Fm) (h : Nat) : cx A (bk h) = - cx A h := by unfold cx; rw [fS_bk, fE_bk]; omega
theorem ar_sum (hw : WF A) : sm (nF A) (ar A) = 0 := by
  have fs := fc_spec hw
  have e1 : sm (nF A) (ar A) = sm (2 * fM A) (cx A) := by
    show sm (nF A) (fun f => sm (2 * fM A) (fun g => if fc A g = f then cx A g else 0)) = _
    rw [sm_swap]
    refine sm_congr fun g hg => ?_
    rw [sm_one (k := fc A g) (fs.2.1 g hg) (fun f _ hne => if_neg (fun e => hne e.symm)), if_pos rfl]
  have e2 : sm (2 * fM A) (cx A) = - sm (2 * fM A) (cx A) := by
    conv => lhs; rw [sm_bk]
    rw [← sm_neg]
    exact sm_congr fun g _ => cx_bk A g
  omega
theorem sm_pos {n : Nat} {f : Nat → Int} (hn : 0 < n) (h : ∀ i, i < n → 0 < f i) : 0 < sm n f := by
  induction n with
  | zero => omega
  | succ n ih =>
    rw [sm_s]
    have := h n (by omega)
    by_cases c : n = 0
    · subst c; rw [sm_0]; omega
    · have := ih (by omega) (fun i hi => h i (by omega)); omega
theorem lfd_some {p : Nat → Bool} {n f : Nat} (hf : f < n) (hp : p f = true) : ∃ o, lfd p n n = some o ∧ o < n := by
  have : ∀ d, d ≤ n → n - d ≤ f → ∃ o, lfd p n d = some o ∧ o < n := by
    intro d
    induction d with
    | zero => intro _ h; omega
    | succ d ih =>
      intro hd h
      rw [lfd_s]
      by_cases c : p (n - (d + 1)) = true
      · rw [if_pos c]; exact ⟨_, rfl, by omega⟩
      · rw [if_neg c]
        have : f ≠ n - (d + 1) := fun e => c (by rw [← e]; exact hp)
        exact ih (by omega) (by omega)
  exact this n (Nat.le_refl _) (by omega)
theorem whB_m (h : whB A = true) : 0 < fM A := by
  unfold whB at h
  simp only [Bool.and_eq_true, decide_eq_true_eq] at h
  exact h.1
theorem oF_some (hw : WF A) (h : whB A = true) : ∃ o, oF A = some o ∧ o < nF A := by
  have hm := whB_m h
  have fs := fc_spec hw
  have hn : 0 < nF A := by have := fs.2.1 0 (by omega); omega
  unfold oF
  rw [if_pos h]
  by_cases c : ∃ f, f < nF A ∧ ar A f ≤ 0
  · obtain ⟨f, f1, f2⟩ := c
    exact lfd_some f1 (by unfold flt; simp [f2])
  · have := sm_pos hn (f := ar A) (fun i hi => by
      refine Classical.byContradiction fun x => c ⟨i, hi, by omega⟩)
    rw [ar_sum hw] at this
    omega
theorem oF_none (h : whB A = false) : oF A = none := by unfold oF; rw [h]; rfl
/-- all around a joint -/
theorem around (hw : WF A) {kn : Nat → Prop} (hc : ∀ h, h < 2 * fM A → kn (fc A (bk h)) → kn (fc A h)) {e : Nat} (he : e < 2 * fM A) (hk : kn (fc A e)) : ∀ g, g < 2 * fM A → fS A g = fS A e → kn (fc A g) := by
  have fs := fc_spec hw
  have step : ∀ e, e < 2 * fM A → kn (fc A e) → nx A (bk e) < 2 * fM A ∧ fS A (nx A (bk e)) = fS A e ∧ trn A (nx A (bk e)) = (trn A e + dg A (fS A e) - 1) % dg A (fS A e) ∧ kn (fc A (nx A (bk e))) := by
    intro e he hk
    have hb := bk_lt he
    have n := nx_spec hw hb
    rw [fE_bk, bk_bk] at n
    refine ⟨n.1, n.2.1, n.2.2, ?_⟩
    rw [fs.2.2.1 _ hb]
    exact hc _ hb (by rw [bk_bk]; exact hk)
  have down : ∀ t e, e < 2 * fM A → kn (fc A e) → trn A e = t → ∀ g, g < 2 * fM A → fS A g = fS A e → trn A g ≤ t → kn (fc A g) := by
    intro t
    induction t with
    | zero =>
      intro e he hk ht g hg hs hl
      have := trn_inj hw hg he hs (by omega)
      rw [this]; exact hk
    | succ t ih =>
      intro e he hk ht g hg hs hl
      by_cases x : trn A g = t + 1
      · have := trn_inj hw hg he hs (by omega)
        rw [this]; exact hk
      · obtain ⟨a1, a2, a3, a4⟩ := step e he hk
        have tl := trn_lt hw he
        rw [ht, show t + 1 + dg A (fS A e) - 1 = t + dg A (fS A e) by omega, Nat.add_mod_right, Nat.mod_eq_of_lt (by omega)] at a3
        exact ih _ a1 a4 a3 g hg (hs.trans a2.symm) (by omega)
  intro g hg hs
  have tl := trn_lt hw he
  -- the first of all, then the last
  obtain ⟨v1, v2, v3⟩ := hv_spec hw (j := fS A e) (t := 0) (by omega)
  have k0 := down _ e he hk rfl _ v1 v2 (by omega)
  obtain ⟨a1, a2, a3, a4⟩ := step _ v1 k0
  rw [v2] at a2 a3
  rw [v3, show 0 + dg A (fS A e) - 1 = dg A (fS A e) - 1 by omega, Nat.mod_eq_of_lt (by omega)] at a3
  have tg := trn_lt hw hg
  rw [hs] at tg
  exact down _ _ a1 a4 a3 g hg (hs.trans a2.symm) (by omega)
theorem dual (hw : WF A) (hwh : whB A = true) {kn : Nat → Prop} (hc : ∀ h, h < 2 * fM A → kn (fc A (bk h)) → kn (fc A h)) {h0 : Nat} (h0l : h0 < 2 * fM A) (hk : kn (fc A h0)) : ∀ h, h < 2 * fM A → kn (fc A h) := by
  have hB := hw.1
  -- a joint at which all is known
  have Qall : ∀ j, (∃ h, h < 2 * fM A ∧ fS A h = j ∧ kn (fc A h)) → ∀ g, g < 2 * fM A → fS A g = j → kn (fc A g) := fun j ⟨h, a, b, c⟩ g hg e => around hw hc a c g hg (e.trans b.symm)
  have go : ∀ h, h < 2 * fM A → (∃ g, g < 2 * fM A ∧ fS A g = fS A h ∧ kn (fc A g)) → ∃ g, g < 2 * fM A ∧ fS A g = fE A h ∧ kn (fc A g) := fun h hh q => by
    have := Qall _ q h hh rfl
    exact ⟨bk h, bk_lt hh, fS_bk A h, hc _ (bk_lt hh) (by rw [bk_bk]; exact this)⟩
  have q0 : ∃ g, g < 2 * fM A ∧ fS A g = 0 ∧ kn (fc A g) := by
    refine Classical.byContradiction fun n0 => ?_
    have := whole_all hB hwh (fun j => ¬ ∃ g, g < 2 * fM A ∧ fS A g = j ∧ kn (fc A g)) n0 (fun h hh n q => n (by
      have := go (bk h) (bk_lt hh) (by rw [fS_bk]; exact q)
      rw [fE_bk] at this
      exact this)) (fS A h0) (fS_lt hB h0l)
    exact this ⟨h0, h0l, rfl, hk⟩
  have qa := whole_all hB hwh (fun j => ∃ g, g < 2 * fM A ∧ fS A g = j ∧ kn (fc A g)) q0 (fun h hh q => go h hh q)
  intro h hh
  exact Qall _ (qa _ (fS_lt hB hh)) h hh rfl
/-- known faces, half bar by half bar -/
def lk (A : Fm) (kn : Nat → Bool) : Nat → (Nat → Bool)
  | 0 => kn
  | h + 1 => if lk A kn h (fc A (bk h)) = true ∧ lk A kn h (fc A h) = false then va_up (lk A kn h) (fc A h) true else lk A kn h
def kB (A : Fm) (o : Nat) : Nat → (Nat → Bool)
  | 0 => fun f => decide (f = o)
  | k + 1 => lk A (kB A o k) (2 * fM A)
theorem lk_s (A : Fm) (kn : Nat → Bool) (h : Nat) : lk A kn (h + 1) = if lk A kn h (fc A (bk h)) = true ∧ lk A kn h (fc A h) = false then va_up (lk A kn h) (fc A h) true else lk A kn h := rfl
theorem lk_up (A : Fm) (kn : Nat → Bool) {f : Nat} (hf : kn f = true) : ∀ h, lk A kn h f = true := by
  intro h
  induction h with
  | zero => exact hf
  | succ h ih =>
    rw [lk_s]
    split
    · by_cases e : f = fc A h
      · rw [e, va_up_self]
      · rw [va_up_ne _ _ e]; exact ih
    · exact ih
theorem lk_le (A : Fm) (kn : Nat → Bool) {f : Nat} : ∀ (n k : Nat), lk A kn n f = true → lk A kn (n + k) f = true := by
  intro n k
  induction k with
  | zero => exact fun h => h
  | succ k ih =>
    intro h
    have ih := ih h
    show lk A kn (n + k + 1) f = true
    rw [lk_s]
    split
    · by_cases e : f = fc A (n + k)
      · rw [e, va_up_self]
      · rw [va_up_ne _ _ e]; exact ih
    · exact ih
theorem lk_new (kn : Nat → Bool) {h : Nat} (hh : h < 2 * fM A) (h1 : kn (fc A (bk h)) = true) : lk A kn (2 * fM A) (fc A h) = true := by
  have : lk A kn (h + 1) (fc A h) = true := by
    rw [lk_s]
    have a := lk_up A kn h1 h
    by_cases c : lk A kn h (fc A h) = false
    · rw [if_pos ⟨a, c⟩, va_up_self]
    · rw [if_neg (fun x => c x.2)]; simpa using c
  have := lk_le A kn (h + 1) (2 * fM A - (h + 1)) this
  rw [show h + 1 + (2 * fM A - (h + 1)) = 2 * fM A by omega] at this
  exact this
theorem kB_up (A : Fm) (o : Nat) {f : Nat} : ∀ (n k : Nat), kB A o n f = true → kB A o (n + k) f = true := by
  intro n k
  induction k with
  | zero => exact fun h => h
  | succ k ih => exact fun h => lk_up A _ (ih h) _
theorem kB_all (hw : WF A) (hwh : whB A = true) {o : Nat} (ho : o < nF A) : ∀ f, f < nF A → kB A o (nF A) f = true := by
  have fs := fc_spec hw
  obtain ⟨g0, g1, g2, _⟩ := fs.2.2.2 o ho
  have k0 : kB A o 0 o = true := by show decide (o = o) = true; simp
  by_cases c : ∃ k, k ≤ nF A ∧ ∀ h, h < 2 * fM A → kB A o k (fc A (bk h)) = true → kB A o k (fc A h) = true
  · obtain ⟨k, k1, k2⟩ := c
    have hk : kB A o k o = true := by have := kB_up A o 0 k k0; rw [Nat.zero_add] at this; exact this
    have all := dual (kn := fun f => kB A o k f = true) hw hwh k2 g1 (by rw [g2]; exact hk)
    intro f hf
    obtain ⟨g, a1, a2, _⟩ := fs.2.2.2 f hf
    have := all g a1
    rw [a2] at this
    have := kB_up A o k (nF A - k) this
    rw [show k + (nF A - k) = nF A by omega] at this
    exact this
  · exfalso
    have key : ∀ k, k ≤ nF A → k + 1 ≤ cnt (kB A o k) (nF A) := by
      intro k
      induction k with
      | zero =>
        intro _
        rw [cnt_rm (p := kB A o 0) (k := o) ho k0]
        omega
      | succ k ih =>
        intro hk
        have ih := ih (by omega)
        obtain ⟨h, h1, h2, h3⟩ : ∃ h, h < 2 * fM A ∧ kB A o k (fc A (bk h)) = true ∧ kB A o k (fc A h) = false := by
          refine Classical.byContradiction fun x => c ⟨k, by omega, fun h hh e => ?_⟩
          cases y : kB A o k (fc A h) with
          | true => rfl
          | false => exact absurd ⟨h, hh, e, y⟩ x
        have := cnt_ss (p := kB A o k) (q := kB A o (k + 1)) (n := nF A) (k := fc A h) (fun i _ e => lk_up A _ e _) (fs.2.1 h h1) h3 (lk_new _ h1 h2)
        omega
    have := key (nF A) (Nat.le_refl _)
    have := cnt_le (p := kB A o (nF A)) (n := nF A)
    omega
end
