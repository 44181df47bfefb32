theorem iIL {v : Int} (h1 : -100000 ≤ v) (h2 : v ≤ 100000) : (iI v).toInt64 = iL v := iI_long (small32 h1 h2)
def ind (t i : Nat) : Int := if i = t then 1 else 0
theorem ind_s (t : Nat) : ind t t = 1 := if_pos rfl
theorem ind_n {t i : Nat} (h : i ≠ t) : ind t i = 0 := if_neg h
def dX (A : Fm) (k : Nat) : Int := fX A (fB A k) - fX A (fA A k)
def dY (A : Fm) (k : Nat) : Int := fY A (fB A k) - fY A (fA A k)
/-- the grid while it is laid, half bar by half bar -/
def pv (A : Fm) (q : Nat → Bool) (h i j : Nat) : Int := if q j = true then (if 2 * j < h then dX A j * ind (2 * fA A j) i + dY A j * ind (2 * fA A j + 1) i else 0) - (if 2 * j + 1 < h then dX A j * ind (2 * fB A j) i + dY A j * ind (2 * fB A j + 1) i else 0) else 0
section
variable {A : Fm} {q : Nat → Bool} {z : Sto}
theorem pv_0 (i j : Nat) : pv A q 0 i j = 0 := by
  unfold pv
  rw [if_neg (show ¬ 2 * j < 0 by omega), if_neg (show ¬ 2 * j + 1 < 0 by omega)]
  split <;> rfl
theorem pv_end (i j : Nat) : pv A q (2 * fM A) i j = mA A q i j := by
  unfold pv mA
  by_cases h : j < fM A
  · rw [if_pos (show 2 * j < 2 * fM A by omega), if_pos (show 2 * j + 1 < 2 * fM A by omega)]
    by_cases hq : q j = true
    · rw [if_pos hq, if_pos ⟨h, hq⟩]
      unfold tv ind dX dY
      grind
    · rw [if_neg hq, if_neg (fun c => hq c.2)]
  · rw [if_neg (show ¬ 2 * j < 2 * fM A by omega), if_neg (show ¬ 2 * j + 1 < 2 * fM A by omega), if_neg (show ¬ (j < fM A ∧ q j = true) from fun c => h c.1)]
    split <;> rfl
theorem sX_e (A : Fm) (k : Nat) : sX A (2 * k) = dX A k ∧ sX A (2 * k + 1) = - dX A k ∧ sY A (2 * k) = dY A k ∧ sY A (2 * k + 1) = - dY A k := by
  unfold sX sY dX dY
  rw [eS2, eE2, eS21, eE21]
  omega
theorem step_le (hB : BF A) {h : Nat} (hh : h < 2 * fM A) : (-5 ≤ sX A h ∧ sX A h ≤ 5) ∧ -5 ≤ sY A h ∧ sY A h ≤ 5 := by
  have x1 := hB.2.2.1 _ (fS_lt hB hh)
  have x2 := hB.2.2.1 _ (fE_lt hB hh)
  unfold sX sY
  omega
theorem pv_s (hB : BF A) {h : Nat} (hh : h < 2 * fM A) (hq : q (h / 2) = true) (i j : Nat) : pv A q (h + 1) i j = if j = h / 2 ∧ i = 2 * fS A h then sX A h else if j = h / 2 ∧ i = 2 * fS A h + 1 then sY A h else pv A q h i j := by
  have hk := hB.2.2.2 (h / 2) (by omega)
  by_cases c : j = h / 2
  · subst c
    obtain ⟨e1, e2, e3, e4⟩ := sX_e A (h / 2)
    unfold pv
    rw [if_pos hq, if_pos hq]
    by_cases c2 : h % 2 = 0
    · have eh : h = 2 * (h / 2) := by omega
      generalize h / 2 = k at *
      subst eh
      rw [e1, e3, eS2, if_pos (show 2 * k < 2 * k + 1 by omega), if_neg (show ¬ 2 * k + 1 < 2 * k + 1 by omega), if_neg (show ¬ 2 * k < 2 * k by omega), if_neg (show ¬ 2 * k + 1 < 2 * k by omega)]
      unfold ind
      grind
    · have eh : h = 2 * (h / 2) + 1 := by omega
      generalize h / 2 = k at *
      subst eh
      rw [e2, e4, eS21, if_pos (show 2 * k < 2 * k + 1 + 1 by omega), if_pos (show 2 * k + 1 < 2 * k + 1 + 1 by omega), if_pos (show 2 * k < 2 * k + 1 by omega), if_neg (show ¬ 2 * k + 1 < 2 * k + 1 by omega)]
      unfold ind
      grind
  · rw [if_neg (fun e => c e.1), if_neg (fun e => c e.1)]
    unfold pv
    have t1 : (2 * j < h + 1) = (2 * j < h) := propext ⟨fun _ => by omega, fun _ => by omega⟩
    have t2 : (2 * j + 1 < h + 1) = (2 * j + 1 < h) := propext ⟨fun _ => by omega, fun _ => by omega⟩
    simp only [t1, t2]
theorem pv_f (hB : BF A) {h : Nat} (hh : h < 2 * fM A) (hq : q (h / 2) = false) (i j : Nat) : pv A q (h + 1) i j = pv A q h i j := by
  unfold pv
  by_cases c : j = h / 2
  · subst c; rw [hq]; rfl
  · have t1 : (2 * j < h + 1) = (2 * j < h) := propext ⟨fun _ => by omega, fun _ => by omega⟩
    have t2 : (2 * j + 1 < h + 1) = (2 * j + 1 < h) := propext ⟨fun _ => by omega, fun _ => by omega⟩
    simp only [t1, t2]
theorem c_fill {c n : Nat} (hn : n ≤ 300) (x : Int64) : ∃ f, f_J7_fill_d0a16 c n x z = some (stL z c f) ∧ ∀ i, i < n → f i = x := by
  have main : ∃ f, wl4 (b_J7_fill_d0a16_6 c n) fu x (nI 0) (nI n) z = some (stL z c f) ∧ ∀ i, i < n → f i = x := by
    refine wl4_inv (Q := fun o => ∃ f, o = some (stL z c f) ∧ ∀ i, i < n → f i = x) (fun k a b d y => a = x ∧ b = nI k ∧ d = nI n ∧ ∃ f, y = stL z c f ∧ ∀ i, i < k → f i = x) n ?_ ?_ (by omega) ⟨rfl, rfl, rfl, z.2 c, stL_self.symm, fun i hi => by omega⟩
    · rintro k hk a _ _ _ ⟨rfl, rfl, rfl, f, rfl, hf⟩
      refine Or.inl ⟨a, nI (k + 1), nI n, stL z c (vp_updL f k a), ⟨rfl, rfl, rfl, _, rfl, fun i hi => ?_⟩, fun ag => ?_⟩
      · rw [updL_at]
        by_cases e : i = k
        · rw [if_pos e]
        · rw [if_neg e]; exact hf i (by omega)
      · unfold b_J7_fill_d0a16_6
        simp (disch := omega) only [bds, bds2, lts, lit, nI_add, pk_mul, nI_leI, nI_ltI, nI_eq, rdI_nI, rdL_nI, wrI_nI, wrL_nI, rdR_nI, if_pos, if_neg, and_true, true_and, and_false, false_and, reduceIte, upL_st]
    · rintro a _ _ _ ⟨rfl, rfl, rfl, f, rfl, hf⟩ ag
      refine ⟨f, ?_, hf⟩
      unfold b_J7_fill_d0a16_6
      simp (disch := omega) only [bds, bds2, lts, lit, nI_add, pk_mul, nI_leI, nI_ltI, nI_eq, rdI_nI, rdL_nI, wrI_nI, wrL_nI, rdR_nI, if_pos, if_neg, and_true, true_and, and_false, false_and, reduceIte]
  obtain ⟨f, h1, h2⟩ := main
  refine ⟨f, ?_, h2⟩
  unfold f_J7_fill_d0a16
  simp (disch := omega) only [bds, bds2, lts, lit, nI_add, pk_mul, nI_leI, nI_ltI, nI_eq, rdI_nI, rdL_nI, wrI_nI, wrL_nI, rdR_nI, if_pos, if_neg, and_true, true_and, and_false, false_and, reduceIte]
  exact h1
theorem c_fillGrid (hB : BF A) (hR : RepC z 1 A) (hm : z.1 95 1 = nI (fM A)) : ∃ f, f_X4_fillGrid z = some (stL z 98 f) ∧ RG f (mA A all1) := by
  have h9 := hB.2.1
  have h6 := hB.1
  obtain ⟨f0, p1, p2⟩ := c_fill (z := z) (c := 98) (n := 108) (by omega) 0
  have main : ∃ f, wl2 b_X4_fillGrid_10 fu (nI 0) (stL z 98 f0) = some (stL z 98 f) ∧ RG f (mA A all1) := by
    refine wl2_inv (Q := fun o => ∃ f, o = some (stL z 98 f) ∧ RG f (mA A all1)) (fun h x y => x = nI h ∧ ∃ f, y = stL z 98 f ∧ RG f (pv A all1 h)) (2 * fM A) ?_ ?_ (by omega) ⟨rfl, f0, rfl, fun i hi j hj => by rw [p2 _ (by omega), pv_0, lL0]⟩
    · rintro h hh _ _ ⟨rfl, f, rfl, hf⟩
      have sl := fS_lt hB hh
      have st := step_le hB hh
      have s1 : ∀ f, f_X1_startOf 1 (nI h) (stL z 98 f) = some (nI (fS A h)) := fun f => c_startOf (z := stL z 98 f) hB hR hh
      have s2 : ∀ f, f_X1_stepX 1 (nI h) (stL z 98 f) = some (iI (sX A h)) := fun f => c_stepX (z := stL z 98 f) hB hR hh
      have s3 : ∀ f, f_X1_stepY 1 (nI h) (stL z 98 f) = some (iI (sY A h)) := fun f => c_stepY (z := stL z 98 f) hB hR hh
      refine Or.inl ⟨nI (h + 1), stL z 98 (vp_updL (vp_updL f (2 * fS A h * 9 + h / 2) (iL (sX A h))) ((2 * fS A h + 1) * 9 + h / 2) (iL (sY A h))), ⟨rfl, _, rfl, fun i hi j hj => ?_⟩, fun ag => ?_⟩
      · rw [updL_at, updL_at, pv_s hB hh rfl]
        by_cases c1 : j = h / 2 ∧ i = 2 * fS A h
        · rw [if_pos c1, if_neg (by omega), if_pos (by omega)]
        · rw [if_neg c1]
          by_cases c2 : j = h / 2 ∧ i = 2 * fS A h + 1
          · rw [if_pos c2, if_pos (by omega)]
          · rw [if_neg c2, if_neg (by omega), if_neg (by omega)]; exact hf i hi j hj
      · unfold b_X4_fillGrid_10
        simp (disch := omega) only [bds, bds2, lts, lit, nI_add, pk_mul, nI_leI, nI_ltI, nI_eq, rdI_nI, rdL_nI, wrI_nI, wrL_nI, rdR_nI, if_pos, if_neg, and_true, true_and, and_false, false_and, reduceIte, stL_I, hm, s1, s2, s3, upL_st, pk_div, iIL]
    · rintro _ _ ⟨rfl, f, rfl, hf⟩ ag
      refine ⟨f, ?_, fun i hi j hj => by rw [hf i hi j hj, pv_end]⟩
      unfold b_X4_fillGrid_10
      simp (disch := omega) only [bds, bds2, lts, lit, nI_add, pk_mul, nI_leI, nI_ltI, nI_eq, rdI_nI, rdL_nI, wrI_nI, wrL_nI, rdR_nI, if_pos, if_neg, and_true, true_and, and_false, false_and, reduceIte, stL_I, hm]
  obtain ⟨f, q1, q2⟩ := main
  refine ⟨f, ?_, q2⟩
  unfold f_X4_fillGrid
  rw [p1, bds]
  exact q1
end
