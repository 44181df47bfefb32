def lead (s : BS) (k : Nat) : Bool := (rO s k).isNone
def nB (s : BS) (l k : Nat) : Int := match rO s k with
  | some r => - s.1 r l
  | none => if k = l then s.2.1 else 0
def ldr (q : Nat → Bool) : Nat → Nat → Nat
  | 0, _ => 0
  | n + 1, j => if q n = true ∧ cnt q n = j then n else ldr q n j
theorem cnt_mono {q : Nat → Bool} {a b : Nat} (h : a ≤ b) : cnt q a ≤ cnt q b := by
  induction b with
  | zero => obtain rfl : a = 0 := by omega
            exact Nat.le_refl _
  | succ b ih =>
    by_cases e : a = b + 1
    · subst e; exact Nat.le_refl _
    · have := ih (by omega)
      cases hq : q b with
      | true => rw [cnt_t hq]; omega
      | false => rw [cnt_f hq]; exact this
theorem cnt_lt {q : Nat → Bool} {a b : Nat} (h : a < b) (hq : q a = true) : cnt q a < cnt q b := by
  have := cnt_mono (q := q) (show a + 1 ≤ b by omega)
  rw [cnt_t hq] at this
  omega
theorem cnt_inj {q : Nat → Bool} {a b : Nat} (ha : q a = true) (hb : q b = true) (h : cnt q a = cnt q b) : a = b := by
  rcases Nat.lt_trichotomy a b with c | c | c
  · have := cnt_lt c ha; omega
  · exact c
  · have := cnt_lt c hb; omega
theorem ldr_spec {q : Nat → Bool} {m j : Nat} (h : j < cnt q m) : ldr q m j < m ∧ q (ldr q m j) = true ∧ cnt q (ldr q m j) = j := by
  induction m with
  | zero => exact absurd h (Nat.not_lt_zero _)
  | succ m ih =>
    show (if q m = true ∧ cnt q m = j then m else ldr q m j) < m + 1 ∧ q (if q m = true ∧ cnt q m = j then m else ldr q m j) = true ∧ cnt q (if q m = true ∧ cnt q m = j then m else ldr q m j) = j
    by_cases c : q m = true ∧ cnt q m = j
    · rw [if_pos c]; exact ⟨by omega, c.1, c.2⟩
    · rw [if_neg c]
      have : j < cnt q m := by
        cases hq : q m with
        | true => rw [cnt_t hq] at h; have : cnt q m ≠ j := fun e => c ⟨hq, e⟩; omega
        | false => rw [cnt_f hq] at h; exact h
      have := ih this
      exact ⟨by omega, this.2⟩
theorem ldr_eq {q : Nat → Bool} {m l : Nat} (hl : l < m) (hq : q l = true) : ldr q m (cnt q l) = l := by
  have := ldr_spec (q := q) (m := m) (cnt_lt hl hq)
  exact cnt_inj this.2.1 hq this.2.2
def nS (A : Fm) : Nat := cnt (lead (bS A all1)) (fM A)
def nU (A : Fm) (j k : Nat) : Int := nB (bS A all1) (ldr (lead (bS A all1)) (fM A) j) k
def pU (A : Fm) (k : Nat) : Int := sm (nS A) (fun j => fW A j * nU A j k)
theorem upL_upI {z : Sto} {c k c' k' : Nat} {x : Int32} {y : Int64} : upL (upI z c k x) c' k' y = upI (upL z c' k' y) c k x := by
  have h : upI (upL z c' k' y) c k x = upL (upI z c k x) c' k' y := rfl
  exact h.symm
theorem upI_upI {z : Sto} {c k : Nat} {x y : Int32} : upI (upI z c k x) c k y = upI z c k y := by
  rw [upI_eq (z := z), upI_st, upI_eq]
  congr 1
  funext j
  rw [upd_at, upd_at, upd_at]
  split <;> rfl
theorem oI_ge {o : Option Nat} (h : ∀ r, o = some r → r < 12) : (nI 0 ≤ oI o) ↔ o.isNone = false := by
  cases o with
  | none => exact ⟨fun h => absurd h (by decide), fun h => by cases h⟩
  | some r => exact ⟨fun _ => rfl, fun _ => nI_pos' (by have := h r rfl; omega)⟩
section
variable {A : Fm} {q : Nat → Bool} {z : Sto} {n m : Nat} {s : BS}
theorem rO_lt (hp : s.2.2.1 ≤ 9) {k r : Nat} (h : rO s k = some r) : r < 12 := by have := (ro_lt h).1; omega
theorem c_isLeading (hp : s.2.2.1 ≤ 9) {l : Nat} (hl : l < 9) (h : z.1 99 l = oI (rO s l)) : f_X4_isLeading (nI l) z = some (b2i (lead s l)) := by
  unfold f_X4_isLeading
  have g := oI_ge (o := rO s l) (fun r hr => rO_lt hp hr)
  simp (disch := omega) only [bds, bds2, lts, lit, nI_add, pk_mul, nI_leI, nI_ltI, nI_eq, rdI_nI, rdL_nI, wrI_nI, wrL_nI, rdR_nI, if_pos, if_neg, and_true, true_and, and_false, false_and, reduceIte, h]
  unfold lead
  cases c : (rO s l).isNone with
  | true => rw [if_neg (fun e => by rw [g.mp e] at c; cases c)]; rfl
  | false => rw [if_pos (g.mpr c)]; rfl
theorem c_numberBeside (hp : s.2.2.1 ≤ 9) {l k : Nat} (hl : l < 9) (hk : k < 9) (h : z.1 99 k = oI (rO s k)) (hg : RG (z.2 98) s.1) (hd : z.2 95 3 = iL s.2.1) : f_X4_numberBeside (nI l) (nI k) z = some (iL (nB s l k)) := by
  unfold f_X4_numberBeside nB
  rw [c_isLeading hp hk h, bds]
  unfold lead
  cases c : rO s k with
  | none =>
    have : ¬ b2i (none : Option Nat).isNone = 0 := by decide
    rw [if_neg this, hd]
    by_cases e : k = l
    · rw [if_pos (by rw [e]), if_pos e]
    · rw [if_neg (fun h => e ((nI_eq (by omega) (by omega)).mp h)), if_neg e]; rfl
  | some r =>
    have hr := rO_lt hp c
    have : b2i (some r).isNone = 0 := rfl
    have v := hg r hr l hl
    rw [show 9 * r + l = r * 9 + l by omega] at v
    rw [c] at h
    have h : z.1 99 k = nI r := h
    rw [if_pos this]
    simp (disch := omega) only [bds, bds2, lts, lit, nI_add, pk_mul, nI_leI, nI_ltI, nI_eq, rdI_nI, rdL_nI, wrI_nI, wrL_nI, rdR_nI, if_pos, if_neg, and_true, true_and, and_false, false_and, reduceIte, h, v, iL_neg]
theorem c_listStresses (hm : m ≤ 9) (hp : s.2.2.1 ≤ 9) (h1 : z.1 95 1 = nI m) (hd : z.2 95 3 = iL s.2.1) (hg : RG (z.2 98) s.1) (h99 : ∀ k, k < m → z.1 99 k = oI (rO s k)) : ∃ g, f_X4_listStresses z = some (upI (stL z 96 g) 95 0 (nI (cnt (lead s) m))) ∧ ∀ l, l < m → lead s l = true → ∀ k, k < m → g (9 * cnt (lead s) l + k) = iL (nB s l k) := by
  have cl : ∀ l, l ≤ m → cnt (lead s) l ≤ l := fun l _ => cnt_le
  have L1 : ∀ g v l, l < m → f_X4_isLeading (nI l) (upI (stL z 96 g) 95 0 v) = some (b2i (lead s l)) := fun g v l hl => c_isLeading hp (by omega) (by rw [upI_ne (by decide)]; exact h99 l hl)
  have L2 : ∀ g v l k, l < m → k < m → f_X4_numberBeside (nI l) (nI k) (upI (stL z 96 g) 95 0 v) = some (iL (nB s l k)) := fun g v l k hl hk => c_numberBeside hp (by omega) (by omega) (by rw [upI_ne (by decide)]; exact h99 k hk) (by show RG ((stL z 96 g).2 98) s.1; rw [stL_ne (by decide)]; exact hg) (by show (stL z 96 g).2 95 3 = _; rw [stL_ne (by decide)]; exact hd)
  have main : ∃ g, wl2 b_X4_listStresses_7 fu (nI 0) (upI (stL z 96 (z.2 96)) 95 0 (nI 0)) = some (upI (stL z 96 g) 95 0 (nI (cnt (lead s) m))) ∧ ∀ l, l < m → lead s l = true → ∀ k, k < m → g (9 * cnt (lead s) l + k) = iL (nB s l k) := by
    refine wl2_ind (Q := fun o => ∃ g, o = some (upI (stL z 96 g) 95 0 (nI (cnt (lead s) m))) ∧ ∀ l, l < m → lead s l = true → ∀ k, k < m → g (9 * cnt (lead s) l + k) = iL (nB s l k)) (fun l x y => x = nI l ∧ ∃ g, y = upI (stL z 96 g) 95 0 (nI (cnt (lead s) l)) ∧ ∀ i, i < l → lead s i = true → ∀ k, k < m → g (9 * cnt (lead s) i + k) = iL (nB s i k)) m ?_ ?_ (by omega) ⟨rfl, z.2 96, rfl, fun i hi => by omega⟩
    · rintro l hl _ _ ⟨rfl, g, rfl, hgl⟩ ag
      have cc := cl l (by omega)
      refine Or.inl ?_
      cases hq : lead s l with
      | false =>
        refine ⟨nI (l + 1), upI (stL z 96 g) 95 0 (nI (cnt (lead s) (l + 1))), ⟨rfl, g, rfl, fun i hi hqi k hk => ?_⟩, ?_⟩
        · exact hgl i (by have : i ≠ l := fun e => by rw [e, hq] at hqi; cases hqi
                          omega) hqi k hk
        · rw [cnt_f hq]
          unfold b_X4_listStresses_7
          have := L1 g (nI (cnt (lead s) l)) l hl
          rw [hq] at this
          simp (disch := omega) only [bds, bds2, lts, lit, nI_add, pk_mul, nI_leI, nI_ltI, nI_eq, rdI_nI, rdL_nI, wrI_nI, wrL_nI, rdR_nI, if_pos, if_neg, and_true, true_and, and_false, false_and, reduceIte, upI_at, stL_I, h1, this, b2i_f]
      | true =>
        have e : b_X4_listStresses_7 ag (nI l) (upI (stL z 96 g) 95 0 (nI (cnt (lead s) l))) = wl3 (b_X4_listStresses_25 ag) fu (nI l) (nI 0) (upI (stL z 96 g) 95 0 (nI (cnt (lead s) l))) := by
          unfold b_X4_listStresses_7
          have := L1 g (nI (cnt (lead s) l)) l hl
          rw [hq] at this
          simp (disch := omega) only [bds, bds2, lts, lit, nI_add, pk_mul, nI_leI, nI_ltI, nI_eq, rdI_nI, rdL_nI, wrI_nI, wrL_nI, rdR_nI, if_pos, if_neg, and_true, true_and, and_false, false_and, reduceIte, upI_at, stL_I, h1, this, b2i_t]
        rw [e]
        refine wl3_inv (Q := fun o => ∃ b0 b1, (b0 = nI (l + 1) ∧ ∃ g, b1 = upI (stL z 96 g) 95 0 (nI (cnt (lead s) (l + 1))) ∧ ∀ i, i < l + 1 → lead s i = true → ∀ k, k < m → g (9 * cnt (lead s) i + k) = iL (nB s i k)) ∧ o = ag b0 b1) (fun k x y u => x = nI l ∧ y = nI k ∧ ∃ g, u = upI (stL z 96 g) 95 0 (nI (cnt (lead s) l)) ∧ (∀ i, i < l → lead s i = true → ∀ k, k < m → g (9 * cnt (lead s) i + k) = iL (nB s i k)) ∧ ∀ t, t < k → g (9 * cnt (lead s) l + t) = iL (nB s l t)) m ?_ ?_ (by omega) ⟨rfl, rfl, g, rfl, hgl, fun t ht => by omega⟩
        · rintro k hk _ _ _ ⟨rfl, rfl, g, rfl, ha, hb⟩
          refine Or.inl ⟨nI l, nI (k + 1), upI (stL z 96 (vp_updL g (cnt (lead s) l * 9 + k) (iL (nB s l k)))) 95 0 (nI (cnt (lead s) l)), ⟨rfl, rfl, _, rfl, fun i hi hqi t ht => ?_, fun t ht => ?_⟩, fun ag2 => ?_⟩
          · have := cnt_lt hi hqi
            rw [updL_at, if_neg (by omega)]; exact ha i hi hqi t ht
          · rw [updL_at]
            by_cases c : t = k
            · rw [if_pos (by omega), c]
            · rw [if_neg (by omega)]; exact hb t (by omega)
          · unfold b_X4_listStresses_25
            have := L2 g (nI (cnt (lead s) l)) l k hl hk
            simp (disch := omega) only [bds, bds2, lts, lit, nI_add, pk_mul, nI_leI, nI_ltI, nI_eq, rdI_nI, rdL_nI, wrI_nI, wrL_nI, rdR_nI, if_pos, if_neg, and_true, true_and, and_false, false_and, reduceIte, upI_at, stL_I, h1, this, upL_upI, upL_st]
        · rintro _ _ _ ⟨rfl, rfl, g, rfl, ha, hb⟩ ag2
          refine ⟨nI (l + 1), upI (stL z 96 g) 95 0 (nI (cnt (lead s) (l + 1))), ⟨rfl, g, rfl, fun i hi hqi t ht => ?_⟩, ?_⟩
          · by_cases c : i = l
            · subst c; exact hb t ht
            · exact ha i (by omega) hqi t ht
          · rw [cnt_t hq]
            unfold b_X4_listStresses_25
            simp (disch := omega) only [bds, bds2, lts, lit, nI_add, pk_mul, nI_leI, nI_ltI, nI_eq, rdI_nI, rdL_nI, wrI_nI, wrL_nI, rdR_nI, if_pos, if_neg, and_true, true_and, and_false, false_and, reduceIte, upI_at, stL_I, h1, upI_upI]
    · rintro _ _ ⟨rfl, g, rfl, hgl⟩ ag
      refine ⟨g, ?_, hgl⟩
      unfold b_X4_listStresses_7
      simp (disch := omega) only [bds, bds2, lts, lit, nI_add, pk_mul, nI_leI, nI_ltI, nI_eq, rdI_nI, rdL_nI, wrI_nI, wrL_nI, rdR_nI, if_pos, if_neg, and_true, true_and, and_false, false_and, reduceIte, upI_at, stL_I, h1]
  rw [stL_self] at main
  obtain ⟨g, p1, p2⟩ := main
  refine ⟨g, ?_, p2⟩
  unfold f_X4_listStresses
  rw [lts]
  exact p1
end
