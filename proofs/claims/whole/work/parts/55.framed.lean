section
variable {z : Sto} {q : Nat} {A : Fm}
theorem mnI_nI {a b : Nat} (ha : a < 100) (hb : b < 100) : mnI (nI a) (nI b) = nI (min a b) := by
  unfold mnI
  by_cases h : b < a
  · rw [if_pos ((nI_ltI (by omega) (by omega)).mpr h), Nat.min_eq_right (by omega)]
  · rw [if_neg (fun e => h ((nI_ltI (by omega) (by omega)).mp e)), Nat.min_eq_left (by omega)]
theorem mxI_nI {a b : Nat} (ha : a < 100) (hb : b < 100) : mxI (nI a) (nI b) = nI (max a b) := by
  unfold mxI
  by_cases h : a < b
  · rw [if_pos ((nI_ltI (by omega) (by omega)).mpr h), Nat.max_eq_right (by omega)]
  · rw [if_neg (fun e => h ((nI_ltI (by omega) (by omega)).mp e)), Nat.max_eq_left (by omega)]
theorem c_putBar (hB : BF A) (hR : RepC z q A) (hm : fM A < 9) {a b : Nat} (ha : a < fN A) (hb : b < fN A) : ∃ z', f_X1_putBar q (nI a) (nI b) z = some (nI (fM A), z') ∧ RepC z' q (br A a b) ∧ Fr q z z' := by
  have h6 := hB.1
  have n0 : (upI z (q + 3) (fM A) (nI (min a b))).1 q 1 = nI (fM A) := by rw [upI_at, if_neg (by omega)]; exact hR.1.2.1
  have n1 : (upI (upI z (q + 3) (fM A) (nI (min a b))) (q + 4) (fM A) (nI (max a b))).1 q 1 = nI (fM A) := by rw [upI_at, if_neg (by omega)]; exact n0
  refine ⟨upI (upI (upI z (q + 3) (fM A) (nI (min a b))) (q + 4) (fM A) (nI (max a b))) q 1 (nI (fM A + 1)), ?_, ?_, ?_⟩
  · unfold f_X1_putBar
    rw [mnI_nI (by omega) (by omega), mxI_nI (by omega) (by omega), hR.1.2.1, wrI_nI hm (by omega), bd_some, n0, wrI_nI hm (by omega), bd_some, n1, lt_eq, nI_1, upI_at, if_pos ⟨rfl, rfl⟩, nI_pred]
  · refine ⟨⟨?_, ?_, ?_⟩, fun j hj => ?_, fun j hj => ?_, fun k hk => ?_, fun k hk => ?_, fun j hj => ?_⟩
    · rw [upI_at, if_neg (by omega), upI_at, if_neg (by omega), upI_at, if_neg (by omega)]; exact hR.1.1
    · rw [upI_at, if_pos ⟨rfl, rfl⟩]; rfl
    · rw [upI_at, if_neg (by omega), upI_at, if_neg (by omega), upI_at, if_neg (by omega)]; exact hR.1.2.2
    · rw [upI_at, if_neg (by omega), upI_at, if_neg (by omega), upI_at, if_neg (by omega)]; exact hR.2.1 j hj
    · rw [upI_at, if_neg (by omega), upI_at, if_neg (by omega), upI_at, if_neg (by omega)]; exact hR.2.2.1 j hj
    · have hk : k < fM A + 1 := hk
      rw [upI_at, if_neg (by omega), upI_at, if_neg (by omega), upI_at]
      show _ = nI (va_up (fA A) (fM A) (min a b) k)
      by_cases e : k = fM A
      · rw [if_pos ⟨rfl, e⟩, e, va_up_self]
      · rw [if_neg (by omega), va_up_ne _ _ e]; exact hR.2.2.2.1 k (by omega)
    · have hk : k < fM A + 1 := hk
      rw [upI_at, if_neg (by omega), upI_at]
      show _ = nI (va_up (fB A) (fM A) (max a b) k)
      by_cases e : k = fM A
      · rw [if_pos ⟨rfl, e⟩, e, va_up_self]
      · rw [if_neg (by omega), upI_at, if_neg (by omega), va_up_ne _ _ e]; exact hR.2.2.2.2.1 k (by omega)
    · rw [upI_at, if_neg (by omega), upI_at, if_neg (by omega), upI_at, if_neg (by omega)]; exact hR.2.2.2.2.2 j hj
  · exact ((Fr.rf.up (by omega)).up (by omega)).up (by omega)
theorem c_putWeight (hR : RepC z q A) {j : Nat} (hj : j < 9) (v : Int) : RepC (upI z (q + 5) j (iI v)) q (wt A j v) ∧ Fr q z (upI z (q + 5) j (iI v)) := by
  refine ⟨⟨⟨?_, ?_, ?_⟩, fun j hj => ?_, fun j hj => ?_, fun k hk => ?_, fun k hk => ?_, fun i hi => ?_⟩, Fr.rf.up (by omega)⟩
  · rw [upI_at, if_neg (by omega)]; exact hR.1.1
  · rw [upI_at, if_neg (by omega)]; exact hR.1.2.1
  · rw [upI_at, if_neg (by omega)]; exact hR.1.2.2
  · rw [upI_at, if_neg (by omega)]; exact hR.2.1 j hj
  · rw [upI_at, if_neg (by omega)]; exact hR.2.2.1 j hj
  · rw [upI_at, if_neg (by omega)]; exact hR.2.2.2.1 k hk
  · rw [upI_at, if_neg (by omega)]; exact hR.2.2.2.2.1 k hk
  · rw [upI_at]
    show _ = iI (va_up (fW A) j v i)
    by_cases e : i = j
    · rw [if_pos ⟨rfl, e⟩, e, va_up_self]
    · rw [if_neg (by omega), va_up_ne _ _ e]; exact hR.2.2.2.2.2 i hi
theorem c_putDraw (hR : RepC z q A) (v : Int) : RepC (upI z q 2 (iI v)) q (dr A v) ∧ Fr q z (upI z q 2 (iI v)) := by
  refine ⟨⟨⟨?_, ?_, ?_⟩, fun j hj => ?_, fun j hj => ?_, fun k hk => ?_, fun k hk => ?_, fun i hi => ?_⟩, Fr.rf.up (by omega)⟩
  · rw [upI_at, if_neg (by omega)]; exact hR.1.1
  · rw [upI_at, if_neg (by omega)]; exact hR.1.2.1
  · rw [upI_at, if_pos ⟨rfl, rfl⟩]; rfl
  · rw [upI_at, if_neg (by omega)]; exact hR.2.1 j hj
  · rw [upI_at, if_neg (by omega)]; exact hR.2.2.1 j hj
  · rw [upI_at, if_neg (by omega)]; exact hR.2.2.2.1 k hk
  · rw [upI_at, if_neg (by omega)]; exact hR.2.2.2.2.1 k hk
  · rw [upI_at, if_neg (by omega)]; exact hR.2.2.2.2.2 i hi
/-- out: those behind get numbers less -/
theorem c_takeOut (hB : BF A) (hR : RepC z q A) {k : Nat} (hk : k < fM A) : ∃ z', f_X1_takeOut q (nI k) z = some z' ∧ RepC z' q (ot A k) ∧ Fr q z z' := by
  have h9 := hB.2.1
  obtain ⟨m, hm⟩ : ∃ m, fM A = m + 1 := ⟨fM A - 1, by omega⟩
  -- the store when i bars behind have moved
  have st : ∀ (d i n : Nat) (y : Sto), i + d = m → k ≤ i → d < n → y.1 q 1 = nI m → Fr q z y → (y.1 q 0 = nI (fN A) ∧ y.1 q 2 = iI (fD A)) → (∀ j, j < fN A → y.1 (q + 1) j = iI (fX A j)) → (∀ j, j < fN A → y.1 (q + 2) j = iI (fY A j)) → (∀ j, j < 9 → y.1 (q + 5) j = iI (fW A j)) → (∀ l, l < i → y.1 (q + 3) l = nI (sk (fA A) k l) ∧ y.1 (q + 4) l = nI (sk (fB A) k l)) → (∀ l, i ≤ l → l < m + 1 → y.1 (q + 3) l = nI (fA A l) ∧ y.1 (q + 4) l = nI (fB A l)) → ∃ z', wl2 (b_X1_takeOut_12 q) n (nI i) y = some z' ∧ RepC z' q (ot A k) ∧ Fr q z z' := by
    intro d
    induction d with
    | zero =>
      intro i n y hi hki hn y1 hF y0 yx yy yw yl yr
      obtain ⟨n, rfl⟩ : ∃ t, n = t + 1 := ⟨n - 1, by omega⟩
      refine ⟨y, ?_, ⟨⟨y0.1, ?_, y0.2⟩, yx, yy, fun l hl => (yl l ?_).1, fun l hl => (yl l ?_).2, yw⟩, hF⟩
      · show b_X1_takeOut_12 q _ _ _ = _
        unfold b_X1_takeOut_12
        rw [y1, if_pos (nI_le (by omega) (by omega))]
      · rw [y1]; show nI m = nI (fM A - 1); rw [hm]; rfl
      · have : l < fM A - 1 := hl; omega
      · have : l < fM A - 1 := hl; omega
    | succ d ih =>
      intro i n y hi hki hn y1 hF y0 yx yy yw yl yr
      obtain ⟨n, rfl⟩ : ∃ t, n = t + 1 := ⟨n - 1, by omega⟩
      have r1 := yr (i + 1) (by omega) (by omega)
      have g : b_X1_takeOut_12 q (wl2 (b_X1_takeOut_12 q) n) (nI i) y = wl2 (b_X1_takeOut_12 q) n (nI (i + 1)) (upI (upI y (q + 3) i (nI (fA A (i + 1)))) (q + 4) i (nI (fB A (i + 1)))) := by
        unfold b_X1_takeOut_12
        rw [y1, if_neg (nI_ge (by omega) (by omega)), nI_1, rdI_nI (by omega) (by omega), bd_some, r1.1, wrI_nI (by omega) (by omega), bd_some, rdI_nI (by omega) (by omega), bd_some, upI_at, if_neg (by omega), r1.2, wrI_nI (by omega) (by omega), bd_some, lt_eq]
      obtain ⟨z', e1, e2, e3⟩ := ih (i + 1) n (upI (upI y (q + 3) i (nI (fA A (i + 1)))) (q + 4) i (nI (fB A (i + 1)))) (by omega) (by omega) (by omega)
        (by rw [upI_at, if_neg (by omega), upI_at, if_neg (by omega)]; exact y1)
        ((hF.up (by omega)).up (by omega))
        ⟨by rw [upI_at, if_neg (by omega), upI_at, if_neg (by omega)]; exact y0.1, by rw [upI_at, if_neg (by omega), upI_at, if_neg (by omega)]; exact y0.2⟩
        (fun j hj => by rw [upI_at, if_neg (by omega), upI_at, if_neg (by omega)]; exact yx j hj)
        (fun j hj => by rw [upI_at, if_neg (by omega), upI_at, if_neg (by omega)]; exact yy j hj)
        (fun j hj => by rw [upI_at, if_neg (by omega), upI_at, if_neg (by omega)]; exact yw j hj)
        (fun l hl => by
          by_cases e : l = i
          · subst e
            constructor
            · rw [upI_at, if_neg (by omega), upI_at, if_pos ⟨rfl, rfl⟩]; show _ = nI (if l < k then _ else _); rw [if_neg (by omega)]
            · rw [upI_at, if_pos ⟨rfl, rfl⟩]; show _ = nI (if l < k then _ else _); rw [if_neg (by omega)]
          · have := yl l (by omega)
            constructor
            · rw [upI_at, if_neg (by omega), upI_at, if_neg (by omega)]; exact this.1
            · rw [upI_at, if_neg (by omega), upI_at, if_neg (by omega)]; exact this.2)
        (fun l h1 h2 => by
          have := yr l (by omega) h2
          constructor
          · rw [upI_at, if_neg (by omega), upI_at, if_neg (by omega)]; exact this.1
          · rw [upI_at, if_neg (by omega), upI_at, if_neg (by omega)]; exact this.2)
      exact ⟨z', g.trans e1, e2, e3⟩
  unfold f_X1_takeOut
  rw [lt_eq, hR.1.2.1, hm, nI_pred]
  refine st (m - k) k fu (upI z q 1 (nI m)) (by omega) (Nat.le_refl _) (by show m - k < 4096; omega) (by rw [upI_at, if_pos ⟨rfl, rfl⟩]) (Fr.rf.up (by omega)) ⟨by rw [upI_at, if_neg (by omega)]; exact hR.1.1, by rw [upI_at, if_neg (by omega)]; exact hR.1.2.2⟩
    (fun j hj => by rw [upI_at, if_neg (by omega)]; exact hR.2.1 j hj) (fun j hj => by rw [upI_at, if_neg (by omega)]; exact hR.2.2.1 j hj) (fun j hj => by rw [upI_at, if_neg (by omega)]; exact hR.2.2.2.2.2 j hj)
    (fun l hl => ⟨by rw [upI_at, if_neg (by omega)]; show _ = nI (if l < k then _ else _); rw [if_pos hl]; exact hR.2.2.2.1 l (by omega), by rw [upI_at, if_neg (by omega)]; show _ = nI (if l < k then _ else _); rw [if_pos hl]; exact hR.2.2.2.2.1 l (by omega)⟩)
    (fun l h1 h2 => ⟨by rw [upI_at, if_neg (by omega)]; exact hR.2.2.2.1 l (by omega), by rw [upI_at, if_neg (by omega)]; exact hR.2.2.2.2.1 l (by omega)⟩)
theorem BF_ot (hB : BF A) {k : Nat} (hk : k < fM A) : BF (ot A k) := by
  refine ⟨hB.1, ?_, hB.2.2.1, fun l hl => ?_⟩
  · have := hB.2.1; show fM A - 1 ≤ 9; omega
  · have hl : l < fM A - 1 := hl
    show sk (fA A) k l < sk (fB A) k l ∧ sk (fB A) k l < fN A
    unfold sk
    split
    · exact hB.2.2.2 l (by omega)
    · exact hB.2.2.2 (l + 1) (by omega)
end
