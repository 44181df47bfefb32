section
variable {z : Sto} {A : Fm}
theorem m_adds (hB : BF A) (hR : RowM (z.1 123) A) {a b : Nat} (ha : a < fN A) (hb : b < fN A) (hab : a ≠ b) : (rfB A a b ≠ 0 → f_X7_adds (nI a) (nI b) z = some (rfB A a b, z)) ∧ (rfB A a b = 0 → ∃ g, f_X7_adds (nI a) (nI b) z = some (nI (fM A), stI z 123 g) ∧ RowM g (br A a b)) := by
  have h6 := hB.1
  have h9 := hB.2.1
  obtain ⟨r, r1, r2⟩ := m_findBar hB hR ha hb
  obtain ⟨P1, hP1⟩ : ∃ P : Nat → Bool, P = ex (fun j => onP A a b (fX A j) (fY A j)) := ⟨_, rfl⟩
  obtain ⟨P2, hP2⟩ : ∃ P : Nat → Bool, P = ex (fun k => crB A a b (fA A k) (fB A k)) := ⟨_, rfl⟩
  obtain ⟨g, hg⟩ : ∃ g, g = upd (upd (upd (z.1 123) (15 + 2 * fM A) (nI (min a b))) (15 + 2 * fM A + 1) (nI (max a b))) 1 (nI (fM A + 1)) := ⟨_, rfl⟩
  have last : ∀ v : Bool, ∀ ag, b_X7_adds_91 ag (nI a) (nI b) (nI (fM A)) (b2i v) (nI (fM A)) z = if v then (if 9 ≤ fM A then some (-3, z) else some (nI (fM A), stI z 123 g)) else some (-2, z) := by
    intro v ag
    unfold b_X7_adds_91
    rw [if_pos (nI_le (Nat.le_refl _) (by omega))]
    cases v with
    | false => rfl
    | true =>
      rw [b2i_t, if_neg (by decide), if_pos rfl]
      by_cases c : 9 ≤ fM A
      · rw [if_pos (show nI (fM A) = 9 by rw [show fM A = 9 by omega]; rfl), if_pos c]
      · rw [if_neg (show ¬ nI (fM A) = 9 from fun h => c (by have := (nI_eq (b := 9) (by omega) (by omega)).mp h; omega)), if_neg c]
        have hm : ∀ (lo hi : Nat), lo = min a b → hi = max a b → bd (wrI z 123 42 (nI (15 + 2 * fM A)) (nI lo)) (fun z29 => j_X7_adds_200 (nI (fM A)) (nI hi) (nI (15 + 2 * fM A + 1)) z29) = some (nI (fM A), stI z 123 g) := by
          intro lo hi h1 h2
          rw [wrI_nI (by omega) (by omega), bd_some, upI_eq]
          unfold j_X7_adds_200
          rw [wrM (by omega), bd_some, show (1 : Int32) = nI 1 from rfl, rdM (by omega), bd_some, upd_at, if_neg (by omega), upd_at, if_neg (by omega), hR.1.2.1, nI_add, wrM (by omega), bd_some, hg, h1, h2]
        by_cases c2 : b ≤ a
        · rw [if_pos (nI_le c2 (by omega))]
          unfold j_X7_adds_177
          simp (disch := omega) only [e15, e2, pk_mul, nI_add, nI_1, nI_leI, if_pos c2]
          exact hm b a (by omega) (by omega)
        · rw [if_neg (nI_ge (by omega) (by omega))]
          unfold j_X7_adds_177
          simp (disch := omega) only [e15, e2, pk_mul, nI_add, nI_1, nI_leI, if_neg c2]
          exact hm a b (by omega) (by omega)
  have s2 : ∀ v : Bool, wl6 b_X7_adds_91 fu (nI a) (nI b) (nI (fM A)) (b2i v) 0 z = if v && !P2 (fM A) then (if 9 ≤ fM A then some (-3, z) else some (nI (fM A), stI z 123 g)) else some (-2, z) := by
    intro v
    have := wl6_go (body := b_X7_adds_91) (fun _ => nI a) (fun _ => nI b) (fun _ => nI (fM A)) (fun k => b2i (v && !P2 k)) (fun k => nI k) (fun _ => z) (fM A) (if v && !P2 (fM A) then (if 9 ≤ fM A then some (-3, z) else some (nI (fM A), stI z 123 g)) else some (-2, z)) ?_ ?_ (by omega)
    · rw [show P2 0 = false by rw [hP2]; rfl, Bool.not_false, Bool.and_true] at this; exact this
    · intro k hk ag
      have hk2 := hB.2.2.2 k hk
      unfold b_X7_adds_91
      rw [if_neg (nI_ge hk (by omega)), e2, pk_mul, m_from hB hR (by omega), m_to hB hR (by omega), eS2, eE2]
      simp only [bd_some, lt_eq, nI_1]
      rw [m_doCross hB hR ha hb (by omega) hk2.2, bd_some, hP2]
      simp only [ex]
      cases v <;> cases ex (fun k => crB A a b (fA A k) (fB A k)) k <;> cases crB A a b (fA A k) (fB A k) <;> rfl
    · intro ag
      exact last _ ag
  have s1 : wl6 b_X7_adds_48 fu (nI a) (nI b) (nI (fM A)) 1 0 z = if (!P1 (fN A)) && !P2 (fM A) then (if 9 ≤ fM A then some (-3, z) else some (nI (fM A), stI z 123 g)) else some (-2, z) := by
    have := wl6_go (body := b_X7_adds_48) (fun _ => nI a) (fun _ => nI b) (fun _ => nI (fM A)) (fun k => b2i (!P1 k)) (fun k => nI k) (fun _ => z) (fN A) (if (!P1 (fN A)) && !P2 (fM A) then (if 9 ≤ fM A then some (-3, z) else some (nI (fM A), stI z 123 g)) else some (-2, z)) ?_ ?_ (by omega)
    · rw [show P1 0 = false by rw [hP1]; rfl] at this; exact this
    · intro k hk ag
      unfold b_X7_adds_48
      rw [m_rd0, bd_some, hR.1.1, if_neg (nI_ge hk (by omega)), m_isOver hB hR ha hb hk]
      simp only [bd_some, lt_eq, nI_1]
      rw [hP1]
      simp only [ex]
      cases ex (fun j => onP A a b (fX A j) (fY A j)) k <;> cases onP A a b (fX A k) (fY A k) <;> rfl
    · intro ag
      unfold b_X7_adds_48
      rw [m_rd0, bd_some, hR.1.1, if_pos (nI_le (Nat.le_refl _) (by omega)), s2]
  have eb : blk A a b = (P1 (fN A) || P2 (fM A)) := by rw [hP1, hP2]; rfl
  have main : f_X7_adds (nI a) (nI b) z = if isb A a b || blk A a b then some (-2, z) else if 9 ≤ fM A then some (-3, z) else some (nI (fM A), stI z 123 g) := by
    unfold f_X7_adds
    rw [m_isJoint hB hR ha, m_isJoint hB hR hb, r1]
    simp only [bd_some]
    rw [if_neg (by decide), if_neg (by decide), if_neg (fun h => hab ((nI_eq (by omega) (by omega)).mp h)), m_rd1, bd_some, hR.1.2.1]
    cases ht : isb A a b with
    | true => rw [if_neg (fun h => by rw [r2.mp h] at ht; cases ht)]; rfl
    | false =>
      rw [if_pos (r2.mpr ht), s1, eb]
      cases P1 (fN A) <;> cases P2 (fM A) <;> rfl
  constructor
  · intro hne
    rw [main]
    unfold rfB at hne ⊢
    cases ht : (isb A a b || blk A a b) with
    | true => rfl
    | false =>
      rw [ht, if_neg (show ¬ false = true by decide)] at hne
      by_cases c : 9 ≤ fM A
      · rw [if_neg (show ¬ false = true by decide), if_neg (show ¬ false = true by decide), if_pos c, if_pos c]
      · rw [if_neg c] at hne; exact absurd rfl hne
  · intro h0
    unfold rfB at h0
    cases ht : (isb A a b || blk A a b) with
    | true => rw [ht, if_pos rfl] at h0; exact absurd h0 (by decide)
    | false =>
      rw [ht, if_neg (by decide)] at h0
      by_cases c : 9 ≤ fM A
      · rw [if_pos c] at h0; exact absurd h0 (by decide)
      · refine ⟨g, by rw [main, ht, if_neg (by decide), if_neg c], ?_⟩
        rw [hg]
        refine ⟨⟨?_, ?_, ?_⟩, fun j hj => ?_, fun j hj => ?_, fun k hk => ?_, fun k hk => ?_, fun j hj => ?_⟩
        · rw [upd_at, if_neg (by omega), upd_at, if_neg (by omega), upd_at, if_neg (by omega)]; exact hR.1.1
        · rw [upd_at, if_pos rfl]; rfl
        · rw [upd_at, if_neg (by omega), upd_at, if_neg (by omega), upd_at, if_neg (by omega)]; exact hR.1.2.2
        · have hj : j < fN A := hj
          rw [upd_at, if_neg (by omega), upd_at, if_neg (by omega), upd_at, if_neg (by omega)]; exact hR.2.1 j hj
        · have hj : j < fN A := hj
          rw [upd_at, if_neg (by omega), upd_at, if_neg (by omega), upd_at, if_neg (by omega)]; exact hR.2.2.1 j hj
        · have hk : k < fM A + 1 := hk
          rw [upd_at, if_neg (by omega), upd_at, if_neg (by omega), upd_at]
          show _ = nI (va_up (fA A) (fM A) (min a b) k)
          by_cases e : k = fM A
          · rw [if_pos (by omega), e, va_up_self]
          · rw [if_neg (by omega), va_up_ne _ _ e]; exact hR.2.2.2.1 k (by omega)
        · have hk : k < fM A + 1 := hk
          rw [upd_at, if_neg (by omega), upd_at]
          show _ = nI (va_up (fB A) (fM A) (max a b) k)
          by_cases e : k = fM A
          · rw [if_pos (by omega), e, va_up_self]
          · rw [if_neg (by omega), upd_at, if_neg (by omega), va_up_ne _ _ e]; exact hR.2.2.2.2.1 k (by omega)
        · rw [upd_at, if_neg (by omega), upd_at, if_neg (by omega), upd_at, if_neg (by omega)]; exact hR.2.2.2.2.2 j hj
theorem m_adds_bad (hB : BF A) (hR : RowM (z.1 123) A) {x y : Int32} (h : (x < 0 ∨ nI (fN A) ≤ x) ∨ (y < 0 ∨ nI (fN A) ≤ y) ∨ x = y) : f_X7_adds x y z = some (-1, z) := by
  have h6 := hB.1
  unfold f_X7_adds
  rcases ix_or x (fN A) (by omega) with ⟨a, ha, rfl⟩ | hx
  · rw [m_isJoint hB hR ha, bd_some, if_neg (by decide)]
    rcases ix_or y (fN A) (by omega) with ⟨b, hb, rfl⟩ | hy
    · rw [m_isJoint hB hR hb, bd_some, if_neg (by decide)]
      rcases h with h | h | h
      · have := m_isJoint hB hR ha; rw [m_noJoint hB hR h] at this; cases this
      · have := m_isJoint hB hR hb; rw [m_noJoint hB hR h] at this; cases this
      · rw [if_pos h]
    · rw [m_noJoint hB hR hy]; rfl
  · rw [m_noJoint hB hR hx]; rfl
/-- a bar out of the row -/
theorem m_drops (hB : BF A) (hR : RowM (z.1 123) A) {k : Nat} (hk : k < fM A) : ∃ g, f_X7_drops (nI k) z = some (stI z 123 g) ∧ RowM g (ot A k) := by
  have h9 := hB.2.1
  have h6 := hB.1
  obtain ⟨m, hm⟩ : ∃ m, fM A = m + 1 := ⟨fM A - 1, by omega⟩
  obtain ⟨G, hG⟩ : ∃ G : Nat → Nat → Int32, G = fun i l => if l = 1 then nI m else if 15 + 2 * k ≤ l ∧ l < 15 + 2 * k + i then z.1 123 (l + 2) else z.1 123 l := ⟨_, rfl⟩
  have g0 : upI z 123 1 (nI m) = stI z 123 (G 0) := by
    rw [upI_eq]
    congr 1
    funext l
    rw [hG, upd_at]
    show _ = if l = 1 then nI m else if 15 + 2 * k ≤ l ∧ l < 15 + 2 * k + 0 then z.1 123 (l + 2) else z.1 123 l
    by_cases c : l = 1
    · rw [if_pos c, if_pos c]
    · rw [if_neg c, if_neg c, if_neg (by omega)]
  have G1 : ∀ i, G i 1 = nI m := fun i => by rw [hG]; rfl
  have run := wl2_go (body := b_X7_drops_14) (fun i => nI (2 * k + i)) (fun i => stI z 123 (G i)) (2 * m - 2 * k) (some (stI z 123 (upd (upd (G (2 * m - 2 * k)) (15 + 2 * m) 0) (15 + 2 * m + 1) 0))) ?_ ?_ (by omega)
  · refine ⟨upd (upd (G (2 * m - 2 * k)) (15 + 2 * m) 0) (15 + 2 * m + 1) 0, ?_, ?_⟩
    · unfold f_X7_drops
      rw [m_rd1, bd_some, hR.1.2.1, hm, nI_pred, show (1 : Int32) = nI 1 from rfl, wrI_nI (by omega) (by omega), bd_some, g0, lt_eq, e2, pk_mul]
      exact run
    · have gv : ∀ l, l ≠ 1 → l ≠ 15 + 2 * m → l ≠ 15 + 2 * m + 1 → upd (upd (G (2 * m - 2 * k)) (15 + 2 * m) 0) (15 + 2 * m + 1) 0 l = if 15 + 2 * k ≤ l ∧ l < 15 + 2 * m then z.1 123 (l + 2) else z.1 123 l := by
        intro l h1 h2 h3
        rw [upd_at, if_neg h3, upd_at, if_neg h2, hG]
        show (if l = 1 then nI m else if 15 + 2 * k ≤ l ∧ l < 15 + 2 * k + (2 * m - 2 * k) then z.1 123 (l + 2) else z.1 123 l) = _
        rw [if_neg h1, show 15 + 2 * k + (2 * m - 2 * k) = 15 + 2 * m by omega]
      refine ⟨⟨?_, ?_, ?_⟩, fun j hj => ?_, fun j hj => ?_, fun l hl => ?_, fun l hl => ?_, fun j hj => ?_⟩
      · rw [gv 0 (by omega) (by omega) (by omega), if_neg (by omega)]; exact hR.1.1
      · rw [upd_at, if_neg (by omega), upd_at, if_neg (by omega), G1]; show nI m = nI (fM A - 1); rw [hm]; rfl
      · rw [gv 2 (by omega) (by omega) (by omega), if_neg (by omega)]; exact hR.1.2.2
      · have hj : j < fN A := hj
        rw [gv _ (by omega) (by omega) (by omega), if_neg (by omega)]; exact hR.2.1 j hj
      · have hj : j < fN A := hj
        rw [gv _ (by omega) (by omega) (by omega), if_neg (by omega)]; exact hR.2.2.1 j hj
      · have hl : l < fM A - 1 := hl
        rw [gv _ (by omega) (by omega) (by omega)]
        show _ = nI (if l < k then fA A l else fA A (l + 1))
        by_cases c : l < k
        · rw [if_neg (by omega), if_pos c]; exact hR.2.2.2.1 l (by omega)
        · rw [if_pos (by omega), if_neg c, show 15 + 2 * l + 2 = 15 + 2 * (l + 1) by omega]; exact hR.2.2.2.1 (l + 1) (by omega)
      · have hl : l < fM A - 1 := hl
        rw [gv _ (by omega) (by omega) (by omega)]
        show _ = nI (if l < k then fB A l else fB A (l + 1))
        by_cases c : l < k
        · rw [if_neg (by omega), if_pos c]; exact hR.2.2.2.2.1 l (by omega)
        · rw [if_pos (by omega), if_neg c, show 15 + 2 * l + 1 + 2 = 15 + 2 * (l + 1) + 1 by omega]; exact hR.2.2.2.2.1 (l + 1) (by omega)
      · rw [gv _ (by omega) (by omega) (by omega), if_neg (by omega)]; exact hR.2.2.2.2.2 j hj
  · intro i hi ag
    unfold b_X7_drops_14
    have r1 : rdI (stI z 123 (G i)) 123 42 1 = some (nI m) := by rw [show (1 : Int32) = nI 1 from rfl, rdM (by omega), G1]
    rw [r1, bd_some, e2, pk_mul, if_neg (nI_ge (by omega) (by omega)), e15, nI_add, nI_add, rdM (by omega), bd_some, wrM (by omega), bd_some, lt_eq, nI_1]
    congr 1
    congr 1
    funext l
    rw [upd_at, hG]
    show (if l = 15 + (2 * k + i) then (if 15 + (2 * k + i) + 2 = 1 then nI m else if 15 + 2 * k ≤ 15 + (2 * k + i) + 2 ∧ 15 + (2 * k + i) + 2 < 15 + 2 * k + i then z.1 123 (15 + (2 * k + i) + 2 + 2) else z.1 123 (15 + (2 * k + i) + 2)) else (if l = 1 then nI m else if 15 + 2 * k ≤ l ∧ l < 15 + 2 * k + i then z.1 123 (l + 2) else z.1 123 l)) = (if l = 1 then nI m else if 15 + 2 * k ≤ l ∧ l < 15 + 2 * k + (i + 1) then z.1 123 (l + 2) else z.1 123 l)
    by_cases c : l = 15 + (2 * k + i)
    · rw [if_pos c, if_neg (by omega), if_neg (by omega), if_neg (by omega), if_pos (by omega), c]
    · rw [if_neg c]
      by_cases c1 : l = 1
      · rw [if_pos c1, if_pos c1]
      · rw [if_neg c1, if_neg c1]
        by_cases c2 : 15 + 2 * k ≤ l ∧ l < 15 + 2 * k + i
        · rw [if_pos c2, if_pos (by omega)]
        · rw [if_neg c2, if_neg (by omega)]
  · intro ag
    unfold b_X7_drops_14
    have r1 : rdI (stI z 123 (G (2 * m - 2 * k))) 123 42 1 = some (nI m) := by rw [show (1 : Int32) = nI 1 from rfl, rdM (by omega), G1]
    rw [r1, bd_some, e2, pk_mul, if_pos (nI_le (by omega) (by omega)), bd_some, e15, pk_mul, nI_add, wrM (by omega), bd_some]
    have r2 : rdI (stI z 123 (upd (G (2 * m - 2 * k)) (15 + 2 * m) 0)) 123 42 1 = some (nI m) := by rw [show (1 : Int32) = nI 1 from rfl, rdM (by omega), upd_at, if_neg (by omega), G1]
    rw [r2, bd_some, pk_mul, nI_add, nI_1, wrM (by omega), bd_some]
theorem m_takesOut (hB : BF A) (hR : RowM (z.1 123) A) {k : Nat} (hk : k < fM A) : ∃ g, f_X7_takesOut (nI k) z = some (nI (fM A - 1), stI z 123 g) ∧ RowM g (ot A k) := by
  obtain ⟨g, h1, h2⟩ := m_drops hB hR hk
  refine ⟨g, ?_, h2⟩
  unfold f_X7_takesOut
  rw [m_isBar hB hR hk, bd_some, if_neg (by decide), h1, bd_some, show (1 : Int32) = nI 1 from rfl, rdM (by omega), bd_some, h2.1.2.1]
  rfl
theorem m_takesOut_bad (hB : BF A) (hR : RowM (z.1 123) A) {x : Int32} (hx : x < 0 ∨ nI (fM A) ≤ x) : f_X7_takesOut x z = some (-1, z) := by
  unfold f_X7_takesOut
  rw [m_noBar hB hR hx]; rfl
end
