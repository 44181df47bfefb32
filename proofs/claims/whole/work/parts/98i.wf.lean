/-! acts keep a frame plain -/
theorem blk_f {A : Fm} {a b : Nat} : blk A a b = false ↔ (∀ j, j < fN A → onP A a b (fX A j) (fY A j) = false) ∧ ∀ k, k < fM A → crB A a b (fA A k) (fB A k) = false := by
  unfold blk
  rw [Bool.or_eq_false_iff, ex_ff, ex_ff]
theorem onP_cg {A B : Fm} {a b a' b' : Nat} {p q : Int} (h1 : fX B a' = fX A a) (h2 : fY B a' = fY A a) (h3 : fX B b' = fX A b) (h4 : fY B b' = fY A b) : onP B a' b' p q = onP A a b p q := by
  unfold onP tnP dtP
  rw [h1, h2, h3, h4]
theorem crB_cg {A B : Fm} {a b c d a' b' c' d' : Nat} (h1 : fX B a' = fX A a ∧ fY B a' = fY A a) (h2 : fX B b' = fX A b ∧ fY B b' = fY A b) (h3 : fX B c' = fX A c ∧ fY B c' = fY A c) (h4 : fX B d' = fX A d ∧ fY B d' = fY A d) : crB B a' b' c' d' = crB A a b c d := by
  unfold crB tn
  rw [h1.1, h1.2, h2.1, h2.2, h3.1, h3.2, h4.1, h4.2]
section
variable {A : Fm}
theorem WF_jn (hw : WF A) {px py : Int} (hx : 0 ≤ px ∧ px ≤ 5) (hy : 0 ≤ py ∧ py ≤ 5) (h : rfJ A px py = 0) : WF (jn A px py) ∧ fN A < 6 := by
  obtain ⟨hB, hd, hb, hp, hW, hD⟩ := hw
  unfold rfJ at h
  have ht : (tk A px py || ub A px py) = false := by
    cases c : (tk A px py || ub A px py) with
    | false => rfl
    | true => rw [c, if_pos rfl] at h; exact absurd h (by decide)
  rw [ht, if_neg (by decide)] at h
  have hn : fN A < 6 := by
    refine Classical.byContradiction fun c => ?_
    rw [if_pos (by omega)] at h
    exact absurd h (by decide)
  rw [Bool.or_eq_false_iff] at ht
  have t1 := ex_ff.mp ht.1
  have t2 := ex_ff.mp ht.2
  have nN : fN (jn A px py) = fN A + 1 := rfl
  have vo : ∀ j, j < fN A → fX (jn A px py) j = fX A j ∧ fY (jn A px py) j = fY A j := fun j hj => ⟨va_up_ne _ _ (by omega), va_up_ne _ _ (by omega)⟩
  have vn : fX (jn A px py) (fN A) = px ∧ fY (jn A px py) (fN A) = py := ⟨va_up_self _ _ _, va_up_self _ _ _⟩
  refine ⟨⟨⟨by rw [nN]; omega, hB.2.1, fun j hj => ?_, fun k hk => ?_⟩, fun i j hi hj ex ey => ?_, hb, fun k hk => ?_, hW, hD⟩, hn⟩
  · rw [nN] at hj
    by_cases e : j = fN A
    · rw [e, vn.1, vn.2]; exact ⟨hx, hy⟩
    · rw [(vo j (by omega)).1, (vo j (by omega)).2]; exact hB.2.2.1 j (by omega)
  · have := hB.2.2.2 k hk
    show fA A k < fB A k ∧ fB A k < fN A + 1
    omega
  · rw [nN] at hi hj
    have no : ∀ i, i < fN A → ¬ (fX A i = px ∧ fY A i = py) := fun i hi x => by
      have := t1 i hi
      rw [decide_eq_true x.1, decide_eq_true x.2] at this
      cases this
    by_cases e1 : i = fN A <;> by_cases e2 : j = fN A
    · omega
    · rw [e1, vn.1, (vo j (by omega)).1] at ex
      rw [e1, vn.2, (vo j (by omega)).2] at ey
      exact absurd ⟨ex.symm, ey.symm⟩ (no j (by omega))
    · rw [e2, vn.1, (vo i (by omega)).1] at ex
      rw [e2, vn.2, (vo i (by omega)).2] at ey
      exact absurd ⟨ex, ey⟩ (no i (by omega))
    · rw [(vo i (by omega)).1, (vo j (by omega)).1] at ex
      rw [(vo i (by omega)).2, (vo j (by omega)).2] at ey
      exact hd i j (by omega) (by omega) ex ey
  · have hk : k < fM A := hk
    have ab := hB.2.2.2 k hk
    have pk := blk_f.mp (hp k hk)
    have a1 := vo (fA A k) (by omega)
    have b1 := vo (fB A k) ab.2
    rw [blk_f]
    refine ⟨fun j hj => ?_, fun l hl => ?_⟩
    · rw [nN] at hj
      show onP (jn A px py) (fA A k) (fB A k) _ _ = false
      rw [onP_cg a1.1 a1.2 b1.1 b1.2]
      by_cases e : j = fN A
      · rw [e, vn.1, vn.2]; exact t2 k hk
      · rw [(vo j (by omega)).1, (vo j (by omega)).2]; exact pk.1 j (by omega)
    · have hl : l < fM A := hl
      have cd := hB.2.2.2 l hl
      show crB (jn A px py) (fA A k) (fB A k) (fA A l) (fB A l) = false
      rw [crB_cg a1 b1 (vo (fA A l) (by omega)) (vo (fB A l) cd.2)]
      exact pk.2 l hl
theorem WF_mv (hw : WF A) {j : Nat} {px py : Int} (hx : 0 ≤ px ∧ px ≤ 5) (hy : 0 ≤ py ∧ py ≤ 5) (h : rfM A j px py = 0) : WF (mv A j px py) := by
  obtain ⟨hB, hd, hb, hp, hW, hD⟩ := hw
  unfold rfM at h
  have ht : (tk A px py || npl A j px py) = false := by
    cases c : (tk A px py || npl A j px py) with
    | false => rfl
    | true => rw [c, if_pos rfl] at h; exact absurd h (by decide)
  rw [Bool.or_eq_false_iff] at ht
  have t1 := ex_ff.mp ht.1
  have t2 := ex_ff.mp ht.2
  have no : ∀ i, i < fN A → ¬ (fX A i = px ∧ fY A i = py) := fun i hi x => by
    have := t1 i hi
    rw [decide_eq_true x.1, decide_eq_true x.2] at this
    cases this
  refine ⟨BF_mv hB hx hy, fun i k hi hk ex ey => ?_, hb, fun k hk => t2 k hk, hW, hD⟩
  have hi : i < fN A := hi
  have hk : k < fN A := hk
  have ex : va_up (fX A) j px i = va_up (fX A) j px k := ex
  have ey : va_up (fY A) j py i = va_up (fY A) j py k := ey
  by_cases e1 : i = j <;> by_cases e2 : k = j
  · omega
  · rw [e1, va_up_self, va_up_ne _ _ e2] at ex ey
    exact absurd ⟨ex.symm, ey.symm⟩ (no k hk)
  · rw [e2, va_up_self, va_up_ne _ _ e1] at ex ey
    exact absurd ⟨ex, ey⟩ (no i hi)
  · rw [va_up_ne _ _ e1, va_up_ne _ _ e2] at ex ey
    exact hd i k hi hk ex ey
theorem WF_br (hw : WF A) {a b : Nat} (ha : a < fN A) (hb' : b < fN A) (hab : a ≠ b) (h : rfB A a b = 0) : WF (br A a b) ∧ fM A < 9 := by
  obtain ⟨hB, hd, hb, hp, hW, hD⟩ := hw
  unfold rfB at h
  have ht : (isb A a b || blk A a b) = false := by
    cases c : (isb A a b || blk A a b) with
    | false => rfl
    | true => rw [c, if_pos rfl] at h; exact absurd h (by decide)
  rw [ht, if_neg (by decide)] at h
  have hn : fM A < 9 := by
    refine Classical.byContradiction fun c => ?_
    rw [if_pos (by omega)] at h
    exact absurd h (by decide)
  rw [Bool.or_eq_false_iff] at ht
  have t1 := ex_ff.mp ht.1
  have t2 := blk_f.mp ht.2
  have nM : fM (br A a b) = fM A + 1 := rfl
  have vo : ∀ k, k < fM A → fA (br A a b) k = fA A k ∧ fB (br A a b) k = fB A k := fun k hk => ⟨va_up_ne _ _ (by omega), va_up_ne _ _ (by omega)⟩
  have vn : fA (br A a b) (fM A) = min a b ∧ fB (br A a b) (fM A) = max a b := ⟨va_up_self _ _ _, va_up_self _ _ _⟩
  have onn : ∀ p q, onP A (min a b) (max a b) p q = onP A a b p q := fun p q => by
    by_cases c : a < b
    · rw [Nat.min_eq_left (by omega), Nat.max_eq_right (by omega)]
    · rw [Nat.min_eq_right (by omega), Nat.max_eq_left (by omega), onP_comm]
  have crn : ∀ c d, crB A (min a b) (max a b) c d = crB A a b c d := fun c d => by
    by_cases x : a < b
    · rw [Nat.min_eq_left (by omega), Nat.max_eq_right (by omega)]
    · rw [Nat.min_eq_right (by omega), Nat.max_eq_left (by omega), (crB_sw A b a c d).1]
  refine ⟨⟨⟨hB.1, by rw [nM]; omega, hB.2.2.1, fun k hk => ?_⟩, hd, fun k l hk hl ea eb => ?_, fun k hk => ?_, hW, hD⟩, hn⟩
  · rw [nM] at hk
    show fA (br A a b) k < fB (br A a b) k ∧ fB (br A a b) k < fN A
    by_cases e : k = fM A
    · rw [e, vn.1, vn.2]; omega
    · rw [(vo k (by omega)).1, (vo k (by omega)).2]; exact hB.2.2.2 k (by omega)
  · rw [nM] at hk hl
    have no : ∀ k, k < fM A → ¬ (fA A k = min a b ∧ fB A k = max a b) := fun k hk x => by
      have := t1 k hk
      rw [Bool.or_eq_false_iff, Bool.and_eq_false_iff, Bool.and_eq_false_iff] at this
      simp only [decide_eq_false_iff_not] at this
      omega
    by_cases e1 : k = fM A <;> by_cases e2 : l = fM A
    · omega
    · rw [e1, vn.1, (vo l (by omega)).1] at ea
      rw [e1, vn.2, (vo l (by omega)).2] at eb
      exact absurd ⟨ea.symm, eb.symm⟩ (no l (by omega))
    · rw [e2, vn.1, (vo k (by omega)).1] at ea
      rw [e2, vn.2, (vo k (by omega)).2] at eb
      exact absurd ⟨ea, eb⟩ (no k (by omega))
    · rw [(vo k (by omega)).1, (vo l (by omega)).1] at ea
      rw [(vo k (by omega)).2, (vo l (by omega)).2] at eb
      exact hb k l (by omega) (by omega) ea eb
  · rw [nM] at hk
    have same : ∀ c d p q, onP (br A a b) c d p q = onP A c d p q := fun c d p q => rfl
    have sameC : ∀ c d e f, crB (br A a b) c d e f = crB A c d e f := fun c d e f => rfl
    rw [blk_f]
    by_cases e : k = fM A
    · rw [e, vn.1, vn.2]
      refine ⟨fun j hj => ?_, fun l hl => ?_⟩
      · rw [same, onn]; exact t2.1 j hj
      · rw [nM] at hl
        rw [sameC]
        by_cases e2 : l = fM A
        · rw [e2, vn.1, vn.2]; exact crB_self A _ _
        · rw [(vo l (by omega)).1, (vo l (by omega)).2, crn]; exact t2.2 l (by omega)
    · rw [(vo k (by omega)).1, (vo k (by omega)).2]
      have pk := blk_f.mp (hp k (by omega))
      refine ⟨fun j hj => ?_, fun l hl => ?_⟩
      · rw [same]; exact pk.1 j hj
      · rw [nM] at hl
        rw [sameC]
        by_cases e2 : l = fM A
        · rw [e2, vn.1, vn.2, crB_comm, crn]; exact t2.2 k (by omega)
        · rw [(vo l (by omega)).1, (vo l (by omega)).2]; exact pk.2 l (by omega)
theorem WF_ot (hw : WF A) {k : Nat} (hk : k < fM A) : WF (ot A k) := by
  obtain ⟨hB, hd, hb, hp, hW, hD⟩ := hw
  have nM : fM (ot A k) = fM A - 1 := rfl
  have vo : ∀ l, l < fM A - 1 → ∃ l', l' < fM A ∧ fA (ot A k) l = fA A l' ∧ fB (ot A k) l = fB A l' ∧ l' = (if l < k then l else l + 1) := fun l hl => by
    by_cases c : l < k
    · exact ⟨l, by omega, if_pos c, if_pos c, (if_pos c).symm⟩
    · exact ⟨l + 1, by omega, if_neg c, if_neg c, (if_neg c).symm⟩
  refine ⟨BF_ot hB hk, hd, fun i l hi hl ea eb => ?_, fun i hi => ?_, hW, hD⟩
  · rw [nM] at hi hl
    obtain ⟨i', a1, a2, a3, a4⟩ := vo i hi
    obtain ⟨l', b1, b2, b3, b4⟩ := vo l hl
    rw [a2, b2] at ea
    rw [a3, b3] at eb
    have := hb i' l' a1 b1 ea eb
    split at a4 <;> split at b4 <;> omega
  · rw [nM] at hi
    obtain ⟨i', a1, a2, a3, a4⟩ := vo i hi
    have pk := blk_f.mp (hp i' a1)
    rw [blk_f, a2, a3]
    refine ⟨fun j hj => pk.1 j hj, fun l hl => ?_⟩
    rw [nM] at hl
    obtain ⟨l', b1, b2, b3, b4⟩ := vo l hl
    rw [b2, b3]
    exact pk.2 l' b1
theorem WF_wt (hw : WF A) {j : Nat} {v : Int} (hv : -9 ≤ v ∧ v ≤ 9) : WF (wt A j v) := by
  obtain ⟨hB, hd, hb, hp, hW, hD⟩ := hw
  refine ⟨hB, hd, hb, hp, fun i hi => ?_, hD⟩
  show -9 ≤ va_up (fW A) j v i ∧ va_up (fW A) j v i ≤ 9
  by_cases e : i = j
  · rw [e, va_up_self]; exact hv
  · rw [va_up_ne _ _ e]; exact hW i hi
theorem WF_dr (hw : WF A) {v : Int} (hv : 0 ≤ v ∧ v ≤ 2147483647) : WF (dr A v) := by
  obtain ⟨hB, hd, hb, hp, hW, hD⟩ := hw
  exact ⟨hB, hd, hb, hp, hW, hv.1, hv.2⟩
theorem WF_rmv (j : Nat) : ∀ (k : Nat) (A : Fm), WF A → k ≤ fM A → WF (rmv j k A) := by
  intro k
  induction k with
  | zero => exact fun A h _ => h
  | succ k ih =>
    intro A hw hk
    show WF (rmv j k (if tch A j k = true then ot A k else A))
    by_cases c : tch A j k = true
    · rw [if_pos c]; exact ih _ (WF_ot hw (by omega)) (by show k ≤ fM A - 1; omega)
    · rw [if_neg c]; exact ih _ hw (by omega)
theorem WF_lose (hw : WF A) {j : Nat} (hj : j < fN A) (hf : ∀ l, l < fM A → tch A j l = false) : WF (dj (rnb A j) j) := by
  obtain ⟨hB, hd, hb, hp, hW, hD⟩ := hw
  have hB2 := BF_rnb hB hj hf
  have nt : ∀ l, l < fM A → fA A l ≠ j ∧ fB A l ≠ j := fun l hl => by
    have := hf l hl
    simp only [tch, Bool.or_eq_false_iff, decide_eq_false_iff_not] at this
    exact this
  have nN : fN (dj (rnb A j) j) = fN A - 1 := rfl
  have nM : fM (dj (rnb A j) j) = fM A := rfl
  have vX : ∀ i, fX (dj (rnb A j) j) i = fX A (upj j i) ∧ fY (dj (rnb A j) j) i = fY A (upj j i) := fun i => ⟨rfl, rfl⟩
  have vA : ∀ l, fA (dj (rnb A j) j) l = (if j < fA A l then fA A l - 1 else fA A l) ∧ fB (dj (rnb A j) j) l = (if j < fB A l then fB A l - 1 else fB A l) := fun l => ⟨rfl, rfl⟩
  have back : ∀ l, l < fM A → upj j (fA (dj (rnb A j) j) l) = fA A l ∧ upj j (fB (dj (rnb A j) j) l) = fB A l := fun l hl => by
    have := nt l hl
    rw [(vA l).1, (vA l).2]
    unfold upj
    constructor
    · split <;> split <;> omega
    · split <;> split <;> omega
  have ul : ∀ i, i < fN A - 1 → upj j i < fN A := fun i hi => by unfold upj; split <;> omega
  have ui : ∀ i k, upj j i = upj j k → i = k := fun i k e => by unfold upj at e; split at e <;> split at e <;> omega
  have cA : ∀ l, l < fM A → (fX (dj (rnb A j) j) (fA (dj (rnb A j) j) l) = fX A (fA A l) ∧ fY (dj (rnb A j) j) (fA (dj (rnb A j) j) l) = fY A (fA A l)) ∧ fX (dj (rnb A j) j) (fB (dj (rnb A j) j) l) = fX A (fB A l) ∧ fY (dj (rnb A j) j) (fB (dj (rnb A j) j) l) = fY A (fB A l) := fun l hl => by
    rw [(vX _).1, (vX _).2, (vX _).1, (vX _).2, (back l hl).1, (back l hl).2]
    exact ⟨⟨rfl, rfl⟩, rfl, rfl⟩
  refine ⟨⟨by rw [nN]; have := hB.1; omega, hB.2.1, fun i hi => ?_, fun l hl => ?_⟩, fun i k hi hk ex ey => ?_, fun k l hk hl ea eb => ?_, fun k hk => ?_, hW, hD⟩
  · rw [nN] at hi
    rw [(vX i).1, (vX i).2]; exact hB.2.2.1 _ (ul i hi)
  · have hl : l < fM A := hl
    have a := hB.2.2.2 l hl
    have b := nt l hl
    rw [(vA l).1, (vA l).2, nN]
    split <;> split <;> omega
  · rw [nN] at hi hk
    rw [(vX i).1, (vX k).1] at ex
    rw [(vX i).2, (vX k).2] at ey
    exact ui i k (hd _ _ (ul i hi) (ul k hk) ex ey)
  · have hk : k < fM A := hk
    have hl : l < fM A := hl
    refine hb k l hk hl ?_ ?_
    · rw [← (back k hk).1, ← (back l hl).1, ea]
    · rw [← (back k hk).2, ← (back l hl).2, eb]
  · have hk : k < fM A := hk
    have pk := blk_f.mp (hp k hk)
    have c := cA k hk
    rw [blk_f]
    refine ⟨fun i hi => ?_, fun l hl => ?_⟩
    · rw [nN] at hi
      rw [onP_cg c.1.1 c.1.2 c.2.1 c.2.2, (vX i).1, (vX i).2]
      exact pk.1 _ (ul i hi)
    · have hl : l < fM A := hl
      have d := cA l hl
      rw [crB_cg c.1 c.2 d.1 d.2]
      exact pk.2 l hl
theorem WF_lsF (hw : WF A) {j : Nat} (hj : j < fN A) : WF (lsF A j) := by
  have h1 := WF_rmv j (fM A) A hw (Nat.le_refl _)
  exact WF_lose h1 (by rw [rmv_N]; exact hj) (rmv_free j (fM A) A (Nat.le_refl _) (fun l a b => by omega))
theorem WF_fg {B : Fm} (hw : WF A) (hw2 : WF B) : WF (fg A B) := by
  obtain ⟨hB, hd, hb, hp, _, _⟩ := hw2
  obtain ⟨_, _, _, _, hW, hD⟩ := hw
  exact ⟨hB, hd, hb, hp, hW, hD⟩
end
