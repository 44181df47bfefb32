/-! THE STRESS is at rest -/
section
variable {A : Fm} {s : BS} {m : Nat}
theorem ro_sum {f : Nat → Nat} (g : Nat → Int) : ∀ (p k : Nat), (∀ i l, i < p → l < p → f i = f l → i = l) → (match ro f k p with
    | some r => g r
    | none => 0) = sm p (fun r => if f r = k then g r else 0) := by
  intro p
  induction p with
  | zero => intro k _; rfl
  | succ p ih =>
    intro k hi
    rw [ro_s, sm_s]
    by_cases c : f p = k
    · rw [if_pos c, if_pos c, sm_zero (fun i hi' => if_neg (fun e => by have := hi i p (by omega) (by omega) (e.trans c.symm); omega))]
      show g p = 0 + g p
      omega
    · rw [if_neg c, if_neg c, ih k (fun i l h1 h2 e => hi i l (by omega) (by omega) e)]
      omega
theorem nB_rest (hm : m ≤ 9) {a : Nat → Nat → Int} (hI : BI a m 0 s) {l : Nat} (hl : l < m) (hq : lead s l = true) {r : Nat} (hr : r < 12) : sm m (fun k => a r k * nB s l k) = 0 := by
  have hp := BI_p hI
  have hinj : ∀ i l, i < s.2.2.1 → l < s.2.2.1 → s.2.2.2 i = s.2.2.2 l → i = l := fun i l h1 h2 e => BI_inj hm hI h1 h2 e
  have e1 : ∀ k, nB s l k = (if k = l then s.2.1 else 0) + sm s.2.2.1 (fun t => if s.2.2.2 t = k then - s.1 t l else 0) := by
    intro k
    rw [← ro_sum (fun t => - s.1 t l) s.2.2.1 k hinj]
    unfold nB rO
    cases c : ro s.2.2.2 k s.2.2.1 with
    | none => show (if k = l then s.2.1 else 0) = (if k = l then s.2.1 else 0) + 0; omega
    | some t =>
      have : k ≠ l := fun e => by
        rw [e] at c
        unfold lead rO at hq
        rw [c] at hq
        cases hq
      show - s.1 t l = (if k = l then s.2.1 else 0) + - s.1 t l
      rw [if_neg this]; omega
  have e2 : sm m (fun k => a r k * nB s l k) = sm m (fun k => a r k * (if k = l then s.2.1 else 0)) + sm m (fun k => sm s.2.2.1 (fun t => a r k * (if s.2.2.2 t = k then - s.1 t l else 0))) := by
    rw [← sm_add]
    refine sm_congr fun k hk => ?_
    rw [e1 k, Int.mul_add, ← sm_mul]
  rw [e2, sm_one (k := l) hl (fun k _ hne => by rw [if_neg hne, Int.mul_zero]), if_pos rfl, sm_swap]
  have e3 : sm s.2.2.1 (fun t => sm m (fun k => a r k * (if s.2.2.2 t = k then - s.1 t l else 0))) = - sm s.2.2.1 (fun t => s.1 t l * a r (s.2.2.2 t)) := by
    rw [← sm_neg]
    refine sm_congr fun t ht => ?_
    rw [sm_one (k := s.2.2.2 t) (hp.2.2 t ht) (fun k _ hne => by rw [if_neg (fun e => hne e.symm), Int.mul_zero]), if_pos rfl]
    grind
  rw [e3, ← BI_end hm hI hl hr]
  grind
theorem pU_rest (hB : BF A) {r : Nat} (hr : r < 12) : sm (fM A) (fun k => mA A all1 r k * pU A k) = 0 := by
  have e : sm (fM A) (fun k => mA A all1 r k * pU A k) = sm (nS A) (fun j => sm (fM A) (fun k => fW A j * (mA A all1 r k * nU A j k))) := by
    rw [sm_swap]
    refine sm_congr fun k _ => ?_
    unfold pU
    rw [← sm_mul]
    exact sm_congr fun j _ => by grind
  rw [e]
  refine sm_zero fun j hj => ?_
  have sp := ldr_spec (q := lead (bS A all1)) (m := fM A) hj
  rw [sm_mul]
  have := nB_rest hB.2.1 (bI (q := all1) hB) sp.1 sp.2.1 hr
  rw [show sm (fM A) (fun k => mA A all1 r k * nU A j k) = 0 from this, Int.mul_zero]
/-- a sum over half bars, by bars -/
theorem sm_half (f : Nat → Int) : ∀ m, sm (2 * m) f = sm m (fun k => f (2 * k) + f (2 * k + 1)) := by
  intro m
  induction m with
  | zero => rfl
  | succ m ih =>
    rw [show 2 * (m + 1) = 2 * m + 1 + 1 by omega, sm_s, sm_s, sm_s, ih]
    omega
theorem rest_row (hB : BF A) (x : Nat → Int) (j : Nat) : sm (2 * fM A) (fun g => if fS A g = j then x (g / 2) * sX A g else 0) = sm (fM A) (fun k => mA A all1 (2 * j) k * x k) ∧ sm (2 * fM A) (fun g => if fS A g = j then x (g / 2) * sY A g else 0) = sm (fM A) (fun k => mA A all1 (2 * j + 1) k * x k) := by
  rw [sm_half, sm_half]
  constructor
  all_goals
    refine sm_congr fun k hk => ?_
    have hb := hB.2.2.2 k hk
    obtain ⟨e1, e2, e3, e4⟩ := sX_e A k
    simp only [eS2, eS21, show 2 * k / 2 = k by omega, show (2 * k + 1) / 2 = k by omega, e1, e2, e3, e4]
    have em : ∀ r, mA A all1 r k = (fX A (fB A k) - fX A (fA A k)) * tv (2 * fA A k) (2 * fB A k) r + (fY A (fB A k) - fY A (fA A k)) * tv (2 * fA A k + 1) (2 * fB A k + 1) r := fun r => if_pos ⟨hk, rfl⟩
    rw [em]
    simp only [tv, dX, dY]
    by_cases c1 : fA A k = j <;> by_cases c2 : fB A k = j
    · omega
    · have h1 : ¬ 2 * j = 2 * fB A k := by omega
      have h2 : ¬ 2 * j = 2 * fA A k + 1 := by omega
      have h3 : ¬ 2 * j = 2 * fB A k + 1 := by omega
      have h4 : 2 * j = 2 * fA A k := by omega
      have h5 : ¬ 2 * j + 1 = 2 * fA A k := by omega
      have h6 : ¬ 2 * j + 1 = 2 * fB A k := by omega
      have h7 : 2 * j + 1 = 2 * fA A k + 1 := by omega
      have h8 : ¬ 2 * j + 1 = 2 * fB A k + 1 := by omega
      simp only [if_pos c1, if_neg c2, h1, h2, h3, h5, h6, h8, if_false, if_pos h4, if_pos h7]
      grind
    · have h1 : 2 * j = 2 * fB A k := by omega
      have h2 : ¬ 2 * j = 2 * fA A k + 1 := by omega
      have h3 : ¬ 2 * j = 2 * fB A k + 1 := by omega
      have h4 : ¬ 2 * j = 2 * fA A k := by omega
      have h5 : ¬ 2 * j + 1 = 2 * fA A k := by omega
      have h6 : ¬ 2 * j + 1 = 2 * fB A k := by omega
      have h7 : ¬ 2 * j + 1 = 2 * fA A k + 1 := by omega
      have h8 : 2 * j + 1 = 2 * fB A k + 1 := by omega
      simp only [if_neg c1, if_pos c2, h2, h3, h4, h5, h6, h7, if_false, if_pos h1, if_pos h8]
      grind
    · have h1 : ¬ 2 * j = 2 * fB A k := by omega
      have h2 : ¬ 2 * j = 2 * fA A k + 1 := by omega
      have h3 : ¬ 2 * j = 2 * fB A k + 1 := by omega
      have h4 : ¬ 2 * j = 2 * fA A k := by omega
      have h5 : ¬ 2 * j + 1 = 2 * fA A k := by omega
      have h6 : ¬ 2 * j + 1 = 2 * fB A k := by omega
      have h7 : ¬ 2 * j + 1 = 2 * fA A k + 1 := by omega
      have h8 : ¬ 2 * j + 1 = 2 * fB A k + 1 := by omega
      simp only [if_neg c1, if_neg c2, h1, h2, h3, h4, h5, h6, h7, h8, if_false]
      grind
def gX (A : Fm) (h : Nat) : Int := pU A (h / 2) * sX A h
def gY (A : Fm) (h : Nat) : Int := pU A (h / 2) * sY A h
def gL (A : Fm) (h : Nat) : Int := gY A h * fX A (fS A h) - gX A h * fY A (fS A h)
/-- forces are each other's opposite, and come to nothing at a joint -/
def Fo (A : Fm) (F : Nat → Int) : Prop := (∀ h, h < 2 * fM A → F (bk h) = - F h) ∧ ∀ j, j < fN A → sm (2 * fM A) (fun g => if fS A g = j then F g else 0) = 0
theorem Fo_X (hB : BF A) : Fo A (gX A) := by
  refine ⟨fun h hh => ?_, fun j hj => ?_⟩
  · unfold gX; rw [bk_2, sX_bk]; grind
  · have h6 := hB.1
    rw [show sm (2 * fM A) (fun g => if fS A g = j then gX A g else 0) = sm (2 * fM A) (fun g => if fS A g = j then pU A (g / 2) * sX A g else 0) from rfl, (rest_row hB (pU A) j).1]
    exact pU_rest hB (by omega)
theorem Fo_Y (hB : BF A) : Fo A (gY A) := by
  refine ⟨fun h hh => ?_, fun j hj => ?_⟩
  · unfold gY; rw [bk_2, sY_bk]; grind
  · have h6 := hB.1
    rw [show sm (2 * fM A) (fun g => if fS A g = j then gY A g else 0) = sm (2 * fM A) (fun g => if fS A g = j then pU A (g / 2) * sY A g else 0) from rfl, (rest_row hB (pU A) j).2]
    exact pU_rest hB (by omega)
theorem Fo_L (hB : BF A) : Fo A (gL A) := by
  have f1 := Fo_X hB
  have f2 := Fo_Y hB
  refine ⟨fun h hh => ?_, fun j hj => ?_⟩
  · unfold gL
    rw [f1.1 h hh, f2.1 h hh, fS_bk]
    have : sX A h = fX A (fE A h) - fX A (fS A h) := rfl
    have : sY A h = fY A (fE A h) - fY A (fS A h) := rfl
    unfold gX gY
    grind
  · have e : sm (2 * fM A) (fun g => if fS A g = j then gL A g else 0) = fX A j * sm (2 * fM A) (fun g => if fS A g = j then gY A g else 0) + (- fY A j) * sm (2 * fM A) (fun g => if fS A g = j then gX A g else 0) := by
      rw [← sm_lin]
      refine sm_congr fun g _ => ?_
      by_cases c : fS A g = j
      · rw [if_pos c, if_pos c, if_pos c]; unfold gL; rw [c]; grind
      · rw [if_neg c, if_neg c, if_neg c]; omega
    rw [e, f1.2 j hj, f2.2 j hj]; omega
end
