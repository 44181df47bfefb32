/-! bars that don't cross, seen from the side -/
theorem sgp {x y z : Int} (hx : 0 < x) (e : x * y = z) (hz : 0 < z) : 0 < y := by
  rcases Int.lt_or_le 0 y with h | h
  · exact h
  · have := Int.mul_nonneg (show 0 ≤ x by omega) (show 0 ≤ -y by omega)
    rw [Int.mul_neg] at this
    omega
theorem sgn {x y z : Int} (hx : 0 < x) (e : x * y = z) (hz : z < 0) : y < 0 := by
  have := sgp (y := -y) (z := -z) hx (by rw [Int.mul_neg, e]) (by omega)
  omega
theorem mpn {a b : Int} (ha : a < 0) (hb : 0 < b) : a * b < 0 := by
  have := Int.mul_pos (show 0 < -a by omega) hb
  rw [Int.neg_mul] at this
  omega
theorem mnp {a b : Int} (ha : 0 < a) (hb : b < 0) : a * b < 0 := by rw [Int.mul_comm]; exact mpn hb ha
theorem core4 {lv lw lc ld s1 s2 t1 t2 : Int} (h1 : lv < lw) (h2 : lc < ld) (e1 : (ld - lc) * s1 = -((lw - lc) * t1) - (lc - lv) * t2) (e2 : (ld - lc) * s2 = -((lw - ld) * t1) - (ld - lv) * t2) (e3 : (lw - lv) * t1 = -((ld - lv) * s1) - (lv - lc) * s2) (e4 : (lw - lv) * t2 = -((ld - lw) * s1) - (lw - lc) * s2) (hno : ¬ (s1 * s2 < 0 ∧ t1 * t2 < 0)) (A1 : lv < lc → lc < lw → s1 ≠ 0) (A2 : lv < ld → ld < lw → s2 ≠ 0) (A3 : lc < lv → lv < ld → t1 ≠ 0) (A4 : lc < lw → lw < ld → t2 ≠ 0) : (lc < lv → lw < ld → (t1 < 0 ↔ t2 < 0)) ∧ (lc < lv → lv < ld → ld < lw → (t1 < 0 ↔ 0 < s2)) ∧ (lv < lc → lc < lw → lw < ld → (0 < s1 ↔ t2 < 0)) ∧ (lv < lc → ld < lw → (0 < s1 ↔ 0 < s2)) := by
  have no1 : ¬ (0 < s1 ∧ s2 < 0 ∧ t1 < 0 ∧ 0 < t2) := fun ⟨a, b, c, d⟩ => hno ⟨mnp a b, mpn c d⟩
  have no2 : ¬ (s1 < 0 ∧ 0 < s2 ∧ 0 < t1 ∧ t2 < 0) := fun ⟨a, b, c, d⟩ => hno ⟨mpn a b, mnp c d⟩
  refine ⟨fun c1 c2 => ?_, fun c1 c0 c2 => ?_, fun c1 c0 c2 => ?_, fun c1 c2 => ?_⟩
  · have n1 := A3 c1 (by omega)
    have n2 := A4 (by omega) c2
    constructor
    · intro x
      refine Classical.byContradiction fun y => no1 ?_
      have p1 := mnp (show 0 < lw - lc by omega) x
      have p2 := Int.mul_pos (show 0 < lv - lc by omega) (show 0 < t2 by omega)
      have p3 := mnp (show 0 < ld - lw by omega) x
      have p4 := Int.mul_pos (show 0 < ld - lv by omega) (show 0 < t2 by omega)
      refine ⟨sgp (show 0 < ld - lc by omega) e1 ?_, sgn (show 0 < ld - lc by omega) e2 ?_, x, by omega⟩
      · have : (lc - lv) * t2 = -((lv - lc) * t2) := by grind
        omega
      · have : (lw - ld) * t1 = -((ld - lw) * t1) := by grind
        omega
    · intro x
      refine Classical.byContradiction fun y => no2 ?_
      have p1 := Int.mul_pos (show 0 < lw - lc by omega) (show 0 < t1 by omega)
      have p2 := mnp (show 0 < lv - lc by omega) x
      have p3 := Int.mul_pos (show 0 < ld - lw by omega) (show 0 < t1 by omega)
      have p4 := mnp (show 0 < ld - lv by omega) x
      refine ⟨sgn (show 0 < ld - lc by omega) e1 ?_, sgp (show 0 < ld - lc by omega) e2 ?_, by omega, x⟩
      · have : (lc - lv) * t2 = -((lv - lc) * t2) := by grind
        omega
      · have : (lw - ld) * t1 = -((ld - lw) * t1) := by grind
        omega
  · have n1 := A3 c1 c0
    have n2 := A2 c0 c2
    constructor
    · intro x
      refine Classical.byContradiction fun y => no1 ?_
      have p1 := mnp (show 0 < lw - ld by omega) x
      have p2 := mnp (show 0 < ld - lc by omega) (show s2 < 0 by omega)
      have p3 := mnp (show 0 < lw - lv by omega) x
      have p4 := mnp (show 0 < lv - lc by omega) (show s2 < 0 by omega)
      refine ⟨sgp (z := -((lw - lv) * t1) - (lv - lc) * s2) (show 0 < ld - lv by omega) (by omega) (by omega), by omega, x, sgp (z := -((lw - ld) * t1) - (ld - lc) * s2) (show 0 < ld - lv by omega) (by omega) (by omega)⟩
    · intro x
      refine Classical.byContradiction fun y => no2 ?_
      have p1 := Int.mul_pos (show 0 < lw - ld by omega) (show 0 < t1 by omega)
      have p2 := Int.mul_pos (show 0 < ld - lc by omega) (show 0 < s2 by omega)
      have p3 := Int.mul_pos (show 0 < lw - lv by omega) (show 0 < t1 by omega)
      have p4 := Int.mul_pos (show 0 < lv - lc by omega) (show 0 < s2 by omega)
      refine ⟨sgn (z := -((lw - lv) * t1) - (lv - lc) * s2) (show 0 < ld - lv by omega) (by omega) (by omega), x, by omega, sgn (z := -((lw - ld) * t1) - (ld - lc) * s2) (show 0 < ld - lv by omega) (by omega) (by omega)⟩
  · have n1 := A1 c1 c0
    have n2 := A4 c0 c2
    constructor
    · intro x
      refine Classical.byContradiction fun y => no1 ?_
      have p1 := Int.mul_pos (show 0 < ld - lc by omega) x
      have p2 := Int.mul_pos (show 0 < lc - lv by omega) (show 0 < t2 by omega)
      have p3 := Int.mul_pos (show 0 < lw - lv by omega) (show 0 < t2 by omega)
      have p4 := Int.mul_pos (show 0 < ld - lw by omega) x
      refine ⟨x, sgn (z := -((lw - lv) * t2) - (ld - lw) * s1) (show 0 < lw - lc by omega) (by omega) (by omega), sgn (z := -((ld - lc) * s1) - (lc - lv) * t2) (show 0 < lw - lc by omega) (by omega) (by omega), by omega⟩
    · intro x
      refine Classical.byContradiction fun y => no2 ?_
      have p1 := mnp (show 0 < ld - lc by omega) (show s1 < 0 by omega)
      have p2 := mnp (show 0 < lc - lv by omega) x
      have p3 := mnp (show 0 < lw - lv by omega) x
      have p4 := mnp (show 0 < ld - lw by omega) (show s1 < 0 by omega)
      refine ⟨by omega, sgp (z := -((lw - lv) * t2) - (ld - lw) * s1) (show 0 < lw - lc by omega) (by omega) (by omega), sgp (z := -((ld - lc) * s1) - (lc - lv) * t2) (show 0 < lw - lc by omega) (by omega) (by omega), x⟩
  · have n1 := A1 c1 (by omega)
    have n2 := A2 (by omega) c2
    constructor
    · intro x
      refine Classical.byContradiction fun y => no1 ?_
      have p1 := Int.mul_pos (show 0 < ld - lv by omega) x
      have p2 := mnp (show 0 < lc - lv by omega) (show s2 < 0 by omega)
      have p3 := Int.mul_pos (show 0 < lw - ld by omega) x
      have p4 := mnp (show 0 < lw - lc by omega) (show s2 < 0 by omega)
      refine ⟨x, by omega, sgn (show 0 < lw - lv by omega) e3 ?_, sgp (show 0 < lw - lv by omega) e4 ?_⟩
      · have : (lv - lc) * s2 = -((lc - lv) * s2) := by grind
        omega
      · have : (ld - lw) * s1 = -((lw - ld) * s1) := by grind
        omega
    · intro x
      refine Classical.byContradiction fun y => no2 ?_
      have p1 := mnp (show 0 < ld - lv by omega) (show s1 < 0 by omega)
      have p2 := Int.mul_pos (show 0 < lc - lv by omega) x
      have p3 := mnp (show 0 < lw - ld by omega) (show s1 < 0 by omega)
      have p4 := Int.mul_pos (show 0 < lw - lc by omega) x
      refine ⟨by omega, x, sgp (show 0 < lw - lv by omega) e3 ?_, sgn (show 0 < lw - lv by omega) e4 ?_⟩
      · have : (lv - lc) * s2 = -((lc - lv) * s2) := by grind
        omega
      · have : (ld - lw) * s1 = -((lw - ld) * s1) := by grind
        omega
def lA (A : Fm) (j : Nat) : Int := 6 * fX A j + fY A j
section
variable {A : Fm}
theorem lA_inj (hw : WF A) {i j : Nat} (hi : i < fN A) (hj : j < fN A) (e : lA A i = lA A j) : i = j := by
  have x1 := hw.1.2.2.1 i hi
  have x2 := hw.1.2.2.1 j hj
  unfold lA at e
  exact hw.2.1 i j hi hj (by omega) (by omega)
theorem tn_ids (A : Fm) (v w c d : Nat) : (lA A d - lA A c) * tn A v w c = -((lA A w - lA A c) * tn A c d v) - (lA A c - lA A v) * tn A c d w ∧ (lA A d - lA A c) * tn A v w d = -((lA A w - lA A d) * tn A c d v) - (lA A d - lA A v) * tn A c d w ∧ (lA A w - lA A v) * tn A c d v = -((lA A d - lA A v) * tn A v w c) - (lA A v - lA A c) * tn A v w d ∧ (lA A w - lA A v) * tn A c d w = -((lA A d - lA A w) * tn A v w c) - (lA A w - lA A c) * tn A v w d := by
  unfold lA tn
  refine ⟨?_, ?_, ?_, ?_⟩ <;> grind
end
def ck3 (x y p q : Int) : Bool := !(decide (x * q - y * p = 0) && decide (0 < 6 * p + q) && decide (6 * p + q < 6 * x + y)) || decide (p * p + q * q < x * p + y * q)
def ckB : Bool := (List.range 11).all fun a => (List.range 11).all fun b => (List.range 11).all fun c => (List.range 11).all fun d => ck3 ((a : Int) - 5) ((b : Int) - 5) ((c : Int) - 5) ((d : Int) - 5)
set_option maxRecDepth 100000 in
theorem ckB_t : ckB = true := by decide +kernel
theorem btw {x y p q : Int} (hx : -5 ≤ x ∧ x ≤ 5) (hy : -5 ≤ y ∧ y ≤ 5) (hp : -5 ≤ p ∧ p ≤ 5) (hq : -5 ≤ q ∧ q ≤ 5) (h1 : x * q - y * p = 0) (h2 : 0 < 6 * p + q) (h3 : 6 * p + q < 6 * x + y) : p * p + q * q < x * p + y * q := by
  have h := ckB_t
  unfold ckB at h
  have a := List.all_eq_true.mp h (x + 5).toNat (List.mem_range.mpr (by omega))
  have b := List.all_eq_true.mp a (y + 5).toNat (List.mem_range.mpr (by omega))
  have c := List.all_eq_true.mp b (p + 5).toNat (List.mem_range.mpr (by omega))
  have d := List.all_eq_true.mp c (q + 5).toNat (List.mem_range.mpr (by omega))
  rw [show (((x + 5).toNat : Nat) : Int) - 5 = x by omega, show (((y + 5).toNat : Nat) : Int) - 5 = y by omega, show (((p + 5).toNat : Nat) : Int) - 5 = p by omega, show (((q + 5).toNat : Nat) : Int) - 5 = q by omega] at d
  unfold ck3 at d
  simp only [Bool.or_eq_true, Bool.not_eq_true', Bool.and_eq_false_iff, decide_eq_false_iff_not, decide_eq_true_eq] at d
  rcases d with ((d | d) | d) | d
  · exact absurd h1 d
  · exact absurd h2 d
  · exact absurd h3 d
  · exact d
section
variable {A : Fm}
/-- no joint on a bar, seen from the side -/
theorem no_tn (hw : WF A) {h u : Nat} (hh : h < 2 * fM A) (hu : u < fN A) (h1 : lA A (fS A h) < lA A u) (h2 : lA A u < lA A (fE A h)) : tn A (fS A h) (fE A h) u ≠ 0 := by
  intro e
  have hB := hw.1
  have x1 := hB.2.2.1 _ (fS_lt hB hh)
  have x2 := hB.2.2.1 _ (fE_lt hB hh)
  have x3 := hB.2.2.1 u hu
  have n := no_on hw hh hu
  have : onP A (fS A h) (fE A h) (fX A u) (fY A u) = true := by
    rw [on_iff]
    unfold lA at h1 h2
    exact ⟨e, btw (by omega) (by omega) (by omega) (by omega) e (by omega) (by omega)⟩
  rw [n] at this
  cases this
theorem tn_sw (A : Fm) (a b u : Nat) : tn A a b u = - tn A b a u := by unfold tn; grind
theorem crB_sw (A : Fm) (a b c d : Nat) : crB A a b c d = crB A b a c d ∧ crB A a b c d = crB A a b d c := by
  have e1 : tn A a b c * tn A a b d = tn A b a c * tn A b a d := by rw [tn_sw A a b c, tn_sw A a b d]; grind
  have e2 : tn A c d a * tn A c d b = tn A c d b * tn A c d a := Int.mul_comm _ _
  have e3 : tn A a b c * tn A a b d = tn A a b d * tn A a b c := Int.mul_comm _ _
  have e4 : tn A c d a * tn A c d b = tn A d c a * tn A d c b := by rw [tn_sw A c d a, tn_sw A c d b]; grind
  unfold crB
  constructor
  · rw [← e1, e2]
  · rw [← e4, e3]
theorem no_cr (hw : WF A) {g h : Nat} (hg : g < 2 * fM A) (hh : h < 2 * fM A) : ¬ (tn A (fS A h) (fE A h) (fS A g) * tn A (fS A h) (fE A h) (fE A g) < 0 ∧ tn A (fS A g) (fE A g) (fS A h) * tn A (fS A g) (fE A g) (fE A h) < 0) := by
  have hb := hw.2.2.2.1 (h / 2) (by omega)
  unfold blk at hb
  rw [Bool.or_eq_false_iff] at hb
  have := ex_ff.mp hb.2 (g / 2) (by omega)
  have key : crB A (fS A h) (fE A h) (fS A g) (fE A g) = false := by
    have s1 : ∀ c d, crB A (fS A h) (fE A h) c d = crB A (fA A (h / 2)) (fB A (h / 2)) c d := by
      intro c d
      unfold fS fE
      by_cases x : h % 2 = 0
      · rw [if_pos x, if_pos x]
      · rw [if_neg x, if_neg x]; exact (crB_sw A _ _ c d).1
    rw [s1]
    unfold fS fE
    by_cases x : g % 2 = 0
    · rw [if_pos x, if_pos x]; exact this
    · rw [if_neg x, if_neg x, (crB_sw A _ _ _ _).2]; exact this
  intro ⟨a, b⟩
  have : crB A (fS A h) (fE A h) (fS A g) (fE A g) = true := by
    unfold crB
    simp only [Bool.and_eq_true, decide_eq_true_eq]
    exact ⟨a, b⟩
  rw [key] at this
  cases this
end
