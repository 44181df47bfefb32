def rt (A : Fm) (h : Nat) : Bool := decide (lA A (fS A h) < lA A (fE A h))
def cr (A : Fm) (h g : Nat) : Int := sX A h * sY A g - sY A h * sX A g
def iN (A : Fm) (h u : Nat) : Int := if lA A (fS A h) < lA A u ∧ lA A u < lA A (fE A h) ∧ 0 < tn A (fS A h) (fE A h) u then 1 else 0
def oV (A : Fm) (g u : Nat) : Int := if lA A (fS A g) < lA A u ∧ lA A u < lA A (fE A g) ∧ tn A (fS A g) (fE A g) u < 0 then 1 else 0
def lF (A : Fm) (h g : Nat) : Int := if fS A g = fS A h then (if 0 < cr A h g then 1 else 0) else oV A g (fS A h)
def rT (A : Fm) (h g : Nat) : Int := if fE A g = fE A h then (if cr A h g < 0 then 1 else 0) else oV A g (fE A h)
theorem ind4 {v w c d s1 s2 t1 t2 : Int} (rh : v < w) (rg : c < d) (n1 : c ≠ v) (n2 : d ≠ w) (q1 : c < v → w < d → (t1 < 0 ↔ t2 < 0)) (q2 : c < v → v < d → d < w → (t1 < 0 ↔ 0 < s2)) (q3 : v < c → c < w → w < d → (0 < s1 ↔ t2 < 0)) (q4 : v < c → d < w → (0 < s1 ↔ 0 < s2)) : (if c < v ∧ v < d ∧ t1 < 0 then (1 : Int) else 0) + (if v < c ∧ c < w ∧ 0 < s1 then 1 else 0) = (if c < w ∧ w < d ∧ t2 < 0 then 1 else 0) + (if v < d ∧ d < w ∧ 0 < s2 then 1 else 0) := by
  by_cases o1 : c < v
  · by_cases o2 : w < d
    · have q := q1 o1 o2
      clear q1 q2 q3 q4
      by_cases p : t1 < 0
      · have p2 := q.mp p
        clear q
        rw [if_pos (by omega), if_neg (by omega), if_pos (by omega), if_neg (by omega)]
      · have p2 : ¬ t2 < 0 := fun x => p (q.mpr x)
        clear q
        rw [if_neg (by omega), if_neg (by omega), if_neg (by omega), if_neg (by omega)]
    · by_cases o3 : v < d
      · have q := q2 o1 o3 (by omega)
        clear q1 q2 q3 q4
        by_cases p : t1 < 0
        · have p2 := q.mp p
          clear q
          rw [if_pos (by omega), if_neg (by omega), if_neg (by omega), if_pos (by omega)]; rfl
        · have p2 : ¬ 0 < s2 := fun x => p (q.mpr x)
          clear q
          rw [if_neg (by omega), if_neg (by omega), if_neg (by omega), if_neg (by omega)]
      · clear q1 q2 q3 q4
        rw [if_neg (by omega), if_neg (by omega), if_neg (by omega), if_neg (by omega)]
  · by_cases o3 : c < w
    · by_cases o2 : w < d
      · have q := q3 (by omega) o3 o2
        clear q1 q2 q3 q4
        by_cases p : 0 < s1
        · have p2 := q.mp p
          clear q
          rw [if_neg (by omega), if_pos (by omega), if_pos (by omega), if_neg (by omega)]; rfl
        · have p2 : ¬ t2 < 0 := fun x => p (q.mpr x)
          clear q
          rw [if_neg (by omega), if_neg (by omega), if_neg (by omega), if_neg (by omega)]
      · have q := q4 (by omega) (by omega)
        clear q1 q2 q3 q4
        by_cases p : 0 < s1
        · have p2 := q.mp p
          clear q
          rw [if_neg (by omega), if_pos (by omega), if_neg (by omega), if_pos (by omega)]
        · have p2 : ¬ 0 < s2 := fun x => p (q.mpr x)
          clear q
          rw [if_neg (by omega), if_neg (by omega), if_neg (by omega), if_neg (by omega)]
    · clear q1 q2 q3 q4
      rw [if_neg (by omega), if_neg (by omega), if_neg (by omega), if_neg (by omega)]
section
variable {A : Fm}
theorem half_eq (hw : WF A) {g h : Nat} (hg : g < 2 * fM A) (hh : h < 2 * fM A) (e1 : fS A g = fS A h) (e2 : fE A g = fE A h) : g = h := by
  refine ky_inj hw hg hh e1 ?_
  unfold ky sX sY
  rw [e1, e2]
theorem bar4 (hw : WF A) {g h : Nat} (hg : g < 2 * fM A) (hh : h < 2 * fM A) (rg : lA A (fS A g) < lA A (fE A g)) (rh : lA A (fS A h) < lA A (fE A h)) : lF A h g + iN A h (fS A g) = rT A h g + iN A h (fE A g) := by
  have hB := hw.1
  have lv := fS_lt hB hh
  have lw := fE_lt hB hh
  have lc := fS_lt hB hg
  have ld := fE_lt hB hg
  have c1 : cr A h g = (fX A (fE A h) - fX A (fS A h)) * (fY A (fE A g) - fY A (fS A g)) - (fY A (fE A h) - fY A (fS A h)) * (fX A (fE A g) - fX A (fS A g)) := rfl
  have a3 := no_tn hw (h := g) (u := fS A h) hg lv
  have a4 := no_tn hw (h := g) (u := fE A h) hg lw
  have a1 := no_tn hw (h := h) (u := fS A g) hh lc
  have a2 := no_tn hw (h := h) (u := fE A g) hh ld
  have no := no_cr hw hg hh
  obtain ⟨i1, i2, i3, i4⟩ := tn_ids A (fS A h) (fE A h) (fS A g) (fE A g)
  unfold lF rT
  by_cases e1 : fS A g = fS A h
  · rw [if_pos e1]
    by_cases e2 : fE A g = fE A h
    · have := half_eq hw hg hh e1 e2
      subst this
      have z : cr A g g = 0 := by unfold cr; rw [Int.mul_comm (sX A g)]; omega
      rw [if_pos rfl, z]
      unfold iN
      clear i1 i2 i3 i4 no a1 a2 a3 a4
      rw [if_neg (by omega), if_neg (by omega), if_neg (by omega)]
    · rw [if_neg e2]
      have ne : lA A (fE A g) ≠ lA A (fE A h) := fun e => e2 (lA_inj hw ld lw e)
      have k1 : cr A h g = tn A (fS A h) (fE A h) (fE A g) := by rw [c1]; unfold tn; rw [e1]
      have k2 : tn A (fS A g) (fE A g) (fE A h) = - cr A h g := by rw [c1]; unfold tn; rw [e1]; grind
      unfold iN oV
      clear i1 i2 i3 i4 no a1 a2 a3 a4
      rw [k2, ← k1, e1]
      rw [e1] at rg
      by_cases o : lA A (fE A g) < lA A (fE A h)
      · by_cases p : 0 < cr A h g
        · rw [if_pos p, if_neg (by omega), if_neg (by omega), if_pos (by omega)]; rfl
        · rw [if_neg p, if_neg (by omega), if_neg (by omega), if_neg (by omega)]
      · by_cases p : 0 < cr A h g
        · rw [if_pos p, if_neg (by omega), if_pos (by omega), if_neg (by omega)]
        · rw [if_neg p, if_neg (by omega), if_neg (by omega), if_neg (by omega)]
  · rw [if_neg e1]
    have n1 : lA A (fS A g) ≠ lA A (fS A h) := fun e => e1 (lA_inj hw lc lv e)
    by_cases e2 : fE A g = fE A h
    · rw [if_pos e2]
      have k1 : cr A h g = - tn A (fS A h) (fE A h) (fS A g) := by rw [c1]; unfold tn; rw [e2]; grind
      have k2 : tn A (fS A g) (fE A g) (fS A h) = cr A h g := by rw [c1]; unfold tn; rw [e2]; grind
      unfold iN oV
      clear i1 i2 i3 i4 no a1 a2 a3 a4
      rw [k2, e2]
      rw [e2] at rg
      have k3 : tn A (fS A h) (fE A h) (fS A g) = - cr A h g := by omega
      rw [k3]
      by_cases o : lA A (fS A g) < lA A (fS A h)
      · by_cases p : cr A h g < 0
        · rw [if_pos (by omega), if_neg (by omega), if_pos p, if_neg (by omega)]
        · rw [if_neg (by omega), if_neg (by omega), if_neg p, if_neg (by omega)]
      · by_cases p : cr A h g < 0
        · rw [if_neg (by omega), if_pos (by omega), if_pos p, if_neg (by omega)]; rfl
        · rw [if_neg (by omega), if_neg (by omega), if_neg p, if_neg (by omega)]
    · rw [if_neg e2]
      have n2 : lA A (fE A g) ≠ lA A (fE A h) := fun e => e2 (lA_inj hw ld lw e)
      obtain ⟨q1, q2, q3, q4⟩ := core4 rh rg i1 i2 i3 i4 no a1 a2 a3 a4
      unfold iN oV
      exact ind4 rh rg n1 n2 q1 q2 q3 q4
theorem sm_bk (f : Nat → Int) (m : Nat) : sm (2 * m) f = sm (2 * m) (fun g => f (bk g)) := by
  rw [sm_half, sm_half]
  refine sm_congr fun k _ => ?_
  have e1 : bk (2 * k) = 2 * k + 1 := by unfold bk; rw [if_pos (by omega)]
  have e2 : bk (2 * k + 1) = 2 * k := by unfold bk; rw [if_neg (by omega)]; omega
  rw [e1, e2]; omega
theorem rt_bk (hw : WF A) {g : Nat} (hg : g < 2 * fM A) : rt A (bk g) = !rt A g := by
  have : lA A (fS A g) ≠ lA A (fE A g) := fun e => fS_ne hw.1 hg (lA_inj hw (fS_lt hw.1 hg) (fE_lt hw.1 hg) e)
  unfold rt
  rw [fS_bk, fE_bk]
  by_cases c : lA A (fS A g) < lA A (fE A g)
  · rw [decide_eq_true c, decide_eq_false (by omega)]; rfl
  · rw [decide_eq_false c, decide_eq_true (by omega)]; rfl
variable {F : Nat → Int}
/-- what comes together at joints -/
theorem sum_in (hw : WF A) (hF : Fo A F) (w : Nat → Int) : sm (2 * fM A) (fun g => if rt A g = true then F g * (w (fE A g) - w (fS A g)) else 0) = 0 := by
  have hB := hw.1
  have e1 : sm (2 * fM A) (fun g => F g * w (fS A g)) = 0 := by
    have : sm (2 * fM A) (fun g => F g * w (fS A g)) = sm (2 * fM A) (fun g => sm (fN A) (fun j => w j * (if fS A g = j then F g else 0))) := sm_congr fun g hg => by
      rw [sm_one (k := fS A g) (fS_lt hB hg) (fun j _ hne => by rw [if_neg (fun e => hne e.symm), Int.mul_zero]), if_pos rfl, Int.mul_comm]
    rw [this, sm_swap]
    exact sm_zero fun j hj => by rw [sm_mul, hF.2 j hj, Int.mul_zero]
  have e2 : sm (2 * fM A) (fun g => F g * w (fS A g)) = sm (2 * fM A) (fun g => if rt A g = true then F g * w (fS A g) else 0) + sm (2 * fM A) (fun g => if rt A g = true then 0 else F g * w (fS A g)) := by
    rw [← sm_add]
    refine sm_congr fun g _ => ?_
    by_cases c : rt A g = true
    · rw [if_pos c, if_pos c]; omega
    · rw [if_neg c, if_neg c]; omega
  have e3 : sm (2 * fM A) (fun g => if rt A g = true then 0 else F g * w (fS A g)) = - sm (2 * fM A) (fun g => if rt A g = true then F g * w (fE A g) else 0) := by
    rw [sm_bk, ← sm_neg]
    refine sm_congr fun g hg => ?_
    show (if rt A (bk g) = true then 0 else F (bk g) * w (fS A (bk g))) = _
    rw [rt_bk hw hg, fS_bk, hF.1 g hg]
    cases rt A g with
    | true => rw [if_neg (by decide), if_pos rfl]; grind
    | false => rw [if_pos (show (!false) = true from rfl), if_neg (by decide)]; rfl
  have e4 : sm (2 * fM A) (fun g => if rt A g = true then F g * (w (fE A g) - w (fS A g)) else 0) = sm (2 * fM A) (fun g => if rt A g = true then F g * w (fE A g) else 0) - sm (2 * fM A) (fun g => if rt A g = true then F g * w (fS A g) else 0) := by
    rw [← sm_sub]
    refine sm_congr fun g _ => ?_
    by_cases c : rt A g = true
    · rw [if_pos c, if_pos c, if_pos c]; grind
    · rw [if_neg c, if_neg c, if_neg c]; omega
  rw [e4]
  omega
/-- on both sides of a bar the same lies above it -/
theorem left_right (hw : WF A) (hF : Fo A F) {h : Nat} (hh : h < 2 * fM A) (rh : rt A h = true) : sm (2 * fM A) (fun g => if rt A g = true then F g * lF A h g else 0) = sm (2 * fM A) (fun g => if rt A g = true then F g * rT A h g else 0) := by
  have z := sum_in hw hF (iN A h)
  have e : sm (2 * fM A) (fun g => if rt A g = true then F g * (iN A h (fE A g) - iN A h (fS A g)) else 0) = sm (2 * fM A) (fun g => if rt A g = true then F g * lF A h g else 0) - sm (2 * fM A) (fun g => if rt A g = true then F g * rT A h g else 0) := by
    rw [← sm_sub]
    refine sm_congr fun g hg => ?_
    by_cases c : rt A g = true
    · rw [if_pos c, if_pos c, if_pos c]
      have := bar4 hw hg hh (by unfold rt at c; simpa using c) (by unfold rt at rh; simpa using rh)
      have : iN A h (fE A g) - iN A h (fS A g) = lF A h g - rT A h g := by omega
      rw [this]; grind
    · rw [if_neg c, if_neg c, if_neg c]; omega
  omega
end
