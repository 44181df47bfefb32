def bi (p : Bool) : Int := if p = true then 1 else 0
def upv (x y : Int) : Bool := decide (0 < 6 * x + y) && !lw x y
def ck4 (x y p q : Int) : Bool := (decide (x = 0) && decide (y = 0)) || (decide (p = 0) && decide (q = 0)) || (if 0 < 6 * x + y then decide (bi (upv p q) - bi (decide (kk p q ≤ kk x y)) - bi (decide (0 < 6 * p + q) && decide (0 < x * q - y * p)) = if lw x y = true then -1 else 0) else decide (bi (upv p q) - bi (decide (kk p q < kk x y)) + bi (!decide (0 < 6 * p + q) && decide (x * q - y * p < 0)) = 0))
def ckC : Bool := (List.range 11).all fun a => (List.range 11).all fun b => (List.range 11).all fun c => (List.range 11).all fun d => ck4 ((a : Int) - 5) ((b : Int) - 5) ((c : Int) - 5) ((d : Int) - 5)
set_option maxRecDepth 100000 in
theorem ckC_t : ckC = true := by decide +kernel
theorem ways {x y p q : Int} (hx : -5 ≤ x ∧ x ≤ 5) (hy : -5 ≤ y ∧ y ≤ 5) (hp : -5 ≤ p ∧ p ≤ 5) (hq : -5 ≤ q ∧ q ≤ 5) (h1 : ¬ (x = 0 ∧ y = 0)) (h2 : ¬ (p = 0 ∧ q = 0)) : (0 < 6 * x + y → bi (upv p q) - bi (decide (kk p q ≤ kk x y)) - bi (decide (0 < 6 * p + q) && decide (0 < x * q - y * p)) = if lw x y = true then -1 else 0) ∧ (¬ 0 < 6 * x + y → bi (upv p q) - bi (decide (kk p q < kk x y)) + bi (!decide (0 < 6 * p + q) && decide (x * q - y * p < 0)) = 0) := by
  have h := ckC_t
  unfold ckC at h
  have a := List.all_eq_true.mp h (x + 5).toNat (List.mem_range.mpr (by omega))
  have b := List.all_eq_true.mp a (y + 5).toNat (List.mem_range.mpr (by omega))
  have c := List.all_eq_true.mp b (p + 5).toNat (List.mem_range.mpr (by omega))
  have d := List.all_eq_true.mp c (q + 5).toNat (List.mem_range.mpr (by omega))
  rw [show (((x + 5).toNat : Nat) : Int) - 5 = x by omega, show (((y + 5).toNat : Nat) : Int) - 5 = y by omega, show (((p + 5).toNat : Nat) : Int) - 5 = p by omega, show (((q + 5).toNat : Nat) : Int) - 5 = q by omega] at d
  unfold ck4 at d
  rw [Bool.or_eq_true, Bool.or_eq_true] at d
  rcases d with (d | d) | d
  · simp only [Bool.and_eq_true, decide_eq_true_eq] at d; exact absurd d h1
  · simp only [Bool.and_eq_true, decide_eq_true_eq] at d; exact absurd d h2
  · constructor
    · intro e; rw [if_pos e, decide_eq_true_eq] at d; exact d
    · intro e; rw [if_neg e, decide_eq_true_eq] at d; exact d
def up1 (A : Fm) (g : Nat) : Bool := upv (sX A g) (sY A g)
def kO (A : Fm) (F : Nat → Int) (v : Nat) : Int := sm (2 * fM A) (fun g => if rt A g = true then F g * oV A g v else 0) + sm (2 * fM A) (fun g => if fS A g = v then F g * bi (up1 A g) else 0)
def tO (A : Fm) (F : Nat → Int) (h : Nat) : Int := sm (2 * fM A) (fun g => if fS A g = fS A h then F g * bi (decide (ky A g ≤ ky A h)) else 0)
/-- what lies above beside a half bar -/
def psi (A : Fm) (F : Nat → Int) (h : Nat) : Int := tO A F h - kO A F (fS A h)
section
variable {A : Fm} {F : Nat → Int}
theorem rt_v (A : Fm) (h : Nat) : rt A h = decide (0 < 6 * sX A h + sY A h) := by
  unfold rt lA sX sY
  by_cases c : 6 * fX A (fS A h) + fY A (fS A h) < 6 * fX A (fE A h) + fY A (fE A h)
  · rw [decide_eq_true c, decide_eq_true (by omega)]
  · rw [decide_eq_false c, decide_eq_false (by omega)]
theorem tO_lt (hw : WF A) {e : Nat} (he : e < 2 * fM A) : tO A F e = sm (2 * fM A) (fun g => if fS A g = fS A e then F g * bi (decide (ky A g < ky A e)) else 0) + F e := by
  have : F e = sm (2 * fM A) (fun g => if g = e then F e else 0) := by rw [sm_one (k := e) he (fun i _ hne => if_neg hne), if_pos rfl]
  rw [this, ← sm_add]
  refine sm_congr fun g hg => ?_
  by_cases c : g = e
  · subst c
    rw [if_pos rfl, if_pos rfl, if_pos rfl, decide_eq_true (Int.le_refl _), decide_eq_false (Int.lt_irrefl _)]
    unfold bi
    rw [if_pos rfl, if_neg (by decide)]; omega
  · rw [if_neg c]
    by_cases c2 : fS A g = fS A e
    · rw [if_pos c2, if_pos c2]
      have : ky A g ≠ ky A e := fun x => c (ky_inj hw hg he c2 x)
      have e2 : decide (ky A g ≤ ky A e) = decide (ky A g < ky A e) := by
        by_cases y : ky A g < ky A e
        · rw [decide_eq_true y, decide_eq_true (by omega)]
        · rw [decide_eq_false y, decide_eq_false (by omega)]
      rw [e2]; omega
    · rw [if_neg c2, if_neg c2]; rfl
theorem oV_self (A : Fm) {g v : Nat} (h : fS A g = v ∨ fE A g = v) : oV A g v = 0 := by
  unfold oV
  refine if_neg fun ⟨a, b, _⟩ => ?_
  rcases h with h | h
  · rw [h] at a; omega
  · rw [h] at b; omega
/-- at the start of a half bar that goes right -/
theorem psi_l (hw : WF A) (hF : Fo A F) {h : Nat} (hh : h < 2 * fM A) (rh : rt A h = true) : sm (2 * fM A) (fun g => if rt A g = true then F g * lF A h g else 0) = - psi A F h := by
  have hB := hw.1
  have bh := step_le hB hh
  have e1 : sm (2 * fM A) (fun g => if rt A g = true then F g * lF A h g else 0) = sm (2 * fM A) (fun g => if rt A g = true then F g * oV A g (fS A h) else 0) + sm (2 * fM A) (fun g => if fS A g = fS A h then F g * bi (rt A g && decide (0 < cr A h g)) else 0) := by
    rw [← sm_add]
    refine sm_congr fun g _ => ?_
    unfold lF
    by_cases c2 : fS A g = fS A h
    · rw [if_pos c2, if_pos c2, oV_self A (Or.inl c2)]
      cases rt A g with
      | true =>
        rw [if_pos rfl, if_pos rfl, Bool.true_and]
        unfold bi
        by_cases x : 0 < cr A h g
        · rw [if_pos x, if_pos (decide_eq_true x)]; omega
        · rw [if_neg x, if_neg (by rw [decide_eq_false x]; decide)]; omega
      | false => rw [if_neg (by decide), if_neg (by decide), Bool.false_and]; unfold bi; rw [if_neg (by decide)]; omega
    · rw [if_neg c2, if_neg c2]; omega
  have e2 : sm (2 * fM A) (fun g => if fS A g = fS A h then F g * bi (up1 A g) else 0) - tO A F h - sm (2 * fM A) (fun g => if fS A g = fS A h then F g * bi (rt A g && decide (0 < cr A h g)) else 0) = 0 := by
    unfold tO
    rw [← sm_sub, ← sm_sub]
    have : sm (2 * fM A) (fun g => (if fS A g = fS A h then F g * bi (up1 A g) else 0) - (if fS A g = fS A h then F g * bi (decide (ky A g ≤ ky A h)) else 0) - (if fS A g = fS A h then F g * bi (rt A g && decide (0 < cr A h g)) else 0)) = sm (2 * fM A) (fun g => (if lw (sX A h) (sY A h) = true then -1 else 0) * (if fS A g = fS A h then F g else 0)) := by
      refine sm_congr fun g hg => ?_
      by_cases c2 : fS A g = fS A h
      · rw [if_pos c2, if_pos c2, if_pos c2, if_pos c2]
        have bg := step_le hB hg
        have w := (ways bh.1 bh.2 bg.1 bg.2 (st_ne hw hh) (st_ne hw hg)).1 (by rw [rt_v] at rh; simpa using rh)
        rw [rt_v]
        have w' : bi (up1 A g) - bi (decide (ky A g ≤ ky A h)) - bi (decide (0 < 6 * sX A g + sY A g) && decide (0 < cr A h g)) = if lw (sX A h) (sY A h) = true then -1 else 0 := w
        rw [← w']
        grind
      · rw [if_neg c2, if_neg c2, if_neg c2, if_neg c2]; simp
    rw [this, sm_mul, hF.2 _ (fS_lt hB hh), Int.mul_zero]
  rw [e1]
  unfold psi kO
  omega
/-- and at its end -/
theorem psi_r (hw : WF A) (hF : Fo A F) {h : Nat} (hh : h < 2 * fM A) (rh : rt A h = true) : sm (2 * fM A) (fun g => if rt A g = true then F g * rT A h g else 0) = - psi A F (bk h) + F (bk h) := by
  have hB := hw.1
  have hb := bk_lt hh
  have bh := step_le hB hb
  have rb := rt_bk hw hh
  rw [rh] at rb
  have e1 : sm (2 * fM A) (fun g => if rt A g = true then F g * rT A h g else 0) = sm (2 * fM A) (fun g => if rt A g = true then F g * oV A g (fE A h) else 0) + sm (2 * fM A) (fun g => if fE A g = fE A h then F g * bi (rt A g && decide (cr A h g < 0)) else 0) := by
    rw [← sm_add]
    refine sm_congr fun g _ => ?_
    unfold rT
    by_cases c2 : fE A g = fE A h
    · rw [if_pos c2, if_pos c2, oV_self A (Or.inr c2)]
      cases rt A g with
      | true =>
        rw [if_pos rfl, if_pos rfl, Bool.true_and]
        unfold bi
        by_cases x : cr A h g < 0
        · rw [if_pos x, if_pos (decide_eq_true x)]; omega
        · rw [if_neg x, if_neg (by rw [decide_eq_false x]; decide)]; omega
      | false => rw [if_neg (by decide), if_neg (by decide), Bool.false_and]; unfold bi; rw [if_neg (by decide)]; omega
    · rw [if_neg c2, if_neg c2]; omega
  have e3 : sm (2 * fM A) (fun g => if fE A g = fE A h then F g * bi (rt A g && decide (cr A h g < 0)) else 0) = - sm (2 * fM A) (fun g => if fS A g = fS A (bk h) then F g * bi (!rt A g && decide (cr A (bk h) g < 0)) else 0) := by
    rw [sm_bk, ← sm_neg]
    refine sm_congr fun g hg => ?_
    show (if fE A (bk g) = fE A h then F (bk g) * bi (rt A (bk g) && decide (cr A h (bk g) < 0)) else 0) = _
    rw [fE_bk, fS_bk, rt_bk hw hg, hF.1 g hg]
    have : cr A h (bk g) = cr A (bk h) g := by unfold cr; rw [sX_bk, sY_bk, sX_bk, sY_bk]; grind
    rw [this]
    by_cases c2 : fS A g = fE A h
    · rw [if_pos c2, if_pos c2]; grind
    · rw [if_neg c2, if_neg c2]; rfl
  have e2 : sm (2 * fM A) (fun g => if fS A g = fS A (bk h) then F g * bi (up1 A g) else 0) - sm (2 * fM A) (fun g => if fS A g = fS A (bk h) then F g * bi (decide (ky A g < ky A (bk h))) else 0) + sm (2 * fM A) (fun g => if fS A g = fS A (bk h) then F g * bi (!rt A g && decide (cr A (bk h) g < 0)) else 0) = 0 := by
    rw [← sm_sub, ← sm_add]
    refine sm_zero fun g hg => ?_
    by_cases c2 : fS A g = fS A (bk h)
    · rw [if_pos c2, if_pos c2, if_pos c2]
      have bg := step_le hB hg
      have w := (ways bh.1 bh.2 bg.1 bg.2 (st_ne hw hb) (st_ne hw hg)).2 (by rw [rt_v] at rb; simpa using rb)
      rw [rt_v]
      have w' : bi (up1 A g) - bi (decide (ky A g < ky A (bk h))) + bi (!decide (0 < 6 * sX A g + sY A g) && decide (cr A (bk h) g < 0)) = 0 := w
      have : F g * bi (up1 A g) - F g * bi (decide (ky A g < ky A (bk h))) + F g * bi (!decide (0 < 6 * sX A g + sY A g) && decide (cr A (bk h) g < 0)) = F g * (bi (up1 A g) - bi (decide (ky A g < ky A (bk h))) + bi (!decide (0 < 6 * sX A g + sY A g) && decide (cr A (bk h) g < 0))) := by grind
      rw [this, w', Int.mul_zero]
    · rw [if_neg c2, if_neg c2, if_neg c2]; rfl
  have e4 := tO_lt (F := F) hw hb
  rw [e1, e3]
  unfold psi kO
  rw [e4, fS_bk]
  rw [fS_bk] at e2
  omega
theorem psi_bk (hw : WF A) (hF : Fo A F) {h : Nat} (hh : h < 2 * fM A) : psi A F h - psi A F (bk h) = F h := by
  have f := hF.1 h hh
  cases c : rt A h with
  | true =>
    have := left_right hw hF hh c
    rw [psi_l hw hF hh c, psi_r hw hF hh c] at this
    omega
  | false =>
    have hb := bk_lt hh
    have rb : rt A (bk h) = true := by rw [rt_bk hw hh, c]; rfl
    have := left_right hw hF hb rb
    rw [psi_l hw hF hb rb, psi_r hw hF hb rb, bk_bk] at this
    omega
theorem ky_trn (hw : WF A) {g h : Nat} (hg : g < 2 * fM A) (hh : h < 2 * fM A) (hs : fS A g = fS A h) : (ky A g ≤ ky A h ↔ trn A g ≤ trn A h) ∧ (ky A g < ky A h ↔ trn A g < trn A h) := by
  rcases Int.lt_trichotomy (ky A g) (ky A h) with c | c | c
  · have := trn_mono hw hg hh hs c; omega
  · have := ky_inj hw hg hh hs c
    subst this
    omega
  · have := trn_mono hw hh hg hs.symm c; omega
/-- around a joint -/
theorem psi_nx (hw : WF A) (hF : Fo A F) {h : Nat} (hh : h < 2 * fM A) : psi A F (nx A h) = psi A F h := by
  have hb := bk_lt hh
  obtain ⟨n1, n2, n3⟩ := nx_spec hw hh
  have dp := dg_pos hw hh
  have tb := trn_lt hw hb
  rw [fS_bk] at tb
  have e1 := psi_bk hw hF hh
  have e2 := hF.1 h hh
  have e3 : tO A F (nx A h) = tO A F (bk h) - F (bk h) := by
    rw [tO_lt hw hb]
    unfold tO
    rw [n2, fS_bk]
    by_cases c : trn A (bk h) = 0
    · have z1 : sm (2 * fM A) (fun g => if fS A g = fE A h then F g * bi (decide (ky A g < ky A (bk h))) else 0) = 0 := sm_zero fun g hg => by
        by_cases c2 : fS A g = fE A h
        · have := (ky_trn hw hg hb (by rw [fS_bk]; exact c2)).2
          rw [if_pos c2, decide_eq_false (by omega)]
          unfold bi; rw [if_neg (by decide)]; omega
        · exact if_neg c2
      have z2 : sm (2 * fM A) (fun g => if fS A g = fE A h then F g * bi (decide (ky A g ≤ ky A (nx A h))) else 0) = 0 := by
        refine Eq.trans (sm_congr (g := fun g => if fS A g = fE A h then F g else 0) fun g hg => ?_) (hF.2 _ (fE_lt hw.1 hh))
        by_cases c2 : fS A g = fE A h
        · have k := (ky_trn hw hg n1 (by rw [n2]; exact c2)).1
          have tg := trn_lt hw hg
          rw [c2] at tg
          rw [c, show 0 + dg A (fE A h) - 1 = dg A (fE A h) - 1 by omega, Nat.mod_eq_of_lt (by omega)] at n3
          rw [if_pos c2, if_pos c2, decide_eq_true (k.mpr (by omega))]
          unfold bi; rw [if_pos rfl]; omega
        · rw [if_neg c2, if_neg c2]
      rw [z1, z2]; omega
    · have : sm (2 * fM A) (fun g => if fS A g = fE A h then F g * bi (decide (ky A g ≤ ky A (nx A h))) else 0) = sm (2 * fM A) (fun g => if fS A g = fE A h then F g * bi (decide (ky A g < ky A (bk h))) else 0) := sm_congr fun g hg => by
        by_cases c2 : fS A g = fE A h
        · have k1 := (ky_trn hw hg n1 (by rw [n2]; exact c2)).1
          have k2 := (ky_trn hw hg hb (by rw [fS_bk]; exact c2)).2
          rw [show trn A (bk h) + dg A (fE A h) - 1 = (trn A (bk h) - 1) + dg A (fE A h) by omega, Nat.add_mod_right, Nat.mod_eq_of_lt (by omega)] at n3
          have : decide (ky A g ≤ ky A (nx A h)) = decide (ky A g < ky A (bk h)) := by
            by_cases y : trn A g < trn A (bk h)
            · rw [decide_eq_true (k1.mpr (by omega)), decide_eq_true (k2.mpr y)]
            · rw [decide_eq_false (fun x => by have := k1.mp x; omega), decide_eq_false (fun x => y (k2.mp x))]
          rw [this]
        · rw [if_neg c2, if_neg c2]
      rw [this]; omega
  unfold psi at e1 ⊢
  rw [e3, n2]
  rw [fS_bk] at e1
  omega
end
