section
variable {A : Fm}
/-- a stress by the bars that lead -/
theorem Rst_K (hB : BF A) {z : Nat → Int} (hz : Rst A z) {i : Nat} (hi : i < fM A) : (bS A all1).2.1 * z i = sm (nS A) (fun j => z (ldr (lead (bS A all1)) (fM A) j) * nU A j i) := by
  obtain ⟨y, hy⟩ : ∃ y : Nat → Int, y = fun i => (bS A all1).2.1 * z i - sm (nS A) (fun j => z (ldr (lead (bS A all1)) (fM A) j) * nU A j i) := ⟨_, rfl⟩
  have y0 : ∀ l, l < fM A → rO (bS A all1) l = none → y l = 0 := by
    intro l hl hr
    have hq : lead (bS A all1) l = true := by unfold lead; rw [hr]; rfl
    have e1 : ∀ j, nU A j l = if l = ldr (lead (bS A all1)) (fM A) j then (bS A all1).2.1 else 0 := fun j => by
      unfold nU nB
      rw [hr]
    have e2 : sm (nS A) (fun j => z (ldr (lead (bS A all1)) (fM A) j) * nU A j l) = z l * (bS A all1).2.1 := by
      have le := ldr_eq (m := fM A) hl hq
      rw [sm_one (k := cnt (lead (bS A all1)) l) (show cnt (lead (bS A all1)) l < nS A from cnt_lt hl hq) (fun j hj hne => by
        rw [e1 j, if_neg (fun c => hne (by
          have := (ldr_spec (q := lead (bS A all1)) (m := fM A) hj).2.2
          rw [← c] at this
          exact this.symm)), Int.mul_zero]), e1, le, if_pos rfl]
    rw [hy]
    show (bS A all1).2.1 * z l - sm (nS A) (fun j => z (ldr (lead (bS A all1)) (fM A) j) * nU A j l) = 0
    rw [e2, Int.mul_comm]
    omega
  have yR : Rst A y := by
    intro r hr
    have e1 : sm (fM A) (fun k => mA A all1 r k * y k) = (bS A all1).2.1 * sm (fM A) (fun k => mA A all1 r k * z k) - sm (fM A) (fun k => sm (nS A) (fun j => z (ldr (lead (bS A all1)) (fM A) j) * (mA A all1 r k * nU A j k))) := by
      rw [← sm_mul, ← sm_sub]
      refine sm_congr fun k _ => ?_
      rw [hy]
      show mA A all1 r k * ((bS A all1).2.1 * z k - sm (nS A) (fun j => z (ldr (lead (bS A all1)) (fM A) j) * nU A j k)) = _
      rw [Int.mul_sub, ← sm_mul]
      have e2 : sm (nS A) (fun j => mA A all1 r k * (z (ldr (lead (bS A all1)) (fM A) j) * nU A j k)) = sm (nS A) (fun j => z (ldr (lead (bS A all1)) (fM A) j) * (mA A all1 r k * nU A j k)) := sm_congr fun j _ => by grind
      rw [e2]
      grind
    rw [e1, hz r hr, sm_swap, sm_zero (fun j hj => by
      have sp := ldr_spec (q := lead (bS A all1)) (m := fM A) hj
      rw [sm_mul, show sm (fM A) (fun k => mA A all1 r k * nU A j k) = 0 from nB_rest hB.2.1 (bI (q := all1) hB) sp.1 sp.2.1 hr, Int.mul_zero])]
    omega
  have hinj : ∀ i l, i < (bS A all1).2.2.1 → l < (bS A all1).2.2.1 → (bS A all1).2.2.2 i = (bS A all1).2.2.2 l → i = l := fun i l h1 h2 e => BI_inj hB.2.1 (bI hB) h1 h2 e
  have ye : ∀ k, k < fM A → y k = sm (bS A all1).2.2.1 (fun t => if (bS A all1).2.2.2 t = k then y ((bS A all1).2.2.2 t) else 0) := by
    intro k hk
    rw [← ro_sum (fun t => y ((bS A all1).2.2.2 t)) (bS A all1).2.2.1 k hinj]
    have h0 := y0 k hk
    unfold rO at h0
    cases c : ro (bS A all1).2.2.2 k (bS A all1).2.2.1 with
    | none => exact h0 c
    | some t =>
      show y k = y ((bS A all1).2.2.2 t)
      rw [(ro_lt c).2]
  have yp : ∀ t, t < (bS A all1).2.2.1 → y ((bS A all1).2.2.2 t) = 0 := by
    refine pq_ind (q := all1) hB (x := fun t => y ((bS A all1).2.2.2 t)) fun r hr => ?_
    have e1 : sm (fM A) (fun k => mA A all1 r k * y k) = sm (fM A) (fun k => sm (bS A all1).2.2.1 (fun t => mA A all1 r k * (if (bS A all1).2.2.2 t = k then y ((bS A all1).2.2.2 t) else 0))) := sm_congr fun k hk => by
      rw [sm_mul, ← ye k hk]
    rw [← yR r hr, e1, sm_swap]
    refine sm_congr fun t ht => ?_
    rw [sm_one (k := (bS A all1).2.2.2 t) (pq_m hB ht) (fun k _ hne => by rw [if_neg (fun e => hne e.symm), Int.mul_zero]), if_pos rfl, Int.mul_comm]
  have yi : y i = 0 := by
    rw [ye i hi]
    exact sm_zero fun t ht => by
      rw [yp t ht]
      split <;> rfl
  rw [hy] at yi
  have yi : (bS A all1).2.1 * z i - sm (nS A) (fun j => z (ldr (lead (bS A all1)) (fM A) j) * nU A j i) = 0 := yi
  omega
/-- stresses told apart by as many bars: no more than lead -/
theorem Rst_T (hB : BF A) {t : Nat} (g : Nat → Nat) (z : Nat → Nat → Int) (hg : ∀ i, i < t → g i < fM A) (hz : ∀ i, i < t → Rst A (z i)) (h1 : ∀ i, i < t → z i (g i) ≠ 0) (h2 : ∀ i j, i < t → j < t → i ≠ j → z i (g j) = 0) : t ≤ nS A := by
  refine Classical.byContradiction fun q => ?_
  obtain ⟨x, ⟨i, x1, x2⟩, x3⟩ := hom (nS A) t (fun i j => z i (ldr (lead (bS A all1)) (fM A) j)) (by omega)
  have e1 : sm t (fun a => x a * ((bS A all1).2.1 * z a (g i))) = sm t (fun a => sm (nS A) (fun j => x a * (z a (ldr (lead (bS A all1)) (fM A) j) * nU A j (g i)))) := sm_congr fun a ha => by
    rw [Rst_K hB (hz a ha) (hg i x1), sm_mul]
  have e2 : sm (nS A) (fun j => sm t (fun a => x a * (z a (ldr (lead (bS A all1)) (fM A) j) * nU A j (g i)))) = 0 := sm_zero fun j hj => by
    have e3 : sm t (fun a => x a * (z a (ldr (lead (bS A all1)) (fM A) j) * nU A j (g i))) = sm t (fun a => x a * z a (ldr (lead (bS A all1)) (fM A) j)) * nU A j (g i) := by
      rw [← sm_mulr]
      exact sm_congr fun a _ => by rw [Int.mul_assoc]
    rw [e3, x3 j hj, Int.zero_mul]
  rw [sm_swap, e2, sm_one (k := i) x1 (fun a ha hne => by rw [h2 a i ha x1 hne, Int.mul_zero, Int.mul_zero])] at e1
  exact Int.mul_ne_zero x2 (Int.mul_ne_zero (pq_d hB) (h1 i x1)) e1
theorem nU_R (hB : BF A) {j : Nat} (hj : j < nS A) : Rst A (nU A j) := fun _ hr => by
  have sp := ldr_spec (q := lead (bS A all1)) (m := fM A) hj
  exact nB_rest hB.2.1 (bI (q := all1) hB) sp.1 sp.2.1 hr
theorem Rst_lin {z y : Nat → Int} (hz : Rst A z) (hy : Rst A y) (a b : Int) : Rst A (fun i => a * z i + b * y i) := fun r hr => by
  have e : sm (fM A) (fun k => mA A all1 r k * (a * z k + b * y k)) = a * sm (fM A) (fun k => mA A all1 r k * z k) + b * sm (fM A) (fun k => mA A all1 r k * y k) := by
    rw [← sm_lin]
    exact sm_congr fun k _ => by grind
  rw [e, hz r hr, hy r hr]
  simp
/-! no more than 2 n less 3 -/
theorem mA_ev {j k : Nat} (hk : k < fM A) : mA A all1 (2 * j) k = (if j = fA A k then dX A k else 0) - (if j = fB A k then dX A k else 0) := by
  unfold mA tv
  rw [if_pos ⟨hk, rfl⟩, if_neg (show ¬ 2 * j = 2 * fA A k + 1 by omega), if_neg (show ¬ 2 * j = 2 * fB A k + 1 by omega)]
  by_cases c1 : j = fA A k
  · rw [if_pos (show 2 * j = 2 * fA A k by omega), if_pos c1]
    by_cases c2 : j = fB A k
    · rw [if_pos (show 2 * j = 2 * fB A k by omega), if_pos c2]; grind
    · rw [if_neg (show ¬ 2 * j = 2 * fB A k by omega), if_neg c2]; unfold dX; grind
  · rw [if_neg (show ¬ 2 * j = 2 * fA A k by omega), if_neg c1]
    by_cases c2 : j = fB A k
    · rw [if_pos (show 2 * j = 2 * fB A k by omega), if_pos c2]; unfold dX; grind
    · rw [if_neg (show ¬ 2 * j = 2 * fB A k by omega), if_neg c2]; grind
theorem mA_od {j k : Nat} (hk : k < fM A) : mA A all1 (2 * j + 1) k = (if j = fA A k then dY A k else 0) - (if j = fB A k then dY A k else 0) := by
  unfold mA tv
  rw [if_pos ⟨hk, rfl⟩, if_neg (show ¬ 2 * j + 1 = 2 * fA A k by omega), if_neg (show ¬ 2 * j + 1 = 2 * fB A k by omega)]
  by_cases c1 : j = fA A k
  · rw [if_pos (show 2 * j + 1 = 2 * fA A k + 1 by omega), if_pos c1]
    by_cases c2 : j = fB A k
    · rw [if_pos (show 2 * j + 1 = 2 * fB A k + 1 by omega), if_pos c2]; grind
    · rw [if_neg (show ¬ 2 * j + 1 = 2 * fB A k + 1 by omega), if_neg c2]; unfold dY; grind
  · rw [if_neg (show ¬ 2 * j + 1 = 2 * fA A k + 1 by omega), if_neg c1]
    by_cases c2 : j = fB A k
    · rw [if_pos (show 2 * j + 1 = 2 * fB A k + 1 by omega), if_pos c2]; unfold dY; grind
    · rw [if_neg (show ¬ 2 * j + 1 = 2 * fB A k + 1 by omega), if_neg c2]; grind
theorem col_L (hB : BF A) {k : Nat} (hk : k < fM A) (g h : Nat → Int) : sm (fN A) (fun j => g j * mA A all1 (2 * j) k + h j * mA A all1 (2 * j + 1) k) = (g (fA A k) - g (fB A k)) * dX A k + (h (fA A k) - h (fB A k)) * dY A k := by
  have hab := hB.2.2.2 k hk
  rw [sm_two (k := fA A k) (l := fB A k) (by omega) hab.2 (by omega) (fun j _ h1 h2 => by rw [mA_ev hk, mA_od hk, if_neg h1, if_neg h2, if_neg h1, if_neg h2]; simp), mA_ev hk, mA_od hk, mA_ev hk, mA_od hk, if_pos rfl, if_pos rfl, if_pos rfl, if_pos rfl, if_neg (by omega), if_neg (by omega), if_neg (by omega), if_neg (by omega)]
  grind
theorem rk_3 (hw : WF A) (hn : 2 ≤ fN A) : (bS A all1).2.2.1 ≤ 2 * fN A - 3 := by
  have hB := hw.1
  have h6 := hB.1
  refine Classical.byContradiction fun q => ?_
  obtain ⟨f, hf⟩ : ∃ f : Nat → Nat, f = (bS A all1).2.2.2 := ⟨_, rfl⟩
  obtain ⟨ρ, hρ⟩ : ∃ ρ : Nat, ρ = if fX A 0 = fX A 1 then 3 else 2 := ⟨_, rfl⟩
  obtain ⟨x, ⟨i, x1, x2⟩, x3⟩ := hom (2 * fN A - 3) (bS A all1).2.2.1 (fun i l => mA A all1 (if l = 0 then ρ else l + 3) (f i)) (by omega)
  obtain ⟨V, hV⟩ : ∃ V : Nat → Int, V = fun r => sm (bS A all1).2.2.1 (fun i => x i * mA A all1 r (f i)) := ⟨_, rfl⟩
  have fm : ∀ i, i < (bS A all1).2.2.1 → f i < fM A := fun i hi => by rw [hf]; exact pq_m hB hi
  have v0 : V ρ = 0 := by
    have := x3 0 (by omega)
    rw [hV]
    exact this
  have v4 : ∀ r, 4 ≤ r → r < 12 → V r = 0 := by
    intro r h4 h12
    by_cases c : r < 2 * fN A
    · have := x3 (r - 3) (by omega)
      rw [hV]
      rw [if_neg (show ¬ r - 3 = 0 by omega), show r - 3 + 3 = r by omega] at this
      exact this
    · rw [hV]
      exact sm_zero fun i hi => by rw [(Zr_0 (q := all1) hB).1 r _ (by omega), Int.mul_zero]
  have vL : ∀ g h : Nat → Int, (∀ k, k < fM A → (g (fA A k) - g (fB A k)) * dX A k + (h (fA A k) - h (fB A k)) * dY A k = 0) → g 0 * V 0 + h 0 * V 1 + (g 1 * V 2 + h 1 * V 3) = 0 := by
    intro g h hgh
    have e1 : sm (fN A) (fun j => g j * V (2 * j) + h j * V (2 * j + 1)) = sm (fN A) (fun j => sm (bS A all1).2.2.1 (fun i => x i * (g j * mA A all1 (2 * j) (f i) + h j * mA A all1 (2 * j + 1) (f i)))) := by
      refine sm_congr fun j _ => ?_
      rw [hV]
      show g j * sm _ _ + h j * sm _ _ = _
      rw [← sm_lin]
      exact sm_congr fun i _ => by grind
    have e2 : sm (fN A) (fun j => g j * V (2 * j) + h j * V (2 * j + 1)) = (g 0 * V (2 * 0) + h 0 * V (2 * 0 + 1)) + (g 1 * V (2 * 1) + h 1 * V (2 * 1 + 1)) := sm_two (k := 0) (l := 1) (by omega) (by omega) (by omega) (fun j hj h1 h2 => by rw [v4 (2 * j) (by omega) (by omega), v4 (2 * j + 1) (by omega) (by omega)]; simp)
    have e3 : sm (bS A all1).2.2.1 (fun i => sm (fN A) (fun j => x i * (g j * mA A all1 (2 * j) (f i) + h j * mA A all1 (2 * j + 1) (f i)))) = 0 := sm_zero fun i hi => by rw [sm_mul, col_L hB (fm i hi) g h, hgh _ (fm i hi), Int.mul_zero]
    rw [sm_swap, e3, e2] at e1
    exact e1
  have l1 := vL (fun _ => 1) (fun _ => 0) (fun k _ => by simp)
  have l2 := vL (fun _ => 0) (fun _ => 1) (fun k _ => by simp)
  have l3 := vL (fun j => - fY A j) (fun j => fX A j) (fun k _ => by unfold dX dY; grind)
  have l1 : (1 : Int) * V 0 + 0 * V 1 + (1 * V 2 + 0 * V 3) = 0 := l1
  have l2 : (0 : Int) * V 0 + 1 * V 1 + (0 * V 2 + 1 * V 3) = 0 := l2
  have l3 : - fY A 0 * V 0 + fX A 0 * V 1 + (- fY A 1 * V 2 + fX A 1 * V 3) = 0 := l3
  have m1 : V 0 = - V 2 := by omega
  have m2 : V 1 = - V 3 := by omega
  rw [m1, m2] at l3
  have l4 : (fX A 1 - fX A 0) * V 3 = (fY A 1 - fY A 0) * V 2 := by grind
  have v23 : V 2 = 0 ∧ V 3 = 0 := by
    by_cases c : fX A 0 = fX A 1
    · rw [if_pos c] at hρ
      rw [hρ] at v0
      refine ⟨?_, v0⟩
      rw [v0, Int.mul_zero] at l4
      refine (Int.mul_eq_zero.mp l4.symm).resolve_left fun e => ?_
      have := hw.2.1 0 1 (by omega) (by omega) c (by omega)
      omega
    · rw [if_neg c] at hρ
      rw [hρ] at v0
      refine ⟨v0, ?_⟩
      rw [v0, Int.mul_zero] at l4
      exact (Int.mul_eq_zero.mp l4).resolve_left fun e => c (by omega)
  have vA : ∀ r, r < 12 → V r = 0 := by
    intro r hr
    by_cases c : 4 ≤ r
    · exact v4 r c hr
    · rcases (show r = 0 ∨ r = 1 ∨ r = 2 ∨ r = 3 by omega) with h | h | h | h <;> rw [h]
      · rw [m1, v23.1]; rfl
      · rw [m2, v23.2]; rfl
      · exact v23.1
      · exact v23.2
  refine x2 (pq_ind (q := all1) hB (x := x) (fun r hr => ?_) i x1)
  have := vA r hr
  rw [hV, hf] at this
  exact this
theorem nS_2 (hw : WF A) (hs : stf A = true) : nS A ≤ 2 := by
  have hB := hw.1
  have h9 := hB.2.1
  have h6 := hB.1
  have e := nS_eq hB
  unfold stf at hs
  rw [Bool.and_eq_true, decide_eq_true_iff, decide_eq_true_iff] at hs
  have pg : ∀ d, (∀ a b : Nat, a < b → b < fN A → b * (b - 1) / 2 + a < d) → fM A ≤ d := by
    intro d hd
    have := pigeon (n := fM A) d (fun _ => true) (fun k => fB A k * (fB A k - 1) / 2 + fA A k) (fun i hi _ => hd _ _ (hB.2.2.2 i hi).1 (hB.2.2.2 i hi).2) (fun i j hi hj _ _ he => by
      have h1 := hB.2.2.2 i hi
      have h2 := hB.2.2.2 j hj
      have key : ∀ a b a' b' : Nat, a < b → a' < b' → b < 6 → b' < 6 → b * (b - 1) / 2 + a = b' * (b' - 1) / 2 + a' → a = a' ∧ b = b' := by
        intro a b a' b' g1 g2 g3 g4 g5
        rcases (show b = 0 ∨ b = 1 ∨ b = 2 ∨ b = 3 ∨ b = 4 ∨ b = 5 by omega) with r | r | r | r | r | r <;> rcases (show b' = 0 ∨ b' = 1 ∨ b' = 2 ∨ b' = 3 ∨ b' = 4 ∨ b' = 5 by omega) with t | t | t | t | t | t <;> subst r <;> subst t <;> simp at g5 <;> omega
      have k := key _ _ _ _ h1.1 h2.1 (by omega) (by omega) he
      exact hw.2.2.1 i j hi hj k.1 k.2)
    have c : cnt (fun _ => true) (fM A) = fM A := by
      have : ∀ n, cnt (fun _ => true) n = n := fun n => by
        induction n with
        | zero => rfl
        | succ n ih => rw [cnt_t rfl, ih]
      exact this _
    omega
  have bb : ∀ N a b : Nat, N ≤ 4 → a < b → b < N → b * (b - 1) / 2 + a < N * (N - 1) / 2 := by
    intro N a b h1 h2 h3
    rcases (show N = 0 ∨ N = 1 ∨ N = 2 ∨ N = 3 ∨ N = 4 by omega) with r | r | r | r | r <;> rcases (show b = 0 ∨ b = 1 ∨ b = 2 ∨ b = 3 by omega) with t | t | t | t <;> subst r <;> subst t <;> simp <;> omega
  by_cases c : 5 ≤ fN A
  · omega
  · have := pg _ (fun a b h1 h2 => bb (fN A) a b (by omega) h1 h2)
    rcases (show fN A = 2 ∨ fN A = 3 ∨ fN A = 4 by omega) with r | r | r <;> rw [r] at this hs <;> simp at this <;> omega
end
