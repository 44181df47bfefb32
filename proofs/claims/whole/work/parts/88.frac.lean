/-! fractions in lowest terms -/
def es : Nat → Nat → Nat → Nat × Nat
  | p, q, 0 => (p, q)
  | p, q, k + 1 => es q (p % q) k
theorem es_s (p q k : Nat) : es p q (k + 1) = ((es p q k).2, (es p q k).1 % (es p q k).2) := by
  induction k generalizing p q with
  | zero => rfl
  | succ k ih => exact ih q (p % q)
theorem es_end : ∀ (n p q : Nat), q < 2 ^ n → ∃ N, N ≤ 2 * n ∧ (es p q N).2 = 0 ∧ (es p q N).1 = Nat.gcd p q ∧ ∀ k, k < N → (es p q k).2 ≠ 0 := by
  intro n
  induction n with
  | zero =>
    intro p q h
    obtain rfl : q = 0 := by have : 2 ^ 0 = 1 := rfl; omega
    exact ⟨0, by omega, rfl, (Nat.gcd_zero_right p).symm, fun k hk => by omega⟩
  | succ n ih =>
    intro p q h
    by_cases c : q = 0
    · subst c; exact ⟨0, by omega, rfl, (Nat.gcd_zero_right p).symm, fun k hk => by omega⟩
    · have hr : p % q < q := Nat.mod_lt _ (by omega)
      by_cases c2 : p % q = 0
      · refine ⟨1, by omega, c2, ?_, fun k hk => ?_⟩
        · show q = _
          rw [Nat.gcd_comm, Nat.gcd_rec, c2, Nat.gcd_zero_left]
        · obtain rfl : k = 0 := by omega
          exact c
      · have h2 : q % (p % q) < 2 ^ n := by
          have a1 := Nat.mod_lt q (show 0 < p % q by omega)
          have a2 := Nat.mod_add_div q (p % q)
          have a3 : 1 ≤ q / (p % q) := (Nat.le_div_iff_mul_le (by omega)).mpr (by omega)
          have a4 := Nat.mul_le_mul_left (p % q) a3
          rw [Nat.pow_succ] at h
          omega
        obtain ⟨N, n1, n2, n3, n4⟩ := ih (p % q) (q % (p % q)) h2
        refine ⟨N + 2, by omega, n2, ?_, fun k hk => ?_⟩
        · show (es (p % q) (q % (p % q)) N).1 = _
          rw [n3, Nat.gcd_comm p q, Nat.gcd_rec q p, Nat.gcd_rec (p % q) q, Nat.gcd_comm]
        · match k, hk with
          | 0, _ => exact c
          | 1, _ => exact c2
          | k + 2, hk => exact n4 k (by omega)
theorem lN_iL (n : Nat) : lN n = iL (n : Int) := Int64.ofInt_eq_ofNat.symm
def fr (a b : Int) (w : Nat) : Int64 := if w = 2 then (if a = 0 then iL 0 else if (a < 0 ↔ b < 0) then iL 1 else iL 2) else lN ((if w = 0 then a.natAbs else b.natAbs) / Nat.gcd a.natAbs b.natAbs)
theorem abL_e {a : Int} (h1 : -9000000000000000000 ≤ a) (h2 : a ≤ 9000000000000000000) : abL (iL a) = lN a.natAbs := by
  unfold abL
  rw [lN_iL]
  by_cases c : 0 < a
  · rw [if_pos (show (0 : Int64) < iL a from (iL_lt (a := 0) (smL (by omega) (by omega)) (smL h1 h2)).mpr c)]
    congr 1; omega
  · rw [if_neg (show ¬ (0 : Int64) < iL a from fun e => c ((iL_lt (a := 0) (smL (by omega) (by omega)) (smL h1 h2)).mp e)), iL_neg]
    congr 1; omega
section
variable {z : Sto}
theorem rmLe {a b : Nat} (ha : a < 2 ^ 63) (h0 : 0 < b) (hb : b < 2 ^ 63) : rmL (lN a) (lN b) = some (lN (a % b)) := by
  unfold rmL
  rw [if_neg (show ¬ lN b = (0 : Int64) from fun e => by have := (pk_lEQ (b := 0) hb (by omega)).mp e; omega), pk_lRem ha h0 hb]
theorem lN_cm {a : Nat} (ha : a < 9000000000000000000) : (lg_cmp (lN a) 0 = nI 0) ↔ a = 0 := by
  rw [lN_iL, lL0, cmE (by omega) (by omega) (by omega) (by omega)]
  omega
theorem c_commonDivisor {p q : Nat} (hp : p < 9000000000000000000) (hq : q < 9000000000000000000) (hp0 : 0 < p) : f_X6_commonDivisor (lN p) (lN q) z = some (lN (Nat.gcd p q)) := by
  obtain ⟨N, n1, n2, n3, n4⟩ := es_end 63 p q (by omega)
  have bd : ∀ k, (es p q k).1 < 9000000000000000000 ∧ (es p q k).2 < 9000000000000000000 := by
    intro k
    induction k with
    | zero => exact ⟨hp, hq⟩
    | succ k ih => rw [es_s]; exact ⟨ih.2, Nat.lt_of_le_of_lt (Nat.mod_le _ _) ih.1⟩
  refine wl3_inv (Q := fun o => o = some (lN (Nat.gcd p q))) (fun k a b c => a = lN (es p q k).1 ∧ b = lN (es p q k).2 ∧ c = nI k) N ?_ ?_ (by omega) ⟨rfl, rfl, rfl⟩
  · rintro k hk _ _ _ ⟨rfl, rfl, rfl⟩
    have hb := bd k
    have h0 := n4 k hk
    have hc := (lN_cm hb.2)
    have rm := rmLe (a := (es p q k).1) (b := (es p q k).2) (by omega) (by omega) (by omega)
    have l200 : ¬ (200 : Int32) ≤ nI k := fun e => by have := (nI_leI (a := 200) (by omega) (by omega)).mp e; omega
    refine Or.inl ⟨_, _, _, ⟨rfl, rfl, rfl⟩, fun ag => ?_⟩
    unfold b_X6_commonDivisor_3
    rw [if_neg l200, if_neg (show ¬ lg_cmp (lN (es p q k).2) 0 = 0 from fun e => h0 (hc.mp e)), rm, bds, lts, nI_1, es_s]
  · rintro _ _ _ ⟨rfl, rfl, rfl⟩ ag
    have hb := bd N
    have l200 : ¬ (200 : Int32) ≤ nI N := fun e => by have := (nI_leI (a := 200) (by omega) (by omega)).mp e; omega
    have g1 : 0 < Nat.gcd p q := Nat.gcd_pos_of_pos_left q hp0
    unfold b_X6_commonDivisor_3
    rw [if_neg l200, if_pos (show lg_cmp (lN (es p q N).2) 0 = 0 from (lN_cm hb.2).mpr n2)]
    unfold j_X6_commonDivisor_33
    rw [n3] at hb ⊢
    unfold mxL
    have e1 : (1 : Int64) = lN 1 := rfl
    rw [e1]
    by_cases c : 1 < Nat.gcd p q
    · rw [if_pos ((pk_lLT (by omega) (by omega)).mpr c)]
    · rw [if_neg (fun e => c ((pk_lLT (by omega) (by omega)).mp e)), show Nat.gcd p q = 1 by omega]
theorem m_common28 {p q : Nat} (hp : p < 9000000000000000000) (hq : q < 9000000000000000000) : wl2 (b_X7_common_28 z) fu (lN p) (lN q) = some (lN (Nat.gcd p q)) := by
  obtain ⟨N, n1, n2, n3, n4⟩ := es_end 63 p q (by omega)
  have bd : ∀ k, (es p q k).1 < 9000000000000000000 ∧ (es p q k).2 < 9000000000000000000 := by
    intro k
    induction k with
    | zero => exact ⟨hp, hq⟩
    | succ k ih => rw [es_s]; exact ⟨ih.2, Nat.lt_of_le_of_lt (Nat.mod_le _ _) ih.1⟩
  refine wl2_inv (Q := fun o => o = some (lN (Nat.gcd p q))) (fun k a b => a = lN (es p q k).1 ∧ b = lN (es p q k).2) N ?_ ?_ (by omega) ⟨rfl, rfl⟩
  · rintro k hk _ _ ⟨rfl, rfl⟩
    have hb := bd k
    have h0 := n4 k hk
    have hc := (lN_cm hb.2)
    have rm := rmLe (a := (es p q k).1) (b := (es p q k).2) (by omega) (by omega) (by omega)
    refine Or.inl ⟨_, _, ⟨rfl, rfl⟩, fun ag => ?_⟩
    unfold b_X7_common_28
    rw [if_neg (show ¬ lg_cmp (lN (es p q k).2) 0 = 0 from fun e => h0 (hc.mp e)), rm, bds, es_s]
  · rintro _ _ ⟨rfl, rfl⟩ ag
    have hb := bd N
    unfold b_X7_common_28
    rw [if_pos (show lg_cmp (lN (es p q N).2) 0 = 0 from (lN_cm hb.2).mpr n2), n3]
theorem ngL {a : Int} (h1 : -9000000000000000000 < a) (h2 : a < 9000000000000000000) : (if (0 : Int32) ≤ lg_cmp (iL a) 0 then iL a else - iL a) = lN a.natAbs := by
  have g : ((0 : Int32) ≤ lg_cmp (iL a) 0) ↔ 0 ≤ a := cmG (b := 0) (by omega) (by omega) (by omega) (by omega)
  rw [lN_iL]
  by_cases c : 0 ≤ a
  · rw [if_pos (g.mpr c)]; congr 1; omega
  · rw [if_neg (fun e => c (g.mp e)), iL_neg]; congr 1; omega
theorem m_common {a b : Int} (h1 : -9000000000000000000 < a) (h2 : a < 9000000000000000000) (h3 : -9000000000000000000 < b) (h4 : b < 9000000000000000000) : f_X7_common (iL a) (iL b) z = some (lN (Nat.gcd a.natAbs b.natAbs)) := by
  have e1 : f_X7_common (iL a) (iL b) z = j_X7_common_12 z (iL b) (lN a.natAbs) := by
    unfold f_X7_common
    rw [← ngL h1 h2]
    split <;> rfl
  have e2 : j_X7_common_12 z (iL b) (lN a.natAbs) = wl2 (b_X7_common_28 z) fu (lN a.natAbs) (lN b.natAbs) := by
    unfold j_X7_common_12
    generalize wl2 (b_X7_common_28 z) fu = K
    rw [← ngL h3 h4]
    simp only [lts]
    split <;> rfl
  rw [e1, e2, m_common28 (by omega) (by omega)]
theorem tdN {a : Int} {g : Nat} (hg : g ∣ a.natAbs) (h0 : 0 < g) : ∃ c : Int, a.tdiv g = c ∧ c.natAbs = a.natAbs / g ∧ (c = 0 ↔ a = 0) ∧ (c < 0 ↔ a < 0) := by
  obtain ⟨t, ht⟩ := hg
  have hd : a.natAbs / g = t := by rw [ht]; exact Nat.mul_div_cancel_left t h0
  rcases Int.natAbs_eq a with e | e
  · refine ⟨t, ?_, by omega, ?_, ?_⟩
    · rw [e, ht, Int.natCast_mul, Int.mul_tdiv_cancel_left _ (by omega)]
    · rw [e, ht]
      rw [Int.natCast_mul]
      constructor
      · intro h; rw [h, Int.mul_zero]
      · intro h; rcases Int.mul_eq_zero.mp h with h | h <;> omega
    · have := Int.mul_nonneg (show (0 : Int) ≤ g by omega) (show (0 : Int) ≤ t by omega)
      rw [e, ht, Int.natCast_mul]
      omega
  · refine ⟨-t, ?_, by omega, ?_, ?_⟩
    · rw [e, ht, Int.natCast_mul, Int.neg_tdiv, Int.mul_tdiv_cancel_left _ (by omega)]
    · rw [e, ht, Int.natCast_mul]
      constructor
      · intro h; rw [show (t : Int) = 0 by omega, Int.mul_zero]; rfl
      · intro h; have h : (g : Int) * t = 0 := by omega
        rcases Int.mul_eq_zero.mp h with h | h <;> omega
    · rw [e, ht, Int.natCast_mul]
      have := Int.mul_nonneg (show (0 : Int) ≤ g by omega) (show (0 : Int) ≤ t by omega)
      constructor
      · intro h
        have := Int.mul_pos (show (0 : Int) < g by omega) (show (0 : Int) < t by omega)
        omega
      · intro h
        by_cases c : t = 0
        · rw [c] at h; simp at h
        · omega
theorem m_told {a b : Int} (h1 : -9000000000000000000 < a) (h2 : a < 9000000000000000000) (h3 : -9000000000000000000 < b) (h4 : b < 9000000000000000000) (h0 : b ≠ 0) {w : Nat} (hw : w < 3) : f_X7_told (iL a) (iL b) (nI w) z = some (fr a b w) := by
  have g0 : 0 < Nat.gcd a.natAbs b.natAbs := Nat.gcd_pos_of_pos_right _ (by omega)
  have gl : Nat.gcd a.natAbs b.natAbs ≤ b.natAbs := Nat.le_of_dvd (by omega) (Nat.gcd_dvd_right _ _)
  obtain ⟨c, c1, c2, c3, c4⟩ := tdN (Nat.gcd_dvd_left a.natAbs b.natAbs) g0
  obtain ⟨e, e1, e2, e3, e4⟩ := tdN (Nat.gcd_dvd_right a.natAbs b.natAbs) g0
  have lc := Nat.div_le_self a.natAbs (Nat.gcd a.natAbs b.natAbs)
  have le := Nat.div_le_self b.natAbs (Nat.gcd a.natAbs b.natAbs)
  have d1 : dvL (iL a) (lN (Nat.gcd a.natAbs b.natAbs)) = some (iL c) := by rw [lN_iL, dvLe (by omega) (by omega) (by omega) (by omega) (by omega), c1]
  have d2 : dvL (iL b) (lN (Nat.gcd a.natAbs b.natAbs)) = some (iL e) := by rw [lN_iL, dvLe (by omega) (by omega) (by omega) (by omega) (by omega), e1]
  have s1 : f_X7_sign (iL c) z = some (iI (sg c)) := m_sign (smL (by omega) (by omega))
  have s2 : f_X7_sign (iL e) z = some (iI (sg e)) := m_sign (smL (by omega) (by omega))
  unfold f_X7_told fr
  rw [m_common h1 h2 h3 h4, bds, d1, bds, d2, bds]
  by_cases c5 : w = 2
  · subst c5
    rw [if_pos rfl, if_pos (show nI 2 = 2 from rfl), s1, bds, s2, bds]
    have hsg : sg c * sg e = if a = 0 then 0 else if (a < 0 ↔ b < 0) then 1 else -1 := by
      unfold sg
      by_cases x0 : a = 0
      · rw [if_pos x0, if_neg (by omega), if_neg (by omega), Int.zero_mul]
      · rw [if_neg x0]
        by_cases x1 : a < 0 <;> by_cases x2 : b < 0
        · rw [if_pos (by omega), if_pos (by omega), if_pos (by omega)]; rfl
        · rw [if_pos (by omega), if_neg (by omega), if_pos (by omega), if_neg (by omega)]; rfl
        · rw [if_neg (by omega), if_pos (by omega), if_pos (by omega), if_neg (by omega)]; rfl
        · rw [if_neg (by omega), if_pos (by omega), if_neg (by omega), if_pos (by omega), if_pos (by omega)]; rfl
    simp only [bds, iI_mul, hsg]
    by_cases x0 : a = 0
    · rw [if_pos x0, if_pos x0]; rfl
    · rw [if_neg x0, if_neg x0]
      by_cases x1 : (a < 0 ↔ b < 0)
      · rw [if_pos x1, if_pos x1]; rfl
      · rw [if_neg x1, if_neg x1]; rfl
  · rw [if_neg c5, if_neg (show ¬ nI w = 2 from fun h => c5 ((nI_eq (b := 2) (by omega) (by omega)).mp h))]
    have j : ∀ {v : Int}, -9000000000000000000 < v → v < 9000000000000000000 → j_X7_told_77 z (iL v) = some (lN v.natAbs) := by
      intro v v1 v2
      unfold j_X7_told_77
      rw [← ngL v1 v2]
      split <;> rfl
    by_cases c6 : w = 0
    · rw [if_pos c6, if_pos (show nI w = 0 by rw [c6]; rfl), j (by omega) (by omega), c2]
    · rw [if_neg c6, if_neg (show ¬ nI w = 0 from fun h => c6 ((nI_eq (b := 0) (by omega) (by omega)).mp h)), j (by omega) (by omega), e2]
theorem c_partOf {a b : Int} (h1 : -9000000000000000000 < a) (h2 : a < 9000000000000000000) (h3 : -9000000000000000000 < b) (h4 : b < 9000000000000000000) (h0 : b ≠ 0) {w : Nat} (hw : w < 3) : f_X6_partOf (iL a) (iL b) (nI w) z = some (fr a b w) := by
  have ca : (lg_cmp (iL a) 0 = 0) ↔ a = 0 := cmE (b := 0) (by omega) (by omega) (by omega) (by omega)
  have cb : (lg_cmp (iL b) 0 = 0) ↔ b = 0 := cmE (b := 0) (by omega) (by omega) (by omega) (by omega)
  have ga : ((0 : Int32) ≤ lg_cmp (iL a) 0) ↔ 0 ≤ a := cmG (b := 0) (by omega) (by omega) (by omega) (by omega)
  have gb : ((0 : Int32) ≤ lg_cmp (iL b) 0) ↔ 0 ≤ b := cmG (b := 0) (by omega) (by omega) (by omega) (by omega)
  have g0 : 0 < Nat.gcd a.natAbs b.natAbs := Nat.gcd_pos_of_pos_right _ (by omega)
  have gl : Nat.gcd a.natAbs b.natAbs ≤ b.natAbs := Nat.le_of_dvd (by omega) (Nat.gcd_dvd_right _ _)
  have w2 : (nI w = (2 : Int32)) ↔ w = 2 := nI_eq (b := 2) (by omega) (by omega)
  have w1 : (nI w = (1 : Int32)) ↔ w = 1 := nI_eq (b := 1) (by omega) (by omega)
  have w0 : (nI w = (0 : Int32)) ↔ w = 0 := nI_eq (b := 0) (by omega) (by omega)
  unfold f_X6_partOf
  by_cases x0 : a = 0
  · rw [if_pos (ca.mpr x0)]
    unfold j_X6_partOf_12 fr
    by_cases c : w = 1
    · rw [if_pos (w1.mpr c), if_neg (by omega), if_neg (by omega), x0]
      rw [show (0 : Int).natAbs = 0 from rfl, Nat.gcd_zero_left, Nat.div_self (by omega)]; rfl
    · rw [if_neg (fun e => c (w1.mp e))]
      by_cases c2 : w = 2
      · rw [if_pos c2, if_pos x0]; rfl
      · rw [if_neg c2, if_pos (by omega), x0]
        rw [show (0 : Int).natAbs = 0 from rfl, Nat.zero_div]; rfl
  · rw [if_neg (fun e => x0 (ca.mp e)), if_neg (fun e => h0 (cb.mp e))]
    unfold fr
    by_cases c2 : w = 2
    · rw [if_pos (w2.mpr c2), if_pos c2, if_neg x0]
      unfold j_X6_partOf_41 j_X6_partOf_52
      by_cases y1 : 0 ≤ a <;> by_cases y2 : 0 ≤ b
      · rw [if_pos (ga.mpr y1), if_pos (gb.mpr y2), if_pos rfl, if_pos (by omega)]; rfl
      · rw [if_pos (ga.mpr y1), if_neg (fun e => y2 (gb.mp e)), if_neg (by decide), if_neg (by omega)]; rfl
      · rw [if_neg (fun e => y1 (ga.mp e)), if_pos (gb.mpr y2), if_neg (by decide), if_neg (by omega)]; rfl
      · rw [if_neg (fun e => y1 (ga.mp e)), if_neg (fun e => y2 (gb.mp e)), if_pos rfl, if_pos (by omega)]; rfl
    · rw [if_neg (fun e => c2 (w2.mp e)), if_neg c2, abL_e (by omega) (by omega), abL_e (by omega) (by omega), c_commonDivisor (by omega) (by omega) (by omega), bds]
      have dd : ∀ v : Int, -9000000000000000000 < v → v < 9000000000000000000 → j_X6_partOf_86 z (lN (Nat.gcd a.natAbs b.natAbs)) (iL v) = some (lN (v.natAbs / Nat.gcd a.natAbs b.natAbs)) := by
        intro v v1 v2
        unfold j_X6_partOf_86
        rw [abL_e (by omega) (by omega)]
        unfold dvL
        rw [if_neg (show ¬ lN (Nat.gcd a.natAbs b.natAbs) = (0 : Int64) from fun e => by have := (pk_lEQ (b := 0) (by omega) (by omega)).mp e; omega), pk_lDiv (by omega) g0 (by omega), bds]
      by_cases c3 : w = 0
      · rw [if_pos (w0.mpr c3), if_pos c3, dd a h1 h2]
      · rw [if_neg (fun e => c3 (w0.mp e)), if_neg c3, dd b h3 h4]
end
