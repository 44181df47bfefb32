section
variable {s t s' t' : Sto} {A : Fm}
theorem Inv_t (h : Inv s t) (hT' : IT s' t') (ks : ∀ c, c ≠ 111 → c ≠ 112 → s'.1 c = s.1 c) (k2 : s'.2 = s.2) (kt : ∀ c, c ≠ 122 → c ≠ 127 → t'.1 c = t.1 c) (k3 : ∀ j, j ≠ 7 → j ≠ 26 → t'.1 122 j = t.1 122 j) (k4 : t'.2 = t.2) : Inv s' t' := by
  obtain ⟨A, n, Hs, ⟨f1, f2, f3, f4, f5⟩, hG, hT, hS, hK⟩ := h
  have e : ∀ c, c < 111 → s'.1 c = s.1 c := fun c h => ks c (by omega) (by omega)
  refine ⟨A, n, Hs, ⟨f1, RepC_congr (fun c a b => e c (by omega)) f2, IC_congr (fun c a b => e c (by omega)) f3, ⟨?_, ⟨f4.2.1.1, by rw [k3 2 (by omega) (by omega)]; exact f4.2.1.2⟩, ?_⟩, f5⟩, IG_k hG (by rw [e 0 (by omega)]) (fun c h => e c (by omega)) (k3 5 (by omega) (by omega)) (kt _ (by omega) (by omega)) (kt _ (by omega) (by omega)), hT', IS_k hS (fun c a b => ⟨ks c (by omega) (by omega), by rw [k2]⟩) (kt _ (by omega) (by omega)) (kt _ (by omega) (by omega)) (by rw [k4]), ?_⟩
  · rw [kt 123 (by omega) (by omega)]; exact f4.1
  · rw [kt 124 (by omega) (by omega)]; exact f4.2.2
  · rcases hK with h | ⟨h, c1, c2, c3⟩
    · exact Or.inl (by rw [e 0 (by omega)]; exact h)
    · refine Or.inr ⟨by rw [e 0 (by omega)]; exact h, ⟨⟨by rw [e 95 (by omega)]; exact c1.1.1, by rw [e 95 (by omega)]; exact c1.1.2.1, by rw [k2]; exact c1.1.2.2⟩, by rw [k2]; exact c1.2.1, by rw [k2]; exact c1.2.2.1, by rw [e 99 (by omega)]; exact c1.2.2.2⟩, ⟨⟨by rw [e 100 (by omega)]; exact c2.1.1, by rw [e 100 (by omega)]; exact c2.1.2⟩, by rw [e 101 (by omega), e 102 (by omega), e 103 (by omega)]; exact c2.2.1, by rw [e 104 (by omega), e 105 (by omega), e 106 (by omega)]; exact c2.2.2⟩, fun o ho => ⟨by rw [e 110 (by omega)]; exact (c3 o ho).1, by rw [k2]; exact (c3 o ho).2⟩⟩
theorem narF : ∀ c : Fin 127, vp_nar .char ((Int32.toUInt32 (nI c.val)) % 65536).toInt32 = nI c.val := by decide +kernel
theorem narC {c : Nat} (hc : c < 127) : vp_nar .char ((Int32.toUInt32 (nI c)) % 65536).toInt32 = nI c := narF ⟨c, hc⟩
theorem P20 (a1 : Int32) (h : Inv s t) : ∃ Z : Sto × Sto, st_20 a1 s t = some Z ∧ Inv Z.1 Z.2 := by
  have hI := h
  obtain ⟨A, n, Hs, hF, hG, hT, hS, hK⟩ := h
  obtain ⟨k, hk, t1, t2, t3⟩ := hT
  have mi : f_X7_in a1.toInt64 32 126 t = some (b2i (decide (32 ≤ a1.toInt) && decide (a1.toInt ≤ 126))) := m_inI a1 (a := 32) (b := 126) (by omega) (by omega)
  have e32 : (32 : Int32).toInt = 32 := rfl
  have e126 : (126 : Int32).toInt = 126 := rfl
  by_cases c1 : 32 ≤ a1.toInt
  · by_cases c2 : a1.toInt ≤ 126
    · rw [decide_eq_true c1, decide_eq_true c2] at mi
      have mi2 : f_X7_in a1.toInt64 32 126 t = some 1 := mi
      have g1 : ¬ a1 < (32 : Int32) := by rw [Int32.lt_iff_toInt_lt]; omega
      have g2 : a1 ≤ (126 : Int32) := by rw [Int32.le_iff_toInt_le]; omega
      obtain ⟨c, hc⟩ : ∃ c : Nat, (c : Int) = a1.toInt := ⟨a1.toInt.toNat, by omega⟩
      have ac : a1 = nI c := by rw [nI_iI, hc, iI_of]
      by_cases k60 : k < 60
      · refine ⟨(_, _), st_of (r := nI (k + 1)) (s' := upI (upI s 112 k (nI c)) 111 1 (nI (k + 1))) (t' := upI (upI t 127 k (nI c)) 122 7 (nI (k + 1))) ?_ ?_, Inv_t hI ⟨k + 1, by omega, ?_, ?_, fun i hi => ?_⟩ (fun d a b => ?_) rfl (fun d a b => ?_) (fun j a b => ?_) rfl⟩
        · unfold f_X6_type f_X5_put
          rw [if_neg g1, if_pos g2, t1, if_pos (show nI k < (60 : Int32) from nI_lt (b := 60) k60 (by omega)), wrI_nI (by omega) (by omega), bds, ac, narC (by omega), lts, bds2, if10, upI_at, if_pos ⟨rfl, rfl⟩, upI_at, if_neg (by omega), t1, show nI k + (1 : Int32) = nI (k + 1) from nI_add k 1]
        · unfold f_X7_type
          rw [mi2, bds, if10, t2, if_neg (show ¬ nI k = (60 : Int32) from fun x => by have := (nI_eq (a := k) (b := 60) (by omega) (by omega)).mp x; omega), wrI_nI (by omega) (by omega), bds, lts, upI_at, if_pos ⟨rfl, rfl⟩, upI_at, if_neg (by omega), t2, show nI k + (1 : Int32) = nI (k + 1) from nI_add k 1, ac]
        · rw [upI_at, if_pos ⟨rfl, rfl⟩]
        · rw [upI_at, if_pos ⟨rfl, rfl⟩]
        · by_cases e : i = k
          · refine ⟨c, by omega, by omega, ?_, ?_⟩
            · rw [upI_at, if_neg (by omega), upI_at, if_pos ⟨rfl, e⟩]
            · rw [upI_at, if_neg (by omega), upI_at, if_pos ⟨rfl, e⟩]
          · obtain ⟨d, q1, q2, q3, q4⟩ := t3 i (by omega)
            refine ⟨d, q1, q2, ?_, ?_⟩
            · rw [upI_at, if_neg (by omega), upI_at, if_neg (by omega)]; exact q3
            · rw [upI_at, if_neg (by omega), upI_at, if_neg (by omega)]; exact q4
        · show (upI (upI s 112 k (nI c)) 111 1 (nI (k + 1))).1 d = s.1 d
          rw [upI_ne a, upI_ne b]
        · show (upI (upI t 127 k (nI c)) 122 7 (nI (k + 1))).1 d = t.1 d
          rw [upI_ne a, upI_ne b]
        · rw [upI_at, if_neg (by omega), upI_at, if_neg (by omega)]
      · have kk : k = 60 := by omega
        subst kk
        refine ⟨(s, t), st_of (r := -3) ?_ ?_, hI⟩
        · unfold f_X6_type f_X5_put
          rw [if_neg g1, if_pos g2, t1, if_neg (by decide), bds2, if00]
        · unfold f_X7_type
          rw [mi2, bds, if10, t2, if_pos (show nI 60 = (60 : Int32) from rfl)]
    · rw [decide_eq_false c2, Bool.and_false] at mi
      have mi2 : f_X7_in a1.toInt64 32 126 t = some 0 := mi
      refine ⟨(s, t), st_of (r := -1) ?_ ?_, hI⟩
      · unfold f_X6_type
        rw [if_neg (by rw [Int32.lt_iff_toInt_lt]; omega), if_neg (by rw [Int32.le_iff_toInt_le]; omega)]
      · unfold f_X7_type
        rw [mi2, bds, if00]
  · rw [decide_eq_false c1] at mi
    have mi2 : f_X7_in a1.toInt64 32 126 t = some 0 := mi
    refine ⟨(s, t), st_of (r := -1) ?_ ?_, hI⟩
    · unfold f_X6_type
      rw [if_pos (by rw [Int32.lt_iff_toInt_lt]; omega)]
    · unfold f_X7_type
      rw [mi2, bds, if00]
end
