section
variable {s t s' t' : Sto} {A : Fm}
def opn (s t : Sto) (k l n : Nat) : Prop := s.1 (114 + 2 * k) 0 = 1 ∧ l < 4 ∧ n ≤ 24 ∧ s.1 (114 + 2 * k) 1 = nI l ∧ t.1 128 k = nI l ∧ s.1 (114 + 2 * k) 2 = nI n ∧ t.1 129 k = nI n
theorem rowL (hS : IS s t) (x1 x2 : Int32) : (∃ k l n, k < 4 ∧ x1 = nI k ∧ x2 = nI l ∧ opn s t k l n ∧ f_X6_refuseRow x1 x2 s = some 0) ∨ ∃ r, ¬ r = 0 ∧ f_X6_refuseRow x1 x2 s = some r ∧ ∀ (x3 x4 : Int32) (G : Option (Int32 × Sto)), (bd (f_X7_isSheet x1 t) fun t1 => if t1 = 0 then some ((-1 : Int32), t) else bd (f_X7_in (Int32.toInt64 x2) (0 : Int64) (3 : Int64) t) fun t3 => if t3 = 0 then some ((-1 : Int32), t) else bd (f_X7_found x1 x2 x3 x4 t) fun t6 => if 0 ≤ t6 then G else some (t6, t)) = some (r, t) := by
  unfold f_X6_refuseRow
  rcases ix_or x1 4 (by omega) with ⟨k, hk, rfl⟩ | hx
  · rw [c_isSheet hk, bds, if10]
    rcases ix_or x2 4 (by omega) with ⟨l, hl, rfl⟩ | hx
    · rw [c_isLane hl, bds, if10, rdR_nI (by omega) (by omega), bds, bds, c113]
      rcases (hS k hk).2 with ⟨c1, c2⟩ | ⟨l', n, c1, hl', hn, c2, c3, c4, c5⟩
      · refine Or.inr ⟨-11, by decide, by rw [c1, if00], fun x3 x4 G => ?_⟩
        unfold f_X7_found
        rw [m_isSheet hk, bds, if10, in4 hl, bds, if10, rdI_nI (by omega) (by omega), bds, c2, if_neg (by decide), bds, if_neg (by decide)]
      · rw [c1, if10, c2]
        by_cases e : l' = l
        · subst e
          exact Or.inl ⟨k, l', n, hk, rfl, rfl, ⟨c1, hl', hn, c2, c3, c4, c5⟩, by rw [if_pos rfl]⟩
        · have ne : ¬ nI l' = nI l := fun x => e ((nI_eq (by omega) (by omega)).mp x)
          refine Or.inr ⟨-12, by decide, by rw [if_neg ne], fun x3 x4 G => ?_⟩
          unfold f_X7_found
          rw [m_isSheet hk, bds, if10, in4 hl, bds, if10, rdI_nI (by omega) (by omega), bds, c3, if_pos (show (0 : Int32) ≤ nI l' from nI_le (a := 0) (by omega) (by omega)), bds, if_neg ne, bds, if_neg (by decide)]
    · refine Or.inr ⟨-1, by decide, by rw [c_noLane hx, bds, if00], fun x3 x4 G => ?_⟩
      rw [m_isSheet hk, bds, if10, no4 hx, bds, if00]
  · refine Or.inr ⟨-1, by decide, by rw [c_noSheet hx, bds, if00], fun x3 x4 G => ?_⟩
    rw [m_noSheet hx, bds, if00]
theorem nn_or (x : Int32) : x < 0 ∨ ∃ k : Nat, k < 2147483648 ∧ x = nI k := by
  by_cases c : x < 0
  · exact Or.inl c
  · refine Or.inr ⟨x.toInt.toNat, ?_, ?_⟩
    · have := Int32.toInt_lt x
      omega
    · rw [Int32.lt_iff_toInt_lt] at c
      have e2 : (0 : Int32).toInt = 0 := rfl
      rw [nI_iI, show ((x.toInt.toNat : Nat) : Int) = x.toInt by omega, iI_of]
theorem hld {n x c : Nat} (hn : n ≤ 24) (hx : x < 2147483648) (hc : c < 2147483648) : (nI n - nI c < nI x ↔ n < x + c) ∧ (nI c ≤ nI n - nI x ↔ x + c ≤ n) := by
  rw [nI_iI n, nI_iI c, nI_iI x, iI_sub, iI_sub, iI_lt ⟨by omega, by omega⟩ ⟨by omega, by omega⟩, iI_le ⟨by omega, by omega⟩ ⟨by omega, by omega⟩]
  omega
theorem fits {k l n : Nat} (hk : k < 4) (ho : opn s t k l n) (x : Int32) {c : Nat} (hc : c < 2147483648) : (∃ i, i + c ≤ n ∧ x = nI i ∧ f_X3_holds (114 + 2 * k) x (nI c) s = some 1 ∧ f_X7_found (nI k) (nI l) x (nI c) t = some 0) ∨ (f_X3_holds (114 + 2 * k) x (nI c) s = some 0 ∧ f_X7_found (nI k) (nI l) x (nI c) t = some (-13)) := by
  obtain ⟨c1, hl, hn, c2, c3, c4, c5⟩ := ho
  have nc : ¬ nI c < (0 : Int32) := fun e => by
    rw [Int32.lt_iff_toInt_lt, nI_iI, iI_toInt ⟨by omega, by omega⟩] at e
    have e2 : (0 : Int32).toInt = 0 := rfl
    omega
  unfold f_X3_holds f_X7_found j_X7_found_42
  rw [if_neg nc, c4, rdI_nI (by omega) (by omega), bds, c3, if_pos (show (0 : Int32) ≤ nI l from nI_le (a := 0) (by omega) (by omega)), bds, if_pos rfl]
  rcases nn_or x with h | ⟨i, hi, rfl⟩
  · rw [if_pos h, if_pos h]
    exact Or.inr ⟨rfl, rfl⟩
  · have ni : ¬ nI i < (0 : Int32) := fun e => by
      rw [Int32.lt_iff_toInt_lt, nI_iI, iI_toInt ⟨by omega, by omega⟩] at e
      have e2 : (0 : Int32).toInt = 0 := rfl
      omega
    have hh := hld hn hi hc
    rw [if_neg ni, if_neg ni, rdI_nI (by omega) (by omega), bds, c5]
    by_cases e : i + c ≤ n
    · rw [if_neg (fun h => by have := hh.1.mp h; omega), if_pos (hh.2.mpr e)]
      exact Or.inl ⟨i, e, rfl, rfl, rfl⟩
    · rw [if_pos (hh.1.mpr (by omega)), if_neg (fun h => e (hh.2.mp h))]
      exact Or.inr ⟨rfl, rfl⟩
theorem nar_cut (x : Int32) (v : Int64) : ∃ r, f_X6_narrowed x v s = some r ∧ f_X7_cut x v t = some r := by
  unfold f_X6_narrowed f_X7_cut
  by_cases h0 : x = 0
  · rw [if_pos h0]; exact ⟨_, rfl, rfl⟩
  · rw [if_neg h0]
    by_cases h1 : x = 1
    · rw [if_pos h1]; exact ⟨_, rfl, rfl⟩
    · rw [if_neg h1]
      by_cases h2 : x = 2
      · rw [if_pos h2]; exact ⟨_, rfl, rfl⟩
      · rw [if_neg h2]; exact ⟨_, rfl, rfl⟩
theorem P31' (a1 a2 a3 : Int32) (v : Int64) (h : Inv s t) : ∃ Z : Sto × Sto, (bd2 (f_X6_item a1 a2 a3 v s) fun r1 s1 => bd2 (f_X7_item a1 a2 a3 v t) fun r2 s2 => if r1 = r2 then some (s1, s2) else none) = some Z ∧ Inv Z.1 Z.2 := by
  have hI := h
  obtain ⟨A, n, Hs, hF, hG, hT, hS, hK⟩ := h
  rcases rowL hS a1 a2 with ⟨k, l, n, hk, rfl, rfl, ho, e1⟩ | ⟨r, r0, e1, e2⟩
  · have ho' := ho
    obtain ⟨c1, hl, hn, c2, c3, c4, c5⟩ := ho'
    rcases fits hk ho a3 (c := 1) (by omega) with ⟨i, hi, rfl, g1, g2⟩ | ⟨g1, g2⟩
    · obtain ⟨w, w1, w2⟩ := nar_cut (s := s) (t := t) (nI l) v
      refine ⟨(_, _), st_of (r := 1) (s' := upL s (115 + 2 * k) i w) (t' := upL t 130 (24 * k + i) w) ?_ ?_, Inv_s hI (IS_s (k := k) hS (fun c a b => ⟨rfl, upL_ne b⟩) (fun j hj => ⟨rfl, rfl⟩) (fun j hj => ?_) (fun j hj => ?_) (Or.inr ⟨l, n, c1, hl, hn, c2, c3, c4, c5⟩)) (fun c hc => ⟨rfl, upL_ne (by omega)⟩) (fun c hc => rfl)⟩
      · unfold f_X6_item
        rw [e1, bds, if00, rdR_nI (by omega) (by omega), bds, c113, show f_X3_holds (114 + 2 * k) (nI i) (1 : Int32) s = some 1 from g1, bds, if10, bds, w1, bds, c113, c114, wrL_nI (by omega) (by omega), bds]
      · unfold f_X7_item
        rw [m_isSheet hk, bds, if10, in4 hl, bds, if10, show f_X7_found (nI k) (nI l) (nI i) (1 : Int32) t = some 0 from g2, bds, if_pos (by decide), w2, bds, show (24 : Int32) * nI k + nI i = nI (24 * k + i) by rw [show (24 : Int32) = nI 24 from rfl, pk_mul, nI_add], wrL_nI (by omega) (by omega), bds]
      · rw [upL_at, if_neg (by omega)]
      · rw [upL_at, upL_at]
        by_cases e : j = i
        · rw [if_pos ⟨rfl, e⟩, if_pos ⟨rfl, by omega⟩]
        · rw [if_neg (by omega), if_neg (by omega)]
          exact (hS k hk).1 j hj
    · refine ⟨(s, t), st_of (r := -13) ?_ ?_, hI⟩
      · unfold f_X6_item
        rw [e1, bds, if00, rdR_nI (by omega) (by omega), bds, c113, show f_X3_holds (114 + 2 * k) a3 (1 : Int32) s = some 0 from g1, bds, if00]
      · unfold f_X7_item
        rw [m_isSheet hk, bds, if10, in4 hl, bds, if10, show f_X7_found (nI k) (nI l) a3 (1 : Int32) t = some (-13) from g2, bds, if_neg (by decide)]
  · refine ⟨(s, t), st_of (r := r) ?_ ?_, hI⟩
    · unfold f_X6_item; rw [e1, bds, if_neg r0]
    · exact e2 a3 1 _
theorem P31 (a1 a2 a3 a4 a5 : Int32) (h : Inv s t) : ∃ Z : Sto × Sto, st_31 a1 a2 a3 a4 a5 s t = some Z ∧ Inv Z.1 Z.2 := P31' a1 a2 a3 _ h
end
