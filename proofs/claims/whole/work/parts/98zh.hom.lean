/-! more columns than rows -/
section
variable {A : Fm}
def skp (k i : Nat) : Nat := if i < k then i else i + 1
theorem sm_skip (f : Nat → Int) : ∀ (n k : Nat), k ≤ n → sm (n + 1) f = sm n (fun i => f (skp k i)) + f k := by
  intro n
  induction n with
  | zero => intro k hk; obtain rfl : k = 0 := by omega
            rfl
  | succ n ih =>
    intro k hk
    by_cases e : k = n + 1
    · subst e
      rw [sm_s (n + 1) f]
      congr 1
      exact sm_congr fun i hi => by
        show f i = f (if i < n + 1 then i else i + 1)
        rw [if_pos hi]
    · rw [sm_s (n + 1) f, ih k (by omega), sm_s n, show skp k n = n + 1 from if_neg (by omega)]
      omega
theorem hom : ∀ (s r : Nat) (c : Nat → Nat → Int), s < r → ∃ x : Nat → Int, (∃ i, i < r ∧ x i ≠ 0) ∧ ∀ l, l < s → sm r (fun i => x i * c i l) = 0 := by
  intro s
  induction s with
  | zero => intro r c h; exact ⟨fun _ => 1, ⟨0, h, by decide⟩, fun l hl => absurd hl (Nat.not_lt_zero _)⟩
  | succ s ih =>
    intro r c h
    by_cases z : ∃ k, k < r ∧ c k s ≠ 0
    · obtain ⟨k, hk, hc⟩ := z
      obtain ⟨t, rfl⟩ : ∃ t, r = t + 1 := ⟨r - 1, by omega⟩
      obtain ⟨y, ⟨i0, h1, h2⟩, h3⟩ := ih t (fun i l => c k s * c (skp k i) l - c (skp k i) s * c k l) (by omega)
      -- y over all but k
      obtain ⟨w, hw⟩ : ∃ w : Int, w = sm t (fun i => y i * c (skp k i) s) := ⟨_, rfl⟩
      obtain ⟨x, hx⟩ : ∃ x : Nat → Int, x = fun i => if i = k then - w else c k s * y (if i < k then i else i - 1) := ⟨_, rfl⟩
      have xk : x k = - w := by rw [hx]; exact if_pos rfl
      have xs : ∀ i, x (skp k i) = c k s * y i := by
        intro i
        rw [hx]
        show (if skp k i = k then - w else c k s * y (if skp k i < k then skp k i else skp k i - 1)) = _
        unfold skp
        by_cases e : i < k
        · rw [if_pos e, if_neg (by omega), if_pos e]
        · rw [if_neg e, if_neg (by omega), if_neg (by omega)]; rfl
      refine ⟨x, ⟨skp k i0, by unfold skp; split <;> omega, by rw [xs]; exact Int.mul_ne_zero hc h2⟩, fun l hl => ?_⟩
      rw [sm_skip _ t k (by omega)]
      have e1 : sm t (fun i => x (skp k i) * c (skp k i) l) = c k s * sm t (fun i => y i * c (skp k i) l) := by
        rw [← sm_mul]
        exact sm_congr fun i _ => by rw [xs, Int.mul_assoc]
      show sm t (fun i => x (skp k i) * c (skp k i) l) + x k * c k l = 0
      rw [e1, xk]
      by_cases e : l = s
      · subst e
        rw [← hw, Int.neg_mul, Int.mul_comm]
        omega
      · have e2 := h3 l (by omega)
        have e3 : sm t (fun i => y i * (c k s * c (skp k i) l - c (skp k i) s * c k l)) = c k s * sm t (fun i => y i * c (skp k i) l) - w * c k l := by
          rw [hw, ← sm_mul, ← sm_mulr, ← sm_sub]
          exact sm_congr fun i _ => by grind
        rw [e3] at e2
        rw [Int.neg_mul]
        omega
    · obtain ⟨x, h1, h2⟩ := ih r c (by omega)
      refine ⟨x, h1, fun l hl => ?_⟩
      by_cases e : l = s
      · subst e
        refine sm_zero fun i hi => ?_
        have : c i l = 0 := Classical.byContradiction fun q => z ⟨i, hi, q⟩
        rw [this, Int.mul_zero]
      · exact h2 l (by omega)
/-- told apart, and each made of fewer: no -/
theorem stz {r s : Nat} (v w : Nat → Nat → Int) (hv : ∀ x : Nat → Int, (∀ p, p < 12 → sm r (fun i => x i * v i p) = 0) → ∀ i, i < r → x i = 0) (d : Nat → Int) (hd : ∀ i, i < r → d i ≠ 0) (c : Nat → Nat → Int) (hc : ∀ i, i < r → ∀ p, p < 12 → d i * v i p = sm s (fun l => c i l * w l p)) : r ≤ s := by
  refine Classical.byContradiction fun q => ?_
  obtain ⟨x, ⟨i, h1, h2⟩, h3⟩ := hom s r c (by omega)
  have := hv (fun i => x i * d i) (fun p hp => by
    have e1 : sm r (fun i => x i * d i * v i p) = sm r (fun i => sm s (fun l => x i * (c i l * w l p))) := sm_congr fun i hi => by
      rw [Int.mul_assoc, hc i hi p hp, sm_mul]
    have e2 : sm s (fun l => sm r (fun i => x i * (c i l * w l p))) = 0 := sm_zero fun l hl => by
      have e3 : sm r (fun i => x i * (c i l * w l p)) = sm r (fun i => x i * c i l) * w l p := by
        rw [← sm_mulr]
        exact sm_congr fun i _ => by rw [Int.mul_assoc]
      rw [e3, h3 l hl, Int.zero_mul]
    show sm r (fun i => x i * d i * v i p) = 0
    rw [e1, sm_swap, e2]) i h1
  exact (Int.mul_ne_zero h2 (hd i h1)) this
end
