def ky (A : Fm) (h : Nat) : Int := kk (sX A h) (sY A h)
def ah (A : Fm) (g h : Nat) : Bool := av (sX A g) (sY A g) (sX A h) (sY A h)
def trn (A : Fm) (h : Nat) : Nat := cnt (fun g => decide (fS A g = fS A h) && ah A g h) (2 * fM A)
def bk (h : Nat) : Nat := if h % 2 = 0 then h + 1 else h - 1
theorem bk_lt {h m : Nat} (hh : h < 2 * m) : bk h < 2 * m := by unfold bk; split <;> omega
theorem bk_bk (h : Nat) : bk (bk h) = h := by unfold bk; split <;> split <;> omega
theorem bk_2 (h : Nat) : bk h / 2 = h / 2 := by unfold bk; split <;> omega
theorem bk_ne (h : Nat) : bk h ≠ h := by unfold bk; split <;> omega
theorem fS_bk (A : Fm) (h : Nat) : fS A (bk h) = fE A h := by
  have := bk_2 h
  unfold fS fE
  rw [this]
  unfold bk
  by_cases c : h % 2 = 0
  · rw [if_pos c, if_pos c, if_neg (by omega)]
  · rw [if_neg c, if_neg c, if_pos (by omega)]
theorem fE_bk (A : Fm) (h : Nat) : fE A (bk h) = fS A h := by rw [← fS_bk A (bk h), bk_bk]
theorem sX_bk (A : Fm) (h : Nat) : sX A (bk h) = - sX A h := by unfold sX; rw [fS_bk, fE_bk]; omega
theorem sY_bk (A : Fm) (h : Nat) : sY A (bk h) = - sY A h := by unfold sY; rw [fS_bk, fE_bk]; omega
theorem onP_comm (A : Fm) (a b : Nat) (px py : Int) : onP A a b px py = onP A b a px py := by
  have e1 : (tnP A a b px py = 0) = (tnP A b a px py = 0) := by
    rw [tnP_alt, tnP_alt]
    apply propext
    constructor <;> intro h <;> grind
  have e2 : dtP A a b px py = dtP A b a px py := by unfold dtP; grind
  unfold onP
  rw [e2]
  simp only [e1]
section
variable {A : Fm}
theorem st_ne (hw : WF A) {h : Nat} (hh : h < 2 * fM A) : ¬ (sX A h = 0 ∧ sY A h = 0) := by
  intro ⟨e1, e2⟩
  unfold sX at e1
  unfold sY at e2
  exact fS_ne hw.1 hh (hw.2.1 _ _ (fS_lt hw.1 hh) (fE_lt hw.1 hh) (by omega) (by omega))
/-- no joint on a bar -/
theorem no_on (hw : WF A) {h j : Nat} (hh : h < 2 * fM A) (hj : j < fN A) : onP A (fS A h) (fE A h) (fX A j) (fY A j) = false := by
  have hb := hw.2.2.2.1 (h / 2) (by omega)
  unfold blk at hb
  rw [Bool.or_eq_false_iff] at hb
  have := ex_ff.mp hb.1 j hj
  unfold fS fE
  by_cases c : h % 2 = 0
  · rw [if_pos c, if_pos c]; exact this
  · rw [if_neg c, if_neg c, onP_comm]; exact this
theorem on_iff (A : Fm) (p u v : Nat) : onP A p u (fX A v) (fY A v) = true ↔ (fX A u - fX A p) * (fY A v - fY A p) - (fY A u - fY A p) * (fX A v - fX A p) = 0 ∧ (fX A v - fX A p) * (fX A v - fX A p) + (fY A v - fY A p) * (fY A v - fY A p) < (fX A u - fX A p) * (fX A v - fX A p) + (fY A u - fY A p) * (fY A v - fY A p) := by
  unfold onP tnP dtP
  simp only [Bool.and_eq_true, decide_eq_true_eq]
  have : (fX A p - fX A v) * (fX A u - fX A v) + (fY A p - fY A v) * (fY A u - fY A v) = (fX A v - fX A p) * (fX A v - fX A p) + (fY A v - fY A p) * (fY A v - fY A p) - ((fX A u - fX A p) * (fX A v - fX A p) + (fY A u - fY A p) * (fY A v - fY A p)) := by grind
  rw [this]
  constructor
  · rintro ⟨a, b⟩; exact ⟨a, by omega⟩
  · rintro ⟨a, b⟩; exact ⟨a, by omega⟩
theorem ky_inj (hw : WF A) {g h : Nat} (hg : g < 2 * fM A) (hh : h < 2 * fM A) (hs : fS A g = fS A h) (e : ky A g = ky A h) : g = h := by
  have hB := hw.1
  have b1 := step_le hB hg
  have b2 := step_le hB hh
  obtain ⟨k1, k2⟩ := (kk_av b1.1 b1.2 b2.1 b2.2 (st_ne hw hg) (st_ne hw hh)).2 e
  have n1 := no_on hw (h := g) (j := fE A h) hg (fE_lt hB hh)
  have n2 := no_on hw (h := h) (j := fE A g) hh (fE_lt hB hg)
  have o1 := on_iff A (fS A g) (fE A g) (fE A h)
  have o2 := on_iff A (fS A h) (fE A h) (fE A g)
  have q1 : fX A (fE A g) - fX A (fS A g) = sX A g := rfl
  have q2 : fY A (fE A g) - fY A (fS A g) = sY A g := rfl
  have q3 : fX A (fE A h) - fX A (fS A h) = sX A h := rfl
  have q4 : fY A (fE A h) - fY A (fS A h) = sY A h := rfl
  rw [q1, q2] at o1
  rw [q3, q4] at o2
  rw [hs, q3, q4] at o1
  rw [← hs, q1, q2] at o2
  rw [hs] at n1
  rw [← hs] at n2
  rcases k2 with ⟨e1, e2⟩ | k2 | k2
  · have ee : fE A g = fE A h := hw.2.1 _ _ (fE_lt hB hg) (fE_lt hB hh) (by unfold sX at e1; rw [hs] at e1; omega) (by unfold sY at e2; rw [hs] at e2; omega)
    have ab1 := hB.2.2.2 (g / 2) (by omega)
    have ab2 := hB.2.2.2 (h / 2) (by omega)
    have key : g / 2 = h / 2 := by
      refine hw.2.2.1 _ _ (by omega) (by omega) ?_ ?_
      all_goals
        unfold fS at hs
        unfold fE at ee
        by_cases c1 : g % 2 = 0 <;> by_cases c2 : h % 2 = 0 <;> simp only [c1, c2, if_true, if_false] at hs ee <;> omega
    by_cases c : g % 2 = h % 2
    · omega
    · exfalso
      have : h = bk g := by unfold bk; split <;> omega
      rw [this, fS_bk] at hs
      exact fS_ne hB hg hs
  · have := o1.mpr ⟨k1, k2⟩
    rw [n1] at this; cases this
  · have := o2.mpr ⟨by grind, by grind⟩
    rw [n2] at this; cases this
theorem ah_ky (hw : WF A) {g h : Nat} (hg : g < 2 * fM A) (hh : h < 2 * fM A) : ah A g h = decide (ky A g < ky A h) := by
  have b1 := step_le hw.1 hg
  have b2 := step_le hw.1 hh
  exact (kk_av b1.1 b1.2 b2.1 b2.2 (st_ne hw hg) (st_ne hw hh)).1
theorem trn_ky (hw : WF A) {h : Nat} (hh : h < 2 * fM A) : trn A h = cnt (fun g => decide (fS A g = fS A h) && decide (ky A g < ky A h)) (2 * fM A) := cnt_congr fun g hg => by rw [ah_ky hw hg hh]
theorem trn_mono (hw : WF A) {g h : Nat} (hg : g < 2 * fM A) (hh : h < 2 * fM A) (hs : fS A g = fS A h) (e : ky A g < ky A h) : trn A g < trn A h := by
  rw [trn_ky hw hg, trn_ky hw hh]
  refine cnt_ss (k := g) (fun i hi hp => ?_) hg (by simp) (by simp [hs, e])
  simp only [Bool.and_eq_true, decide_eq_true_eq] at hp ⊢
  exact ⟨hp.1.trans hs, by omega⟩
theorem trn_inj (hw : WF A) {g h : Nat} (hg : g < 2 * fM A) (hh : h < 2 * fM A) (hs : fS A g = fS A h) (e : trn A g = trn A h) : g = h := by
  refine ky_inj hw hg hh hs ?_
  rcases Int.lt_trichotomy (ky A g) (ky A h) with c | c | c
  · have := trn_mono hw hg hh hs c; omega
  · exact c
  · have := trn_mono hw hh hg hs.symm c; omega
theorem dg_cnt (hB : BF A) (j : Nat) : dg A j = cnt (fun h => decide (fS A h = j)) (2 * fM A) := (dg_half hB j (fM A) (Nat.le_refl _)).symm
theorem trn_lt (hw : WF A) {h : Nat} (hh : h < 2 * fM A) : trn A h < dg A (fS A h) := by
  rw [trn_ky hw hh, dg_cnt hw.1]
  refine cnt_ss (k := h) (fun i hi hp => ?_) hh (by simp) (by simp)
  simp only [Bool.and_eq_true, decide_eq_true_eq] at hp ⊢
  exact hp.1
theorem trn_sur (hw : WF A) {j t : Nat} (ht : t < dg A j) : ∃ h, h < 2 * fM A ∧ fS A h = j ∧ trn A h = t := by
  obtain ⟨h, h1, h2, h3⟩ := pigeon_all (n := 2 * fM A) (d := dg A j) (p := fun h => decide (fS A h = j)) (f := trn A) (fun i hi hp => by
    simp only [decide_eq_true_eq] at hp
    rw [← hp]; exact trn_lt hw hi) (fun i k hi hk hp hq e => by
    simp only [decide_eq_true_eq] at hp hq
    exact trn_inj hw hi hk (hp.trans hq.symm) e) (dg_cnt hw.1 j).symm ht
  exact ⟨h, h1, by simpa using h2, h3⟩
end
/-- the last that is so -/
def fnd (p : Nat → Bool) : Nat → Nat
  | 0 => 99
  | n + 1 => if p n = true then n else fnd p n
theorem fnd_s (p : Nat → Bool) (n : Nat) : fnd p (n + 1) = if p n = true then n else fnd p n := rfl
theorem fnd_eq {p : Nat → Bool} {n k : Nat} (hk : k < n) (hp : p k = true) (hu : ∀ i, i < n → p i = true → i = k) : fnd p n = k := by
  induction n with
  | zero => omega
  | succ n ih =>
    rw [fnd_s]
    by_cases c : p n = true
    · rw [if_pos c]; exact hu n (by omega) c
    · rw [if_neg c]
      have : k ≠ n := fun e => c (by rw [← e]; exact hp)
      exact ih (by omega) (fun i hi h => hu i (by omega) h)
def hv (A : Fm) (j i : Nat) : Nat := fnd (fun h => decide (fS A h = j) && decide (trn A h = i)) (2 * fM A)
def nx (A : Fm) (h : Nat) : Nat := hv A (fE A h) ((trn A (bk h) + dg A (fE A h) - 1) % dg A (fE A h))
section
variable {A : Fm}
theorem hv_of (hw : WF A) {h : Nat} (hh : h < 2 * fM A) : hv A (fS A h) (trn A h) = h := by
  refine fnd_eq hh (by simp) (fun i hi hp => ?_)
  simp only [Bool.and_eq_true, decide_eq_true_eq] at hp
  exact trn_inj hw hi hh hp.1 hp.2
theorem hv_spec (hw : WF A) {j t : Nat} (ht : t < dg A j) : hv A j t < 2 * fM A ∧ fS A (hv A j t) = j ∧ trn A (hv A j t) = t := by
  obtain ⟨h, h1, h2, h3⟩ := trn_sur hw ht
  have := hv_of hw h1
  rw [h2, h3] at this
  rw [this]
  exact ⟨h1, h2, h3⟩
theorem dg_pos (hw : WF A) {h : Nat} (hh : h < 2 * fM A) : 0 < dg A (fE A h) := by
  have := trn_lt hw (bk_lt hh)
  rw [fS_bk] at this
  omega
theorem nx_spec (hw : WF A) {h : Nat} (hh : h < 2 * fM A) : nx A h < 2 * fM A ∧ fS A (nx A h) = fE A h ∧ trn A (nx A h) = (trn A (bk h) + dg A (fE A h) - 1) % dg A (fE A h) := hv_spec hw (Nat.mod_lt _ (dg_pos hw hh))
theorem dg_le (hB : BF A) (j : Nat) : dg A j ≤ 9 := Nat.le_trans cnt_le hB.2.1
end
