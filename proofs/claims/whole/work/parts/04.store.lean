def TT : List Cond := lw_tbl.filter goodWord
theorem tt_mem {w : Cond} (h : w ∈ lw_tbl) (hg : goodWord w = true) : w ∈ TT := List.mem_filter.mpr ⟨h, hg⟩
theorem tt_good {a b : Cond} (h : b ∈ TT) : GoodIn (a :: TT) (b :: TT) := by
  intro w hw
  have hm : w ∈ TT := (List.mem_cons.mp hw).elim (fun e => e ▸ h) id
  exact ⟨List.mem_cons_of_mem _ hm, good_of_word (List.mem_filter.mp hm).2⟩
theorem tt_goodT {b : Cond} (h : b ∈ TT) : GoodIn TT (b :: TT) := by
  intro w hw
  have hm : w ∈ TT := (List.mem_cons.mp hw).elim (fun e => e ▸ h) id
  exact ⟨hm, good_of_word (List.mem_filter.mp hm).2⟩
abbrev Sto : Type := (Nat → Nat → Int32) × (Nat → Nat → Int64)
abbrev Gm : Type := (Nat → Nat) × va_G × (Nat → ClassId)
/-- the cells' shapes: 0 int row, 1 long row, 2 boolean row, 3 char row, 4 row of Frames, 5 row of Rows, 10 on objects -/
def shL : List (Nat × Nat) := [(16, 0), (11, 0), (0, 6), (0, 6), (0, 9), (0, 9), (0, 9), (11, 0), (0, 6), (0, 6), (0, 9), (0, 9), (0, 9), (11, 0), (0, 6), (0, 6), (0, 9), (0, 9), (0, 9), (12, 0), (4, 6), (11, 0), (0, 6), (0, 6), (0, 9), (0, 9), (0, 9), (11, 0), (0, 6), (0, 6), (0, 9), (0, 9), (0, 9), (11, 0), (0, 6), (0, 6), (0, 9), (0, 9), (0, 9), (11, 0), (0, 6), (0, 6), (0, 9), (0, 9), (0, 9), (11, 0), (0, 6), (0, 6), (0, 9), (0, 9), (0, 9), (11, 0), (0, 6), (0, 6), (0, 9), (0, 9), (0, 9), (12, 0), (4, 6), (11, 0), (0, 6), (0, 6), (0, 9), (0, 9), (0, 9), (11, 0), (0, 6), (0, 6), (0, 9), (0, 9), (0, 9), (11, 0), (0, 6), (0, 6), (0, 9), (0, 9), (0, 9), (11, 0), (0, 6), (0, 6), (0, 9), (0, 9), (0, 9), (11, 0), (0, 6), (0, 6), (0, 9), (0, 9), (0, 9), (11, 0), (0, 6), (0, 6), (0, 9), (0, 9), (0, 9), (14, 0), (1, 81), (1, 9), (1, 108), (0, 9), (10, 0), (0, 18), (0, 18), (0, 18), (0, 18), (0, 18), (0, 18), (1, 18), (1, 18), (1, 18), (2, 18), (15, 0), (3, 60), (5, 4), (13, 0), (1, 24), (13, 0), (1, 24), (13, 0), (1, 24), (13, 0), (1, 24), (17, 0), (0, 42), (0, 252), (0, 42), (0, 252), (0, 60), (0, 4), (0, 4), (1, 96), (1, 24), (0, 42), (0, 42), (1, 108), (0, 12), (0, 18), (1, 18), (1, 18), (1, 18), (1, 18), (1, 18), (2, 18), (0, 42)]
def sh (c : Nat) : Nat × Nat := shL.getD c (99, 0)
def stI (σ : Sto) (c : Nat) (f : Nat → Int32) : Sto := (va_up σ.1 c f, σ.2)
def stL (σ : Sto) (c : Nat) (f : Nat → Int64) : Sto := (σ.1, va_up σ.2 c f)
def upI (σ : Sto) (c k : Nat) (x : Int32) : Sto := stI σ c (upd (σ.1 c) k x)
def upL (σ : Sto) (c k : Nat) (x : Int64) : Sto := stL σ c (vp_updL (σ.2 c) k x)
def rdI (σ : Sto) (c n : Nat) (i : Int32) : Option Int32 := if i < 0 ∨ n ≤ i.toNatClampNeg then none else some (σ.1 c i.toNatClampNeg)
def rdL (σ : Sto) (c n : Nat) (i : Int32) : Option Int64 := if i < 0 ∨ n ≤ i.toNatClampNeg then none else some (σ.2 c i.toNatClampNeg)
def rdR (n : Nat) (i : Int32) : Option Nat := if i < 0 ∨ n ≤ i.toNatClampNeg then none else some i.toNatClampNeg
def wrI (σ : Sto) (c n : Nat) (i x : Int32) : Option Sto := if i < 0 ∨ n ≤ i.toNatClampNeg then none else some (upI σ c i.toNatClampNeg x)
def wrL (σ : Sto) (c n : Nat) (i : Int32) (x : Int64) : Option Sto := if i < 0 ∨ n ≤ i.toNatClampNeg then none else some (upL σ c i.toNatClampNeg x)
def cpI (σ : Sto) (c0 n0 : Nat) (sp : Int32) (c1 n1 : Nat) (dp n : Int32) : Option Sto := if sp < 0 ∨ dp < 0 ∨ n < 0 ∨ n0 < sp.toNatClampNeg + n.toNatClampNeg ∨ n1 < dp.toNatClampNeg + n.toNatClampNeg then none else some (stI σ c1 (va_cpy (σ.1 c0) (σ.1 c1) sp.toNatClampNeg dp.toNatClampNeg n.toNatClampNeg))
def cpL (σ : Sto) (c0 n0 : Nat) (sp : Int32) (c1 n1 : Nat) (dp n : Int32) : Option Sto := if sp < 0 ∨ dp < 0 ∨ n < 0 ∨ n0 < sp.toNatClampNeg + n.toNatClampNeg ∨ n1 < dp.toNatClampNeg + n.toNatClampNeg then none else some (stL σ c1 (va_cpy (σ.2 c0) (σ.2 c1) sp.toNatClampNeg dp.toNatClampNeg n.toNatClampNeg))
def dvI (x y : Int32) : Option Int32 := if y = 0 then none else some (x / y)
def rmI (x y : Int32) : Option Int32 := if y = 0 then none else some (x - x / y * y)
def dvL (x y : Int64) : Option Int64 := if y = 0 then none else some (x / y)
def rmL (x y : Int64) : Option Int64 := if y = 0 then none else some (x - x / y * y)
def bz (x : Int32) : Option Int32 := if x = 0 ∨ x = 1 then some x else none
def lt {α β : Type} (x : α) (k : α → β) : β := k x
def bd {α β : Type} (o : Option α) (k : α → Option β) : Option β := match o with
  | none => none
  | some a => k a
def bd2 {α β γ : Type} (o : Option (α × β)) (k : α → β → Option γ) : Option γ := match o with
  | none => none
  | some a => k a.1 a.2
def lp {α β : Type} (body : (α → Option β) → α → Option β) : Nat → α → Option β
  | 0, _ => none
  | n + 1, x => body (lp body n) x
def fu : Nat := 4096
theorem lt_e {α β : Type} {v x : α} {k : α → β} {r : β} (e : x = v) (h : lt v k = r) : k x = r := by subst e; exact h
theorem ob {α β : Type} {o : Option α} {k : α → Option β} {r : β} (h : bd o k = some r) : ∃ t, o = some t ∧ k t = some r := by
  cases o with
  | none => cases h
  | some t => exact ⟨t, rfl, h⟩
theorem ob2 {α β γ : Type} {o : Option (α × β)} {k : α → β → Option γ} {r : γ} (h : bd2 o k = some r) : ∃ t u, o = some (t, u) ∧ k t u = some r := by
  cases o with
  | none => cases h
  | some t => exact ⟨t.1, t.2, rfl, h⟩
theorem itp {α : Type} {c : Prop} [Decidable c] {A B r : α} (h : c) (hf : (if c then A else B) = r) : A = r := by rwa [if_pos h] at hf
theorem itn {α : Type} {c : Prop} [Decidable c] {A B r : α} (h : ¬ c) (hf : (if c then A else B) = r) : B = r := by rwa [if_neg h] at hf
theorem rdI_e {σ : Sto} {c n : Nat} {i t : Int32} (h : rdI σ c n i = some t) : vp_in i n ∧ t = σ.1 c i.toNatClampNeg := by
  unfold rdI at h
  split at h
  · cases h
  · rename_i hn
    exact ⟨hn, (Option.some.inj h).symm⟩
theorem rdL_e {σ : Sto} {c n : Nat} {i : Int32} {t : Int64} (h : rdL σ c n i = some t) : vp_in i n ∧ t = σ.2 c i.toNatClampNeg := by
  unfold rdL at h
  split at h
  · cases h
  · rename_i hn
    exact ⟨hn, (Option.some.inj h).symm⟩
theorem rdR_e {n : Nat} {i : Int32} {t : Nat} (h : rdR n i = some t) : vp_in i n ∧ t = i.toNatClampNeg ∧ t < n := by
  unfold rdR at h
  split at h
  · cases h
  · rename_i hn
    have e := (Option.some.inj h).symm
    exact ⟨hn, e, by rw [e]; exact Nat.not_le.mp fun q => hn (Or.inr q)⟩
theorem wrI_e {σ s1 : Sto} {c n : Nat} {i x : Int32} (h : wrI σ c n i x = some s1) : vp_in i n ∧ s1 = upI σ c i.toNatClampNeg x := by
  unfold wrI at h
  split at h
  · cases h
  · rename_i hn
    exact ⟨hn, (Option.some.inj h).symm⟩
theorem wrL_e {σ s1 : Sto} {c n : Nat} {i : Int32} {x : Int64} (h : wrL σ c n i x = some s1) : vp_in i n ∧ s1 = upL σ c i.toNatClampNeg x := by
  unfold wrL at h
  split at h
  · cases h
  · rename_i hn
    exact ⟨hn, (Option.some.inj h).symm⟩
theorem bz_e {x t : Int32} (h : bz x = some t) : t = x ∧ narrow .boolean (.int x) = .int x := by
  unfold bz at h
  split at h
  · rename_i hn
    refine ⟨(Option.some.inj h).symm, ?_⟩
    rcases hn with rfl | rfl <;> rfl
  · cases h
/-- what an object's fields hold, by its class -/
def flds (ad : Nat → Nat) (σ : Sto) (c : Nat) : Nat → List Value
  | 0 => [.int (σ.1 c 0), .int (σ.1 c 1), .ref (ad (c + 1)), .ref (ad (c + 2)), .ref (ad (c + 3)), .ref (ad (c + 4)), .ref (ad (c + 5)), .ref (ad (c + 6)), .ref (ad (c + 7)), .ref (ad (c + 8)), .ref (ad (c + 9)), .ref (ad (c + 10))]
  | 1 => [.int (σ.1 c 0), .int (σ.1 c 1), .int (σ.1 c 2), .ref (ad (c + 1)), .ref (ad (c + 2)), .ref (ad (c + 3)), .ref (ad (c + 4)), .ref (ad (c + 5))]
  | 2 => [.ref (ad (c + 1)), .int (σ.1 c 1), .int (σ.1 c 2)]
  | 3 => [.int (σ.1 c 0), .int (σ.1 c 1), .int (σ.1 c 2), .ref (ad (c + 1))]
  | 4 => [.int (σ.1 c 0), .int (σ.1 c 1), .int (σ.1 c 2), .long (σ.2 c 3), .ref (ad (c + 1)), .ref (ad (c + 2)), .ref (ad (c + 3)), .ref (ad (c + 4))]
  | 5 => [.ref (ad (c + 1)), .int (σ.1 c 1), .int (σ.1 c 2)]
  | 6 => [.ref (ad (c + 1)), .ref (ad (c + 7)), .ref (ad (c + 13)), .ref (ad (c + 19)), .ref (ad (c + 57)), .ref (ad (c + 95)), .ref (ad (c + 100)), .ref (ad (c + 111)), .ref (ad (c + 113)), .int (σ.1 c 9), .int (σ.1 c 10)]
  | _ => [.ref (ad (c + 1)), .ref (ad (c + 2)), .int (σ.1 c 2), .ref (ad (c + 3)), .ref (ad (c + 4)), .int (σ.1 c 5), .ref (ad (c + 5)), .int (σ.1 c 7), .ref (ad (c + 6)), .ref (ad (c + 7)), .ref (ad (c + 8)), .ref (ad (c + 9)), .ref (ad (c + 10)), .ref (ad (c + 11)), .ref (ad (c + 12)), .ref (ad (c + 13)), .long (σ.2 c 16), .int (σ.1 c 17), .ref (ad (c + 14)), .int (σ.1 c 19), .ref (ad (c + 15)), .ref (ad (c + 16)), .ref (ad (c + 17)), .ref (ad (c + 18)), .ref (ad (c + 19)), .ref (ad (c + 20)), .int (σ.1 c 26), .ref (ad (c + 21))]
def en (G : Gm) (σ : Sto) (c : Nat) : va_E := match (sh c).1 with
  | 0 => .inl (G.2.2 0, (sh c).2, .inl (σ.1 c))
  | 1 => .inl (G.2.2 1, (sh c).2, .inr (.inl (σ.2 c)))
  | 2 => .inl (G.2.2 2, (sh c).2, .inl (σ.1 c))
  | 3 => .inl (G.2.2 3, (sh c).2, .inl (σ.1 c))
  | 4 => .inl (G.2.2 4, (sh c).2, .inr (.inr (.inr (.inr (fun i => some (G.1 (c + 1 + 6 * i)))))))
  | 5 => .inl (G.2.2 5, (sh c).2, .inr (.inr (.inr (.inr (fun i => some (G.1 (c + 1 + 2 * i)))))))
  | k => .inr (k - 10, flds G.1 σ c (k - 10))
/-- the world of the cells lo on, n of them -/
abbrev Rg : Type := Nat × Nat
def rC : Rg := (0, 122)
def rM : Rg := (122, 22)
def WS (g : Rg) (G : Gm) (σ : Sto) : va_W := (List.range g.2).map (fun i => (G.1 (g.1 + i), en G σ (g.1 + i)))
def inR (g : Rg) (c : Nat) : Prop := g.1 ≤ c ∧ c < g.1 + g.2
def Am (g : Rg) (G : Gm) : Nat → Prop := fun q => ∃ c, inR g c ∧ q = G.1 c
def Ap (g : Rg) (G : Gm) : Prop := ∀ i j, inR g i → inR g j → G.1 i = G.1 j → i = j
theorem ws_at {g : Rg} {G : Gm} {σ : Sto} {c : Nat} (h : inR g c) : (WS g G σ)[c - g.1]? = some (G.1 c, en G σ c) := by
  obtain ⟨h1, h2⟩ := h
  have h3 : c - g.1 < g.2 := by omega
  have h4 : g.1 + (c - g.1) = c := by omega
  simp [WS, h3, h4]
theorem ws_len {g : Rg} {G : Gm} {σ : Sto} : (WS g G σ).length = g.2 := by simp [WS]
theorem ws_D {g : Rg} {G : Gm} {σ : Sto} (hG : Ap g G) : va_D (Am g G) (WS g G σ) := by
  have key : ∀ (i : Nat) (q : Nat × va_E), (WS g G σ)[i]? = some q → i < g.2 ∧ q.1 = G.1 (g.1 + i) := by
    intro i q h
    have hi : i < g.2 := by rw [← ws_len (g := g) (G := G) (σ := σ)]; exact (List.getElem?_eq_some_iff.mp h).1
    refine ⟨hi, ?_⟩
    simp [WS, hi] at h
    rw [← h]
  refine ⟨fun i j p q hp hq e => ?_, fun k q hq => ?_⟩
  · obtain ⟨i1, e1⟩ := key i p hp
    obtain ⟨j1, e2⟩ := key j q hq
    have := hG (g.1 + i) (g.1 + j) ⟨by omega, by omega⟩ ⟨by omega, by omega⟩ (by rw [← e1, ← e2]; exact e)
    omega
  · obtain ⟨i1, e1⟩ := key k q hq
    exact ⟨g.1 + k, ⟨by omega, by omega⟩, e1⟩
theorem ws_set {g : Rg} {G : Gm} {σ σ' : Sto} {c : Nat} {e : va_E} (h : inR g c) (he : en G σ' c = e) (ho : ∀ b, b ≠ c → en G σ' b = en G σ b) : (WS g G σ).set (c - g.1) (G.1 c, e) = WS g G σ' := by
  obtain ⟨h1, h2⟩ := h
  apply List.ext_getElem?
  intro i
  rw [List.getElem?_set]
  by_cases hi : c - g.1 = i
  · subst hi
    rw [if_pos rfl, if_pos (by rw [ws_len]; omega), ws_at ⟨h1, h2⟩, he]
  · rw [if_neg hi]
    by_cases hl : i < g.2
    · have e1 := ho (g.1 + i) (by omega)
      simp [WS, hl, e1]
    · rw [List.getElem?_eq_none (by rw [ws_len]; omega), List.getElem?_eq_none (by rw [ws_len]; omega)]
theorem en_stI {G : Gm} {σ : Sto} {c : Nat} {f : Nat → Int32} {b : Nat} (h : b ≠ c) : en G (stI σ c f) b = en G σ b := by
  have e : (stI σ c f).1 b = σ.1 b := va_up_ne _ _ h
  have e2 : (stI σ c f).2 = σ.2 := rfl
  have e3 : ∀ k, flds G.1 (stI σ c f) b k = flds G.1 σ b k := by
    intro k
    unfold flds
    split <;> simp only [e, e2]
  unfold en
  split <;> simp only [e, e2, e3]
theorem en_stL {G : Gm} {σ : Sto} {c : Nat} {f : Nat → Int64} {b : Nat} (h : b ≠ c) : en G (stL σ c f) b = en G σ b := by
  have e : (stL σ c f).2 b = σ.2 b := va_up_ne _ _ h
  have e2 : (stL σ c f).1 = σ.1 := rfl
  have e3 : ∀ k, flds G.1 (stL σ c f) b k = flds G.1 σ b k := by
    intro k
    unfold flds
    split <;> simp only [e, e2]
  unfold en
  split <;> simp only [e, e2, e3]
theorem en_I {G : Gm} {σ : Sto} {c n : Nat} (h : sh c = (0, n)) : en G σ c = .inl (G.2.2 0, n, .inl (σ.1 c)) := by simp [en, h]
theorem en_L {G : Gm} {σ : Sto} {c n : Nat} (h : sh c = (1, n)) : en G σ c = .inl (G.2.2 1, n, .inr (.inl (σ.2 c))) := by simp [en, h]
theorem en_Z {G : Gm} {σ : Sto} {c n : Nat} (h : sh c = (2, n)) : en G σ c = .inl (G.2.2 2, n, .inl (σ.1 c)) := by simp [en, h]
theorem en_C {G : Gm} {σ : Sto} {c n : Nat} (h : sh c = (3, n)) : en G σ c = .inl (G.2.2 3, n, .inl (σ.1 c)) := by simp [en, h]
theorem en_F {G : Gm} {σ : Sto} {c n : Nat} (h : sh c = (4, n)) : en G σ c = .inl (G.2.2 4, n, .inr (.inr (.inr (.inr (fun i => some (G.1 (c + 1 + 6 * i))))))) := by simp [en, h]
theorem en_R {G : Gm} {σ : Sto} {c n : Nat} (h : sh c = (5, n)) : en G σ c = .inl (G.2.2 5, n, .inr (.inr (.inr (.inr (fun i => some (G.1 (c + 1 + 2 * i))))))) := by simp [en, h]
theorem en_O {G : Gm} {σ : Sto} {c ci : Nat} (h : sh c = (ci + 10, 0)) : en G σ c = .inr (ci, flds G.1 σ c ci) := by
  have e : ci + 10 - 10 = ci := Nat.add_sub_cancel ci 10
  simp [en, h]
def tysG (G : Gm) : List (ClassId × FieldType) := [(G.2.2 0, .int), (G.2.2 1, .long), (G.2.2 2, .boolean), (G.2.2 3, .char), (G.2.2 4, .object "ForceFrames$Frame"), (G.2.2 5, .object "ForceFrames$Row")]
def GK (g : Rg) (G : Gm) (U : State) : Prop := va_K G.2.1 vwCl (tysG G) U ∧ Ap g G ∧ va_Nw (.methodLinkNest RX1 91 yX6_asBit RX6) U ∧ va_Nw (.methodLinkNest RX4 66 yX6_asBit RX6) U
def GS (g : Rg) (G : Gm) (σ : Sto) (U : State) : Prop := va_P G.2.1 vwCl (WS g G σ) U.heap ∧ GK g G U
def Hh (g : Rg) (G : Gm) (σ : Sto) (s : State) (H : Heap) (locs : List Loc) : Prop := va_P G.2.1 vwCl (WS g G σ) H ∧ va_S (Am g G) s.heap H locs
def Fx (g : Rg) (p : Program) (s : State) (m : MethodId) (args : Array Value) (c : Code) (cc : ByteArray) (nL : Nat) (own : String) (G : Gm) : Prop :=
  p.tables.exec = Jvm.exec ∧ c.code = cc ∧ c.maxLocals = nL ∧ s.vm.findClass own = some m.cls ∧ (∀ w ∈ TT, w.before args s = true) ∧ GK g G s
def QI (g : Rg) (G : Gm) (r : Int32) (σ : Sto) : Array Value → State → Outcome → State → Prop := va_Qi (S := Unit) (fun r' _ => r' = r) (fun _ t => va_P G.2.1 vwCl (WS g G σ) t.heap) (Am g G)
def QL (g : Rg) (G : Gm) (r : Int64) (σ : Sto) : Array Value → State → Outcome → State → Prop := va_Ql (S := Unit) (fun r' _ => r' = r) (fun _ t => va_P G.2.1 vwCl (WS g G σ) t.heap) (Am g G)
def QV (g : Rg) (G : Gm) (σ : Sto) : Array Value → State → Outcome → State → Prop := va_Qv (S := Unit) (fun _ => True) (fun _ t => va_P G.2.1 vwCl (WS g G σ) t.heap) (Am g G)
section
variable {p : Program} {l : Launch} {e : Env} {R : Room} {s : State} {m : MethodId} {args : Array Value} {below : List Frame} {meth : Method} {c : Code} {H : Heap} {locs : List Loc} {cells slots : Nat} {Q : State → Prop} {cc : ByteArray} {nL pc : Nat} {ls : Array Slot} {rest : List Value} {own : String} {g : Rg} {G : Gm} {σ : Sto}
theorem g_get (F : Fx g p s m args c cc nL own G) (hh : Hh g G σ s H locs) {C : String} {T : u_T} {N ci index b : Nat} (hin : ∀ w ∈ u_ws C T N, w ∈ TT) (hc : vwCl[ci]? = some (C, T, N)) (hr : inR g b) (hsh : sh b = (ci + 10, 0)) (k : Nat) (hk : k < N) (hlink : Cond.fieldLink own index (T k).1 (T k).2.1 (T k).2.2.1 ∈ TT) {v : Value} (hv : (flds G.1 σ b ci)[k]? = some v) (hdg : decode cc pc = .ok (.getfield index, 3)) (kk : W p l e R s m args below meth c H locs cells slots Q (F0 m (pc + 3) ls (v :: rest))) : W p l e R s m args below meth c H locs cells slots Q (F0 m pc ls (.ref (G.1 b) :: rest)) :=
  va_get F.1 F.2.1 F.2.2.2.2.1 hin F.2.2.2.1 F.2.2.2.2.2.1 hh.1 (b - g.1) (by rw [ws_at hr, en_O hsh]) hc k hk (F.2.2.2.2.1 _ hlink) (fun _ h => h) hv hdg kk
theorem g_putI (F : Fx g p s m args c cc nL own G) (hh : Hh g G σ s H locs) {C : String} {T : u_T} {N ci index b : Nat} (hin : ∀ w ∈ u_ws C T N, w ∈ TT) (hc : vwCl[ci]? = some (C, T, N)) (ty0 : Nat → FieldType) (hty : ∀ k, k < N → parseFieldDescriptor (T k).2.2.1 = some (ty0 k)) (hnm : ∀ a, a < N → ∀ b, b < N → a ≠ b → (T a).2.1 ≠ (T b).2.1) (hr : inR g b) (hsh : sh b = (ci + 10, 0)) (k : Nat) (hk : k < N) (hlink : Cond.fieldLink own index (T k).1 (T k).2.1 (T k).2.2.1 ∈ TT) (hfin : (T k).2.2.2 = false) {ty : FieldType} {v : Int32} (hd : parseFieldDescriptor (T k).2.2.1 = some ty) (hn : narrow ty (.int v) = .int v) (hfit : fits ty (.int v) = true) (hl : k < (flds G.1 σ b ci).length) (hup : (flds G.1 σ b ci).set k (.int v) = flds G.1 (upI σ b k v) b ci) (hdg : decode cc pc = .ok (.putfield index, 3))
    (kk : ∀ (σ1 : Sto), σ1 = upI σ b k v → ∀ (H : Heap) (locs : List Loc), Hh g G σ1 s H locs → W p l e R s m args below meth c H locs cells slots Q (F0 m (pc + 3) ls rest)) : W p l e R s m args below meth c H locs cells slots Q (F0 m pc ls (.int v :: .ref (G.1 b) :: rest)) := by
  refine va_put F.1 F.2.1 F.2.2.2.2.1 hin ty0 hty hnm F.2.2.2.1 F.2.2.2.2.2.1 hh.1 (ws_D F.2.2.2.2.2.2.1) hh.2 (b - g.1) (by rw [ws_at hr, en_O hsh]) hc k hk (F.2.2.2.2.1 _ hlink) (fun _ h => h) hfin hd hn hfit hl hdg (fun H1 locs1 hP _ hS => ?_)
  refine kk _ rfl H1 locs1 ⟨?_, hS⟩
  have e := ws_set (G := G) (σ := σ) (σ' := upI σ b k v) hr (e := .inr (ci, (flds G.1 σ b ci).set k (.int v))) (by rw [en_O hsh, hup]) (fun b' h => en_stI h)
  rw [← e]
  exact hP
theorem g_putL (F : Fx g p s m args c cc nL own G) (hh : Hh g G σ s H locs) {C : String} {T : u_T} {N ci index b : Nat} (hin : ∀ w ∈ u_ws C T N, w ∈ TT) (hc : vwCl[ci]? = some (C, T, N)) (ty0 : Nat → FieldType) (hty : ∀ k, k < N → parseFieldDescriptor (T k).2.2.1 = some (ty0 k)) (hnm : ∀ a, a < N → ∀ b, b < N → a ≠ b → (T a).2.1 ≠ (T b).2.1) (hr : inR g b) (hsh : sh b = (ci + 10, 0)) (k : Nat) (hk : k < N) (hlink : Cond.fieldLink own index (T k).1 (T k).2.1 (T k).2.2.1 ∈ TT) (hfin : (T k).2.2.2 = false) {v : Int64} (hd : parseFieldDescriptor (T k).2.2.1 = some .long) (hl : k < (flds G.1 σ b ci).length) (hup : (flds G.1 σ b ci).set k (.long v) = flds G.1 (upL σ b k v) b ci) (hdg : decode cc pc = .ok (.putfield index, 3))
    (kk : ∀ (σ1 : Sto), σ1 = upL σ b k v → ∀ (H : Heap) (locs : List Loc), Hh g G σ1 s H locs → W p l e R s m args below meth c H locs cells slots Q (F0 m (pc + 3) ls rest)) : W p l e R s m args below meth c H locs cells slots Q (F0 m pc ls (.long v :: .ref (G.1 b) :: rest)) := by
  refine va_put F.1 F.2.1 F.2.2.2.2.1 hin ty0 hty hnm F.2.2.2.1 F.2.2.2.2.2.1 hh.1 (ws_D F.2.2.2.2.2.2.1) hh.2 (b - g.1) (by rw [ws_at hr, en_O hsh]) hc k hk (F.2.2.2.2.1 _ hlink) (fun _ h => h) hfin hd rfl rfl hl hdg (fun H1 locs1 hP _ hS => ?_)
  refine kk _ rfl H1 locs1 ⟨?_, hS⟩
  have e := ws_set (G := G) (σ := σ) (σ' := upL σ b k v) hr (e := .inr (ci, (flds G.1 σ b ci).set k (.long v))) (by rw [en_O hsh, hup]) (fun b' h => en_stL h)
  rw [← e]
  exact hP
theorem g_iald (F : Fx g p s m args c cc nL own G) (hh : Hh g G σ s H locs) {b n : Nat} (hr : inR g b) (hsh : sh b = (0, n)) {i : Int32} {t : Int32} (ht : rdI σ b n i = some t) (hdg : decode cc pc = .ok (.iaload, 1)) (kk : W p l e R s m args below meth c H locs cells slots Q (F0 m (pc + 1) ls (.int t :: rest))) : W p l e R s m args below meth c H locs cells slots Q (F0 m pc ls (.int i :: .ref (G.1 b) :: rest)) := by
  obtain ⟨h1, rfl⟩ := rdI_e ht
  exact va_iald F.1 F.2.1 F.2.2.2.2.2.1 hh.1 (b - g.1) 0 (by rw [ws_at hr, en_I hsh]) rfl h1 hdg kk
theorem g_zald (F : Fx g p s m args c cc nL own G) (hh : Hh g G σ s H locs) {b n : Nat} (hr : inR g b) (hsh : sh b = (2, n)) {i : Int32} {t : Int32} (ht : rdI σ b n i = some t) (hdg : decode cc pc = .ok (.baload, 1)) (kk : W p l e R s m args below meth c H locs cells slots Q (F0 m (pc + 1) ls (.int t :: rest))) : W p l e R s m args below meth c H locs cells slots Q (F0 m pc ls (.int i :: .ref (G.1 b) :: rest)) := by
  obtain ⟨h1, rfl⟩ := rdI_e ht
  exact va_zald F.1 F.2.1 F.2.2.2.2.2.1 hh.1 (b - g.1) 2 (by rw [ws_at hr, en_Z hsh]) rfl h1 hdg kk
theorem g_cald (F : Fx g p s m args c cc nL own G) (hh : Hh g G σ s H locs) {b n : Nat} (hr : inR g b) (hsh : sh b = (3, n)) {i : Int32} {t : Int32} (ht : rdI σ b n i = some t) (hdg : decode cc pc = .ok (.caload, 1)) (kk : W p l e R s m args below meth c H locs cells slots Q (F0 m (pc + 1) ls (.int t :: rest))) : W p l e R s m args below meth c H locs cells slots Q (F0 m pc ls (.int i :: .ref (G.1 b) :: rest)) := by
  obtain ⟨h1, rfl⟩ := rdI_e ht
  exact va_cald F.1 F.2.1 F.2.2.2.2.2.1 hh.1 (b - g.1) 3 (by rw [ws_at hr, en_C hsh]) rfl h1 hdg kk
theorem g_lald (F : Fx g p s m args c cc nL own G) (hh : Hh g G σ s H locs) {b n : Nat} (hr : inR g b) (hsh : sh b = (1, n)) {i : Int32} {t : Int64} (ht : rdL σ b n i = some t) (hdg : decode cc pc = .ok (.laload, 1)) (kk : W p l e R s m args below meth c H locs cells slots Q (F0 m (pc + 1) ls (.long t :: rest))) : W p l e R s m args below meth c H locs cells slots Q (F0 m pc ls (.int i :: .ref (G.1 b) :: rest)) := by
  obtain ⟨h1, rfl⟩ := rdL_e ht
  exact va_lald F.1 F.2.1 F.2.2.2.2.2.1 hh.1 (b - g.1) 1 (by rw [ws_at hr, en_L hsh]) rfl h1 hdg kk
theorem g_fald (F : Fx g p s m args c cc nL own G) (hh : Hh g G σ s H locs) {b n : Nat} (hr : inR g b) (hsh : sh b = (4, n)) {i : Int32} {t : Nat} (ht : rdR n i = some t) (hdg : decode cc pc = .ok (.aaload, 1)) (kk : W p l e R s m args below meth c H locs cells slots Q (F0 m (pc + 1) ls (.ref (G.1 (b + 1 + 6 * t)) :: rest))) : W p l e R s m args below meth c H locs cells slots Q (F0 m pc ls (.int i :: .ref (G.1 b) :: rest)) := by
  obtain ⟨h1, rfl, -⟩ := rdR_e ht
  exact va_aldq (f := fun i => some (G.1 (b + 1 + 6 * i))) F.1 F.2.1 F.2.2.2.2.2.1 hh.1 (b - g.1) 4 (by rw [ws_at hr, en_F hsh]) rfl h1 hdg kk
theorem g_rald (F : Fx g p s m args c cc nL own G) (hh : Hh g G σ s H locs) {b n : Nat} (hr : inR g b) (hsh : sh b = (5, n)) {i : Int32} {t : Nat} (ht : rdR n i = some t) (hdg : decode cc pc = .ok (.aaload, 1)) (kk : W p l e R s m args below meth c H locs cells slots Q (F0 m (pc + 1) ls (.ref (G.1 (b + 1 + 2 * t)) :: rest))) : W p l e R s m args below meth c H locs cells slots Q (F0 m pc ls (.int i :: .ref (G.1 b) :: rest)) := by
  obtain ⟨h1, rfl, -⟩ := rdR_e ht
  exact va_aldq (f := fun i => some (G.1 (b + 1 + 2 * i))) F.1 F.2.1 F.2.2.2.2.2.1 hh.1 (b - g.1) 5 (by rw [ws_at hr, en_R hsh]) rfl h1 hdg kk
theorem g_iast (F : Fx g p s m args c cc nL own G) (hh : Hh g G σ s H locs) {b n : Nat} (hr : inR g b) (hsh : sh b = (0, n)) {i : Int32} {x : Int32} {s1 : Sto} (ht : wrI σ b n i x = some s1) (hdg : decode cc pc = .ok (.iastore, 1)) (kk : ∀ (H : Heap) (locs : List Loc), Hh g G s1 s H locs → W p l e R s m args below meth c H locs cells slots Q (F0 m (pc + 1) ls rest)) : W p l e R s m args below meth c H locs cells slots Q (F0 m pc ls (.int x :: .int i :: .ref (G.1 b) :: rest)) := by
  obtain ⟨h1, rfl⟩ := wrI_e ht
  refine va_iast F.1 F.2.1 F.2.2.2.2.2.1 hh.1 (ws_D F.2.2.2.2.2.2.1) hh.2 (b - g.1) 0 (by rw [ws_at hr, en_I hsh]) rfl h1 hdg (fun H1 locs1 hP _ hS => ?_)
  refine kk H1 locs1 ⟨?_, hS⟩
  have e := ws_set (G := G) (σ := σ) (σ' := upI σ b i.toNatClampNeg x) hr (e := .inl (G.2.2 0, n, .inl (upd (σ.1 b) i.toNatClampNeg x))) (by rw [en_I hsh]; simp [upI, stI, va_up]) (fun b' h => en_stI h)
  rw [← e]
  exact hP
theorem g_zast (F : Fx g p s m args c cc nL own G) (hh : Hh g G σ s H locs) {b n : Nat} (hr : inR g b) (hsh : sh b = (2, n)) {i : Int32} {x : Int32} {s1 : Sto} (ht : wrI σ b n i (vp_nar .boolean x) = some s1) (hdg : decode cc pc = .ok (.bastore, 1)) (kk : ∀ (H : Heap) (locs : List Loc), Hh g G s1 s H locs → W p l e R s m args below meth c H locs cells slots Q (F0 m (pc + 1) ls rest)) : W p l e R s m args below meth c H locs cells slots Q (F0 m pc ls (.int x :: .int i :: .ref (G.1 b) :: rest)) := by
  obtain ⟨h1, rfl⟩ := wrI_e ht
  refine va_zast F.1 F.2.1 F.2.2.2.2.2.1 hh.1 (ws_D F.2.2.2.2.2.2.1) hh.2 (b - g.1) 2 (by rw [ws_at hr, en_Z hsh]) rfl h1 hdg (fun H1 locs1 hP _ hS => ?_)
  refine kk H1 locs1 ⟨?_, hS⟩
  have e := ws_set (G := G) (σ := σ) (σ' := upI σ b i.toNatClampNeg (vp_nar .boolean x)) hr (e := .inl (G.2.2 2, n, .inl (upd (σ.1 b) i.toNatClampNeg (vp_nar .boolean x)))) (by rw [en_Z hsh]; simp [upI, stI, va_up]) (fun b' h => en_stI h)
  rw [← e]
  exact hP
theorem g_cast (F : Fx g p s m args c cc nL own G) (hh : Hh g G σ s H locs) {b n : Nat} (hr : inR g b) (hsh : sh b = (3, n)) {i : Int32} {x : Int32} {s1 : Sto} (ht : wrI σ b n i (vp_nar .char x) = some s1) (hdg : decode cc pc = .ok (.castore, 1)) (kk : ∀ (H : Heap) (locs : List Loc), Hh g G s1 s H locs → W p l e R s m args below meth c H locs cells slots Q (F0 m (pc + 1) ls rest)) : W p l e R s m args below meth c H locs cells slots Q (F0 m pc ls (.int x :: .int i :: .ref (G.1 b) :: rest)) := by
  obtain ⟨h1, rfl⟩ := wrI_e ht
  refine va_cast F.1 F.2.1 F.2.2.2.2.2.1 hh.1 (ws_D F.2.2.2.2.2.2.1) hh.2 (b - g.1) 3 (by rw [ws_at hr, en_C hsh]) rfl h1 hdg (fun H1 locs1 hP _ hS => ?_)
  refine kk H1 locs1 ⟨?_, hS⟩
  have e := ws_set (G := G) (σ := σ) (σ' := upI σ b i.toNatClampNeg (vp_nar .char x)) hr (e := .inl (G.2.2 3, n, .inl (upd (σ.1 b) i.toNatClampNeg (vp_nar .char x)))) (by rw [en_C hsh]; simp [upI, stI, va_up]) (fun b' h => en_stI h)
  rw [← e]
  exact hP
theorem g_last (F : Fx g p s m args c cc nL own G) (hh : Hh g G σ s H locs) {b n : Nat} (hr : inR g b) (hsh : sh b = (1, n)) {i : Int32} {x : Int64} {s1 : Sto} (ht : wrL σ b n i x = some s1) (hdg : decode cc pc = .ok (.lastore, 1)) (kk : ∀ (H : Heap) (locs : List Loc), Hh g G s1 s H locs → W p l e R s m args below meth c H locs cells slots Q (F0 m (pc + 1) ls rest)) : W p l e R s m args below meth c H locs cells slots Q (F0 m pc ls (.long x :: .int i :: .ref (G.1 b) :: rest)) := by
  obtain ⟨h1, rfl⟩ := wrL_e ht
  refine va_last F.1 F.2.1 F.2.2.2.2.2.1 hh.1 (ws_D F.2.2.2.2.2.2.1) hh.2 (b - g.1) 1 (by rw [ws_at hr, en_L hsh]) rfl h1 hdg (fun H1 locs1 hP _ hS => ?_)
  refine kk H1 locs1 ⟨?_, hS⟩
  have e := ws_set (G := G) (σ := σ) (σ' := upL σ b i.toNatClampNeg x) hr (e := .inl (G.2.2 1, n, .inr (.inl (vp_updL (σ.2 b) i.toNatClampNeg x)))) (by rw [en_L hsh]; simp [upL, stL, va_up]) (fun b' h => en_stL h)
  rw [← e]
  exact hP
theorem g_alenL (F : Fx g p s m args c cc nL own G) (hh : Hh g G σ s H locs) {b n : Nat} (hr : inR g b) (hsh : sh b = (1, n)) (hdg : decode cc pc = .ok (.arraylength, 1)) (kk : W p l e R s m args below meth c H locs cells slots Q (F0 m (pc + 1) ls (.int (Int32.ofNat n) :: rest))) : W p l e R s m args below meth c H locs cells slots Q (F0 m pc ls (.ref (G.1 b) :: rest)) :=
  va_alen F.1 F.2.1 F.2.2.2.2.2.1 hh.1 (b - g.1) 1 (by rw [ws_at hr, en_L hsh]) rfl rfl hdg kk
theorem g_idiv (hx : p.tables.exec = Jvm.exec) (hb : c.code = cc) {x y t : Int32} (ht : dvI x y = some t) (hdg : decode cc pc = .ok (.idiv, 1)) (kk : W p l e R s m args below meth c H locs cells slots Q (F0 m (pc + 1) ls (.int t :: rest))) : W p l e R s m args below meth c H locs cells slots Q (F0 m pc ls (.int y :: .int x :: rest)) := by
  unfold dvI at ht
  split at ht
  · cases ht
  · rename_i h
    cases ht
    exact lv_idiv hx hb hdg h kk
theorem g_irem (hx : p.tables.exec = Jvm.exec) (hb : c.code = cc) {x y t : Int32} (ht : rmI x y = some t) (hdg : decode cc pc = .ok (.irem, 1)) (kk : W p l e R s m args below meth c H locs cells slots Q (F0 m (pc + 1) ls (.int t :: rest))) : W p l e R s m args below meth c H locs cells slots Q (F0 m pc ls (.int y :: .int x :: rest)) := by
  unfold rmI at ht
  split at ht
  · cases ht
  · rename_i h
    cases ht
    exact lv_irem hx hb hdg h kk
theorem g_ldiv (hx : p.tables.exec = Jvm.exec) (hb : c.code = cc) {x y t : Int64} (ht : dvL x y = some t) (hdg : decode cc pc = .ok (.ldiv, 1)) (kk : W p l e R s m args below meth c H locs cells slots Q (F0 m (pc + 1) ls (.long t :: rest))) : W p l e R s m args below meth c H locs cells slots Q (F0 m pc ls (.long y :: .long x :: rest)) := by
  unfold dvL at ht
  split at ht
  · cases ht
  · rename_i h
    cases ht
    exact lv_ldiv hx hb hdg h kk
theorem g_lrem (hx : p.tables.exec = Jvm.exec) (hb : c.code = cc) {x y t : Int64} (ht : rmL x y = some t) (hdg : decode cc pc = .ok (.lrem, 1)) (kk : W p l e R s m args below meth c H locs cells slots Q (F0 m (pc + 1) ls (.long t :: rest))) : W p l e R s m args below meth c H locs cells slots Q (F0 m pc ls (.long y :: .long x :: rest)) := by
  unfold rmL at ht
  split at ht
  · cases ht
  · rename_i h
    cases ht
    exact lv_lrem hx hb hdg h kk
theorem g_iret {v : Int32} {r : Int32} (F : Fx g p s m args c cc nL own G) (hr : meth.sig.returnType = some .int) (hlk : meth.locks = false) (hh : Hh g G σ s H locs) {σ' : Sto} (hv : v = r) (hs : σ = σ') (hdg : decode cc pc = .ok (.ireturn, 1)) : W p l e R s m args below meth c H locs cells slots (MQ below (QI g G r σ') args s cells slots (Am g G)) (F0 m pc ls [.int v]) := by
  subst hv; subst hs
  exact W.iret (v := v) F.1 F.2.1 hr (fun t ht _ => ⟨⟨v, (), rfl, rfl, by show va_P G.2.1 vwCl (WS g G σ) t.heap; rw [ht]; exact hh.1⟩, hh.2.F ht⟩) hh.2.2.2 hdg (hlocks := hlk)
theorem g_zret {v : Int32} {r : Int32} (F : Fx g p s m args c cc nL own G) (hr : meth.sig.returnType = some .boolean) (hlk : meth.locks = false) (hn : narrow .boolean (.int v) = .int v) (hh : Hh g G σ s H locs) {σ' : Sto} (hv : v = r) (hs : σ = σ') (hdg : decode cc pc = .ok (.ireturn, 1)) : W p l e R s m args below meth c H locs cells slots (MQ below (QI g G r σ') args s cells slots (Am g G)) (F0 m pc ls [.int v]) := by
  subst hv; subst hs
  exact W.zret (v := v) F.1 F.2.1 hr hn (fun t ht _ => ⟨⟨v, (), rfl, rfl, by show va_P G.2.1 vwCl (WS g G σ) t.heap; rw [ht]; exact hh.1⟩, hh.2.F ht⟩) hh.2.2.2 hdg (hlocks := hlk)
theorem g_lret {v : Int64} {r : Int64} (F : Fx g p s m args c cc nL own G) (hr : meth.sig.returnType = some .long) (hlk : meth.locks = false) (hh : Hh g G σ s H locs) {σ' : Sto} (hv : v = r) (hs : σ = σ') (hdg : decode cc pc = .ok (.lreturn, 1)) : W p l e R s m args below meth c H locs cells slots (MQ below (QL g G r σ') args s cells slots (Am g G)) (F0 m pc ls [.long v]) := by
  subst hv; subst hs
  exact W.lret (v := v) F.1 F.2.1 hr (fun t ht _ => ⟨⟨v, (), rfl, rfl, by show va_P G.2.1 vwCl (WS g G σ) t.heap; rw [ht]; exact hh.1⟩, hh.2.F ht⟩) hh.2.2.2 hdg (hlocks := hlk)
theorem g_vret (F : Fx g p s m args c cc nL own G) (hr : meth.sig.returnType = none) (hlk : meth.locks = false) (hh : Hh g G σ s H locs) {σ' : Sto} (hs : σ = σ') (hdg : decode cc pc = .ok (.return_, 1)) : W p l e R s m args below meth c H locs cells slots (MQ below (QV g G σ') args s cells slots (Am g G)) (F0 m pc ls []) := by
  subst hs
  exact W.vret F.1 F.2.1 hr (fun t ht _ => ⟨⟨(), rfl, trivial, by show va_P G.2.1 vwCl (WS g G σ) t.heap; rw [ht]; exact hh.1⟩, hh.2.F ht⟩) hh.2.2.2 hdg (hlocks := hlk)
end
theorem gk_calling {g : Rg} {G : Gm} {U : State} {f : JFrame} {mk : MethodId} {a : Array Value} (h : GK g G U) : GK g G (U.calling f mk a) :=
  ⟨va_K.moved (u := U) (U := U.calling f mk a) (Vm.Alike.refl U.vm) h.1, h.2.1, va_Nw.same (u := U) (U := U.calling f mk a) rfl rfl h.2.2.1, va_Nw.same (u := U) (U := U.calling f mk a) rfl rfl h.2.2.2⟩
theorem gk_warm {g : Rg} {G : Gm} {s U : State} (hW : s.WarmedH U.vm) (h : GK g G s) : GK g G U :=
  ⟨va_K.moved hW.alike h.1, h.2.1, va_Nw.warmM hW h.2.2.1, va_Nw.warmM hW h.2.2.2⟩
theorem gs_blind {g : Rg} {G : Gm} {σ : Sto} {as : List Value} : FrameBlind (va_Pc as (GS g G σ)) := fun _ _ _ _ q => ⟨q.1, q.2.1, gk_calling q.2.2⟩
theorem g_met {l : Launch} {y : MethodName} {cc : ByteArray} {maxL : Nat} {ret : Option FieldType} {rm : Room} {as : List Value} {σ : Sto} {Qc : Array Value → State → Outcome → State → Prop} {g : Rg} {G : Gm} (lv : List (Nat × Value)) (hy : plainName y.cls = true) (hlen : (lg_sl as).length ≤ maxL) (hlv : lv_args 0 as = lv)
    (body : ∀ (p : Program) (e : Env) (s : State) (m : MethodId) (below : List Frame) (meth : Method) (c : Code), Fx g p s m as.toArray c cc maxL y.cls G → meth.sig.returnType = ret → meth.locks = false → ∀ (ls : Array Slot) (H : Heap) (locs : List Loc), lv_has ls maxL lv → Hh g G σ s H locs → W p l e rm s m as.toArray below meth c H locs 0 0 (MQ below Qc as.toArray s 0 0 (Am g G)) (F0 m 0 ls [])) :
    Met l y (Cond.code y cc maxL ret :: TT) rm (va_Pc as (GS g G σ)) Qc 0 0 (Am g G) := by
  refine Met.ofW (cc := cc) (maxL := maxL) (ret := ret) hy rfl ?_
  intro p e s m args below meth c s₁ B hml hv
  obtain ⟨rfl, hP, hK⟩ := hv
  have hts := atoms_spec (ws := Cond.code y cc maxL ret :: TT) B.pre
  have F : Fx g p s m as.toArray c cc maxL y.cls G := ⟨B.exec, B.bytes, hml, findClass_of_methodNamed B.named, fun w h => hts w (List.mem_cons_of_mem _ h), hK⟩
  have hl := lv_entry as (n := maxL) hlen
  rw [lg_entry_eq]
  rw [hlv] at hl
  exact body p e s m below meth c F B.returns B.notSynchronized _ _ _ hl ⟨hP, va_S.rf⟩
section
variable {p : Program} {l : Launch} {e : Env} {R : Room} {s : State} {m : MethodId} {args : Array Value} {below : List Frame} {meth : Method} {c : Code} {H : Heap} {locs : List Loc} {Q : State → Prop} {cc : ByteArray} {nL pc : Nat} {ls : Array Slot} {rest st : List Value} {own : String} {g : Rg} {G : Gm} {σ σ' : Sto} {y : MethodName} {bytes : ByteArray} {maxL : Nat} {ret : Option FieldType} {rm : Room} {As : List Value} {index b ci n : Nat} {C : String} {T : u_T} {N : Nat}
def rmOk (R rm : Room) (maxL : Nat) : Bool := Nat.ble (rm.frames + 1) R.frames && Nat.ble (8 + (maxL + 11) + rm.locals) R.locals && Nat.beq rm.cells 0 && Nat.beq rm.slots 0
theorem rmOk_e (h : rmOk R rm maxL = true) : (rm.frames + 1 ≤ R.frames ∧ 8 + (maxL + 11) + rm.locals ≤ R.locals) ∧ rm.cells = 0 ∧ rm.slots = 0 := by
  simp only [rmOk, Bool.and_eq_true] at h
  exact ⟨⟨Nat.le_of_ble_eq_true h.1.1.1, Nat.le_of_ble_eq_true h.1.1.2⟩, Nat.eq_of_beq_eq_true h.1.2, Nat.eq_of_beq_eq_true h.2⟩
def ydOk (y : MethodName) (n : Nat) : Prop := y.cls ≠ "java/lang/invoke/MethodHandle" ∧ y.cls ≠ "java/lang/invoke/VarHandle" ∧ (parseMethodDescriptor y.desc).map (fun d => d.parameters.length) = some n
theorem g_cB (F : Fx g p s m args c cc nL own G) (hcode : Cond.code y bytes maxL ret ∈ TT) (hini : Cond.initialized y.cls ∈ TT) (hlink : Cond.methodLink own index y ∈ TT) (hd : ydOk y n) (hR : rmOk R rm maxL = true) : CallB R s args own index y bytes maxL ret (Cond.code y bytes maxL ret :: TT) rm 0 0 n :=
  callB_of n F.2.2.2.2.1 (tt_goodT hcode) rfl (rmOk_e hR).2.1 (rmOk_e hR).2.2 (F.2.2.2.2.1 _ hini) (F.2.2.2.2.1 _ hlink) hd (rmOk_e hR).1
theorem g_cvi (F : Fx g p s m args c cc nL own G) (hh : Hh g G σ s H locs) {r : Int32} (hM : Met l y (Cond.code y bytes maxL ret :: TT) rm (va_Pc (.ref (G.1 b) :: As) (GS g G σ)) (QI g G r σ') 0 0 (Am g G)) (hr : inR g b) (hsh : sh b = (ci + 10, 0)) (hc : vwCl[ci]? = some (C, T, N)) (hcode : Cond.code y bytes maxL ret ∈ TT) (hini : Cond.initialized y.cls ∈ TT) (hlink : Cond.methodLink own index y ∈ TT) (hinst : Cond.instanceMethod y ∈ TT) (hsel : Cond.selects C y y ∈ TT) (hd : ydOk y n) (hn : As.length = n) (hR : rmOk R rm maxL = true) (hls : ls.size = nL) (hst : st = As.reverse ++ .ref (G.1 b) :: rest) (hW : (rest.map fun v => v.category).sum ≤ 8) (hdg : decode cc pc = .ok (.invokevirtual index, 3)) (kk : ∀ (H : Heap) (locs : List Loc), Hh g G σ' s H locs → W p l e R s m args below meth c H locs 0 0 Q (F0 m (pc + 3) ls (.int r :: rest))) : W p l e R s m args below meth c H locs 0 0 Q (F0 m pc ls st) := by
  refine va_calli (A1 := Am g G) (va_runV (As := As) (rest := rest) ⟨F.1, F.2.1, F.2.2.1, F.2.2.2.1, F.2.2.2.2.1⟩ hM ⟨g_cB F hcode hini hlink hd hR, F.2.2.2.2.1 _ hinst, F.2.2.2.2.1 _ hsel⟩ ⟨gs_blind, va_recv F.2.2.2.2.2.1 hh.1 hc (q0 := b - g.1) (by rw [ws_at hr, en_O hsh]), fun U hU hW => ⟨rfl, by rw [hU]; exact hh.1, gk_warm hW F.2.2.2.2.2⟩⟩ rfl hn hls hst (lv_room hW) hdg ⟨Nat.zero_le _, Nat.zero_le _⟩) hh.2 (fun q _ h => h) (fun q h => h) (fun r' u t H1 locs1 ht hvm hw hB hz1 hk1 hS => ?_)
  subst hw
  exact kk H1 locs1 ⟨ht ▸ hB, hS⟩
theorem g_csi (F : Fx g p s m args c cc nL own G) (hh : Hh g G σ s H locs) {r : Int32} (hM : Met l y (Cond.code y bytes maxL ret :: TT) rm (va_Pc As (GS g G σ)) (QI g G r σ') 0 0 (Am g G)) (hcode : Cond.code y bytes maxL ret ∈ TT) (hini : Cond.initialized y.cls ∈ TT) (hlink : Cond.methodLink own index y ∈ TT) (hstat : Cond.static y ∈ TT) (hd : ydOk y n) (hn : As.length = n) (hR : rmOk R rm maxL = true) (hls : ls.size = nL) (hst : st = As.reverse ++ rest) (hW : (rest.map fun v => v.category).sum ≤ 8) (hdg : decode cc pc = .ok (.invokestatic index, 3)) (kk : ∀ (H : Heap) (locs : List Loc), Hh g G σ' s H locs → W p l e R s m args below meth c H locs 0 0 Q (F0 m (pc + 3) ls (.int r :: rest))) : W p l e R s m args below meth c H locs 0 0 Q (F0 m pc ls st) := by
  refine va_calli (A1 := Am g G) (va_runS (As := As) (rest := rest) ⟨F.1, F.2.1, F.2.2.1, F.2.2.2.1, F.2.2.2.2.1⟩ hM ⟨g_cB F hcode hini hlink hd hR, F.2.2.2.2.1 _ hstat⟩ ⟨gs_blind, fun U hU hW => ⟨rfl, by rw [hU]; exact hh.1, gk_warm hW F.2.2.2.2.2⟩⟩ rfl hn hls hst (lv_room hW) hdg ⟨Nat.zero_le _, Nat.zero_le _⟩) hh.2 (fun q _ h => h) (fun q h => h) (fun r' u t H1 locs1 ht hvm hw hB hz1 hk1 hS => ?_)
  subst hw
  exact kk H1 locs1 ⟨ht ▸ hB, hS⟩
theorem g_cni (F : Fx g p s m args c cc nL own G) (hh : Hh g G σ s H locs) {host : String} {r : Int32} (hM : Met l y (Cond.code y bytes maxL ret :: TT) rm (va_Pc As (GS g G σ)) (QI g G r σ') 0 0 (Am g G)) (hcode : Cond.code y bytes maxL ret ∈ TT) (hini : Cond.initialized y.cls ∈ TT) (hnest : va_Nw (.methodLinkNest own index y host) s) (hstat : Cond.static y ∈ TT) (hd : ydOk y n) (hn : As.length = n) (hR : rmOk R rm maxL = true) (hls : ls.size = nL) (hst : st = As.reverse ++ rest) (hW : (rest.map fun v => v.category).sum ≤ 8) (hdg : decode cc pc = .ok (.invokestatic index, 3)) (kk : ∀ (H : Heap) (locs : List Loc), Hh g G σ' s H locs → W p l e R s m args below meth c H locs 0 0 Q (F0 m (pc + 3) ls (.int r :: rest))) : W p l e R s m args below meth c H locs 0 0 Q (F0 m pc ls st) := by
  refine va_calli (A1 := Am g G) (va_runSN (As := As) (rest := rest) ⟨F.1, F.2.1, F.2.2.1, F.2.2.2.1, F.2.2.2.2.1⟩ hM ⟨va_cnB n F.2.2.2.2.1 (tt_goodT hcode) rfl (rmOk_e hR).2.1 (rmOk_e hR).2.2 hnest (F.2.2.2.2.1 _ hini) hd (rmOk_e hR).1, F.2.2.2.2.1 _ hstat, trivial⟩ ⟨gs_blind, fun U hU hW => ⟨rfl, by rw [hU]; exact hh.1, gk_warm hW F.2.2.2.2.2⟩⟩ rfl hn hls hst (lv_room hW) hdg ⟨Nat.zero_le _, Nat.zero_le _⟩) hh.2 (fun q _ h => h) (fun q h => h) (fun r' u t H1 locs1 ht hvm hw hB hz1 hk1 hS => ?_)
  subst hw
  exact kk H1 locs1 ⟨ht ▸ hB, hS⟩
theorem g_cvl (F : Fx g p s m args c cc nL own G) (hh : Hh g G σ s H locs) {r : Int64} (hM : Met l y (Cond.code y bytes maxL ret :: TT) rm (va_Pc (.ref (G.1 b) :: As) (GS g G σ)) (QL g G r σ') 0 0 (Am g G)) (hr : inR g b) (hsh : sh b = (ci + 10, 0)) (hc : vwCl[ci]? = some (C, T, N)) (hcode : Cond.code y bytes maxL ret ∈ TT) (hini : Cond.initialized y.cls ∈ TT) (hlink : Cond.methodLink own index y ∈ TT) (hinst : Cond.instanceMethod y ∈ TT) (hsel : Cond.selects C y y ∈ TT) (hd : ydOk y n) (hn : As.length = n) (hR : rmOk R rm maxL = true) (hls : ls.size = nL) (hst : st = As.reverse ++ .ref (G.1 b) :: rest) (hW : (rest.map fun v => v.category).sum ≤ 8) (hdg : decode cc pc = .ok (.invokevirtual index, 3)) (kk : ∀ (H : Heap) (locs : List Loc), Hh g G σ' s H locs → W p l e R s m args below meth c H locs 0 0 Q (F0 m (pc + 3) ls (.long r :: rest))) : W p l e R s m args below meth c H locs 0 0 Q (F0 m pc ls st) := by
  refine va_calll (A1 := Am g G) (va_runV (As := As) (rest := rest) ⟨F.1, F.2.1, F.2.2.1, F.2.2.2.1, F.2.2.2.2.1⟩ hM ⟨g_cB F hcode hini hlink hd hR, F.2.2.2.2.1 _ hinst, F.2.2.2.2.1 _ hsel⟩ ⟨gs_blind, va_recv F.2.2.2.2.2.1 hh.1 hc (q0 := b - g.1) (by rw [ws_at hr, en_O hsh]), fun U hU hW => ⟨rfl, by rw [hU]; exact hh.1, gk_warm hW F.2.2.2.2.2⟩⟩ rfl hn hls hst (lv_room hW) hdg ⟨Nat.zero_le _, Nat.zero_le _⟩) hh.2 (fun q _ h => h) (fun q h => h) (fun r' u t H1 locs1 ht hvm hw hB hz1 hk1 hS => ?_)
  subst hw
  exact kk H1 locs1 ⟨ht ▸ hB, hS⟩
theorem g_csl (F : Fx g p s m args c cc nL own G) (hh : Hh g G σ s H locs) {r : Int64} (hM : Met l y (Cond.code y bytes maxL ret :: TT) rm (va_Pc As (GS g G σ)) (QL g G r σ') 0 0 (Am g G)) (hcode : Cond.code y bytes maxL ret ∈ TT) (hini : Cond.initialized y.cls ∈ TT) (hlink : Cond.methodLink own index y ∈ TT) (hstat : Cond.static y ∈ TT) (hd : ydOk y n) (hn : As.length = n) (hR : rmOk R rm maxL = true) (hls : ls.size = nL) (hst : st = As.reverse ++ rest) (hW : (rest.map fun v => v.category).sum ≤ 8) (hdg : decode cc pc = .ok (.invokestatic index, 3)) (kk : ∀ (H : Heap) (locs : List Loc), Hh g G σ' s H locs → W p l e R s m args below meth c H locs 0 0 Q (F0 m (pc + 3) ls (.long r :: rest))) : W p l e R s m args below meth c H locs 0 0 Q (F0 m pc ls st) := by
  refine va_calll (A1 := Am g G) (va_runS (As := As) (rest := rest) ⟨F.1, F.2.1, F.2.2.1, F.2.2.2.1, F.2.2.2.2.1⟩ hM ⟨g_cB F hcode hini hlink hd hR, F.2.2.2.2.1 _ hstat⟩ ⟨gs_blind, fun U hU hW => ⟨rfl, by rw [hU]; exact hh.1, gk_warm hW F.2.2.2.2.2⟩⟩ rfl hn hls hst (lv_room hW) hdg ⟨Nat.zero_le _, Nat.zero_le _⟩) hh.2 (fun q _ h => h) (fun q h => h) (fun r' u t H1 locs1 ht hvm hw hB hz1 hk1 hS => ?_)
  subst hw
  exact kk H1 locs1 ⟨ht ▸ hB, hS⟩
theorem g_cvv (F : Fx g p s m args c cc nL own G) (hh : Hh g G σ s H locs) (hM : Met l y (Cond.code y bytes maxL ret :: TT) rm (va_Pc (.ref (G.1 b) :: As) (GS g G σ)) (QV g G σ') 0 0 (Am g G)) (hr : inR g b) (hsh : sh b = (ci + 10, 0)) (hc : vwCl[ci]? = some (C, T, N)) (hcode : Cond.code y bytes maxL ret ∈ TT) (hini : Cond.initialized y.cls ∈ TT) (hlink : Cond.methodLink own index y ∈ TT) (hinst : Cond.instanceMethod y ∈ TT) (hsel : Cond.selects C y y ∈ TT) (hd : ydOk y n) (hn : As.length = n) (hR : rmOk R rm maxL = true) (hls : ls.size = nL) (hst : st = As.reverse ++ .ref (G.1 b) :: rest) (hW : (rest.map fun v => v.category).sum ≤ 8) (hdg : decode cc pc = .ok (.invokevirtual index, 3)) (kk : ∀ (H : Heap) (locs : List Loc), Hh g G σ' s H locs → W p l e R s m args below meth c H locs 0 0 Q (F0 m (pc + 3) ls rest)) : W p l e R s m args below meth c H locs 0 0 Q (F0 m pc ls st) := by
  refine va_callv (A1 := Am g G) (va_runV (As := As) (rest := rest) ⟨F.1, F.2.1, F.2.2.1, F.2.2.2.1, F.2.2.2.2.1⟩ hM ⟨g_cB F hcode hini hlink hd hR, F.2.2.2.2.1 _ hinst, F.2.2.2.2.1 _ hsel⟩ ⟨gs_blind, va_recv F.2.2.2.2.2.1 hh.1 hc (q0 := b - g.1) (by rw [ws_at hr, en_O hsh]), fun U hU hW => ⟨rfl, by rw [hU]; exact hh.1, gk_warm hW F.2.2.2.2.2⟩⟩ rfl hn hls hst (lv_room hW) hdg ⟨Nat.zero_le _, Nat.zero_le _⟩) hh.2 (fun q _ h => h) (fun q h => h) (fun u t H1 locs1 ht hvm hw hB hz1 hk1 hS => ?_)
  exact kk H1 locs1 ⟨ht ▸ hB, hS⟩
theorem g_csv (F : Fx g p s m args c cc nL own G) (hh : Hh g G σ s H locs) (hM : Met l y (Cond.code y bytes maxL ret :: TT) rm (va_Pc As (GS g G σ)) (QV g G σ') 0 0 (Am g G)) (hcode : Cond.code y bytes maxL ret ∈ TT) (hini : Cond.initialized y.cls ∈ TT) (hlink : Cond.methodLink own index y ∈ TT) (hstat : Cond.static y ∈ TT) (hd : ydOk y n) (hn : As.length = n) (hR : rmOk R rm maxL = true) (hls : ls.size = nL) (hst : st = As.reverse ++ rest) (hW : (rest.map fun v => v.category).sum ≤ 8) (hdg : decode cc pc = .ok (.invokestatic index, 3)) (kk : ∀ (H : Heap) (locs : List Loc), Hh g G σ' s H locs → W p l e R s m args below meth c H locs 0 0 Q (F0 m (pc + 3) ls rest)) : W p l e R s m args below meth c H locs 0 0 Q (F0 m pc ls st) := by
  refine va_callv (A1 := Am g G) (va_runS (As := As) (rest := rest) ⟨F.1, F.2.1, F.2.2.1, F.2.2.2.1, F.2.2.2.2.1⟩ hM ⟨g_cB F hcode hini hlink hd hR, F.2.2.2.2.1 _ hstat⟩ ⟨gs_blind, fun U hU hW => ⟨rfl, by rw [hU]; exact hh.1, gk_warm hW F.2.2.2.2.2⟩⟩ rfl hn hls hst (lv_room hW) hdg ⟨Nat.zero_le _, Nat.zero_le _⟩) hh.2 (fun q _ h => h) (fun q h => h) (fun u t H1 locs1 ht hvm hw hB hz1 hk1 hS => ?_)
  exact kk H1 locs1 ⟨ht ▸ hB, hS⟩
end
