/-! numbers of the machine as whole numbers -/
def iI (z : Int) : Int32 := Int32.ofInt z
def iL (z : Int) : Int64 := Int64.ofInt z
def in32 (z : Int) : Prop := -2147483648 ≤ z ∧ z ≤ 2147483647
def in64 (z : Int) : Prop := -9223372036854775808 ≤ z ∧ z ≤ 9223372036854775807
theorem iI_add (a b : Int) : iI a + iI b = iI (a + b) := (Int32.ofInt_add a b).symm
theorem iI_sub (a b : Int) : iI a - iI b = iI (a - b) := (Int32.ofInt_sub a b).symm
theorem iI_mul (a b : Int) : iI a * iI b = iI (a * b) := (Int32.ofInt_mul a b).symm
theorem iI_neg (a : Int) : -iI a = iI (-a) := (Int32.ofInt_neg a).symm
theorem iL_add (a b : Int) : iL a + iL b = iL (a + b) := (Int64.ofInt_add a b).symm
theorem iL_sub (a b : Int) : iL a - iL b = iL (a - b) := (Int64.ofInt_sub a b).symm
theorem iL_mul (a b : Int) : iL a * iL b = iL (a * b) := (Int64.ofInt_mul a b).symm
theorem iL_neg (a : Int) : -iL a = iL (-a) := (Int64.ofInt_neg a).symm
theorem iI_toInt {z : Int} (h : in32 z) : (iI z).toInt = z := Int32.toInt_ofInt_of_le (by have := h.1; omega) (by have := h.2; omega)
theorem iL_toInt {z : Int} (h : in64 z) : (iL z).toInt = z := Int64.toInt_ofInt_of_le (by have := h.1; omega) (by have := h.2; omega)
theorem nI_iI (n : Nat) : nI n = iI (n : Int) := Int32.ofInt_eq_ofNat.symm
theorem iI_lt {a b : Int} (ha : in32 a) (hb : in32 b) : iI a < iI b ↔ a < b := by rw [Int32.lt_iff_toInt_lt, iI_toInt ha, iI_toInt hb]
theorem iI_le {a b : Int} (ha : in32 a) (hb : in32 b) : iI a ≤ iI b ↔ a ≤ b := by rw [Int32.le_iff_toInt_le, iI_toInt ha, iI_toInt hb]
theorem iI_eq {a b : Int} (ha : in32 a) (hb : in32 b) : iI a = iI b ↔ a = b := by rw [← Int32.toInt_inj, iI_toInt ha, iI_toInt hb]
theorem iL_lt {a b : Int} (ha : in64 a) (hb : in64 b) : iL a < iL b ↔ a < b := by rw [Int64.lt_iff_toInt_lt, iL_toInt ha, iL_toInt hb]
theorem iL_le {a b : Int} (ha : in64 a) (hb : in64 b) : iL a ≤ iL b ↔ a ≤ b := by rw [Int64.le_iff_toInt_le, iL_toInt ha, iL_toInt hb]
theorem iL_eq {a b : Int} (ha : in64 a) (hb : in64 b) : iL a = iL b ↔ a = b := by rw [← Int64.toInt_inj, iL_toInt ha, iL_toInt hb]
theorem iI_long {z : Int} (h : in32 z) : (iI z).toInt64 = iL z := by
  rw [← Int64.toInt_inj, Int32.toInt_toInt64, iI_toInt h, iL_toInt ⟨by have := h.1; omega, by have := h.2; omega⟩]
theorem nI_long {n : Nat} (h : n < 2147483648) : (nI n).toInt64 = iL (n : Int) := by rw [nI_iI, iI_long ⟨by omega, by omega⟩]
theorem toInt_in32 (x : Int32) : in32 x.toInt := ⟨by have := x.le_toInt; omega, by have := x.toInt_lt; omega⟩
theorem toInt_in64 (x : Int64) : in64 x.toInt := ⟨by have := x.le_toInt; omega, by have := x.toInt_lt; omega⟩
theorem iI_of (x : Int32) : iI x.toInt = x := Int32.ofInt_toInt x
theorem iL_of (x : Int64) : iL x.toInt = x := Int64.ofInt_toInt x
theorem iL_div {a b : Int} (ha : in64 a) (hb : in64 b) (h : in64 (a.tdiv b)) : iL a / iL b = iL (a.tdiv b) := by
  rw [← Int64.toInt_inj, Int64.toInt_div, iL_toInt ha, iL_toInt hb, iL_toInt h]
  have := h.1
  have := h.2
  exact Int.bmod_eq_of_le (by omega) (by omega)
/-! partial steps that go through -/
theorem bd_some {α β : Type} (a : α) (k : α → Option β) : bd (some a) k = k a := rfl
theorem bd2_some {α β γ : Type} (a : α) (b : β) (k : α → β → Option γ) : bd2 (some (a, b)) k = k a b := rfl
theorem lt_eq {α β : Type} (x : α) (k : α → β) : lt x k = k x := rfl
theorem rdI_nI {z : Sto} {c n i : Nat} (h : i < n) (hn : n ≤ 300) : rdI z c n (nI i) = some (z.1 c i) := by
  unfold rdI
  rw [if_neg (nI_in h (by omega)), nI_clamp (by omega)]
theorem rdL_nI {z : Sto} {c n i : Nat} (h : i < n) (hn : n ≤ 300) : rdL z c n (nI i) = some (z.2 c i) := by
  unfold rdL
  rw [if_neg (nI_in h (by omega)), nI_clamp (by omega)]
theorem rdR_nI {n i : Nat} (h : i < n) (hn : n ≤ 300) : rdR n (nI i) = some i := by
  unfold rdR
  rw [if_neg (nI_in h (by omega)), nI_clamp (by omega)]
theorem wrI_nI {z : Sto} {c n i : Nat} {x : Int32} (h : i < n) (hn : n ≤ 300) : wrI z c n (nI i) x = some (upI z c i x) := by
  unfold wrI
  rw [if_neg (nI_in h (by omega)), nI_clamp (by omega)]
theorem wrL_nI {z : Sto} {c n i : Nat} {x : Int64} (h : i < n) (hn : n ≤ 300) : wrL z c n (nI i) x = some (upL z c i x) := by
  unfold wrL
  rw [if_neg (nI_in h (by omega)), nI_clamp (by omega)]
theorem cpI_nI {z : Sto} {c0 n0 sp c1 n1 dp n : Nat} (h0 : sp + n ≤ n0) (h1 : dp + n ≤ n1) (hb0 : n0 ≤ 300) (hb1 : n1 ≤ 300) : cpI z c0 n0 (nI sp) c1 n1 (nI dp) (nI n) = some (stI z c1 (va_cpy (z.1 c0) (z.1 c1) sp dp n)) := by
  unfold cpI
  rw [nI_clamp (by omega), nI_clamp (by omega), nI_clamp (by omega), if_neg]
  intro h
  rcases h with h | h | h | h | h
  · exact nI_pos (by omega) h
  · exact nI_pos (by omega) h
  · exact nI_pos (by omega) h
  · omega
  · omega
theorem cpL_nI {z : Sto} {c0 n0 sp c1 n1 dp n : Nat} (h0 : sp + n ≤ n0) (h1 : dp + n ≤ n1) (hb0 : n0 ≤ 300) (hb1 : n1 ≤ 300) : cpL z c0 n0 (nI sp) c1 n1 (nI dp) (nI n) = some (stL z c1 (va_cpy (z.2 c0) (z.2 c1) sp dp n)) := by
  unfold cpL
  rw [nI_clamp (by omega), nI_clamp (by omega), nI_clamp (by omega), if_neg]
  intro h
  rcases h with h | h | h | h | h
  · exact nI_pos (by omega) h
  · exact nI_pos (by omega) h
  · exact nI_pos (by omega) h
  · omega
  · omega
theorem bz_0 : bz 0 = some 0 := rfl
theorem bz_1 : bz 1 = some 1 := rfl
/-! the store -/
theorem upI_same {z : Sto} {c k : Nat} {x : Int32} : (upI z c k x).1 c = upd (z.1 c) k x := va_up_self _ _ _
theorem upI_ne {z : Sto} {c k : Nat} {x : Int32} {b : Nat} (h : b ≠ c) : (upI z c k x).1 b = z.1 b := va_up_ne _ _ h
theorem upI_2 {z : Sto} {c k : Nat} {x : Int32} : (upI z c k x).2 = z.2 := rfl
theorem upL_same {z : Sto} {c k : Nat} {x : Int64} : (upL z c k x).2 c = vp_updL (z.2 c) k x := va_up_self _ _ _
theorem upL_ne {z : Sto} {c k : Nat} {x : Int64} {b : Nat} (h : b ≠ c) : (upL z c k x).2 b = z.2 b := va_up_ne _ _ h
theorem upL_1 {z : Sto} {c k : Nat} {x : Int64} : (upL z c k x).1 = z.1 := rfl
theorem stI_same {z : Sto} {c : Nat} {f : Nat → Int32} : (stI z c f).1 c = f := va_up_self _ _ _
theorem stI_ne {z : Sto} {c : Nat} {f : Nat → Int32} {b : Nat} (h : b ≠ c) : (stI z c f).1 b = z.1 b := va_up_ne _ _ h
theorem stI_2 {z : Sto} {c : Nat} {f : Nat → Int32} : (stI z c f).2 = z.2 := rfl
theorem stL_same {z : Sto} {c : Nat} {f : Nat → Int64} : (stL z c f).2 c = f := va_up_self _ _ _
theorem stL_ne {z : Sto} {c : Nat} {f : Nat → Int64} {b : Nat} (h : b ≠ c) : (stL z c f).2 b = z.2 b := va_up_ne _ _ h
theorem stL_1 {z : Sto} {c : Nat} {f : Nat → Int64} : (stL z c f).1 = z.1 := rfl
theorem upd_same {f : Nat → Int32} {k : Nat} {x : Int32} : upd f k x k = x := by simp [upd]
theorem upd_ne {f : Nat → Int32} {k j : Nat} {x : Int32} (h : j ≠ k) : upd f k x j = f j := by simp [upd, h]
theorem updL_same {f : Nat → Int64} {k : Nat} {x : Int64} : vp_updL f k x k = x := by simp [vp_updL]
theorem updL_ne {f : Nat → Int64} {k j : Nat} {x : Int64} (h : j ≠ k) : vp_updL f k x j = f j := by simp [vp_updL, h]
theorem cpy_in {α : Type} {f g : Nat → α} {sp dp n j : Nat} (h : dp ≤ j) (h2 : j < dp + n) : va_cpy f g sp dp n j = f (sp + (j - dp)) := by simp [va_cpy, h, h2]
theorem cpy_out {α : Type} {f g : Nat → α} {sp dp n j : Nat} (h : ¬ (dp ≤ j ∧ j < dp + n)) : va_cpy f g sp dp n j = g j := by simp [va_cpy, h]
