variable {p : Program} {l : Launch} {e : Env} {s : State} {m : MethodId} {args : Array Value} {below : List Frame} {meth : Method} {cd : Code} {G : Gm}

def f_X1_startOf (q : Nat) (x1 : Int32) (z : Sto) : Option (Int32) := if (x1 - x1 / (2 : Int32) * (2 : Int32)) = 0 then (bd (rdI z (q + 3) 9 (x1 / (2 : Int32))) fun t3 => some t3) else (bd (rdI z (q + 4) 9 (x1 / (2 : Int32))) fun t2 => some t2)
set_option maxRecDepth 100000 in
set_option maxHeartbeats 4000000 in
theorem w_X1_startOf {q : Nat} {Z : Int32} (F : Fx rC p s m args cd cX1_startOf 2 RX1 G) (hr : meth.sig.returnType = (some .int)) (hlk : meth.locks = false) (hq : FrC q) {x1 : Int32} {z : Sto} {H : Heap} {locs : List Loc} {ls : Array Slot} (hf : f_X1_startOf q x1 z = some Z) (hh : Hh rC G z s H locs) (hl : lv_has ls 2 [(0, .ref (G.1 (q))), (1, .int x1)]) : W p l e rmX1_startOf s m args below meth cd H locs 0 0 (MQ below (QI rC G Z z) args s 0 0 (Am rC G)) (F0 m 0 ls []) := by
  have hx := F.1
  have hb := F.2.1
  unfold f_X1_startOf at hf
  refine lv_iload_n hx hb dX1_startOf_0 rfl (lv_at hl 1 rfl) ?_
  refine lv_iconst (v := 2) hx hb dX1_startOf_1 (by decide) ?_
  refine lv_irem hx hb dX1_startOf_2 (by decide) ?_
  refine lv_if_ne (tgt := 17) hx hb dX1_startOf_3 (by decide) (fun c1 => ?_) (fun c1 => ?_)
  · replace hf := itn c1 hf
    refine lv_aload_n hx hb dX1_startOf_17 rfl (lv_at hl 0 rfl) ?_
    refine r_X1_25 (b' := (q + 4)) F hh (fri0 hq) (frs0 hq) rfl dX1_startOf_18 ?_
    refine lv_iload_n hx hb dX1_startOf_21 rfl (lv_at hl 1 rfl) ?_
    refine lv_iconst (v := 2) hx hb dX1_startOf_22 (by decide) ?_
    refine lv_idiv hx hb dX1_startOf_23 (by decide) ?_
    obtain ⟨t2, ht2, hf⟩ := ob hf
    refine g_iald F hh (fri4 hq) (frs4 hq) ht2 dX1_startOf_24 ?_
    exact g_iret F hr hlk hh (Option.some.inj hf) rfl dX1_startOf_25
  · replace hf := itp c1 hf
    refine lv_aload_n hx hb dX1_startOf_6 rfl (lv_at hl 0 rfl) ?_
    refine r_X1_22 (b' := (q + 3)) F hh (fri0 hq) (frs0 hq) rfl dX1_startOf_7 ?_
    refine lv_iload_n hx hb dX1_startOf_10 rfl (lv_at hl 1 rfl) ?_
    refine lv_iconst (v := 2) hx hb dX1_startOf_11 (by decide) ?_
    refine lv_idiv hx hb dX1_startOf_12 (by decide) ?_
    obtain ⟨t3, ht3, hf⟩ := ob hf
    refine g_iald F hh (fri3 hq) (frs3 hq) ht3 dX1_startOf_13 ?_
    refine lv_goto (tgt := 25) hx hb dX1_startOf_14 (by decide) ?_
    exact g_iret F hr hlk hh (Option.some.inj hf) rfl dX1_startOf_25
theorem c_X1_startOf {l : Launch} {G : Gm} {q : Nat} {x1 : Int32} {z : Sto} {Z : Int32} (hq : FrC q) (hf : f_X1_startOf q x1 z = some Z) : Met l yX1_startOf (Cond.code yX1_startOf cX1_startOf 2 (some .int) :: TT) rmX1_startOf (va_Pc [.ref (G.1 (q)), .int x1] (GS rC G z)) (QI rC G Z z) 0 0 (Am rC G) := by
  refine g_met [(0, .ref (G.1 (q))), (1, .int x1)] (by decide) (Nat.le_of_ble_eq_true rfl) rfl ?_
  intro p e s m below meth cd F hr hlk ls H locs hl hh
  exact w_X1_startOf F hr hlk hq hf hh hl
def f_X1_endOf (q : Nat) (x1 : Int32) (z : Sto) : Option (Int32) := if (x1 - x1 / (2 : Int32) * (2 : Int32)) = 0 then (bd (rdI z (q + 4) 9 (x1 / (2 : Int32))) fun t3 => some t3) else (bd (rdI z (q + 3) 9 (x1 / (2 : Int32))) fun t2 => some t2)
set_option maxRecDepth 100000 in
set_option maxHeartbeats 4000000 in
theorem w_X1_endOf {q : Nat} {Z : Int32} (F : Fx rC p s m args cd cX1_endOf 2 RX1 G) (hr : meth.sig.returnType = (some .int)) (hlk : meth.locks = false) (hq : FrC q) {x1 : Int32} {z : Sto} {H : Heap} {locs : List Loc} {ls : Array Slot} (hf : f_X1_endOf q x1 z = some Z) (hh : Hh rC G z s H locs) (hl : lv_has ls 2 [(0, .ref (G.1 (q))), (1, .int x1)]) : W p l e rmX1_endOf s m args below meth cd H locs 0 0 (MQ below (QI rC G Z z) args s 0 0 (Am rC G)) (F0 m 0 ls []) := by
  have hx := F.1
  have hb := F.2.1
  unfold f_X1_endOf at hf
  refine lv_iload_n hx hb dX1_endOf_0 rfl (lv_at hl 1 rfl) ?_
  refine lv_iconst (v := 2) hx hb dX1_endOf_1 (by decide) ?_
  refine lv_irem hx hb dX1_endOf_2 (by decide) ?_
  refine lv_if_ne (tgt := 17) hx hb dX1_endOf_3 (by decide) (fun c1 => ?_) (fun c1 => ?_)
  · replace hf := itn c1 hf
    refine lv_aload_n hx hb dX1_endOf_17 rfl (lv_at hl 0 rfl) ?_
    refine r_X1_22 (b' := (q + 3)) F hh (fri0 hq) (frs0 hq) rfl dX1_endOf_18 ?_
    refine lv_iload_n hx hb dX1_endOf_21 rfl (lv_at hl 1 rfl) ?_
    refine lv_iconst (v := 2) hx hb dX1_endOf_22 (by decide) ?_
    refine lv_idiv hx hb dX1_endOf_23 (by decide) ?_
    obtain ⟨t2, ht2, hf⟩ := ob hf
    refine g_iald F hh (fri3 hq) (frs3 hq) ht2 dX1_endOf_24 ?_
    exact g_iret F hr hlk hh (Option.some.inj hf) rfl dX1_endOf_25
  · replace hf := itp c1 hf
    refine lv_aload_n hx hb dX1_endOf_6 rfl (lv_at hl 0 rfl) ?_
    refine r_X1_25 (b' := (q + 4)) F hh (fri0 hq) (frs0 hq) rfl dX1_endOf_7 ?_
    refine lv_iload_n hx hb dX1_endOf_10 rfl (lv_at hl 1 rfl) ?_
    refine lv_iconst (v := 2) hx hb dX1_endOf_11 (by decide) ?_
    refine lv_idiv hx hb dX1_endOf_12 (by decide) ?_
    obtain ⟨t3, ht3, hf⟩ := ob hf
    refine g_iald F hh (fri4 hq) (frs4 hq) ht3 dX1_endOf_13 ?_
    refine lv_goto (tgt := 25) hx hb dX1_endOf_14 (by decide) ?_
    exact g_iret F hr hlk hh (Option.some.inj hf) rfl dX1_endOf_25
theorem c_X1_endOf {l : Launch} {G : Gm} {q : Nat} {x1 : Int32} {z : Sto} {Z : Int32} (hq : FrC q) (hf : f_X1_endOf q x1 z = some Z) : Met l yX1_endOf (Cond.code yX1_endOf cX1_endOf 2 (some .int) :: TT) rmX1_endOf (va_Pc [.ref (G.1 (q)), .int x1] (GS rC G z)) (QI rC G Z z) 0 0 (Am rC G) := by
  refine g_met [(0, .ref (G.1 (q))), (1, .int x1)] (by decide) (Nat.le_of_ble_eq_true rfl) rfl ?_
  intro p e s m below meth cd F hr hlk ls H locs hl hh
  exact w_X1_endOf F hr hlk hq hf hh hl
def f_X1_stepX (q : Nat) (x1 : Int32) (z : Sto) : Option (Int32) := bd (f_X1_endOf (q) x1 z) fun t1 => bd (rdI z (q + 1) 6 t1) fun t2 => bd (f_X1_startOf (q) x1 z) fun t3 => bd (rdI z (q + 1) 6 t3) fun t4 => some (t2 - t4)
set_option maxRecDepth 100000 in
set_option maxHeartbeats 4000000 in
theorem w_X1_stepX {q : Nat} {Z : Int32} (F : Fx rC p s m args cd cX1_stepX 2 RX1 G) (hr : meth.sig.returnType = (some .int)) (hlk : meth.locks = false) (hq : FrC q) {x1 : Int32} {z : Sto} {H : Heap} {locs : List Loc} {ls : Array Slot} (hf : f_X1_stepX q x1 z = some Z) (hh : Hh rC G z s H locs) (hl : lv_has ls 2 [(0, .ref (G.1 (q))), (1, .int x1)]) : W p l e rmX1_stepX s m args below meth cd H locs 0 0 (MQ below (QI rC G Z z) args s 0 0 (Am rC G)) (F0 m 0 ls []) := by
  have hx := F.1
  have hb := F.2.1
  unfold f_X1_stepX at hf
  refine lv_aload_n hx hb dX1_stepX_0 rfl (lv_at hl 0 rfl) ?_
  refine r_X1_15 (b' := (q + 1)) F hh (fri0 hq) (frs0 hq) rfl dX1_stepX_1 ?_
  refine lv_aload_n hx hb dX1_stepX_4 rfl (lv_at hl 0 rfl) ?_
  refine lv_iload_n hx hb dX1_stepX_5 rfl (lv_at hl 1 rfl) ?_
  obtain ⟨t1, ht1, hf⟩ := ob hf
  refine m_X1_47 F hh (c_X1_endOf hq ht1) (fri0 hq) (frs0 hq) rfl hl (Nat.le_of_ble_eq_true rfl) dX1_stepX_6 (fun H locs hh => ?_)
  obtain ⟨t2, ht2, hf⟩ := ob hf
  refine g_iald F hh (fri1 hq) (frs1 hq) ht2 dX1_stepX_9 ?_
  refine lv_aload_n hx hb dX1_stepX_10 rfl (lv_at hl 0 rfl) ?_
  refine r_X1_15 (b' := (q + 1)) F hh (fri0 hq) (frs0 hq) rfl dX1_stepX_11 ?_
  refine lv_aload_n hx hb dX1_stepX_14 rfl (lv_at hl 0 rfl) ?_
  refine lv_iload_n hx hb dX1_stepX_15 rfl (lv_at hl 1 rfl) ?_
  obtain ⟨t3, ht3, hf⟩ := ob hf
  refine m_X1_51 F hh (c_X1_startOf hq ht3) (fri0 hq) (frs0 hq) rfl hl (Nat.le_of_ble_eq_true rfl) dX1_stepX_16 (fun H locs hh => ?_)
  obtain ⟨t4, ht4, hf⟩ := ob hf
  refine g_iald F hh (fri1 hq) (frs1 hq) ht4 dX1_stepX_19 ?_
  refine lv_isub hx hb dX1_stepX_20 ?_
  exact g_iret F hr hlk hh (Option.some.inj hf) rfl dX1_stepX_21
theorem c_X1_stepX {l : Launch} {G : Gm} {q : Nat} {x1 : Int32} {z : Sto} {Z : Int32} (hq : FrC q) (hf : f_X1_stepX q x1 z = some Z) : Met l yX1_stepX (Cond.code yX1_stepX cX1_stepX 2 (some .int) :: TT) rmX1_stepX (va_Pc [.ref (G.1 (q)), .int x1] (GS rC G z)) (QI rC G Z z) 0 0 (Am rC G) := by
  refine g_met [(0, .ref (G.1 (q))), (1, .int x1)] (by decide) (Nat.le_of_ble_eq_true rfl) rfl ?_
  intro p e s m below meth cd F hr hlk ls H locs hl hh
  exact w_X1_stepX F hr hlk hq hf hh hl
def f_X1_stepY (q : Nat) (x1 : Int32) (z : Sto) : Option (Int32) := bd (f_X1_endOf (q) x1 z) fun t1 => bd (rdI z (q + 2) 6 t1) fun t2 => bd (f_X1_startOf (q) x1 z) fun t3 => bd (rdI z (q + 2) 6 t3) fun t4 => some (t2 - t4)
set_option maxRecDepth 100000 in
set_option maxHeartbeats 4000000 in
theorem w_X1_stepY {q : Nat} {Z : Int32} (F : Fx rC p s m args cd cX1_stepY 2 RX1 G) (hr : meth.sig.returnType = (some .int)) (hlk : meth.locks = false) (hq : FrC q) {x1 : Int32} {z : Sto} {H : Heap} {locs : List Loc} {ls : Array Slot} (hf : f_X1_stepY q x1 z = some Z) (hh : Hh rC G z s H locs) (hl : lv_has ls 2 [(0, .ref (G.1 (q))), (1, .int x1)]) : W p l e rmX1_stepY s m args below meth cd H locs 0 0 (MQ below (QI rC G Z z) args s 0 0 (Am rC G)) (F0 m 0 ls []) := by
  have hx := F.1
  have hb := F.2.1
  unfold f_X1_stepY at hf
  refine lv_aload_n hx hb dX1_stepY_0 rfl (lv_at hl 0 rfl) ?_
  refine r_X1_19 (b' := (q + 2)) F hh (fri0 hq) (frs0 hq) rfl dX1_stepY_1 ?_
  refine lv_aload_n hx hb dX1_stepY_4 rfl (lv_at hl 0 rfl) ?_
  refine lv_iload_n hx hb dX1_stepY_5 rfl (lv_at hl 1 rfl) ?_
  obtain ⟨t1, ht1, hf⟩ := ob hf
  refine m_X1_47 F hh (c_X1_endOf hq ht1) (fri0 hq) (frs0 hq) rfl hl (Nat.le_of_ble_eq_true rfl) dX1_stepY_6 (fun H locs hh => ?_)
  obtain ⟨t2, ht2, hf⟩ := ob hf
  refine g_iald F hh (fri2 hq) (frs2 hq) ht2 dX1_stepY_9 ?_
  refine lv_aload_n hx hb dX1_stepY_10 rfl (lv_at hl 0 rfl) ?_
  refine r_X1_19 (b' := (q + 2)) F hh (fri0 hq) (frs0 hq) rfl dX1_stepY_11 ?_
  refine lv_aload_n hx hb dX1_stepY_14 rfl (lv_at hl 0 rfl) ?_
  refine lv_iload_n hx hb dX1_stepY_15 rfl (lv_at hl 1 rfl) ?_
  obtain ⟨t3, ht3, hf⟩ := ob hf
  refine m_X1_51 F hh (c_X1_startOf hq ht3) (fri0 hq) (frs0 hq) rfl hl (Nat.le_of_ble_eq_true rfl) dX1_stepY_16 (fun H locs hh => ?_)
  obtain ⟨t4, ht4, hf⟩ := ob hf
  refine g_iald F hh (fri2 hq) (frs2 hq) ht4 dX1_stepY_19 ?_
  refine lv_isub hx hb dX1_stepY_20 ?_
  exact g_iret F hr hlk hh (Option.some.inj hf) rfl dX1_stepY_21
theorem c_X1_stepY {l : Launch} {G : Gm} {q : Nat} {x1 : Int32} {z : Sto} {Z : Int32} (hq : FrC q) (hf : f_X1_stepY q x1 z = some Z) : Met l yX1_stepY (Cond.code yX1_stepY cX1_stepY 2 (some .int) :: TT) rmX1_stepY (va_Pc [.ref (G.1 (q)), .int x1] (GS rC G z)) (QI rC G Z z) 0 0 (Am rC G) := by
  refine g_met [(0, .ref (G.1 (q))), (1, .int x1)] (by decide) (Nat.le_of_ble_eq_true rfl) rfl ?_
  intro p e s m below meth cd F hr hlk ls H locs hl hh
  exact w_X1_stepY F hr hlk hq hf hh hl
def b_X1_barsOf_4 (q : Nat) (z : Sto)  (ag4 : Int32 → Int32 → Int32 → Option (Int32)) (x1 : Int32) (x2 : Int32) (x3 : Int32) : Option (Int32) := if (z.1 (q) 1) ≤ x3 then (some x2) else (bd (rdI z (q + 3) 9 x3) fun t2 => if t2 = x1 then (lt (x2 + (1 : Int32)) fun x2_4 => lt (x3 + (1 : Int32)) fun x3_5 => ag4 x1 x2_4 x3_5) else (bd (rdI z (q + 4) 9 x3) fun t6 => if t6 = x1 then (lt (x2 + (1 : Int32)) fun x2_9 => lt (x3 + (1 : Int32)) fun x3_10 => ag4 x1 x2_9 x3_10) else (lt (x3 + (1 : Int32)) fun x3_8 => ag4 x1 x2 x3_8)))
def f_X1_barsOf (q : Nat) (x1 : Int32) (z : Sto) : Option (Int32) := wl3 (b_X1_barsOf_4 q z) fu x1 (0 : Int32) (0 : Int32)
set_option maxRecDepth 100000 in
set_option maxHeartbeats 4000000 in
theorem w_X1_barsOf_4 {q : Nat} {z : Sto}  {Z : Int32} (F : Fx rC p s m args cd cX1_barsOf 4 RX1 G) (hr : meth.sig.returnType = (some .int)) (hlk : meth.locks = false) (hq : FrC q)  : ∀ (n : Nat), ∀ (x1 : Int32) (x2 : Int32) (x3 : Int32), wl3 (b_X1_barsOf_4 q z) n x1 x2 x3 = some Z → ∀ {H : Heap} {locs : List Loc} {ls : Array Slot}, Hh rC G z s H locs → lv_has ls 4 [(0, .ref (G.1 (q))), (1, .int x1), (2, .int x2), (3, .int x3)] → W p l e rmX1_barsOf s m args below meth cd H locs 0 0 (MQ below (QI rC G Z z) args s 0 0 (Am rC G)) (F0 m 4 ls []) := by
  have hx := F.1
  have hb := F.2.1
  intro n
  induction n with
  | zero =>
    intro x1 x2 x3 hf
    exact absurd hf (by intro h; cases h)
  | succ n ih =>
    intro x1 x2 x3 hf  H locs ls hh hl
    replace hf : b_X1_barsOf_4 q z (wl3 (b_X1_barsOf_4 q z) n) x1 x2 x3 = some Z := hf
    unfold b_X1_barsOf_4 at hf
    refine lv_iload_n hx hb dX1_barsOf_4 rfl (lv_at hl 3 rfl) ?_
    refine lv_aload_n hx hb dX1_barsOf_5 rfl (lv_at hl 0 rfl) ?_
    refine r_X1_44 F hh (fri0 hq) (frs0 hq) dX1_barsOf_6 ?_
    refine lv_icmp_ge (tgt := 41) hx hb dX1_barsOf_9 (by decide) (fun c1 => ?_) (fun c1 => ?_)
    · replace hf := itp c1 hf
      refine lv_iload_n hx hb dX1_barsOf_41 rfl (lv_at hl 2 rfl) ?_
      exact g_iret F hr hlk hh (Option.some.inj hf) rfl dX1_barsOf_42
    · replace hf := itn c1 hf
      refine lv_aload_n hx hb dX1_barsOf_12 rfl (lv_at hl 0 rfl) ?_
      refine r_X1_22 (b' := (q + 3)) F hh (fri0 hq) (frs0 hq) rfl dX1_barsOf_13 ?_
      refine lv_iload_n hx hb dX1_barsOf_16 rfl (lv_at hl 3 rfl) ?_
      obtain ⟨t2, ht2, hf⟩ := ob hf
      refine g_iald F hh (fri3 hq) (frs3 hq) ht2 dX1_barsOf_17 ?_
      refine lv_iload_n hx hb dX1_barsOf_18 rfl (lv_at hl 1 rfl) ?_
      refine lv_icmp_eq (tgt := 32) hx hb dX1_barsOf_19 (by decide) (fun c3 => ?_) (fun c3 => ?_)
      · replace hf := itp c3 hf
        obtain ⟨x2_4, ex2_4⟩ : ∃ y : Int32, y = x2 + (1 : Int32) := ⟨_, rfl⟩
        replace hf := lt_e ex2_4 hf
        refine lv_iinc (v := x2_4) (lv' := [(2, .int x2_4), (0, .ref (G.1 (q))), (1, .int x1), (3, .int x3)]) hx hb dX1_barsOf_32 hl (k := 2) rfl (by rw [ex2_4]; rfl) (by decide) rfl (fun ls hl => ?_)
        obtain ⟨x3_5, ex3_5⟩ : ∃ y : Int32, y = x3 + (1 : Int32) := ⟨_, rfl⟩
        replace hf := lt_e ex3_5 hf
        refine lv_iinc (v := x3_5) (lv' := [(3, .int x3_5), (2, .int x2_4), (0, .ref (G.1 (q))), (1, .int x1)]) hx hb dX1_barsOf_35 hl (k := 3) rfl (by rw [ex3_5]; rfl) (by decide) rfl (fun ls hl => ?_)
        refine lv_goto (tgt := 4) hx hb dX1_barsOf_38 (by decide) ?_
        exact ih _ _ _ hf  hh (lv_sub hl [2, 3, 1, 0] rfl)
      · replace hf := itn c3 hf
        refine lv_aload_n hx hb dX1_barsOf_22 rfl (lv_at hl 0 rfl) ?_
        refine r_X1_25 (b' := (q + 4)) F hh (fri0 hq) (frs0 hq) rfl dX1_barsOf_23 ?_
        refine lv_iload_n hx hb dX1_barsOf_26 rfl (lv_at hl 3 rfl) ?_
        obtain ⟨t6, ht6, hf⟩ := ob hf
        refine g_iald F hh (fri4 hq) (frs4 hq) ht6 dX1_barsOf_27 ?_
        refine lv_iload_n hx hb dX1_barsOf_28 rfl (lv_at hl 1 rfl) ?_
        refine lv_icmp_ne (tgt := 35) hx hb dX1_barsOf_29 (by decide) (fun c7 => ?_) (fun c7 => ?_)
        · replace hf := itn c7 hf
          obtain ⟨x3_8, ex3_8⟩ : ∃ y : Int32, y = x3 + (1 : Int32) := ⟨_, rfl⟩
          replace hf := lt_e ex3_8 hf
          refine lv_iinc (v := x3_8) (lv' := [(3, .int x3_8), (0, .ref (G.1 (q))), (1, .int x1), (2, .int x2)]) hx hb dX1_barsOf_35 hl (k := 3) rfl (by rw [ex3_8]; rfl) (by decide) rfl (fun ls hl => ?_)
          refine lv_goto (tgt := 4) hx hb dX1_barsOf_38 (by decide) ?_
          exact ih _ _ _ hf  hh (lv_sub hl [1, 2, 3, 0] rfl)
        · replace hf := itp c7 hf
          obtain ⟨x2_9, ex2_9⟩ : ∃ y : Int32, y = x2 + (1 : Int32) := ⟨_, rfl⟩
          replace hf := lt_e ex2_9 hf
          refine lv_iinc (v := x2_9) (lv' := [(2, .int x2_9), (0, .ref (G.1 (q))), (1, .int x1), (3, .int x3)]) hx hb dX1_barsOf_32 hl (k := 2) rfl (by rw [ex2_9]; rfl) (by decide) rfl (fun ls hl => ?_)
          obtain ⟨x3_10, ex3_10⟩ : ∃ y : Int32, y = x3 + (1 : Int32) := ⟨_, rfl⟩
          replace hf := lt_e ex3_10 hf
          refine lv_iinc (v := x3_10) (lv' := [(3, .int x3_10), (2, .int x2_9), (0, .ref (G.1 (q))), (1, .int x1)]) hx hb dX1_barsOf_35 hl (k := 3) rfl (by rw [ex3_10]; rfl) (by decide) rfl (fun ls hl => ?_)
          refine lv_goto (tgt := 4) hx hb dX1_barsOf_38 (by decide) ?_
          exact ih _ _ _ hf  hh (lv_sub hl [2, 3, 1, 0] rfl)
set_option maxRecDepth 100000 in
set_option maxHeartbeats 4000000 in
theorem w_X1_barsOf {q : Nat} {Z : Int32} (F : Fx rC p s m args cd cX1_barsOf 4 RX1 G) (hr : meth.sig.returnType = (some .int)) (hlk : meth.locks = false) (hq : FrC q) {x1 : Int32} {z : Sto} {H : Heap} {locs : List Loc} {ls : Array Slot} (hf : f_X1_barsOf q x1 z = some Z) (hh : Hh rC G z s H locs) (hl : lv_has ls 4 [(0, .ref (G.1 (q))), (1, .int x1)]) : W p l e rmX1_barsOf s m args below meth cd H locs 0 0 (MQ below (QI rC G Z z) args s 0 0 (Am rC G)) (F0 m 0 ls []) := by
  have hx := F.1
  have hb := F.2.1
  unfold f_X1_barsOf at hf
  refine lv_iconst (v := 0) hx hb dX1_barsOf_0 (by decide) ?_
  refine lv_istore_n (lv' := [(2, .int (0 : Int32)), (0, .ref (G.1 (q))), (1, .int x1)]) hx hb dX1_barsOf_1 rfl hl (by decide) rfl (fun ls hl => ?_)
  refine lv_iconst (v := 0) hx hb dX1_barsOf_2 (by decide) ?_
  refine lv_istore_n (lv' := [(3, .int (0 : Int32)), (2, .int (0 : Int32)), (0, .ref (G.1 (q))), (1, .int x1)]) hx hb dX1_barsOf_3 rfl hl (by decide) rfl (fun ls hl => ?_)
  exact w_X1_barsOf_4 F hr hlk hq fu _ _ _ hf  hh (lv_sub hl [2, 3, 1, 0] rfl)
theorem c_X1_barsOf {l : Launch} {G : Gm} {q : Nat} {x1 : Int32} {z : Sto} {Z : Int32} (hq : FrC q) (hf : f_X1_barsOf q x1 z = some Z) : Met l yX1_barsOf (Cond.code yX1_barsOf cX1_barsOf 4 (some .int) :: TT) rmX1_barsOf (va_Pc [.ref (G.1 (q)), .int x1] (GS rC G z)) (QI rC G Z z) 0 0 (Am rC G) := by
  refine g_met [(0, .ref (G.1 (q))), (1, .int x1)] (by decide) (Nat.le_of_ble_eq_true rfl) rfl ?_
  intro p e s m below meth cd F hr hlk ls H locs hl hh
  exact w_X1_barsOf F hr hlk hq hf hh hl
def b_X1_isWhole_14 (q : Nat) (z : Sto) (ag4 : Int32 → Int32 → Option (Int32)) (ag14 : Int32 → Int32 → Int32 → Option (Int32)) (x1 : Int32) (x2 : Int32) (x3 : Int32) : Option (Int32) := if ((2 : Int32) * (z.1 (q) 1)) ≤ x3 then (lt (x2 + (1 : Int32)) fun x2_5 => ag4 x1 x2_5) else (bd (f_X1_startOf (q) x3 z) fun t6 => if ((x1 >>> (t6 &&& 31)) &&& (1 : Int32)) = (1 : Int32) then (bd (f_X1_endOf (q) x3 z) fun t9 => lt ((x1 ||| ((1 : Int32) <<< (t9 &&& 31)))) fun x1_10 => lt (x3 + (1 : Int32)) fun x3_11 => ag14 x1_10 x2 x3_11) else (lt (x3 + (1 : Int32)) fun x3_8 => ag14 x1 x2 x3_8))
def b_X1_isWhole_4 (q : Nat) (z : Sto)  (ag4 : Int32 → Int32 → Option (Int32)) (x1 : Int32) (x2 : Int32) : Option (Int32) := if (z.1 (q) 0) ≤ x2 then (if (z.1 (q) 1) ≤ 0 then (some (0 : Int32)) else (if x1 = (((1 : Int32) <<< ((z.1 (q) 0) &&& 31)) - (1 : Int32)) then (some (1 : Int32)) else (some (0 : Int32)))) else (wl3 (b_X1_isWhole_14 q z ag4) fu x1 x2 (0 : Int32))
def f_X1_isWhole (q : Nat)  (z : Sto) : Option (Int32) := wl2 (b_X1_isWhole_4 q z) fu (1 : Int32) (0 : Int32)
set_option maxRecDepth 100000 in
set_option maxHeartbeats 4000000 in
theorem w_X1_isWhole_14 {q : Nat} {z : Sto} {ag4 : Int32 → Int32 → Option (Int32)} {Z : Int32} (F : Fx rC p s m args cd cX1_isWhole 4 RX1 G) (hr : meth.sig.returnType = (some .boolean)) (hlk : meth.locks = false) (hq : FrC q) (hag4 : ∀ (x1 : Int32) (x2 : Int32), ag4 x1 x2 = some Z → ∀ {H : Heap} {locs : List Loc} {ls : Array Slot}, Hh rC G z s H locs → lv_has ls 4 [(0, .ref (G.1 (q))), (1, .int x1), (2, .int x2)] → W p l e rmX1_isWhole s m args below meth cd H locs 0 0 (MQ below (QI rC G Z z) args s 0 0 (Am rC G)) (F0 m 4 ls [])) : ∀ (n : Nat), ∀ (x1 : Int32) (x2 : Int32) (x3 : Int32), wl3 (b_X1_isWhole_14 q z ag4) n x1 x2 x3 = some Z → ∀ {H : Heap} {locs : List Loc} {ls : Array Slot}, Hh rC G z s H locs → lv_has ls 4 [(0, .ref (G.1 (q))), (1, .int x1), (2, .int x2), (3, .int x3)] → W p l e rmX1_isWhole s m args below meth cd H locs 0 0 (MQ below (QI rC G Z z) args s 0 0 (Am rC G)) (F0 m 14 ls []) := by
  have hx := F.1
  have hb := F.2.1
  intro n
  induction n with
  | zero =>
    intro x1 x2 x3 hf
    exact absurd hf (by intro h; cases h)
  | succ n ih =>
    intro x1 x2 x3 hf  H locs ls hh hl
    replace hf : b_X1_isWhole_14 q z ag4 (wl3 (b_X1_isWhole_14 q z ag4) n) x1 x2 x3 = some Z := hf
    unfold b_X1_isWhole_14 at hf
    refine lv_iload_n hx hb dX1_isWhole_14 rfl (lv_at hl 3 rfl) ?_
    refine lv_iconst (v := 2) hx hb dX1_isWhole_15 (by decide) ?_
    refine lv_aload_n hx hb dX1_isWhole_16 rfl (lv_at hl 0 rfl) ?_
    refine r_X1_44 F hh (fri0 hq) (frs0 hq) dX1_isWhole_17 ?_
    refine lv_imul hx hb dX1_isWhole_20 ?_
    refine lv_icmp_ge (tgt := 53) hx hb dX1_isWhole_21 (by decide) (fun c4 => ?_) (fun c4 => ?_)
    · replace hf := itp c4 hf
      obtain ⟨x2_5, ex2_5⟩ : ∃ y : Int32, y = x2 + (1 : Int32) := ⟨_, rfl⟩
      replace hf := lt_e ex2_5 hf
      refine lv_iinc (v := x2_5) (lv' := [(2, .int x2_5), (0, .ref (G.1 (q))), (1, .int x1), (3, .int x3)]) hx hb dX1_isWhole_53 hl (k := 2) rfl (by rw [ex2_5]; rfl) (by decide) rfl (fun ls hl => ?_)
      refine lv_goto (tgt := 4) hx hb dX1_isWhole_56 (by decide) ?_
      exact hag4 _ _ hf  hh (lv_sub hl [1, 2, 0] rfl)
    · replace hf := itn c4 hf
      refine lv_iload_n hx hb dX1_isWhole_24 rfl (lv_at hl 1 rfl) ?_
      refine lv_aload_n hx hb dX1_isWhole_25 rfl (lv_at hl 0 rfl) ?_
      refine lv_iload_n hx hb dX1_isWhole_26 rfl (lv_at hl 3 rfl) ?_
      obtain ⟨t6, ht6, hf⟩ := ob hf
      refine m_X1_51 F hh (c_X1_startOf hq ht6) (fri0 hq) (frs0 hq) rfl hl (Nat.le_of_ble_eq_true rfl) dX1_isWhole_27 (fun H locs hh => ?_)
      refine lv_ishr hx hb dX1_isWhole_30 ?_
      refine lv_iconst (v := 1) hx hb dX1_isWhole_31 (by decide) ?_
      refine lv_iand hx hb dX1_isWhole_32 ?_
      refine lv_iconst (v := 1) hx hb dX1_isWhole_33 (by decide) ?_
      refine lv_icmp_ne (tgt := 47) hx hb dX1_isWhole_34 (by decide) (fun c7 => ?_) (fun c7 => ?_)
      · replace hf := itn c7 hf
        obtain ⟨x3_8, ex3_8⟩ : ∃ y : Int32, y = x3 + (1 : Int32) := ⟨_, rfl⟩
        replace hf := lt_e ex3_8 hf
        refine lv_iinc (v := x3_8) (lv' := [(3, .int x3_8), (0, .ref (G.1 (q))), (1, .int x1), (2, .int x2)]) hx hb dX1_isWhole_47 hl (k := 3) rfl (by rw [ex3_8]; rfl) (by decide) rfl (fun ls hl => ?_)
        refine lv_goto (tgt := 14) hx hb dX1_isWhole_50 (by decide) ?_
        exact ih _ _ _ hf  hh (lv_sub hl [1, 2, 3, 0] rfl)
      · replace hf := itp c7 hf
        refine lv_iload_n hx hb dX1_isWhole_37 rfl (lv_at hl 1 rfl) ?_
        refine lv_iconst (v := 1) hx hb dX1_isWhole_38 (by decide) ?_
        refine lv_aload_n hx hb dX1_isWhole_39 rfl (lv_at hl 0 rfl) ?_
        refine lv_iload_n hx hb dX1_isWhole_40 rfl (lv_at hl 3 rfl) ?_
        obtain ⟨t9, ht9, hf⟩ := ob hf
        refine m_X1_47 F hh (c_X1_endOf hq ht9) (fri0 hq) (frs0 hq) rfl hl (Nat.le_of_ble_eq_true rfl) dX1_isWhole_41 (fun H locs hh => ?_)
        refine lv_ishl hx hb dX1_isWhole_44 ?_
        refine lv_ior hx hb dX1_isWhole_45 ?_
        refine lv_topi (fun x1_10 ex1_10 => ?_)
        replace hf := lt_e ex1_10 hf
        refine lv_istore_n (lv' := [(1, .int x1_10), (0, .ref (G.1 (q))), (2, .int x2), (3, .int x3)]) hx hb dX1_isWhole_46 rfl hl (by decide) rfl (fun ls hl => ?_)
        obtain ⟨x3_11, ex3_11⟩ : ∃ y : Int32, y = x3 + (1 : Int32) := ⟨_, rfl⟩
        replace hf := lt_e ex3_11 hf
        refine lv_iinc (v := x3_11) (lv' := [(3, .int x3_11), (1, .int x1_10), (0, .ref (G.1 (q))), (2, .int x2)]) hx hb dX1_isWhole_47 hl (k := 3) rfl (by rw [ex3_11]; rfl) (by decide) rfl (fun ls hl => ?_)
        refine lv_goto (tgt := 14) hx hb dX1_isWhole_50 (by decide) ?_
        exact ih _ _ _ hf  hh (lv_sub hl [2, 1, 3, 0] rfl)
set_option maxRecDepth 100000 in
set_option maxHeartbeats 4000000 in
theorem w_X1_isWhole_4 {q : Nat} {z : Sto}  {Z : Int32} (F : Fx rC p s m args cd cX1_isWhole 4 RX1 G) (hr : meth.sig.returnType = (some .boolean)) (hlk : meth.locks = false) (hq : FrC q)  : ∀ (n : Nat), ∀ (x1 : Int32) (x2 : Int32), wl2 (b_X1_isWhole_4 q z) n x1 x2 = some Z → ∀ {H : Heap} {locs : List Loc} {ls : Array Slot}, Hh rC G z s H locs → lv_has ls 4 [(0, .ref (G.1 (q))), (1, .int x1), (2, .int x2)] → W p l e rmX1_isWhole s m args below meth cd H locs 0 0 (MQ below (QI rC G Z z) args s 0 0 (Am rC G)) (F0 m 4 ls []) := by
  have hx := F.1
  have hb := F.2.1
  intro n
  induction n with
  | zero =>
    intro x1 x2 hf
    exact absurd hf (by intro h; cases h)
  | succ n ih =>
    intro x1 x2 hf  H locs ls hh hl
    replace hf : b_X1_isWhole_4 q z (wl2 (b_X1_isWhole_4 q z) n) x1 x2 = some Z := hf
    unfold b_X1_isWhole_4 at hf
    refine lv_iload_n hx hb dX1_isWhole_4 rfl (lv_at hl 2 rfl) ?_
    refine lv_aload_n hx hb dX1_isWhole_5 rfl (lv_at hl 0 rfl) ?_
    refine r_X1_41 F hh (fri0 hq) (frs0 hq) dX1_isWhole_6 ?_
    refine lv_icmp_ge (tgt := 59) hx hb dX1_isWhole_9 (by decide) (fun c1 => ?_) (fun c1 => ?_)
    · replace hf := itp c1 hf
      refine lv_aload_n hx hb dX1_isWhole_59 rfl (lv_at hl 0 rfl) ?_
      refine r_X1_44 F hh (fri0 hq) (frs0 hq) dX1_isWhole_60 ?_
      refine lv_if_le (tgt := 82) hx hb dX1_isWhole_63 (by decide) (fun c2 => ?_) (fun c2 => ?_)
      · replace hf := itp c2 hf
        refine lv_iconst (v := 0) hx hb dX1_isWhole_82 (by decide) ?_
        exact g_zret F hr hlk rfl hh (Option.some.inj hf) rfl dX1_isWhole_83
      · replace hf := itn c2 hf
        refine lv_iload_n hx hb dX1_isWhole_66 rfl (lv_at hl 1 rfl) ?_
        refine lv_iconst (v := 1) hx hb dX1_isWhole_67 (by decide) ?_
        refine lv_aload_n hx hb dX1_isWhole_68 rfl (lv_at hl 0 rfl) ?_
        refine r_X1_41 F hh (fri0 hq) (frs0 hq) dX1_isWhole_69 ?_
        refine lv_ishl hx hb dX1_isWhole_72 ?_
        refine lv_iconst (v := 1) hx hb dX1_isWhole_73 (by decide) ?_
        refine lv_isub hx hb dX1_isWhole_74 ?_
        refine lv_icmp_ne (tgt := 82) hx hb dX1_isWhole_75 (by decide) (fun c3 => ?_) (fun c3 => ?_)
        · replace hf := itn c3 hf
          refine lv_iconst (v := 0) hx hb dX1_isWhole_82 (by decide) ?_
          exact g_zret F hr hlk rfl hh (Option.some.inj hf) rfl dX1_isWhole_83
        · replace hf := itp c3 hf
          refine lv_iconst (v := 1) hx hb dX1_isWhole_78 (by decide) ?_
          refine lv_goto (tgt := 83) hx hb dX1_isWhole_79 (by decide) ?_
          exact g_zret F hr hlk rfl hh (Option.some.inj hf) rfl dX1_isWhole_83
    · replace hf := itn c1 hf
      refine lv_iconst (v := 0) hx hb dX1_isWhole_12 (by decide) ?_
      refine lv_istore_n (lv' := [(3, .int (0 : Int32)), (0, .ref (G.1 (q))), (1, .int x1), (2, .int x2)]) hx hb dX1_isWhole_13 rfl hl (by decide) rfl (fun ls hl => ?_)
      exact w_X1_isWhole_14 F hr hlk hq ih fu _ _ _ hf  hh (lv_sub hl [1, 2, 3, 0] rfl)
set_option maxRecDepth 100000 in
set_option maxHeartbeats 4000000 in
theorem w_X1_isWhole {q : Nat} {Z : Int32} (F : Fx rC p s m args cd cX1_isWhole 4 RX1 G) (hr : meth.sig.returnType = (some .boolean)) (hlk : meth.locks = false) (hq : FrC q)  {z : Sto} {H : Heap} {locs : List Loc} {ls : Array Slot} (hf : f_X1_isWhole q  z = some Z) (hh : Hh rC G z s H locs) (hl : lv_has ls 4 [(0, .ref (G.1 (q)))]) : W p l e rmX1_isWhole s m args below meth cd H locs 0 0 (MQ below (QI rC G Z z) args s 0 0 (Am rC G)) (F0 m 0 ls []) := by
  have hx := F.1
  have hb := F.2.1
  unfold f_X1_isWhole at hf
  refine lv_iconst (v := 1) hx hb dX1_isWhole_0 (by decide) ?_
  refine lv_istore_n (lv' := [(1, .int (1 : Int32)), (0, .ref (G.1 (q)))]) hx hb dX1_isWhole_1 rfl hl (by decide) rfl (fun ls hl => ?_)
  refine lv_iconst (v := 0) hx hb dX1_isWhole_2 (by decide) ?_
  refine lv_istore_n (lv' := [(2, .int (0 : Int32)), (1, .int (1 : Int32)), (0, .ref (G.1 (q)))]) hx hb dX1_isWhole_3 rfl hl (by decide) rfl (fun ls hl => ?_)
  exact w_X1_isWhole_4 F hr hlk hq fu _ _ hf  hh (lv_sub hl [2, 1, 0] rfl)
theorem c_X1_isWhole {l : Launch} {G : Gm} {q : Nat}  {z : Sto} {Z : Int32} (hq : FrC q) (hf : f_X1_isWhole q  z = some Z) : Met l yX1_isWhole (Cond.code yX1_isWhole cX1_isWhole 4 (some .boolean) :: TT) rmX1_isWhole (va_Pc [.ref (G.1 (q))] (GS rC G z)) (QI rC G Z z) 0 0 (Am rC G) := by
  refine g_met [(0, .ref (G.1 (q)))] (by decide) (Nat.le_of_ble_eq_true rfl) rfl ?_
  intro p e s m below meth cd F hr hlk ls H locs hl hh
  exact w_X1_isWhole F hr hlk hq hf hh hl
def f_X1_takeFigure (q : Nat) (q1 : Nat)  (z : Sto) : Option (Sto) := lt (upI z (q) 0 (z.1 (q1) 0)) fun z1 => lt (upI z1 (q) 1 (z1.1 (q1) 1)) fun z2 => bd (cpI z2 (q1 + 1) 6 (0 : Int32) (q + 1) 6 (0 : Int32) (6 : Int32)) fun z3 => bd (cpI z3 (q1 + 2) 6 (0 : Int32) (q + 2) 6 (0 : Int32) (6 : Int32)) fun z4 => bd (cpI z4 (q1 + 3) 9 (0 : Int32) (q + 3) 9 (0 : Int32) (9 : Int32)) fun z5 => bd (cpI z5 (q1 + 4) 9 (0 : Int32) (q + 4) 9 (0 : Int32) (9 : Int32)) fun z6 => some z6
set_option maxRecDepth 100000 in
set_option maxHeartbeats 4000000 in
theorem w_X1_takeFigure {q : Nat} {q1 : Nat} {Z : Sto} (F : Fx rC p s m args cd cX1_takeFigure 2 RX1 G) (hr : meth.sig.returnType = none) (hlk : meth.locks = false) (hq : FrC q) (hq1 : FrC q1)  {z : Sto} {H : Heap} {locs : List Loc} {ls : Array Slot} (hf : f_X1_takeFigure q q1  z = some Z) (hh : Hh rC G z s H locs) (hl : lv_has ls 2 [(0, .ref (G.1 (q))), (1, .ref (G.1 (q1)))]) : W p l e rmX1_takeFigure s m args below meth cd H locs 0 0 (MQ below (QV rC G Z) args s 0 0 (Am rC G)) (F0 m 0 ls []) := by
  have hx := F.1
  have hb := F.2.1
  unfold f_X1_takeFigure at hf
  refine lv_aload_n hx hb dX1_takeFigure_0 rfl (lv_at hl 0 rfl) ?_
  refine lv_aload_n hx hb dX1_takeFigure_1 rfl (lv_at hl 1 rfl) ?_
  refine r_X1_41 F hh (fri0 hq1) (frs0 hq1) dX1_takeFigure_2 ?_
  refine s_X1_41 F hh (fri0 hq) (frs0 hq) dX1_takeFigure_5 (fun z1 ez1 H locs hh => ?_)
  replace hf := lt_e ez1 hf
  refine lv_aload_n hx hb dX1_takeFigure_8 rfl (lv_at hl 0 rfl) ?_
  refine lv_aload_n hx hb dX1_takeFigure_9 rfl (lv_at hl 1 rfl) ?_
  refine r_X1_44 F hh (fri0 hq1) (frs0 hq1) dX1_takeFigure_10 ?_
  refine s_X1_44 F hh (fri0 hq) (frs0 hq) dX1_takeFigure_13 (fun z2 ez2 H locs hh => ?_)
  replace hf := lt_e ez2 hf
  refine lv_aload_n hx hb dX1_takeFigure_16 rfl (lv_at hl 1 rfl) ?_
  refine r_X1_15 (b' := (q1 + 1)) F hh (fri0 hq1) (frs0 hq1) rfl dX1_takeFigure_17 ?_
  refine lv_iconst (v := 0) hx hb dX1_takeFigure_20 (by decide) ?_
  refine lv_aload_n hx hb dX1_takeFigure_21 rfl (lv_at hl 0 rfl) ?_
  refine r_X1_15 (b' := (q + 1)) F hh (fri0 hq) (frs0 hq) rfl dX1_takeFigure_22 ?_
  refine lv_iconst (v := 0) hx hb dX1_takeFigure_25 (by decide) ?_
  refine lv_bipush (v := 6) hx hb dX1_takeFigure_26 (by decide) ?_
  obtain ⟨z3, hz3, hf⟩ := ob hf
  refine g_cpI F hh (fri1 hq1) (frs1 hq1) (fri1 hq) (frs1 hq) hz3 hl lk386 (Nat.le_of_ble_eq_true rfl) (Nat.le_of_ble_eq_true rfl) dX1_takeFigure_28 (fun H locs hh => ?_)
  refine lv_aload_n hx hb dX1_takeFigure_31 rfl (lv_at hl 1 rfl) ?_
  refine r_X1_19 (b' := (q1 + 2)) F hh (fri0 hq1) (frs0 hq1) rfl dX1_takeFigure_32 ?_
  refine lv_iconst (v := 0) hx hb dX1_takeFigure_35 (by decide) ?_
  refine lv_aload_n hx hb dX1_takeFigure_36 rfl (lv_at hl 0 rfl) ?_
  refine r_X1_19 (b' := (q + 2)) F hh (fri0 hq) (frs0 hq) rfl dX1_takeFigure_37 ?_
  refine lv_iconst (v := 0) hx hb dX1_takeFigure_40 (by decide) ?_
  refine lv_bipush (v := 6) hx hb dX1_takeFigure_41 (by decide) ?_
  obtain ⟨z4, hz4, hf⟩ := ob hf
  refine g_cpI F hh (fri2 hq1) (frs2 hq1) (fri2 hq) (frs2 hq) hz4 hl lk386 (Nat.le_of_ble_eq_true rfl) (Nat.le_of_ble_eq_true rfl) dX1_takeFigure_43 (fun H locs hh => ?_)
  refine lv_aload_n hx hb dX1_takeFigure_46 rfl (lv_at hl 1 rfl) ?_
  refine r_X1_22 (b' := (q1 + 3)) F hh (fri0 hq1) (frs0 hq1) rfl dX1_takeFigure_47 ?_
  refine lv_iconst (v := 0) hx hb dX1_takeFigure_50 (by decide) ?_
  refine lv_aload_n hx hb dX1_takeFigure_51 rfl (lv_at hl 0 rfl) ?_
  refine r_X1_22 (b' := (q + 3)) F hh (fri0 hq) (frs0 hq) rfl dX1_takeFigure_52 ?_
  refine lv_iconst (v := 0) hx hb dX1_takeFigure_55 (by decide) ?_
  refine lv_bipush (v := 9) hx hb dX1_takeFigure_56 (by decide) ?_
  obtain ⟨z5, hz5, hf⟩ := ob hf
  refine g_cpI F hh (fri3 hq1) (frs3 hq1) (fri3 hq) (frs3 hq) hz5 hl lk386 (Nat.le_of_ble_eq_true rfl) (Nat.le_of_ble_eq_true rfl) dX1_takeFigure_58 (fun H locs hh => ?_)
  refine lv_aload_n hx hb dX1_takeFigure_61 rfl (lv_at hl 1 rfl) ?_
  refine r_X1_25 (b' := (q1 + 4)) F hh (fri0 hq1) (frs0 hq1) rfl dX1_takeFigure_62 ?_
  refine lv_iconst (v := 0) hx hb dX1_takeFigure_65 (by decide) ?_
  refine lv_aload_n hx hb dX1_takeFigure_66 rfl (lv_at hl 0 rfl) ?_
  refine r_X1_25 (b' := (q + 4)) F hh (fri0 hq) (frs0 hq) rfl dX1_takeFigure_67 ?_
  refine lv_iconst (v := 0) hx hb dX1_takeFigure_70 (by decide) ?_
  refine lv_bipush (v := 9) hx hb dX1_takeFigure_71 (by decide) ?_
  obtain ⟨z6, hz6, hf⟩ := ob hf
  refine g_cpI F hh (fri4 hq1) (frs4 hq1) (fri4 hq) (frs4 hq) hz6 hl lk386 (Nat.le_of_ble_eq_true rfl) (Nat.le_of_ble_eq_true rfl) dX1_takeFigure_73 (fun H locs hh => ?_)
  exact g_vret F hr hlk hh (Option.some.inj hf) dX1_takeFigure_76
theorem c_X1_takeFigure {l : Launch} {G : Gm} {q : Nat} {q1 : Nat}  {z : Sto} {Z : Sto} (hq : FrC q) (hq1 : FrC q1) (hf : f_X1_takeFigure q q1  z = some Z) : Met l yX1_takeFigure (Cond.code yX1_takeFigure cX1_takeFigure 2 none :: TT) rmX1_takeFigure (va_Pc [.ref (G.1 (q)), .ref (G.1 (q1))] (GS rC G z)) (QV rC G Z) 0 0 (Am rC G) := by
  refine g_met [(0, .ref (G.1 (q))), (1, .ref (G.1 (q1)))] (by decide) (Nat.le_of_ble_eq_true rfl) rfl ?_
  intro p e s m below meth cd F hr hlk ls H locs hl hh
  exact w_X1_takeFigure F hr hlk hq hq1 hf hh hl
def f_X1_takeAll (q : Nat) (q1 : Nat)  (z : Sto) : Option (Sto) := bd (f_X1_takeFigure (q) (q1) z) fun z2 => lt (upI z2 (q) 2 (z2.1 (q1) 2)) fun z3 => bd (cpI z3 (q1 + 5) 9 (0 : Int32) (q + 5) 9 (0 : Int32) (9 : Int32)) fun z4 => some z4
set_option maxRecDepth 100000 in
set_option maxHeartbeats 4000000 in
theorem w_X1_takeAll {q : Nat} {q1 : Nat} {Z : Sto} (F : Fx rC p s m args cd cX1_takeAll 2 RX1 G) (hr : meth.sig.returnType = none) (hlk : meth.locks = false) (hq : FrC q) (hq1 : FrC q1)  {z : Sto} {H : Heap} {locs : List Loc} {ls : Array Slot} (hf : f_X1_takeAll q q1  z = some Z) (hh : Hh rC G z s H locs) (hl : lv_has ls 2 [(0, .ref (G.1 (q))), (1, .ref (G.1 (q1)))]) : W p l e rmX1_takeAll s m args below meth cd H locs 0 0 (MQ below (QV rC G Z) args s 0 0 (Am rC G)) (F0 m 0 ls []) := by
  have hx := F.1
  have hb := F.2.1
  unfold f_X1_takeAll at hf
  refine lv_aload_n hx hb dX1_takeAll_0 rfl (lv_at hl 0 rfl) ?_
  refine lv_aload_n hx hb dX1_takeAll_1 rfl (lv_at hl 1 rfl) ?_
  obtain ⟨z2, ht1, hf⟩ := ob hf
  refine m_X1_31 F hh (c_X1_takeFigure hq hq1 ht1) (fri0 hq) (frs0 hq) rfl hl (Nat.le_of_ble_eq_true rfl) dX1_takeAll_2 (fun H locs hh => ?_)
  refine lv_aload_n hx hb dX1_takeAll_5 rfl (lv_at hl 0 rfl) ?_
  refine lv_aload_n hx hb dX1_takeAll_6 rfl (lv_at hl 1 rfl) ?_
  refine r_X1_9 F hh (fri0 hq1) (frs0 hq1) dX1_takeAll_7 ?_
  refine s_X1_9 F hh (fri0 hq) (frs0 hq) dX1_takeAll_10 (fun z3 ez3 H locs hh => ?_)
  replace hf := lt_e ez3 hf
  refine lv_aload_n hx hb dX1_takeAll_13 rfl (lv_at hl 1 rfl) ?_
  refine r_X1_28 (b' := (q1 + 5)) F hh (fri0 hq1) (frs0 hq1) rfl dX1_takeAll_14 ?_
  refine lv_iconst (v := 0) hx hb dX1_takeAll_17 (by decide) ?_
  refine lv_aload_n hx hb dX1_takeAll_18 rfl (lv_at hl 0 rfl) ?_
  refine r_X1_28 (b' := (q + 5)) F hh (fri0 hq) (frs0 hq) rfl dX1_takeAll_19 ?_
  refine lv_iconst (v := 0) hx hb dX1_takeAll_22 (by decide) ?_
  refine lv_bipush (v := 9) hx hb dX1_takeAll_23 (by decide) ?_
  obtain ⟨z4, hz4, hf⟩ := ob hf
  refine g_cpI F hh (fri5 hq1) (frs5 hq1) (fri5 hq) (frs5 hq) hz4 hl lk386 (Nat.le_of_ble_eq_true rfl) (Nat.le_of_ble_eq_true rfl) dX1_takeAll_25 (fun H locs hh => ?_)
  exact g_vret F hr hlk hh (Option.some.inj hf) dX1_takeAll_28
theorem c_X1_takeAll {l : Launch} {G : Gm} {q : Nat} {q1 : Nat}  {z : Sto} {Z : Sto} (hq : FrC q) (hq1 : FrC q1) (hf : f_X1_takeAll q q1  z = some Z) : Met l yX1_takeAll (Cond.code yX1_takeAll cX1_takeAll 2 none :: TT) rmX1_takeAll (va_Pc [.ref (G.1 (q)), .ref (G.1 (q1))] (GS rC G z)) (QV rC G Z) 0 0 (Am rC G) := by
  refine g_met [(0, .ref (G.1 (q))), (1, .ref (G.1 (q1)))] (by decide) (Nat.le_of_ble_eq_true rfl) rfl ?_
  intro p e s m below meth cd F hr hlk ls H locs hl hh
  exact w_X1_takeAll F hr hlk hq hq1 hf hh hl
def f_X1_hasJoint (q : Nat) (x1 : Int32) (z : Sto) : Option (Int32) := if x1 < 0 then (some (0 : Int32)) else (if (z.1 (q) 0) ≤ x1 then (some (0 : Int32)) else (some (1 : Int32)))
set_option maxRecDepth 100000 in
set_option maxHeartbeats 4000000 in
theorem w_X1_hasJoint {q : Nat} {Z : Int32} (F : Fx rC p s m args cd cX1_hasJoint 2 RX1 G) (hr : meth.sig.returnType = (some .boolean)) (hlk : meth.locks = false) (hq : FrC q) {x1 : Int32} {z : Sto} {H : Heap} {locs : List Loc} {ls : Array Slot} (hf : f_X1_hasJoint q x1 z = some Z) (hh : Hh rC G z s H locs) (hl : lv_has ls 2 [(0, .ref (G.1 (q))), (1, .int x1)]) : W p l e rmX1_hasJoint s m args below meth cd H locs 0 0 (MQ below (QI rC G Z z) args s 0 0 (Am rC G)) (F0 m 0 ls []) := by
  have hx := F.1
  have hb := F.2.1
  unfold f_X1_hasJoint at hf
  refine lv_iload_n hx hb dX1_hasJoint_0 rfl (lv_at hl 1 rfl) ?_
  refine lv_if_lt (tgt := 16) hx hb dX1_hasJoint_1 (by decide) (fun c1 => ?_) (fun c1 => ?_)
  · replace hf := itp c1 hf
    refine lv_iconst (v := 0) hx hb dX1_hasJoint_16 (by decide) ?_
    exact g_zret F hr hlk rfl hh (Option.some.inj hf) rfl dX1_hasJoint_17
  · replace hf := itn c1 hf
    refine lv_iload_n hx hb dX1_hasJoint_4 rfl (lv_at hl 1 rfl) ?_
    refine lv_aload_n hx hb dX1_hasJoint_5 rfl (lv_at hl 0 rfl) ?_
    refine r_X1_41 F hh (fri0 hq) (frs0 hq) dX1_hasJoint_6 ?_
    refine lv_icmp_ge (tgt := 16) hx hb dX1_hasJoint_9 (by decide) (fun c2 => ?_) (fun c2 => ?_)
    · replace hf := itp c2 hf
      refine lv_iconst (v := 0) hx hb dX1_hasJoint_16 (by decide) ?_
      exact g_zret F hr hlk rfl hh (Option.some.inj hf) rfl dX1_hasJoint_17
    · replace hf := itn c2 hf
      refine lv_iconst (v := 1) hx hb dX1_hasJoint_12 (by decide) ?_
      refine lv_goto (tgt := 17) hx hb dX1_hasJoint_13 (by decide) ?_
      exact g_zret F hr hlk rfl hh (Option.some.inj hf) rfl dX1_hasJoint_17
theorem c_X1_hasJoint {l : Launch} {G : Gm} {q : Nat} {x1 : Int32} {z : Sto} {Z : Int32} (hq : FrC q) (hf : f_X1_hasJoint q x1 z = some Z) : Met l yX1_hasJoint (Cond.code yX1_hasJoint cX1_hasJoint 2 (some .boolean) :: TT) rmX1_hasJoint (va_Pc [.ref (G.1 (q)), .int x1] (GS rC G z)) (QI rC G Z z) 0 0 (Am rC G) := by
  refine g_met [(0, .ref (G.1 (q))), (1, .int x1)] (by decide) (Nat.le_of_ble_eq_true rfl) rfl ?_
  intro p e s m below meth cd F hr hlk ls H locs hl hh
  exact w_X1_hasJoint F hr hlk hq hf hh hl
def f_X1_hasBar (q : Nat) (x1 : Int32) (z : Sto) : Option (Int32) := if x1 < 0 then (some (0 : Int32)) else (if (z.1 (q) 1) ≤ x1 then (some (0 : Int32)) else (some (1 : Int32)))
set_option maxRecDepth 100000 in
set_option maxHeartbeats 4000000 in
theorem w_X1_hasBar {q : Nat} {Z : Int32} (F : Fx rC p s m args cd cX1_hasBar 2 RX1 G) (hr : meth.sig.returnType = (some .boolean)) (hlk : meth.locks = false) (hq : FrC q) {x1 : Int32} {z : Sto} {H : Heap} {locs : List Loc} {ls : Array Slot} (hf : f_X1_hasBar q x1 z = some Z) (hh : Hh rC G z s H locs) (hl : lv_has ls 2 [(0, .ref (G.1 (q))), (1, .int x1)]) : W p l e rmX1_hasBar s m args below meth cd H locs 0 0 (MQ below (QI rC G Z z) args s 0 0 (Am rC G)) (F0 m 0 ls []) := by
  have hx := F.1
  have hb := F.2.1
  unfold f_X1_hasBar at hf
  refine lv_iload_n hx hb dX1_hasBar_0 rfl (lv_at hl 1 rfl) ?_
  refine lv_if_lt (tgt := 16) hx hb dX1_hasBar_1 (by decide) (fun c1 => ?_) (fun c1 => ?_)
  · replace hf := itp c1 hf
    refine lv_iconst (v := 0) hx hb dX1_hasBar_16 (by decide) ?_
    exact g_zret F hr hlk rfl hh (Option.some.inj hf) rfl dX1_hasBar_17
  · replace hf := itn c1 hf
    refine lv_iload_n hx hb dX1_hasBar_4 rfl (lv_at hl 1 rfl) ?_
    refine lv_aload_n hx hb dX1_hasBar_5 rfl (lv_at hl 0 rfl) ?_
    refine r_X1_44 F hh (fri0 hq) (frs0 hq) dX1_hasBar_6 ?_
    refine lv_icmp_ge (tgt := 16) hx hb dX1_hasBar_9 (by decide) (fun c2 => ?_) (fun c2 => ?_)
    · replace hf := itp c2 hf
      refine lv_iconst (v := 0) hx hb dX1_hasBar_16 (by decide) ?_
      exact g_zret F hr hlk rfl hh (Option.some.inj hf) rfl dX1_hasBar_17
    · replace hf := itn c2 hf
      refine lv_iconst (v := 1) hx hb dX1_hasBar_12 (by decide) ?_
      refine lv_goto (tgt := 17) hx hb dX1_hasBar_13 (by decide) ?_
      exact g_zret F hr hlk rfl hh (Option.some.inj hf) rfl dX1_hasBar_17
theorem c_X1_hasBar {l : Launch} {G : Gm} {q : Nat} {x1 : Int32} {z : Sto} {Z : Int32} (hq : FrC q) (hf : f_X1_hasBar q x1 z = some Z) : Met l yX1_hasBar (Cond.code yX1_hasBar cX1_hasBar 2 (some .boolean) :: TT) rmX1_hasBar (va_Pc [.ref (G.1 (q)), .int x1] (GS rC G z)) (QI rC G Z z) 0 0 (Am rC G) := by
  refine g_met [(0, .ref (G.1 (q))), (1, .int x1)] (by decide) (Nat.le_of_ble_eq_true rfl) rfl ?_
  intro p e s m below meth cd F hr hlk ls H locs hl hh
  exact w_X1_hasBar F hr hlk hq hf hh hl
def f_X1_hasHalf (q : Nat) (x1 : Int32) (z : Sto) : Option (Int32) := if x1 < 0 then (some (0 : Int32)) else (if ((2 : Int32) * (z.1 (q) 1)) ≤ x1 then (some (0 : Int32)) else (some (1 : Int32)))
set_option maxRecDepth 100000 in
set_option maxHeartbeats 4000000 in
theorem w_X1_hasHalf {q : Nat} {Z : Int32} (F : Fx rC p s m args cd cX1_hasHalf 2 RX1 G) (hr : meth.sig.returnType = (some .boolean)) (hlk : meth.locks = false) (hq : FrC q) {x1 : Int32} {z : Sto} {H : Heap} {locs : List Loc} {ls : Array Slot} (hf : f_X1_hasHalf q x1 z = some Z) (hh : Hh rC G z s H locs) (hl : lv_has ls 2 [(0, .ref (G.1 (q))), (1, .int x1)]) : W p l e rmX1_hasHalf s m args below meth cd H locs 0 0 (MQ below (QI rC G Z z) args s 0 0 (Am rC G)) (F0 m 0 ls []) := by
  have hx := F.1
  have hb := F.2.1
  unfold f_X1_hasHalf at hf
  refine lv_iload_n hx hb dX1_hasHalf_0 rfl (lv_at hl 1 rfl) ?_
  refine lv_if_lt (tgt := 18) hx hb dX1_hasHalf_1 (by decide) (fun c1 => ?_) (fun c1 => ?_)
  · replace hf := itp c1 hf
    refine lv_iconst (v := 0) hx hb dX1_hasHalf_18 (by decide) ?_
    exact g_zret F hr hlk rfl hh (Option.some.inj hf) rfl dX1_hasHalf_19
  · replace hf := itn c1 hf
    refine lv_iload_n hx hb dX1_hasHalf_4 rfl (lv_at hl 1 rfl) ?_
    refine lv_iconst (v := 2) hx hb dX1_hasHalf_5 (by decide) ?_
    refine lv_aload_n hx hb dX1_hasHalf_6 rfl (lv_at hl 0 rfl) ?_
    refine r_X1_44 F hh (fri0 hq) (frs0 hq) dX1_hasHalf_7 ?_
    refine lv_imul hx hb dX1_hasHalf_10 ?_
    refine lv_icmp_ge (tgt := 18) hx hb dX1_hasHalf_11 (by decide) (fun c2 => ?_) (fun c2 => ?_)
    · replace hf := itp c2 hf
      refine lv_iconst (v := 0) hx hb dX1_hasHalf_18 (by decide) ?_
      exact g_zret F hr hlk rfl hh (Option.some.inj hf) rfl dX1_hasHalf_19
    · replace hf := itn c2 hf
      refine lv_iconst (v := 1) hx hb dX1_hasHalf_14 (by decide) ?_
      refine lv_goto (tgt := 19) hx hb dX1_hasHalf_15 (by decide) ?_
      exact g_zret F hr hlk rfl hh (Option.some.inj hf) rfl dX1_hasHalf_19
theorem c_X1_hasHalf {l : Launch} {G : Gm} {q : Nat} {x1 : Int32} {z : Sto} {Z : Int32} (hq : FrC q) (hf : f_X1_hasHalf q x1 z = some Z) : Met l yX1_hasHalf (Cond.code yX1_hasHalf cX1_hasHalf 2 (some .boolean) :: TT) rmX1_hasHalf (va_Pc [.ref (G.1 (q)), .int x1] (GS rC G z)) (QI rC G Z z) 0 0 (Am rC G) := by
  refine g_met [(0, .ref (G.1 (q))), (1, .int x1)] (by decide) (Nat.le_of_ble_eq_true rfl) rfl ?_
  intro p e s m below meth cd F hr hlk ls H locs hl hh
  exact w_X1_hasHalf F hr hlk hq hf hh hl
def b_X1_neighbours_4 (q : Nat) (z : Sto)  (ag4 : Int32 → Int32 → Int32 → Option (Int32)) (x1 : Int32) (x2 : Int32) (x3 : Int32) : Option (Int32) := if ((2 : Int32) * (z.1 (q) 1)) ≤ x3 then (some x2) else (bd (f_X1_startOf (q) x3 z) fun t2 => if t2 = x1 then (bd (f_X1_endOf (q) x3 z) fun t5 => lt ((x2 ||| ((1 : Int32) <<< (t5 &&& 31)))) fun x2_6 => lt (x3 + (1 : Int32)) fun x3_7 => ag4 x1 x2_6 x3_7) else (lt (x3 + (1 : Int32)) fun x3_4 => ag4 x1 x2 x3_4))
def f_X1_neighbours (q : Nat) (x1 : Int32) (z : Sto) : Option (Int32) := wl3 (b_X1_neighbours_4 q z) fu x1 (0 : Int32) (0 : Int32)
set_option maxRecDepth 100000 in
set_option maxHeartbeats 4000000 in
theorem w_X1_neighbours_4 {q : Nat} {z : Sto}  {Z : Int32} (F : Fx rC p s m args cd cX1_neighbours 4 RX1 G) (hr : meth.sig.returnType = (some .int)) (hlk : meth.locks = false) (hq : FrC q)  : ∀ (n : Nat), ∀ (x1 : Int32) (x2 : Int32) (x3 : Int32), wl3 (b_X1_neighbours_4 q z) n x1 x2 x3 = some Z → ∀ {H : Heap} {locs : List Loc} {ls : Array Slot}, Hh rC G z s H locs → lv_has ls 4 [(0, .ref (G.1 (q))), (1, .int x1), (2, .int x2), (3, .int x3)] → W p l e rmX1_neighbours s m args below meth cd H locs 0 0 (MQ below (QI rC G Z z) args s 0 0 (Am rC G)) (F0 m 4 ls []) := by
  have hx := F.1
  have hb := F.2.1
  intro n
  induction n with
  | zero =>
    intro x1 x2 x3 hf
    exact absurd hf (by intro h; cases h)
  | succ n ih =>
    intro x1 x2 x3 hf  H locs ls hh hl
    replace hf : b_X1_neighbours_4 q z (wl3 (b_X1_neighbours_4 q z) n) x1 x2 x3 = some Z := hf
    unfold b_X1_neighbours_4 at hf
    refine lv_iload_n hx hb dX1_neighbours_4 rfl (lv_at hl 3 rfl) ?_
    refine lv_iconst (v := 2) hx hb dX1_neighbours_5 (by decide) ?_
    refine lv_aload_n hx hb dX1_neighbours_6 rfl (lv_at hl 0 rfl) ?_
    refine r_X1_44 F hh (fri0 hq) (frs0 hq) dX1_neighbours_7 ?_
    refine lv_imul hx hb dX1_neighbours_10 ?_
    refine lv_icmp_ge (tgt := 39) hx hb dX1_neighbours_11 (by decide) (fun c1 => ?_) (fun c1 => ?_)
    · replace hf := itp c1 hf
      refine lv_iload_n hx hb dX1_neighbours_39 rfl (lv_at hl 2 rfl) ?_
      exact g_iret F hr hlk hh (Option.some.inj hf) rfl dX1_neighbours_40
    · replace hf := itn c1 hf
      refine lv_aload_n hx hb dX1_neighbours_14 rfl (lv_at hl 0 rfl) ?_
      refine lv_iload_n hx hb dX1_neighbours_15 rfl (lv_at hl 3 rfl) ?_
      obtain ⟨t2, ht2, hf⟩ := ob hf
      refine m_X1_51 F hh (c_X1_startOf hq ht2) (fri0 hq) (frs0 hq) rfl hl (Nat.le_of_ble_eq_true rfl) dX1_neighbours_16 (fun H locs hh => ?_)
      refine lv_iload_n hx hb dX1_neighbours_19 rfl (lv_at hl 1 rfl) ?_
      refine lv_icmp_ne (tgt := 33) hx hb dX1_neighbours_20 (by decide) (fun c3 => ?_) (fun c3 => ?_)
      · replace hf := itn c3 hf
        obtain ⟨x3_4, ex3_4⟩ : ∃ y : Int32, y = x3 + (1 : Int32) := ⟨_, rfl⟩
        replace hf := lt_e ex3_4 hf
        refine lv_iinc (v := x3_4) (lv' := [(3, .int x3_4), (0, .ref (G.1 (q))), (1, .int x1), (2, .int x2)]) hx hb dX1_neighbours_33 hl (k := 3) rfl (by rw [ex3_4]; rfl) (by decide) rfl (fun ls hl => ?_)
        refine lv_goto (tgt := 4) hx hb dX1_neighbours_36 (by decide) ?_
        exact ih _ _ _ hf  hh (lv_sub hl [1, 2, 3, 0] rfl)
      · replace hf := itp c3 hf
        refine lv_iload_n hx hb dX1_neighbours_23 rfl (lv_at hl 2 rfl) ?_
        refine lv_iconst (v := 1) hx hb dX1_neighbours_24 (by decide) ?_
        refine lv_aload_n hx hb dX1_neighbours_25 rfl (lv_at hl 0 rfl) ?_
        refine lv_iload_n hx hb dX1_neighbours_26 rfl (lv_at hl 3 rfl) ?_
        obtain ⟨t5, ht5, hf⟩ := ob hf
        refine m_X1_47 F hh (c_X1_endOf hq ht5) (fri0 hq) (frs0 hq) rfl hl (Nat.le_of_ble_eq_true rfl) dX1_neighbours_27 (fun H locs hh => ?_)
        refine lv_ishl hx hb dX1_neighbours_30 ?_
        refine lv_ior hx hb dX1_neighbours_31 ?_
        refine lv_topi (fun x2_6 ex2_6 => ?_)
        replace hf := lt_e ex2_6 hf
        refine lv_istore_n (lv' := [(2, .int x2_6), (0, .ref (G.1 (q))), (1, .int x1), (3, .int x3)]) hx hb dX1_neighbours_32 rfl hl (by decide) rfl (fun ls hl => ?_)
        obtain ⟨x3_7, ex3_7⟩ : ∃ y : Int32, y = x3 + (1 : Int32) := ⟨_, rfl⟩
        replace hf := lt_e ex3_7 hf
        refine lv_iinc (v := x3_7) (lv' := [(3, .int x3_7), (2, .int x2_6), (0, .ref (G.1 (q))), (1, .int x1)]) hx hb dX1_neighbours_33 hl (k := 3) rfl (by rw [ex3_7]; rfl) (by decide) rfl (fun ls hl => ?_)
        refine lv_goto (tgt := 4) hx hb dX1_neighbours_36 (by decide) ?_
        exact ih _ _ _ hf  hh (lv_sub hl [2, 3, 1, 0] rfl)
set_option maxRecDepth 100000 in
set_option maxHeartbeats 4000000 in
theorem w_X1_neighbours {q : Nat} {Z : Int32} (F : Fx rC p s m args cd cX1_neighbours 4 RX1 G) (hr : meth.sig.returnType = (some .int)) (hlk : meth.locks = false) (hq : FrC q) {x1 : Int32} {z : Sto} {H : Heap} {locs : List Loc} {ls : Array Slot} (hf : f_X1_neighbours q x1 z = some Z) (hh : Hh rC G z s H locs) (hl : lv_has ls 4 [(0, .ref (G.1 (q))), (1, .int x1)]) : W p l e rmX1_neighbours s m args below meth cd H locs 0 0 (MQ below (QI rC G Z z) args s 0 0 (Am rC G)) (F0 m 0 ls []) := by
  have hx := F.1
  have hb := F.2.1
  unfold f_X1_neighbours at hf
  refine lv_iconst (v := 0) hx hb dX1_neighbours_0 (by decide) ?_
  refine lv_istore_n (lv' := [(2, .int (0 : Int32)), (0, .ref (G.1 (q))), (1, .int x1)]) hx hb dX1_neighbours_1 rfl hl (by decide) rfl (fun ls hl => ?_)
  refine lv_iconst (v := 0) hx hb dX1_neighbours_2 (by decide) ?_
  refine lv_istore_n (lv' := [(3, .int (0 : Int32)), (2, .int (0 : Int32)), (0, .ref (G.1 (q))), (1, .int x1)]) hx hb dX1_neighbours_3 rfl hl (by decide) rfl (fun ls hl => ?_)
  exact w_X1_neighbours_4 F hr hlk hq fu _ _ _ hf  hh (lv_sub hl [2, 3, 1, 0] rfl)
theorem c_X1_neighbours {l : Launch} {G : Gm} {q : Nat} {x1 : Int32} {z : Sto} {Z : Int32} (hq : FrC q) (hf : f_X1_neighbours q x1 z = some Z) : Met l yX1_neighbours (Cond.code yX1_neighbours cX1_neighbours 4 (some .int) :: TT) rmX1_neighbours (va_Pc [.ref (G.1 (q)), .int x1] (GS rC G z)) (QI rC G Z z) 0 0 (Am rC G) := by
  refine g_met [(0, .ref (G.1 (q))), (1, .int x1)] (by decide) (Nat.le_of_ble_eq_true rfl) rfl ?_
  intro p e s m below meth cd F hr hlk ls H locs hl hh
  exact w_X1_neighbours F hr hlk hq hf hh hl
def b_X1_sumOfWeights_4 (q : Nat) (z : Sto)  (ag4 : Int32 → Int32 → Option (Int32)) (x1 : Int32) (x2 : Int32) : Option (Int32) := if (9 : Int32) ≤ x2 then (some x1) else (bd (rdI z (q + 5) 9 x2) fun t2 => lt ((x1 + t2)) fun x1_3 => lt (x2 + (1 : Int32)) fun x2_4 => ag4 x1_3 x2_4)
def f_X1_sumOfWeights (q : Nat)  (z : Sto) : Option (Int32) := wl2 (b_X1_sumOfWeights_4 q z) fu (0 : Int32) (0 : Int32)
set_option maxRecDepth 100000 in
set_option maxHeartbeats 4000000 in
theorem w_X1_sumOfWeights_4 {q : Nat} {z : Sto}  {Z : Int32} (F : Fx rC p s m args cd cX1_sumOfWeights 3 RX1 G) (hr : meth.sig.returnType = (some .int)) (hlk : meth.locks = false) (hq : FrC q)  : ∀ (n : Nat), ∀ (x1 : Int32) (x2 : Int32), wl2 (b_X1_sumOfWeights_4 q z) n x1 x2 = some Z → ∀ {H : Heap} {locs : List Loc} {ls : Array Slot}, Hh rC G z s H locs → lv_has ls 3 [(0, .ref (G.1 (q))), (1, .int x1), (2, .int x2)] → W p l e rmX1_sumOfWeights s m args below meth cd H locs 0 0 (MQ below (QI rC G Z z) args s 0 0 (Am rC G)) (F0 m 4 ls []) := by
  have hx := F.1
  have hb := F.2.1
  intro n
  induction n with
  | zero =>
    intro x1 x2 hf
    exact absurd hf (by intro h; cases h)
  | succ n ih =>
    intro x1 x2 hf  H locs ls hh hl
    replace hf : b_X1_sumOfWeights_4 q z (wl2 (b_X1_sumOfWeights_4 q z) n) x1 x2 = some Z := hf
    unfold b_X1_sumOfWeights_4 at hf
    refine lv_iload_n hx hb dX1_sumOfWeights_4 rfl (lv_at hl 2 rfl) ?_
    refine lv_bipush (v := 9) hx hb dX1_sumOfWeights_5 (by decide) ?_
    refine lv_icmp_ge (tgt := 25) hx hb dX1_sumOfWeights_7 (by decide) (fun c1 => ?_) (fun c1 => ?_)
    · replace hf := itp c1 hf
      refine lv_iload_n hx hb dX1_sumOfWeights_25 rfl (lv_at hl 1 rfl) ?_
      exact g_iret F hr hlk hh (Option.some.inj hf) rfl dX1_sumOfWeights_26
    · replace hf := itn c1 hf
      refine lv_iload_n hx hb dX1_sumOfWeights_10 rfl (lv_at hl 1 rfl) ?_
      refine lv_aload_n hx hb dX1_sumOfWeights_11 rfl (lv_at hl 0 rfl) ?_
      refine r_X1_28 (b' := (q + 5)) F hh (fri0 hq) (frs0 hq) rfl dX1_sumOfWeights_12 ?_
      refine lv_iload_n hx hb dX1_sumOfWeights_15 rfl (lv_at hl 2 rfl) ?_
      obtain ⟨t2, ht2, hf⟩ := ob hf
      refine g_iald F hh (fri5 hq) (frs5 hq) ht2 dX1_sumOfWeights_16 ?_
      refine lv_iadd hx hb dX1_sumOfWeights_17 ?_
      refine lv_topi (fun x1_3 ex1_3 => ?_)
      replace hf := lt_e ex1_3 hf
      refine lv_istore_n (lv' := [(1, .int x1_3), (0, .ref (G.1 (q))), (2, .int x2)]) hx hb dX1_sumOfWeights_18 rfl hl (by decide) rfl (fun ls hl => ?_)
      obtain ⟨x2_4, ex2_4⟩ : ∃ y : Int32, y = x2 + (1 : Int32) := ⟨_, rfl⟩
      replace hf := lt_e ex2_4 hf
      refine lv_iinc (v := x2_4) (lv' := [(2, .int x2_4), (1, .int x1_3), (0, .ref (G.1 (q)))]) hx hb dX1_sumOfWeights_19 hl (k := 2) rfl (by rw [ex2_4]; rfl) (by decide) rfl (fun ls hl => ?_)
      refine lv_goto (tgt := 4) hx hb dX1_sumOfWeights_22 (by decide) ?_
      exact ih _ _ hf  hh (lv_sub hl [2, 1, 0] rfl)
set_option maxRecDepth 100000 in
set_option maxHeartbeats 4000000 in
theorem w_X1_sumOfWeights {q : Nat} {Z : Int32} (F : Fx rC p s m args cd cX1_sumOfWeights 3 RX1 G) (hr : meth.sig.returnType = (some .int)) (hlk : meth.locks = false) (hq : FrC q)  {z : Sto} {H : Heap} {locs : List Loc} {ls : Array Slot} (hf : f_X1_sumOfWeights q  z = some Z) (hh : Hh rC G z s H locs) (hl : lv_has ls 3 [(0, .ref (G.1 (q)))]) : W p l e rmX1_sumOfWeights s m args below meth cd H locs 0 0 (MQ below (QI rC G Z z) args s 0 0 (Am rC G)) (F0 m 0 ls []) := by
  have hx := F.1
  have hb := F.2.1
  unfold f_X1_sumOfWeights at hf
  refine lv_iconst (v := 0) hx hb dX1_sumOfWeights_0 (by decide) ?_
  refine lv_istore_n (lv' := [(1, .int (0 : Int32)), (0, .ref (G.1 (q)))]) hx hb dX1_sumOfWeights_1 rfl hl (by decide) rfl (fun ls hl => ?_)
  refine lv_iconst (v := 0) hx hb dX1_sumOfWeights_2 (by decide) ?_
  refine lv_istore_n (lv' := [(2, .int (0 : Int32)), (1, .int (0 : Int32)), (0, .ref (G.1 (q)))]) hx hb dX1_sumOfWeights_3 rfl hl (by decide) rfl (fun ls hl => ?_)
  exact w_X1_sumOfWeights_4 F hr hlk hq fu _ _ hf  hh (lv_sub hl [2, 1, 0] rfl)
theorem c_X1_sumOfWeights {l : Launch} {G : Gm} {q : Nat}  {z : Sto} {Z : Int32} (hq : FrC q) (hf : f_X1_sumOfWeights q  z = some Z) : Met l yX1_sumOfWeights (Cond.code yX1_sumOfWeights cX1_sumOfWeights 3 (some .int) :: TT) rmX1_sumOfWeights (va_Pc [.ref (G.1 (q))] (GS rC G z)) (QI rC G Z z) 0 0 (Am rC G) := by
  refine g_met [(0, .ref (G.1 (q)))] (by decide) (Nat.le_of_ble_eq_true rfl) rfl ?_
  intro p e s m below meth cd F hr hlk ls H locs hl hh
  exact w_X1_sumOfWeights F hr hlk hq hf hh hl
def f_X1_isPlace (x0 : Int32) (z : Sto) : Option (Int32) := if x0 < 0 then (some (0 : Int32)) else (if (5 : Int32) < x0 then (some (0 : Int32)) else (some (1 : Int32)))
set_option maxRecDepth 100000 in
set_option maxHeartbeats 4000000 in
theorem w_X1_isPlace {Z : Int32} (F : Fx rC p s m args cd cX1_isPlace 1 RX1 G) (hr : meth.sig.returnType = (some .boolean)) (hlk : meth.locks = false) {x0 : Int32} {z : Sto} {H : Heap} {locs : List Loc} {ls : Array Slot} (hf : f_X1_isPlace x0 z = some Z) (hh : Hh rC G z s H locs) (hl : lv_has ls 1 [(0, .int x0)]) : W p l e rmX1_isPlace s m args below meth cd H locs 0 0 (MQ below (QI rC G Z z) args s 0 0 (Am rC G)) (F0 m 0 ls []) := by
  have hx := F.1
  have hb := F.2.1
  unfold f_X1_isPlace at hf
  refine lv_iload_n hx hb dX1_isPlace_0 rfl (lv_at hl 0 rfl) ?_
  refine lv_if_lt (tgt := 13) hx hb dX1_isPlace_1 (by decide) (fun c1 => ?_) (fun c1 => ?_)
  · replace hf := itp c1 hf
    refine lv_iconst (v := 0) hx hb dX1_isPlace_13 (by decide) ?_
    exact g_zret F hr hlk rfl hh (Option.some.inj hf) rfl dX1_isPlace_14
  · replace hf := itn c1 hf
    refine lv_iload_n hx hb dX1_isPlace_4 rfl (lv_at hl 0 rfl) ?_
    refine lv_iconst (v := 5) hx hb dX1_isPlace_5 (by decide) ?_
    refine lv_icmp_gt (tgt := 13) hx hb dX1_isPlace_6 (by decide) (fun c2 => ?_) (fun c2 => ?_)
    · replace hf := itp c2 hf
      refine lv_iconst (v := 0) hx hb dX1_isPlace_13 (by decide) ?_
      exact g_zret F hr hlk rfl hh (Option.some.inj hf) rfl dX1_isPlace_14
    · replace hf := itn c2 hf
      refine lv_iconst (v := 1) hx hb dX1_isPlace_9 (by decide) ?_
      refine lv_goto (tgt := 14) hx hb dX1_isPlace_10 (by decide) ?_
      exact g_zret F hr hlk rfl hh (Option.some.inj hf) rfl dX1_isPlace_14
theorem c_X1_isPlace {l : Launch} {G : Gm} {x0 : Int32} {z : Sto} {Z : Int32} (hf : f_X1_isPlace x0 z = some Z) : Met l yX1_isPlace (Cond.code yX1_isPlace cX1_isPlace 1 (some .boolean) :: TT) rmX1_isPlace (va_Pc [.int x0] (GS rC G z)) (QI rC G Z z) 0 0 (Am rC G) := by
  refine g_met [(0, .int x0)] (by decide) (Nat.le_of_ble_eq_true rfl) rfl ?_
  intro p e s m below meth cd F hr hlk ls H locs hl hh
  exact w_X1_isPlace F hr hlk hf hh hl
def b_X1_isTaken_2 (q : Nat) (z : Sto)  (ag2 : Int32 → Int32 → Int32 → Option (Int32)) (x1 : Int32) (x2 : Int32) (x3 : Int32) : Option (Int32) := if (z.1 (q) 0) ≤ x3 then (some (0 : Int32)) else (bd (rdI z (q + 1) 6 x3) fun t2 => if t2 = x1 then (bd (rdI z (q + 2) 6 x3) fun t5 => if t5 = x2 then (some (1 : Int32)) else (lt (x3 + (1 : Int32)) fun x3_7 => ag2 x1 x2 x3_7)) else (lt (x3 + (1 : Int32)) fun x3_4 => ag2 x1 x2 x3_4))
def f_X1_isTaken (q : Nat) (x1 : Int32) (x2 : Int32) (z : Sto) : Option (Int32) := wl3 (b_X1_isTaken_2 q z) fu x1 x2 (0 : Int32)
set_option maxRecDepth 100000 in
set_option maxHeartbeats 4000000 in
theorem w_X1_isTaken_2 {q : Nat} {z : Sto}  {Z : Int32} (F : Fx rC p s m args cd cX1_isTaken 4 RX1 G) (hr : meth.sig.returnType = (some .boolean)) (hlk : meth.locks = false) (hq : FrC q)  : ∀ (n : Nat), ∀ (x1 : Int32) (x2 : Int32) (x3 : Int32), wl3 (b_X1_isTaken_2 q z) n x1 x2 x3 = some Z → ∀ {H : Heap} {locs : List Loc} {ls : Array Slot}, Hh rC G z s H locs → lv_has ls 4 [(0, .ref (G.1 (q))), (1, .int x1), (2, .int x2), (3, .int x3)] → W p l e rmX1_isTaken s m args below meth cd H locs 0 0 (MQ below (QI rC G Z z) args s 0 0 (Am rC G)) (F0 m 2 ls []) := by
  have hx := F.1
  have hb := F.2.1
  intro n
  induction n with
  | zero =>
    intro x1 x2 x3 hf
    exact absurd hf (by intro h; cases h)
  | succ n ih =>
    intro x1 x2 x3 hf  H locs ls hh hl
    replace hf : b_X1_isTaken_2 q z (wl3 (b_X1_isTaken_2 q z) n) x1 x2 x3 = some Z := hf
    unfold b_X1_isTaken_2 at hf
    refine lv_iload_n hx hb dX1_isTaken_2 rfl (lv_at hl 3 rfl) ?_
    refine lv_aload_n hx hb dX1_isTaken_3 rfl (lv_at hl 0 rfl) ?_
    refine r_X1_41 F hh (fri0 hq) (frs0 hq) dX1_isTaken_4 ?_
    refine lv_icmp_ge (tgt := 38) hx hb dX1_isTaken_7 (by decide) (fun c1 => ?_) (fun c1 => ?_)
    · replace hf := itp c1 hf
      refine lv_iconst (v := 0) hx hb dX1_isTaken_38 (by decide) ?_
      exact g_zret F hr hlk rfl hh (Option.some.inj hf) rfl dX1_isTaken_39
    · replace hf := itn c1 hf
      refine lv_aload_n hx hb dX1_isTaken_10 rfl (lv_at hl 0 rfl) ?_
      refine r_X1_15 (b' := (q + 1)) F hh (fri0 hq) (frs0 hq) rfl dX1_isTaken_11 ?_
      refine lv_iload_n hx hb dX1_isTaken_14 rfl (lv_at hl 3 rfl) ?_
      obtain ⟨t2, ht2, hf⟩ := ob hf
      refine g_iald F hh (fri1 hq) (frs1 hq) ht2 dX1_isTaken_15 ?_
      refine lv_iload_n hx hb dX1_isTaken_16 rfl (lv_at hl 1 rfl) ?_
      refine lv_icmp_ne (tgt := 32) hx hb dX1_isTaken_17 (by decide) (fun c3 => ?_) (fun c3 => ?_)
      · replace hf := itn c3 hf
        obtain ⟨x3_4, ex3_4⟩ : ∃ y : Int32, y = x3 + (1 : Int32) := ⟨_, rfl⟩
        replace hf := lt_e ex3_4 hf
        refine lv_iinc (v := x3_4) (lv' := [(3, .int x3_4), (0, .ref (G.1 (q))), (1, .int x1), (2, .int x2)]) hx hb dX1_isTaken_32 hl (k := 3) rfl (by rw [ex3_4]; rfl) (by decide) rfl (fun ls hl => ?_)
        refine lv_goto (tgt := 2) hx hb dX1_isTaken_35 (by decide) ?_
        exact ih _ _ _ hf  hh (lv_sub hl [1, 2, 3, 0] rfl)
      · replace hf := itp c3 hf
        refine lv_aload_n hx hb dX1_isTaken_20 rfl (lv_at hl 0 rfl) ?_
        refine r_X1_19 (b' := (q + 2)) F hh (fri0 hq) (frs0 hq) rfl dX1_isTaken_21 ?_
        refine lv_iload_n hx hb dX1_isTaken_24 rfl (lv_at hl 3 rfl) ?_
        obtain ⟨t5, ht5, hf⟩ := ob hf
        refine g_iald F hh (fri2 hq) (frs2 hq) ht5 dX1_isTaken_25 ?_
        refine lv_iload_n hx hb dX1_isTaken_26 rfl (lv_at hl 2 rfl) ?_
        refine lv_icmp_ne (tgt := 32) hx hb dX1_isTaken_27 (by decide) (fun c6 => ?_) (fun c6 => ?_)
        · replace hf := itn c6 hf
          obtain ⟨x3_7, ex3_7⟩ : ∃ y : Int32, y = x3 + (1 : Int32) := ⟨_, rfl⟩
          replace hf := lt_e ex3_7 hf
          refine lv_iinc (v := x3_7) (lv' := [(3, .int x3_7), (0, .ref (G.1 (q))), (1, .int x1), (2, .int x2)]) hx hb dX1_isTaken_32 hl (k := 3) rfl (by rw [ex3_7]; rfl) (by decide) rfl (fun ls hl => ?_)
          refine lv_goto (tgt := 2) hx hb dX1_isTaken_35 (by decide) ?_
          exact ih _ _ _ hf  hh (lv_sub hl [1, 2, 3, 0] rfl)
        · replace hf := itp c6 hf
          refine lv_iconst (v := 1) hx hb dX1_isTaken_30 (by decide) ?_
          exact g_zret F hr hlk rfl hh (Option.some.inj hf) rfl dX1_isTaken_31
set_option maxRecDepth 100000 in
set_option maxHeartbeats 4000000 in
theorem w_X1_isTaken {q : Nat} {Z : Int32} (F : Fx rC p s m args cd cX1_isTaken 4 RX1 G) (hr : meth.sig.returnType = (some .boolean)) (hlk : meth.locks = false) (hq : FrC q) {x1 : Int32} {x2 : Int32} {z : Sto} {H : Heap} {locs : List Loc} {ls : Array Slot} (hf : f_X1_isTaken q x1 x2 z = some Z) (hh : Hh rC G z s H locs) (hl : lv_has ls 4 [(0, .ref (G.1 (q))), (1, .int x1), (2, .int x2)]) : W p l e rmX1_isTaken s m args below meth cd H locs 0 0 (MQ below (QI rC G Z z) args s 0 0 (Am rC G)) (F0 m 0 ls []) := by
  have hx := F.1
  have hb := F.2.1
  unfold f_X1_isTaken at hf
  refine lv_iconst (v := 0) hx hb dX1_isTaken_0 (by decide) ?_
  refine lv_istore_n (lv' := [(3, .int (0 : Int32)), (0, .ref (G.1 (q))), (1, .int x1), (2, .int x2)]) hx hb dX1_isTaken_1 rfl hl (by decide) rfl (fun ls hl => ?_)
  exact w_X1_isTaken_2 F hr hlk hq fu _ _ _ hf  hh (lv_sub hl [1, 2, 3, 0] rfl)
theorem c_X1_isTaken {l : Launch} {G : Gm} {q : Nat} {x1 : Int32} {x2 : Int32} {z : Sto} {Z : Int32} (hq : FrC q) (hf : f_X1_isTaken q x1 x2 z = some Z) : Met l yX1_isTaken (Cond.code yX1_isTaken cX1_isTaken 4 (some .boolean) :: TT) rmX1_isTaken (va_Pc [.ref (G.1 (q)), .int x1, .int x2] (GS rC G z)) (QI rC G Z z) 0 0 (Am rC G) := by
  refine g_met [(0, .ref (G.1 (q))), (1, .int x1), (2, .int x2)] (by decide) (Nat.le_of_ble_eq_true rfl) rfl ?_
  intro p e s m below meth cd F hr hlk ls H locs hl hh
  exact w_X1_isTaken F hr hlk hq hf hh hl
def f_X1_isBetween (q : Nat) (x1 : Int32) (x2 : Int32) (x3 : Int32) (x4 : Int32) (z : Sto) : Option (Int32) := bd (rdI z (q + 1) 6 x1) fun t1 => lt ((t1 - x3)) fun x5_2 => bd (rdI z (q + 2) 6 x1) fun t3 => lt ((t3 - x4)) fun x6_4 => bd (rdI z (q + 1) 6 x2) fun t5 => lt ((t5 - x3)) fun x7_6 => bd (rdI z (q + 2) 6 x2) fun t7 => lt ((t7 - x4)) fun x8_8 => if ((x5_2 * x8_8) - (x6_4 * x7_6)) = 0 then (if 0 ≤ ((x5_2 * x7_6) + (x6_4 * x8_8)) then (some (0 : Int32)) else (some (1 : Int32))) else (some (0 : Int32))
set_option maxRecDepth 100000 in
set_option maxHeartbeats 4000000 in
theorem w_X1_isBetween {q : Nat} {Z : Int32} (F : Fx rC p s m args cd cX1_isBetween 9 RX1 G) (hr : meth.sig.returnType = (some .boolean)) (hlk : meth.locks = false) (hq : FrC q) {x1 : Int32} {x2 : Int32} {x3 : Int32} {x4 : Int32} {z : Sto} {H : Heap} {locs : List Loc} {ls : Array Slot} (hf : f_X1_isBetween q x1 x2 x3 x4 z = some Z) (hh : Hh rC G z s H locs) (hl : lv_has ls 9 [(0, .ref (G.1 (q))), (1, .int x1), (2, .int x2), (3, .int x3), (4, .int x4)]) : W p l e rmX1_isBetween s m args below meth cd H locs 0 0 (MQ below (QI rC G Z z) args s 0 0 (Am rC G)) (F0 m 0 ls []) := by
  have hx := F.1
  have hb := F.2.1
  unfold f_X1_isBetween at hf
  refine lv_aload_n hx hb dX1_isBetween_0 rfl (lv_at hl 0 rfl) ?_
  refine r_X1_15 (b' := (q + 1)) F hh (fri0 hq) (frs0 hq) rfl dX1_isBetween_1 ?_
  refine lv_iload_n hx hb dX1_isBetween_4 rfl (lv_at hl 1 rfl) ?_
  obtain ⟨t1, ht1, hf⟩ := ob hf
  refine g_iald F hh (fri1 hq) (frs1 hq) ht1 dX1_isBetween_5 ?_
  refine lv_iload_n hx hb dX1_isBetween_6 rfl (lv_at hl 3 rfl) ?_
  refine lv_isub hx hb dX1_isBetween_7 ?_
  refine lv_topi (fun x5_2 ex5_2 => ?_)
  replace hf := lt_e ex5_2 hf
  refine lv_istore (lv' := [(5, .int x5_2), (0, .ref (G.1 (q))), (1, .int x1), (2, .int x2), (3, .int x3), (4, .int x4)]) hx hb dX1_isBetween_8 hl (by decide) rfl (fun ls hl => ?_)
  refine lv_aload_n hx hb dX1_isBetween_10 rfl (lv_at hl 1 rfl) ?_
  refine r_X1_19 (b' := (q + 2)) F hh (fri0 hq) (frs0 hq) rfl dX1_isBetween_11 ?_
  refine lv_iload_n hx hb dX1_isBetween_14 rfl (lv_at hl 2 rfl) ?_
  obtain ⟨t3, ht3, hf⟩ := ob hf
  refine g_iald F hh (fri2 hq) (frs2 hq) ht3 dX1_isBetween_15 ?_
  refine lv_iload hx hb dX1_isBetween_16 (lv_at hl 5 rfl) ?_
  refine lv_isub hx hb dX1_isBetween_18 ?_
  refine lv_topi (fun x6_4 ex6_4 => ?_)
  replace hf := lt_e ex6_4 hf
  refine lv_istore (lv' := [(6, .int x6_4), (5, .int x5_2), (0, .ref (G.1 (q))), (1, .int x1), (2, .int x2), (3, .int x3), (4, .int x4)]) hx hb dX1_isBetween_19 hl (by decide) rfl (fun ls hl => ?_)
  refine lv_aload_n hx hb dX1_isBetween_21 rfl (lv_at hl 2 rfl) ?_
  refine r_X1_15 (b' := (q + 1)) F hh (fri0 hq) (frs0 hq) rfl dX1_isBetween_22 ?_
  refine lv_iload_n hx hb dX1_isBetween_25 rfl (lv_at hl 4 rfl) ?_
  obtain ⟨t5, ht5, hf⟩ := ob hf
  refine g_iald F hh (fri1 hq) (frs1 hq) ht5 dX1_isBetween_26 ?_
  refine lv_iload_n hx hb dX1_isBetween_27 rfl (lv_at hl 5 rfl) ?_
  refine lv_isub hx hb dX1_isBetween_28 ?_
  refine lv_topi (fun x7_6 ex7_6 => ?_)
  replace hf := lt_e ex7_6 hf
  refine lv_istore (lv' := [(7, .int x7_6), (6, .int x6_4), (5, .int x5_2), (0, .ref (G.1 (q))), (1, .int x1), (2, .int x2), (3, .int x3), (4, .int x4)]) hx hb dX1_isBetween_29 hl (by decide) rfl (fun ls hl => ?_)
  refine lv_aload_n hx hb dX1_isBetween_31 rfl (lv_at hl 3 rfl) ?_
  refine r_X1_19 (b' := (q + 2)) F hh (fri0 hq) (frs0 hq) rfl dX1_isBetween_32 ?_
  refine lv_iload_n hx hb dX1_isBetween_35 rfl (lv_at hl 5 rfl) ?_
  obtain ⟨t7, ht7, hf⟩ := ob hf
  refine g_iald F hh (fri2 hq) (frs2 hq) ht7 dX1_isBetween_36 ?_
  refine lv_iload hx hb dX1_isBetween_37 (lv_at hl 7 rfl) ?_
  refine lv_isub hx hb dX1_isBetween_39 ?_
  refine lv_topi (fun x8_8 ex8_8 => ?_)
  replace hf := lt_e ex8_8 hf
  refine lv_istore (lv' := [(8, .int x8_8), (7, .int x7_6), (6, .int x6_4), (5, .int x5_2), (0, .ref (G.1 (q))), (1, .int x1), (2, .int x2), (3, .int x3), (4, .int x4)]) hx hb dX1_isBetween_40 hl (by decide) rfl (fun ls hl => ?_)
  refine lv_iload hx hb dX1_isBetween_42 (lv_at hl 3 rfl) ?_
  refine lv_iload hx hb dX1_isBetween_44 (lv_at hl 0 rfl) ?_
  refine lv_imul hx hb dX1_isBetween_46 ?_
  refine lv_iload hx hb dX1_isBetween_47 (lv_at hl 2 rfl) ?_
  refine lv_iload hx hb dX1_isBetween_49 (lv_at hl 1 rfl) ?_
  refine lv_imul hx hb dX1_isBetween_51 ?_
  refine lv_isub hx hb dX1_isBetween_52 ?_
  refine lv_if_ne (tgt := 74) hx hb dX1_isBetween_53 (by decide) (fun c9 => ?_) (fun c9 => ?_)
  · replace hf := itn c9 hf
    refine lv_iconst (v := 0) hx hb dX1_isBetween_74 (by decide) ?_
    exact g_zret F hr hlk rfl hh (Option.some.inj hf) rfl dX1_isBetween_75
  · replace hf := itp c9 hf
    refine lv_iload hx hb dX1_isBetween_56 (lv_at hl 3 rfl) ?_
    refine lv_iload hx hb dX1_isBetween_58 (lv_at hl 1 rfl) ?_
    refine lv_imul hx hb dX1_isBetween_60 ?_
    refine lv_iload hx hb dX1_isBetween_61 (lv_at hl 2 rfl) ?_
    refine lv_iload hx hb dX1_isBetween_63 (lv_at hl 0 rfl) ?_
    refine lv_imul hx hb dX1_isBetween_65 ?_
    refine lv_iadd hx hb dX1_isBetween_66 ?_
    refine lv_if_ge (tgt := 74) hx hb dX1_isBetween_67 (by decide) (fun c10 => ?_) (fun c10 => ?_)
    · replace hf := itp c10 hf
      refine lv_iconst (v := 0) hx hb dX1_isBetween_74 (by decide) ?_
      exact g_zret F hr hlk rfl hh (Option.some.inj hf) rfl dX1_isBetween_75
    · replace hf := itn c10 hf
      refine lv_iconst (v := 1) hx hb dX1_isBetween_70 (by decide) ?_
      refine lv_goto (tgt := 75) hx hb dX1_isBetween_71 (by decide) ?_
      exact g_zret F hr hlk rfl hh (Option.some.inj hf) rfl dX1_isBetween_75
theorem c_X1_isBetween {l : Launch} {G : Gm} {q : Nat} {x1 : Int32} {x2 : Int32} {x3 : Int32} {x4 : Int32} {z : Sto} {Z : Int32} (hq : FrC q) (hf : f_X1_isBetween q x1 x2 x3 x4 z = some Z) : Met l yX1_isBetween (Cond.code yX1_isBetween cX1_isBetween 9 (some .boolean) :: TT) rmX1_isBetween (va_Pc [.ref (G.1 (q)), .int x1, .int x2, .int x3, .int x4] (GS rC G z)) (QI rC G Z z) 0 0 (Am rC G) := by
  refine g_met [(0, .ref (G.1 (q))), (1, .int x1), (2, .int x2), (3, .int x3), (4, .int x4)] (by decide) (Nat.le_of_ble_eq_true rfl) rfl ?_
  intro p e s m below meth cd F hr hlk ls H locs hl hh
  exact w_X1_isBetween F hr hlk hq hf hh hl
def b_X1_isUnderBar_2 (q : Nat) (z : Sto)  (ag2 : Int32 → Int32 → Int32 → Option (Int32)) (x1 : Int32) (x2 : Int32) (x3 : Int32) : Option (Int32) := if (z.1 (q) 1) ≤ x3 then (some (0 : Int32)) else (bd (rdI z (q + 3) 9 x3) fun t2 => bd (rdI z (q + 4) 9 x3) fun t3 => bd (f_X1_isBetween (q) t2 t3 x1 x2 z) fun t4 => if t4 = 0 then (lt (x3 + (1 : Int32)) fun x3_6 => ag2 x1 x2 x3_6) else (some (1 : Int32)))
def f_X1_isUnderBar (q : Nat) (x1 : Int32) (x2 : Int32) (z : Sto) : Option (Int32) := wl3 (b_X1_isUnderBar_2 q z) fu x1 x2 (0 : Int32)
set_option maxRecDepth 100000 in
set_option maxHeartbeats 4000000 in
theorem w_X1_isUnderBar_2 {q : Nat} {z : Sto}  {Z : Int32} (F : Fx rC p s m args cd cX1_isUnderBar 4 RX1 G) (hr : meth.sig.returnType = (some .boolean)) (hlk : meth.locks = false) (hq : FrC q)  : ∀ (n : Nat), ∀ (x1 : Int32) (x2 : Int32) (x3 : Int32), wl3 (b_X1_isUnderBar_2 q z) n x1 x2 x3 = some Z → ∀ {H : Heap} {locs : List Loc} {ls : Array Slot}, Hh rC G z s H locs → lv_has ls 4 [(0, .ref (G.1 (q))), (1, .int x1), (2, .int x2), (3, .int x3)] → W p l e rmX1_isUnderBar s m args below meth cd H locs 0 0 (MQ below (QI rC G Z z) args s 0 0 (Am rC G)) (F0 m 2 ls []) := by
  have hx := F.1
  have hb := F.2.1
  intro n
  induction n with
  | zero =>
    intro x1 x2 x3 hf
    exact absurd hf (by intro h; cases h)
  | succ n ih =>
    intro x1 x2 x3 hf  H locs ls hh hl
    replace hf : b_X1_isUnderBar_2 q z (wl3 (b_X1_isUnderBar_2 q z) n) x1 x2 x3 = some Z := hf
    unfold b_X1_isUnderBar_2 at hf
    refine lv_iload_n hx hb dX1_isUnderBar_2 rfl (lv_at hl 3 rfl) ?_
    refine lv_aload_n hx hb dX1_isUnderBar_3 rfl (lv_at hl 0 rfl) ?_
    refine r_X1_44 F hh (fri0 hq) (frs0 hq) dX1_isUnderBar_4 ?_
    refine lv_icmp_ge (tgt := 39) hx hb dX1_isUnderBar_7 (by decide) (fun c1 => ?_) (fun c1 => ?_)
    · replace hf := itp c1 hf
      refine lv_iconst (v := 0) hx hb dX1_isUnderBar_39 (by decide) ?_
      exact g_zret F hr hlk rfl hh (Option.some.inj hf) rfl dX1_isUnderBar_40
    · replace hf := itn c1 hf
      refine lv_aload_n hx hb dX1_isUnderBar_10 rfl (lv_at hl 0 rfl) ?_
      refine lv_aload_n hx hb dX1_isUnderBar_11 rfl (lv_at hl 0 rfl) ?_
      refine r_X1_22 (b' := (q + 3)) F hh (fri0 hq) (frs0 hq) rfl dX1_isUnderBar_12 ?_
      refine lv_iload_n hx hb dX1_isUnderBar_15 rfl (lv_at hl 3 rfl) ?_
      obtain ⟨t2, ht2, hf⟩ := ob hf
      refine g_iald F hh (fri3 hq) (frs3 hq) ht2 dX1_isUnderBar_16 ?_
      refine lv_aload_n hx hb dX1_isUnderBar_17 rfl (lv_at hl 0 rfl) ?_
      refine r_X1_25 (b' := (q + 4)) F hh (fri0 hq) (frs0 hq) rfl dX1_isUnderBar_18 ?_
      refine lv_iload_n hx hb dX1_isUnderBar_21 rfl (lv_at hl 3 rfl) ?_
      obtain ⟨t3, ht3, hf⟩ := ob hf
      refine g_iald F hh (fri4 hq) (frs4 hq) ht3 dX1_isUnderBar_22 ?_
      refine lv_iload_n hx hb dX1_isUnderBar_23 rfl (lv_at hl 1 rfl) ?_
      refine lv_iload_n hx hb dX1_isUnderBar_24 rfl (lv_at hl 2 rfl) ?_
      obtain ⟨t4, ht4, hf⟩ := ob hf
      refine m_X1_95 F hh (c_X1_isBetween hq ht4) (fri0 hq) (frs0 hq) rfl hl (Nat.le_of_ble_eq_true rfl) dX1_isUnderBar_25 (fun H locs hh => ?_)
      refine lv_if_eq (tgt := 33) hx hb dX1_isUnderBar_28 (by decide) (fun c5 => ?_) (fun c5 => ?_)
      · replace hf := itp c5 hf
        obtain ⟨x3_6, ex3_6⟩ : ∃ y : Int32, y = x3 + (1 : Int32) := ⟨_, rfl⟩
        replace hf := lt_e ex3_6 hf
        refine lv_iinc (v := x3_6) (lv' := [(3, .int x3_6), (0, .ref (G.1 (q))), (1, .int x1), (2, .int x2)]) hx hb dX1_isUnderBar_33 hl (k := 3) rfl (by rw [ex3_6]; rfl) (by decide) rfl (fun ls hl => ?_)
        refine lv_goto (tgt := 2) hx hb dX1_isUnderBar_36 (by decide) ?_
        exact ih _ _ _ hf  hh (lv_sub hl [1, 2, 3, 0] rfl)
      · replace hf := itn c5 hf
        refine lv_iconst (v := 1) hx hb dX1_isUnderBar_31 (by decide) ?_
        exact g_zret F hr hlk rfl hh (Option.some.inj hf) rfl dX1_isUnderBar_32
set_option maxRecDepth 100000 in
set_option maxHeartbeats 4000000 in
theorem w_X1_isUnderBar {q : Nat} {Z : Int32} (F : Fx rC p s m args cd cX1_isUnderBar 4 RX1 G) (hr : meth.sig.returnType = (some .boolean)) (hlk : meth.locks = false) (hq : FrC q) {x1 : Int32} {x2 : Int32} {z : Sto} {H : Heap} {locs : List Loc} {ls : Array Slot} (hf : f_X1_isUnderBar q x1 x2 z = some Z) (hh : Hh rC G z s H locs) (hl : lv_has ls 4 [(0, .ref (G.1 (q))), (1, .int x1), (2, .int x2)]) : W p l e rmX1_isUnderBar s m args below meth cd H locs 0 0 (MQ below (QI rC G Z z) args s 0 0 (Am rC G)) (F0 m 0 ls []) := by
  have hx := F.1
  have hb := F.2.1
  unfold f_X1_isUnderBar at hf
  refine lv_iconst (v := 0) hx hb dX1_isUnderBar_0 (by decide) ?_
  refine lv_istore_n (lv' := [(3, .int (0 : Int32)), (0, .ref (G.1 (q))), (1, .int x1), (2, .int x2)]) hx hb dX1_isUnderBar_1 rfl hl (by decide) rfl (fun ls hl => ?_)
  exact w_X1_isUnderBar_2 F hr hlk hq fu _ _ _ hf  hh (lv_sub hl [1, 2, 3, 0] rfl)
theorem c_X1_isUnderBar {l : Launch} {G : Gm} {q : Nat} {x1 : Int32} {x2 : Int32} {z : Sto} {Z : Int32} (hq : FrC q) (hf : f_X1_isUnderBar q x1 x2 z = some Z) : Met l yX1_isUnderBar (Cond.code yX1_isUnderBar cX1_isUnderBar 4 (some .boolean) :: TT) rmX1_isUnderBar (va_Pc [.ref (G.1 (q)), .int x1, .int x2] (GS rC G z)) (QI rC G Z z) 0 0 (Am rC G) := by
  refine g_met [(0, .ref (G.1 (q))), (1, .int x1), (2, .int x2)] (by decide) (Nat.le_of_ble_eq_true rfl) rfl ?_
  intro p e s m below meth cd F hr hlk ls H locs hl hh
  exact w_X1_isUnderBar F hr hlk hq hf hh hl
def f_X1_refuseJoint (q : Nat) (x1 : Int32) (x2 : Int32) (z : Sto) : Option (Int32) := bd (f_X1_isPlace x1 z) fun t1 => if t1 = 0 then (some (-1 : Int32)) else (bd (f_X1_isPlace x2 z) fun t3 => if t3 = 0 then (some (-1 : Int32)) else (bd (f_X1_isTaken (q) x1 x2 z) fun t5 => if t5 = 0 then (bd (f_X1_isUnderBar (q) x1 x2 z) fun t7 => if t7 = 0 then (if (6 : Int32) ≤ (z.1 (q) 0) then (some (-3 : Int32)) else (some (0 : Int32))) else (some (-2 : Int32))) else (some (-2 : Int32))))
set_option maxRecDepth 100000 in
set_option maxHeartbeats 4000000 in
theorem w_X1_refuseJoint {q : Nat} {Z : Int32} (F : Fx rC p s m args cd cX1_refuseJoint 3 RX1 G) (hr : meth.sig.returnType = (some .int)) (hlk : meth.locks = false) (hq : FrC q) {x1 : Int32} {x2 : Int32} {z : Sto} {H : Heap} {locs : List Loc} {ls : Array Slot} (hf : f_X1_refuseJoint q x1 x2 z = some Z) (hh : Hh rC G z s H locs) (hl : lv_has ls 3 [(0, .ref (G.1 (q))), (1, .int x1), (2, .int x2)]) : W p l e rmX1_refuseJoint s m args below meth cd H locs 0 0 (MQ below (QI rC G Z z) args s 0 0 (Am rC G)) (F0 m 0 ls []) := by
  have hx := F.1
  have hb := F.2.1
  unfold f_X1_refuseJoint at hf
  refine lv_iload_n hx hb dX1_refuseJoint_0 rfl (lv_at hl 1 rfl) ?_
  obtain ⟨t1, ht1, hf⟩ := ob hf
  refine m_X1_54 F hh (c_X1_isPlace ht1) rfl hl (Nat.le_of_ble_eq_true rfl) dX1_refuseJoint_1 (fun H locs hh => ?_)
  refine lv_if_eq (tgt := 14) hx hb dX1_refuseJoint_4 (by decide) (fun c2 => ?_) (fun c2 => ?_)
  · replace hf := itp c2 hf
    refine lv_iconst (v := -1) hx hb dX1_refuseJoint_14 (by decide) ?_
    exact g_iret F hr hlk hh (Option.some.inj hf) rfl dX1_refuseJoint_15
  · replace hf := itn c2 hf
    refine lv_iload_n hx hb dX1_refuseJoint_7 rfl (lv_at hl 2 rfl) ?_
    obtain ⟨t3, ht3, hf⟩ := ob hf
    refine m_X1_54 F hh (c_X1_isPlace ht3) rfl hl (Nat.le_of_ble_eq_true rfl) dX1_refuseJoint_8 (fun H locs hh => ?_)
    refine lv_if_ne (tgt := 16) hx hb dX1_refuseJoint_11 (by decide) (fun c4 => ?_) (fun c4 => ?_)
    · replace hf := itn c4 hf
      refine lv_aload_n hx hb dX1_refuseJoint_16 rfl (lv_at hl 0 rfl) ?_
      refine lv_iload_n hx hb dX1_refuseJoint_17 rfl (lv_at hl 1 rfl) ?_
      refine lv_iload_n hx hb dX1_refuseJoint_18 rfl (lv_at hl 2 rfl) ?_
      obtain ⟨t5, ht5, hf⟩ := ob hf
      refine m_X1_58 F hh (c_X1_isTaken hq ht5) (fri0 hq) (frs0 hq) rfl hl (Nat.le_of_ble_eq_true rfl) dX1_refuseJoint_19 (fun H locs hh => ?_)
      refine lv_if_ne (tgt := 34) hx hb dX1_refuseJoint_22 (by decide) (fun c6 => ?_) (fun c6 => ?_)
      · replace hf := itn c6 hf
        refine lv_bipush (v := -2) hx hb dX1_refuseJoint_34 (by decide) ?_
        exact g_iret F hr hlk hh (Option.some.inj hf) rfl dX1_refuseJoint_36
      · replace hf := itp c6 hf
        refine lv_aload_n hx hb dX1_refuseJoint_25 rfl (lv_at hl 0 rfl) ?_
        refine lv_iload_n hx hb dX1_refuseJoint_26 rfl (lv_at hl 1 rfl) ?_
        refine lv_iload_n hx hb dX1_refuseJoint_27 rfl (lv_at hl 2 rfl) ?_
        obtain ⟨t7, ht7, hf⟩ := ob hf
        refine m_X1_62 F hh (c_X1_isUnderBar hq ht7) (fri0 hq) (frs0 hq) rfl hl (Nat.le_of_ble_eq_true rfl) dX1_refuseJoint_28 (fun H locs hh => ?_)
        refine lv_if_eq (tgt := 37) hx hb dX1_refuseJoint_31 (by decide) (fun c8 => ?_) (fun c8 => ?_)
        · replace hf := itp c8 hf
          refine lv_aload_n hx hb dX1_refuseJoint_37 rfl (lv_at hl 0 rfl) ?_
          refine r_X1_41 F hh (fri0 hq) (frs0 hq) dX1_refuseJoint_38 ?_
          refine lv_bipush (v := 6) hx hb dX1_refuseJoint_41 (by decide) ?_
          refine lv_icmp_ge (tgt := 50) hx hb dX1_refuseJoint_43 (by decide) (fun c9 => ?_) (fun c9 => ?_)
          · replace hf := itp c9 hf
            refine lv_bipush (v := -3) hx hb dX1_refuseJoint_50 (by decide) ?_
            exact g_iret F hr hlk hh (Option.some.inj hf) rfl dX1_refuseJoint_52
          · replace hf := itn c9 hf
            refine lv_iconst (v := 0) hx hb dX1_refuseJoint_46 (by decide) ?_
            refine lv_goto (tgt := 52) hx hb dX1_refuseJoint_47 (by decide) ?_
            exact g_iret F hr hlk hh (Option.some.inj hf) rfl dX1_refuseJoint_52
        · replace hf := itn c8 hf
          refine lv_bipush (v := -2) hx hb dX1_refuseJoint_34 (by decide) ?_
          exact g_iret F hr hlk hh (Option.some.inj hf) rfl dX1_refuseJoint_36
    · replace hf := itp c4 hf
      refine lv_iconst (v := -1) hx hb dX1_refuseJoint_14 (by decide) ?_
      exact g_iret F hr hlk hh (Option.some.inj hf) rfl dX1_refuseJoint_15
theorem c_X1_refuseJoint {l : Launch} {G : Gm} {q : Nat} {x1 : Int32} {x2 : Int32} {z : Sto} {Z : Int32} (hq : FrC q) (hf : f_X1_refuseJoint q x1 x2 z = some Z) : Met l yX1_refuseJoint (Cond.code yX1_refuseJoint cX1_refuseJoint 3 (some .int) :: TT) rmX1_refuseJoint (va_Pc [.ref (G.1 (q)), .int x1, .int x2] (GS rC G z)) (QI rC G Z z) 0 0 (Am rC G) := by
  refine g_met [(0, .ref (G.1 (q))), (1, .int x1), (2, .int x2)] (by decide) (Nat.le_of_ble_eq_true rfl) rfl ?_
  intro p e s m below meth cd F hr hlk ls H locs hl hh
  exact w_X1_refuseJoint F hr hlk hq hf hh hl
def f_X1_putAt (q : Nat) (x1 : Int32) (x2 : Int32) (x3 : Int32) (z : Sto) : Option (Sto) := bd (wrI z (q + 1) 6 x1 x2) fun z1 => bd (wrI z1 (q + 2) 6 x1 x3) fun z2 => some z2
set_option maxRecDepth 100000 in
set_option maxHeartbeats 4000000 in
theorem w_X1_putAt {q : Nat} {Z : Sto} (F : Fx rC p s m args cd cX1_putAt 4 RX1 G) (hr : meth.sig.returnType = none) (hlk : meth.locks = false) (hq : FrC q) {x1 : Int32} {x2 : Int32} {x3 : Int32} {z : Sto} {H : Heap} {locs : List Loc} {ls : Array Slot} (hf : f_X1_putAt q x1 x2 x3 z = some Z) (hh : Hh rC G z s H locs) (hl : lv_has ls 4 [(0, .ref (G.1 (q))), (1, .int x1), (2, .int x2), (3, .int x3)]) : W p l e rmX1_putAt s m args below meth cd H locs 0 0 (MQ below (QV rC G Z) args s 0 0 (Am rC G)) (F0 m 0 ls []) := by
  have hx := F.1
  have hb := F.2.1
  unfold f_X1_putAt at hf
  refine lv_aload_n hx hb dX1_putAt_0 rfl (lv_at hl 0 rfl) ?_
  refine r_X1_15 (b' := (q + 1)) F hh (fri0 hq) (frs0 hq) rfl dX1_putAt_1 ?_
  refine lv_iload_n hx hb dX1_putAt_4 rfl (lv_at hl 1 rfl) ?_
  refine lv_iload_n hx hb dX1_putAt_5 rfl (lv_at hl 2 rfl) ?_
  obtain ⟨z1, hz1, hf⟩ := ob hf
  refine g_iast F hh (fri1 hq) (frs1 hq) hz1 dX1_putAt_6 (fun H locs hh => ?_)
  refine lv_aload_n hx hb dX1_putAt_7 rfl (lv_at hl 0 rfl) ?_
  refine r_X1_19 (b' := (q + 2)) F hh (fri0 hq) (frs0 hq) rfl dX1_putAt_8 ?_
  refine lv_iload_n hx hb dX1_putAt_11 rfl (lv_at hl 1 rfl) ?_
  refine lv_iload_n hx hb dX1_putAt_12 rfl (lv_at hl 3 rfl) ?_
  obtain ⟨z2, hz2, hf⟩ := ob hf
  refine g_iast F hh (fri2 hq) (frs2 hq) hz2 dX1_putAt_13 (fun H locs hh => ?_)
  exact g_vret F hr hlk hh (Option.some.inj hf) dX1_putAt_14
theorem c_X1_putAt {l : Launch} {G : Gm} {q : Nat} {x1 : Int32} {x2 : Int32} {x3 : Int32} {z : Sto} {Z : Sto} (hq : FrC q) (hf : f_X1_putAt q x1 x2 x3 z = some Z) : Met l yX1_putAt (Cond.code yX1_putAt cX1_putAt 4 none :: TT) rmX1_putAt (va_Pc [.ref (G.1 (q)), .int x1, .int x2, .int x3] (GS rC G z)) (QV rC G Z) 0 0 (Am rC G) := by
  refine g_met [(0, .ref (G.1 (q))), (1, .int x1), (2, .int x2), (3, .int x3)] (by decide) (Nat.le_of_ble_eq_true rfl) rfl ?_
  intro p e s m below meth cd F hr hlk ls H locs hl hh
  exact w_X1_putAt F hr hlk hq hf hh hl
def f_X1_side (q : Nat) (x1 : Int32) (x2 : Int32) (x3 : Int32) (z : Sto) : Option (Int32) := bd (rdI z (q + 1) 6 x2) fun t1 => bd (rdI z (q + 1) 6 x1) fun t2 => bd (rdI z (q + 2) 6 x3) fun t3 => bd (rdI z (q + 2) 6 x1) fun t4 => bd (rdI z (q + 2) 6 x2) fun t5 => bd (rdI z (q + 2) 6 x1) fun t6 => bd (rdI z (q + 1) 6 x3) fun t7 => bd (rdI z (q + 1) 6 x1) fun t8 => some (((t1 - t2) * (t3 - t4)) - ((t5 - t6) * (t7 - t8)))
set_option maxRecDepth 100000 in
set_option maxHeartbeats 4000000 in
theorem w_X1_side {q : Nat} {Z : Int32} (F : Fx rC p s m args cd cX1_side 4 RX1 G) (hr : meth.sig.returnType = (some .int)) (hlk : meth.locks = false) (hq : FrC q) {x1 : Int32} {x2 : Int32} {x3 : Int32} {z : Sto} {H : Heap} {locs : List Loc} {ls : Array Slot} (hf : f_X1_side q x1 x2 x3 z = some Z) (hh : Hh rC G z s H locs) (hl : lv_has ls 4 [(0, .ref (G.1 (q))), (1, .int x1), (2, .int x2), (3, .int x3)]) : W p l e rmX1_side s m args below meth cd H locs 0 0 (MQ below (QI rC G Z z) args s 0 0 (Am rC G)) (F0 m 0 ls []) := by
  have hx := F.1
  have hb := F.2.1
  unfold f_X1_side at hf
  refine lv_aload_n hx hb dX1_side_0 rfl (lv_at hl 0 rfl) ?_
  refine r_X1_15 (b' := (q + 1)) F hh (fri0 hq) (frs0 hq) rfl dX1_side_1 ?_
  refine lv_iload_n hx hb dX1_side_4 rfl (lv_at hl 2 rfl) ?_
  obtain ⟨t1, ht1, hf⟩ := ob hf
  refine g_iald F hh (fri1 hq) (frs1 hq) ht1 dX1_side_5 ?_
  refine lv_aload_n hx hb dX1_side_6 rfl (lv_at hl 0 rfl) ?_
  refine r_X1_15 (b' := (q + 1)) F hh (fri0 hq) (frs0 hq) rfl dX1_side_7 ?_
  refine lv_iload_n hx hb dX1_side_10 rfl (lv_at hl 1 rfl) ?_
  obtain ⟨t2, ht2, hf⟩ := ob hf
  refine g_iald F hh (fri1 hq) (frs1 hq) ht2 dX1_side_11 ?_
  refine lv_isub hx hb dX1_side_12 ?_
  refine lv_aload_n hx hb dX1_side_13 rfl (lv_at hl 0 rfl) ?_
  refine r_X1_19 (b' := (q + 2)) F hh (fri0 hq) (frs0 hq) rfl dX1_side_14 ?_
  refine lv_iload_n hx hb dX1_side_17 rfl (lv_at hl 3 rfl) ?_
  obtain ⟨t3, ht3, hf⟩ := ob hf
  refine g_iald F hh (fri2 hq) (frs2 hq) ht3 dX1_side_18 ?_
  refine lv_aload_n hx hb dX1_side_19 rfl (lv_at hl 0 rfl) ?_
  refine r_X1_19 (b' := (q + 2)) F hh (fri0 hq) (frs0 hq) rfl dX1_side_20 ?_
  refine lv_iload_n hx hb dX1_side_23 rfl (lv_at hl 1 rfl) ?_
  obtain ⟨t4, ht4, hf⟩ := ob hf
  refine g_iald F hh (fri2 hq) (frs2 hq) ht4 dX1_side_24 ?_
  refine lv_isub hx hb dX1_side_25 ?_
  refine lv_imul hx hb dX1_side_26 ?_
  refine lv_aload_n hx hb dX1_side_27 rfl (lv_at hl 0 rfl) ?_
  refine r_X1_19 (b' := (q + 2)) F hh (fri0 hq) (frs0 hq) rfl dX1_side_28 ?_
  refine lv_iload_n hx hb dX1_side_31 rfl (lv_at hl 2 rfl) ?_
  obtain ⟨t5, ht5, hf⟩ := ob hf
  refine g_iald F hh (fri2 hq) (frs2 hq) ht5 dX1_side_32 ?_
  refine lv_aload_n hx hb dX1_side_33 rfl (lv_at hl 0 rfl) ?_
  refine r_X1_19 (b' := (q + 2)) F hh (fri0 hq) (frs0 hq) rfl dX1_side_34 ?_
  refine lv_iload_n hx hb dX1_side_37 rfl (lv_at hl 1 rfl) ?_
  obtain ⟨t6, ht6, hf⟩ := ob hf
  refine g_iald F hh (fri2 hq) (frs2 hq) ht6 dX1_side_38 ?_
  refine lv_isub hx hb dX1_side_39 ?_
  refine lv_aload_n hx hb dX1_side_40 rfl (lv_at hl 0 rfl) ?_
  refine r_X1_15 (b' := (q + 1)) F hh (fri0 hq) (frs0 hq) rfl dX1_side_41 ?_
  refine lv_iload_n hx hb dX1_side_44 rfl (lv_at hl 3 rfl) ?_
  obtain ⟨t7, ht7, hf⟩ := ob hf
  refine g_iald F hh (fri1 hq) (frs1 hq) ht7 dX1_side_45 ?_
  refine lv_aload_n hx hb dX1_side_46 rfl (lv_at hl 0 rfl) ?_
  refine r_X1_15 (b' := (q + 1)) F hh (fri0 hq) (frs0 hq) rfl dX1_side_47 ?_
  refine lv_iload_n hx hb dX1_side_50 rfl (lv_at hl 1 rfl) ?_
  obtain ⟨t8, ht8, hf⟩ := ob hf
  refine g_iald F hh (fri1 hq) (frs1 hq) ht8 dX1_side_51 ?_
  refine lv_isub hx hb dX1_side_52 ?_
  refine lv_imul hx hb dX1_side_53 ?_
  refine lv_isub hx hb dX1_side_54 ?_
  exact g_iret F hr hlk hh (Option.some.inj hf) rfl dX1_side_55
theorem c_X1_side {l : Launch} {G : Gm} {q : Nat} {x1 : Int32} {x2 : Int32} {x3 : Int32} {z : Sto} {Z : Int32} (hq : FrC q) (hf : f_X1_side q x1 x2 x3 z = some Z) : Met l yX1_side (Cond.code yX1_side cX1_side 4 (some .int) :: TT) rmX1_side (va_Pc [.ref (G.1 (q)), .int x1, .int x2, .int x3] (GS rC G z)) (QI rC G Z z) 0 0 (Am rC G) := by
  refine g_met [(0, .ref (G.1 (q))), (1, .int x1), (2, .int x2), (3, .int x3)] (by decide) (Nat.le_of_ble_eq_true rfl) rfl ?_
  intro p e s m below meth cd F hr hlk ls H locs hl hh
  exact w_X1_side F hr hlk hq hf hh hl
def b_X1_isClear_41 (q : Nat) (z : Sto)  (ag41 : Int32 → Int32 → Int32 → Option (Int32)) (x1 : Int32) (x2 : Int32) (x3 : Int32) : Option (Int32) := if (z.1 (q) 1) ≤ x3 then (some (1 : Int32)) else (bd (rdI z (q + 3) 9 x3) fun t8 => bd (rdI z (q + 4) 9 x3) fun t9 => bd (f_X1_side (q) x1 x2 t8 z) fun t10 => bd (f_X1_side (q) x1 x2 t9 z) fun t11 => if 0 ≤ (t10 * t11) then (lt (x3 + (1 : Int32)) fun x3_13 => ag41 x1 x2 x3_13) else (bd (f_X1_side (q) t8 t9 x1 z) fun t14 => bd (f_X1_side (q) t8 t9 x2 z) fun t15 => if 0 ≤ (t14 * t15) then (lt (x3 + (1 : Int32)) fun x3_17 => ag41 x1 x2 x3_17) else (some (0 : Int32))))
def b_X1_isClear_2 (q : Nat) (z : Sto)  (ag2 : Int32 → Int32 → Int32 → Option (Int32)) (x1 : Int32) (x2 : Int32) (x3 : Int32) : Option (Int32) := if (z.1 (q) 0) ≤ x3 then (wl3 (b_X1_isClear_41 q z) fu x1 x2 (0 : Int32)) else (bd (rdI z (q + 1) 6 x3) fun t2 => bd (rdI z (q + 2) 6 x3) fun t3 => bd (f_X1_isBetween (q) x1 x2 t2 t3 z) fun t4 => if t4 = 0 then (lt (x3 + (1 : Int32)) fun x3_6 => ag2 x1 x2 x3_6) else (some (0 : Int32)))
def f_X1_isClear (q : Nat) (x1 : Int32) (x2 : Int32) (z : Sto) : Option (Int32) := wl3 (b_X1_isClear_2 q z) fu x1 x2 (0 : Int32)
set_option maxRecDepth 100000 in
set_option maxHeartbeats 4000000 in
theorem w_X1_isClear_41 {q : Nat} {z : Sto}  {Z : Int32} (F : Fx rC p s m args cd cX1_isClear 6 RX1 G) (hr : meth.sig.returnType = (some .boolean)) (hlk : meth.locks = false) (hq : FrC q)  : ∀ (n : Nat), ∀ (x1 : Int32) (x2 : Int32) (x3 : Int32), wl3 (b_X1_isClear_41 q z) n x1 x2 x3 = some Z → ∀ {H : Heap} {locs : List Loc} {ls : Array Slot}, Hh rC G z s H locs → lv_has ls 6 [(0, .ref (G.1 (q))), (1, .int x1), (2, .int x2), (3, .int x3)] → W p l e rmX1_isClear s m args below meth cd H locs 0 0 (MQ below (QI rC G Z z) args s 0 0 (Am rC G)) (F0 m 41 ls []) := by
  have hx := F.1
  have hb := F.2.1
  intro n
  induction n with
  | zero =>
    intro x1 x2 x3 hf
    exact absurd hf (by intro h; cases h)
  | succ n ih =>
    intro x1 x2 x3 hf  H locs ls hh hl
    replace hf : b_X1_isClear_41 q z (wl3 (b_X1_isClear_41 q z) n) x1 x2 x3 = some Z := hf
    unfold b_X1_isClear_41 at hf
    refine lv_iload_n hx hb dX1_isClear_41 rfl (lv_at hl 3 rfl) ?_
    refine lv_aload_n hx hb dX1_isClear_42 rfl (lv_at hl 0 rfl) ?_
    refine r_X1_44 F hh (fri0 hq) (frs0 hq) dX1_isClear_43 ?_
    refine lv_icmp_ge (tgt := 115) hx hb dX1_isClear_46 (by decide) (fun c7 => ?_) (fun c7 => ?_)
    · replace hf := itp c7 hf
      refine lv_iconst (v := 1) hx hb dX1_isClear_115 (by decide) ?_
      exact g_zret F hr hlk rfl hh (Option.some.inj hf) rfl dX1_isClear_116
    · replace hf := itn c7 hf
      refine lv_aload_n hx hb dX1_isClear_49 rfl (lv_at hl 0 rfl) ?_
      refine r_X1_22 (b' := (q + 3)) F hh (fri0 hq) (frs0 hq) rfl dX1_isClear_50 ?_
      refine lv_iload_n hx hb dX1_isClear_53 rfl (lv_at hl 3 rfl) ?_
      obtain ⟨t8, ht8, hf⟩ := ob hf
      refine g_iald F hh (fri3 hq) (frs3 hq) ht8 dX1_isClear_54 ?_
      refine lv_istore (lv' := [(4, .int t8), (0, .ref (G.1 (q))), (1, .int x1), (2, .int x2), (3, .int x3)]) hx hb dX1_isClear_55 hl (by decide) rfl (fun ls hl => ?_)
      refine lv_aload_n hx hb dX1_isClear_57 rfl (lv_at hl 1 rfl) ?_
      refine r_X1_25 (b' := (q + 4)) F hh (fri0 hq) (frs0 hq) rfl dX1_isClear_58 ?_
      refine lv_iload_n hx hb dX1_isClear_61 rfl (lv_at hl 4 rfl) ?_
      obtain ⟨t9, ht9, hf⟩ := ob hf
      refine g_iald F hh (fri4 hq) (frs4 hq) ht9 dX1_isClear_62 ?_
      refine lv_istore (lv' := [(5, .int t9), (4, .int t8), (0, .ref (G.1 (q))), (1, .int x1), (2, .int x2), (3, .int x3)]) hx hb dX1_isClear_63 hl (by decide) rfl (fun ls hl => ?_)
      refine lv_aload_n hx hb dX1_isClear_65 rfl (lv_at hl 2 rfl) ?_
      refine lv_iload_n hx hb dX1_isClear_66 rfl (lv_at hl 3 rfl) ?_
      refine lv_iload_n hx hb dX1_isClear_67 rfl (lv_at hl 4 rfl) ?_
      refine lv_iload hx hb dX1_isClear_68 (lv_at hl 1 rfl) ?_
      obtain ⟨t10, ht10, hf⟩ := ob hf
      refine m_X1_103 F hh (c_X1_side hq ht10) (fri0 hq) (frs0 hq) rfl hl (Nat.le_of_ble_eq_true rfl) dX1_isClear_70 (fun H locs hh => ?_)
      refine lv_aload_n hx hb dX1_isClear_73 rfl (lv_at hl 2 rfl) ?_
      refine lv_iload_n hx hb dX1_isClear_74 rfl (lv_at hl 3 rfl) ?_
      refine lv_iload_n hx hb dX1_isClear_75 rfl (lv_at hl 4 rfl) ?_
      refine lv_iload hx hb dX1_isClear_76 (lv_at hl 0 rfl) ?_
      obtain ⟨t11, ht11, hf⟩ := ob hf
      refine m_X1_103 F hh (c_X1_side hq ht11) (fri0 hq) (frs0 hq) rfl hl (Nat.le_of_ble_eq_true rfl) dX1_isClear_78 (fun H locs hh => ?_)
      refine lv_imul hx hb dX1_isClear_81 ?_
      refine lv_if_ge (tgt := 109) hx hb dX1_isClear_82 (by decide) (fun c12 => ?_) (fun c12 => ?_)
      · replace hf := itp c12 hf
        obtain ⟨x3_13, ex3_13⟩ : ∃ y : Int32, y = x3 + (1 : Int32) := ⟨_, rfl⟩
        replace hf := lt_e ex3_13 hf
        refine lv_iinc (v := x3_13) (lv' := [(3, .int x3_13), (5, .int t9), (4, .int t8), (0, .ref (G.1 (q))), (1, .int x1), (2, .int x2)]) hx hb dX1_isClear_109 hl (k := 5) rfl (by rw [ex3_13]; rfl) (by decide) rfl (fun ls hl => ?_)
        refine lv_goto (tgt := 41) hx hb dX1_isClear_112 (by decide) ?_
        exact ih _ _ _ hf  hh (lv_sub hl [3, 4, 5, 0] rfl)
      · replace hf := itn c12 hf
        refine lv_aload_n hx hb dX1_isClear_85 rfl (lv_at hl 2 rfl) ?_
        refine lv_iload hx hb dX1_isClear_86 (lv_at hl 1 rfl) ?_
        refine lv_iload hx hb dX1_isClear_88 (lv_at hl 0 rfl) ?_
        refine lv_iload_n hx hb dX1_isClear_90 rfl (lv_at hl 3 rfl) ?_
        obtain ⟨t14, ht14, hf⟩ := ob hf
        refine m_X1_103 F hh (c_X1_side hq ht14) (fri0 hq) (frs0 hq) rfl hl (Nat.le_of_ble_eq_true rfl) dX1_isClear_91 (fun H locs hh => ?_)
        refine lv_aload_n hx hb dX1_isClear_94 rfl (lv_at hl 2 rfl) ?_
        refine lv_iload hx hb dX1_isClear_95 (lv_at hl 1 rfl) ?_
        refine lv_iload hx hb dX1_isClear_97 (lv_at hl 0 rfl) ?_
        refine lv_iload_n hx hb dX1_isClear_99 rfl (lv_at hl 4 rfl) ?_
        obtain ⟨t15, ht15, hf⟩ := ob hf
        refine m_X1_103 F hh (c_X1_side hq ht15) (fri0 hq) (frs0 hq) rfl hl (Nat.le_of_ble_eq_true rfl) dX1_isClear_100 (fun H locs hh => ?_)
        refine lv_imul hx hb dX1_isClear_103 ?_
        refine lv_if_ge (tgt := 109) hx hb dX1_isClear_104 (by decide) (fun c16 => ?_) (fun c16 => ?_)
        · replace hf := itp c16 hf
          obtain ⟨x3_17, ex3_17⟩ : ∃ y : Int32, y = x3 + (1 : Int32) := ⟨_, rfl⟩
          replace hf := lt_e ex3_17 hf
          refine lv_iinc (v := x3_17) (lv' := [(3, .int x3_17), (5, .int t9), (4, .int t8), (0, .ref (G.1 (q))), (1, .int x1), (2, .int x2)]) hx hb dX1_isClear_109 hl (k := 5) rfl (by rw [ex3_17]; rfl) (by decide) rfl (fun ls hl => ?_)
          refine lv_goto (tgt := 41) hx hb dX1_isClear_112 (by decide) ?_
          exact ih _ _ _ hf  hh (lv_sub hl [3, 4, 5, 0] rfl)
        · replace hf := itn c16 hf
          refine lv_iconst (v := 0) hx hb dX1_isClear_107 (by decide) ?_
          exact g_zret F hr hlk rfl hh (Option.some.inj hf) rfl dX1_isClear_108
set_option maxRecDepth 100000 in
set_option maxHeartbeats 4000000 in
theorem w_X1_isClear_2 {q : Nat} {z : Sto}  {Z : Int32} (F : Fx rC p s m args cd cX1_isClear 6 RX1 G) (hr : meth.sig.returnType = (some .boolean)) (hlk : meth.locks = false) (hq : FrC q)  : ∀ (n : Nat), ∀ (x1 : Int32) (x2 : Int32) (x3 : Int32), wl3 (b_X1_isClear_2 q z) n x1 x2 x3 = some Z → ∀ {H : Heap} {locs : List Loc} {ls : Array Slot}, Hh rC G z s H locs → lv_has ls 6 [(0, .ref (G.1 (q))), (1, .int x1), (2, .int x2), (3, .int x3)] → W p l e rmX1_isClear s m args below meth cd H locs 0 0 (MQ below (QI rC G Z z) args s 0 0 (Am rC G)) (F0 m 2 ls []) := by
  have hx := F.1
  have hb := F.2.1
  intro n
  induction n with
  | zero =>
    intro x1 x2 x3 hf
    exact absurd hf (by intro h; cases h)
  | succ n ih =>
    intro x1 x2 x3 hf  H locs ls hh hl
    replace hf : b_X1_isClear_2 q z (wl3 (b_X1_isClear_2 q z) n) x1 x2 x3 = some Z := hf
    unfold b_X1_isClear_2 at hf
    refine lv_iload_n hx hb dX1_isClear_2 rfl (lv_at hl 3 rfl) ?_
    refine lv_aload_n hx hb dX1_isClear_3 rfl (lv_at hl 0 rfl) ?_
    refine r_X1_41 F hh (fri0 hq) (frs0 hq) dX1_isClear_4 ?_
    refine lv_icmp_ge (tgt := 39) hx hb dX1_isClear_7 (by decide) (fun c1 => ?_) (fun c1 => ?_)
    · replace hf := itp c1 hf
      refine lv_iconst (v := 0) hx hb dX1_isClear_39 (by decide) ?_
      refine lv_istore_n (lv' := [(3, .int (0 : Int32)), (0, .ref (G.1 (q))), (1, .int x1), (2, .int x2)]) hx hb dX1_isClear_40 rfl hl (by decide) rfl (fun ls hl => ?_)
      exact w_X1_isClear_41 F hr hlk hq fu _ _ _ hf  hh (lv_sub hl [1, 2, 3, 0] rfl)
    · replace hf := itn c1 hf
      refine lv_aload_n hx hb dX1_isClear_10 rfl (lv_at hl 0 rfl) ?_
      refine lv_iload_n hx hb dX1_isClear_11 rfl (lv_at hl 1 rfl) ?_
      refine lv_iload_n hx hb dX1_isClear_12 rfl (lv_at hl 2 rfl) ?_
      refine lv_aload_n hx hb dX1_isClear_13 rfl (lv_at hl 0 rfl) ?_
      refine r_X1_15 (b' := (q + 1)) F hh (fri0 hq) (frs0 hq) rfl dX1_isClear_14 ?_
      refine lv_iload_n hx hb dX1_isClear_17 rfl (lv_at hl 3 rfl) ?_
      obtain ⟨t2, ht2, hf⟩ := ob hf
      refine g_iald F hh (fri1 hq) (frs1 hq) ht2 dX1_isClear_18 ?_
      refine lv_aload_n hx hb dX1_isClear_19 rfl (lv_at hl 0 rfl) ?_
      refine r_X1_19 (b' := (q + 2)) F hh (fri0 hq) (frs0 hq) rfl dX1_isClear_20 ?_
      refine lv_iload_n hx hb dX1_isClear_23 rfl (lv_at hl 3 rfl) ?_
      obtain ⟨t3, ht3, hf⟩ := ob hf
      refine g_iald F hh (fri2 hq) (frs2 hq) ht3 dX1_isClear_24 ?_
      obtain ⟨t4, ht4, hf⟩ := ob hf
      refine m_X1_95 F hh (c_X1_isBetween hq ht4) (fri0 hq) (frs0 hq) rfl hl (Nat.le_of_ble_eq_true rfl) dX1_isClear_25 (fun H locs hh => ?_)
      refine lv_if_eq (tgt := 33) hx hb dX1_isClear_28 (by decide) (fun c5 => ?_) (fun c5 => ?_)
      · replace hf := itp c5 hf
        obtain ⟨x3_6, ex3_6⟩ : ∃ y : Int32, y = x3 + (1 : Int32) := ⟨_, rfl⟩
        replace hf := lt_e ex3_6 hf
        refine lv_iinc (v := x3_6) (lv' := [(3, .int x3_6), (0, .ref (G.1 (q))), (1, .int x1), (2, .int x2)]) hx hb dX1_isClear_33 hl (k := 3) rfl (by rw [ex3_6]; rfl) (by decide) rfl (fun ls hl => ?_)
        refine lv_goto (tgt := 2) hx hb dX1_isClear_36 (by decide) ?_
        exact ih _ _ _ hf  hh (lv_sub hl [1, 2, 3, 0] rfl)
      · replace hf := itn c5 hf
        refine lv_iconst (v := 0) hx hb dX1_isClear_31 (by decide) ?_
        exact g_zret F hr hlk rfl hh (Option.some.inj hf) rfl dX1_isClear_32
set_option maxRecDepth 100000 in
set_option maxHeartbeats 4000000 in
theorem w_X1_isClear {q : Nat} {Z : Int32} (F : Fx rC p s m args cd cX1_isClear 6 RX1 G) (hr : meth.sig.returnType = (some .boolean)) (hlk : meth.locks = false) (hq : FrC q) {x1 : Int32} {x2 : Int32} {z : Sto} {H : Heap} {locs : List Loc} {ls : Array Slot} (hf : f_X1_isClear q x1 x2 z = some Z) (hh : Hh rC G z s H locs) (hl : lv_has ls 6 [(0, .ref (G.1 (q))), (1, .int x1), (2, .int x2)]) : W p l e rmX1_isClear s m args below meth cd H locs 0 0 (MQ below (QI rC G Z z) args s 0 0 (Am rC G)) (F0 m 0 ls []) := by
  have hx := F.1
  have hb := F.2.1
  unfold f_X1_isClear at hf
  refine lv_iconst (v := 0) hx hb dX1_isClear_0 (by decide) ?_
  refine lv_istore_n (lv' := [(3, .int (0 : Int32)), (0, .ref (G.1 (q))), (1, .int x1), (2, .int x2)]) hx hb dX1_isClear_1 rfl hl (by decide) rfl (fun ls hl => ?_)
  exact w_X1_isClear_2 F hr hlk hq fu _ _ _ hf  hh (lv_sub hl [1, 2, 3, 0] rfl)
theorem c_X1_isClear {l : Launch} {G : Gm} {q : Nat} {x1 : Int32} {x2 : Int32} {z : Sto} {Z : Int32} (hq : FrC q) (hf : f_X1_isClear q x1 x2 z = some Z) : Met l yX1_isClear (Cond.code yX1_isClear cX1_isClear 6 (some .boolean) :: TT) rmX1_isClear (va_Pc [.ref (G.1 (q)), .int x1, .int x2] (GS rC G z)) (QI rC G Z z) 0 0 (Am rC G) := by
  refine g_met [(0, .ref (G.1 (q))), (1, .int x1), (2, .int x2)] (by decide) (Nat.le_of_ble_eq_true rfl) rfl ?_
  intro p e s m below meth cd F hr hlk ls H locs hl hh
  exact w_X1_isClear F hr hlk hq hf hh hl
def b_X1_isPlainWith_29 (q : Nat)  (ag29 : Int32 → Int32 → Int32 → Int32 → Int32 → Sto → Option (Int32 × Sto)) (x1 : Int32) (x4 : Int32) (x5 : Int32) (x6 : Int32) (x7 : Int32) (z : Sto) : Option (Int32 × Sto) := if (z.1 (q) 1) ≤ x7 then (bd (f_X1_putAt (q) x1 x4 x5 z) fun z7 => bd (bz x6) fun t8 => some (t8, z7)) else (if x6 = 0 then (lt (x7 + (1 : Int32)) fun x7_10 => ag29 x1 x4 x5 (0 : Int32) x7_10 z) else (bd (rdI z (q + 3) 9 x7) fun t11 => bd (rdI z (q + 4) 9 x7) fun t12 => bd (f_X1_isClear (q) t11 t12 z) fun t13 => if t13 = 0 then (lt (x7 + (1 : Int32)) fun x7_15 => ag29 x1 x4 x5 (0 : Int32) x7_15 z) else (lt (x7 + (1 : Int32)) fun x7_16 => ag29 x1 x4 x5 (1 : Int32) x7_16 z)))
def f_X1_isPlainWith (q : Nat) (x1 : Int32) (x2 : Int32) (x3 : Int32) (z : Sto) : Option (Int32 × Sto) := bd (rdI z (q + 1) 6 x1) fun t1 => bd (rdI z (q + 2) 6 x1) fun t2 => bd (f_X1_putAt (q) x1 x2 x3 z) fun z4 => wl6 (b_X1_isPlainWith_29 q) fu x1 t1 t2 (1 : Int32) (0 : Int32) z4
set_option maxRecDepth 100000 in
set_option maxHeartbeats 4000000 in
theorem w_X1_isPlainWith_29 {q : Nat}  {Z : Int32 × Sto} (F : Fx rC p s m args cd cX1_isPlainWith 8 RX1 G) (hr : meth.sig.returnType = (some .boolean)) (hlk : meth.locks = false) (hq : FrC q)  : ∀ (n : Nat), ∀ (x1 : Int32) (x4 : Int32) (x5 : Int32) (x6 : Int32) (x7 : Int32) (z : Sto), wl6 (b_X1_isPlainWith_29 q) n x1 x4 x5 x6 x7 z = some Z → ∀ {H : Heap} {locs : List Loc} {ls : Array Slot}, Hh rC G z s H locs → lv_has ls 8 [(0, .ref (G.1 (q))), (1, .int x1), (4, .int x4), (5, .int x5), (6, .int x6), (7, .int x7)] → W p l e rmX1_isPlainWith s m args below meth cd H locs 0 0 (MQ below (QI rC G Z.1 Z.2) args s 0 0 (Am rC G)) (F0 m 29 ls []) := by
  have hx := F.1
  have hb := F.2.1
  intro n
  induction n with
  | zero =>
    intro x1 x4 x5 x6 x7 z hf
    exact absurd hf (by intro h; cases h)
  | succ n ih =>
    intro x1 x4 x5 x6 x7 z hf  H locs ls hh hl
    replace hf : b_X1_isPlainWith_29 q (wl6 (b_X1_isPlainWith_29 q) n) x1 x4 x5 x6 x7 z = some Z := hf
    unfold b_X1_isPlainWith_29 at hf
    refine lv_iload hx hb dX1_isPlainWith_29 (lv_at hl 5 rfl) ?_
    refine lv_aload_n hx hb dX1_isPlainWith_31 rfl (lv_at hl 0 rfl) ?_
    refine r_X1_44 F hh (fri0 hq) (frs0 hq) dX1_isPlainWith_32 ?_
    refine lv_icmp_ge (tgt := 77) hx hb dX1_isPlainWith_35 (by decide) (fun c5 => ?_) (fun c5 => ?_)
    · replace hf := itp c5 hf
      refine lv_aload_n hx hb dX1_isPlainWith_77 rfl (lv_at hl 0 rfl) ?_
      refine lv_iload_n hx hb dX1_isPlainWith_78 rfl (lv_at hl 1 rfl) ?_
      refine lv_iload hx hb dX1_isPlainWith_79 (lv_at hl 2 rfl) ?_
      refine lv_iload hx hb dX1_isPlainWith_81 (lv_at hl 3 rfl) ?_
      obtain ⟨z7, ht6, hf⟩ := ob hf
      refine m_X1_99 F hh (c_X1_putAt hq ht6) (fri0 hq) (frs0 hq) rfl hl (Nat.le_of_ble_eq_true rfl) dX1_isPlainWith_83 (fun H locs hh => ?_)
      refine lv_iload hx hb dX1_isPlainWith_86 (lv_at hl 4 rfl) ?_
      obtain ⟨t8, ht8, hf⟩ := ob hf
      exact g_zret F hr hlk (bz_e ht8).2 hh ((bz_e ht8).1.symm.trans (congrArg Prod.fst (Option.some.inj hf))) (congrArg Prod.snd (Option.some.inj hf)) dX1_isPlainWith_88
    · replace hf := itn c5 hf
      refine lv_iload hx hb dX1_isPlainWith_38 (lv_at hl 4 rfl) ?_
      refine lv_if_eq (tgt := 68) hx hb dX1_isPlainWith_40 (by decide) (fun c9 => ?_) (fun c9 => ?_)
      · replace hf := itp c9 hf
        refine lv_iconst (v := 0) hx hb dX1_isPlainWith_68 (by decide) ?_
        refine lv_istore (lv' := [(6, .int (0 : Int32)), (0, .ref (G.1 (q))), (1, .int x1), (4, .int x4), (5, .int x5), (7, .int x7)]) hx hb dX1_isPlainWith_69 hl (by decide) rfl (fun ls hl => ?_)
        obtain ⟨x7_10, ex7_10⟩ : ∃ y : Int32, y = x7 + (1 : Int32) := ⟨_, rfl⟩
        replace hf := lt_e ex7_10 hf
        refine lv_iinc (v := x7_10) (lv' := [(7, .int x7_10), (6, .int (0 : Int32)), (0, .ref (G.1 (q))), (1, .int x1), (4, .int x4), (5, .int x5)]) hx hb dX1_isPlainWith_71 hl (k := 5) rfl (by rw [ex7_10]; rfl) (by decide) rfl (fun ls hl => ?_)
        refine lv_goto (tgt := 29) hx hb dX1_isPlainWith_74 (by decide) ?_
        exact ih _ _ _ _ _ _ hf  hh (lv_sub hl [2, 3, 4, 5, 1, 0] rfl)
      · replace hf := itn c9 hf
        refine lv_aload_n hx hb dX1_isPlainWith_43 rfl (lv_at hl 0 rfl) ?_
        refine lv_aload_n hx hb dX1_isPlainWith_44 rfl (lv_at hl 0 rfl) ?_
        refine r_X1_22 (b' := (q + 3)) F hh (fri0 hq) (frs0 hq) rfl dX1_isPlainWith_45 ?_
        refine lv_iload hx hb dX1_isPlainWith_48 (lv_at hl 5 rfl) ?_
        obtain ⟨t11, ht11, hf⟩ := ob hf
        refine g_iald F hh (fri3 hq) (frs3 hq) ht11 dX1_isPlainWith_50 ?_
        refine lv_aload_n hx hb dX1_isPlainWith_51 rfl (lv_at hl 0 rfl) ?_
        refine r_X1_25 (b' := (q + 4)) F hh (fri0 hq) (frs0 hq) rfl dX1_isPlainWith_52 ?_
        refine lv_iload hx hb dX1_isPlainWith_55 (lv_at hl 5 rfl) ?_
        obtain ⟨t12, ht12, hf⟩ := ob hf
        refine g_iald F hh (fri4 hq) (frs4 hq) ht12 dX1_isPlainWith_57 ?_
        obtain ⟨t13, ht13, hf⟩ := ob hf
        refine m_X1_75 F hh (c_X1_isClear hq ht13) (fri0 hq) (frs0 hq) rfl hl (Nat.le_of_ble_eq_true rfl) dX1_isPlainWith_58 (fun H locs hh => ?_)
        refine lv_if_eq (tgt := 68) hx hb dX1_isPlainWith_61 (by decide) (fun c14 => ?_) (fun c14 => ?_)
        · replace hf := itp c14 hf
          refine lv_iconst (v := 0) hx hb dX1_isPlainWith_68 (by decide) ?_
          refine lv_istore (lv' := [(6, .int (0 : Int32)), (0, .ref (G.1 (q))), (1, .int x1), (4, .int x4), (5, .int x5), (7, .int x7)]) hx hb dX1_isPlainWith_69 hl (by decide) rfl (fun ls hl => ?_)
          obtain ⟨x7_15, ex7_15⟩ : ∃ y : Int32, y = x7 + (1 : Int32) := ⟨_, rfl⟩
          replace hf := lt_e ex7_15 hf
          refine lv_iinc (v := x7_15) (lv' := [(7, .int x7_15), (6, .int (0 : Int32)), (0, .ref (G.1 (q))), (1, .int x1), (4, .int x4), (5, .int x5)]) hx hb dX1_isPlainWith_71 hl (k := 5) rfl (by rw [ex7_15]; rfl) (by decide) rfl (fun ls hl => ?_)
          refine lv_goto (tgt := 29) hx hb dX1_isPlainWith_74 (by decide) ?_
          exact ih _ _ _ _ _ _ hf  hh (lv_sub hl [2, 3, 4, 5, 1, 0] rfl)
        · replace hf := itn c14 hf
          refine lv_iconst (v := 1) hx hb dX1_isPlainWith_64 (by decide) ?_
          refine lv_goto (tgt := 69) hx hb dX1_isPlainWith_65 (by decide) ?_
          refine lv_istore (lv' := [(6, .int (1 : Int32)), (0, .ref (G.1 (q))), (1, .int x1), (4, .int x4), (5, .int x5), (7, .int x7)]) hx hb dX1_isPlainWith_69 hl (by decide) rfl (fun ls hl => ?_)
          obtain ⟨x7_16, ex7_16⟩ : ∃ y : Int32, y = x7 + (1 : Int32) := ⟨_, rfl⟩
          replace hf := lt_e ex7_16 hf
          refine lv_iinc (v := x7_16) (lv' := [(7, .int x7_16), (6, .int (1 : Int32)), (0, .ref (G.1 (q))), (1, .int x1), (4, .int x4), (5, .int x5)]) hx hb dX1_isPlainWith_71 hl (k := 5) rfl (by rw [ex7_16]; rfl) (by decide) rfl (fun ls hl => ?_)
          refine lv_goto (tgt := 29) hx hb dX1_isPlainWith_74 (by decide) ?_
          exact ih _ _ _ _ _ _ hf  hh (lv_sub hl [2, 3, 4, 5, 1, 0] rfl)
set_option maxRecDepth 100000 in
set_option maxHeartbeats 4000000 in
theorem w_X1_isPlainWith {q : Nat} {Z : Int32 × Sto} (F : Fx rC p s m args cd cX1_isPlainWith 8 RX1 G) (hr : meth.sig.returnType = (some .boolean)) (hlk : meth.locks = false) (hq : FrC q) {x1 : Int32} {x2 : Int32} {x3 : Int32} {z : Sto} {H : Heap} {locs : List Loc} {ls : Array Slot} (hf : f_X1_isPlainWith q x1 x2 x3 z = some Z) (hh : Hh rC G z s H locs) (hl : lv_has ls 8 [(0, .ref (G.1 (q))), (1, .int x1), (2, .int x2), (3, .int x3)]) : W p l e rmX1_isPlainWith s m args below meth cd H locs 0 0 (MQ below (QI rC G Z.1 Z.2) args s 0 0 (Am rC G)) (F0 m 0 ls []) := by
  have hx := F.1
  have hb := F.2.1
  unfold f_X1_isPlainWith at hf
  refine lv_aload_n hx hb dX1_isPlainWith_0 rfl (lv_at hl 0 rfl) ?_
  refine r_X1_15 (b' := (q + 1)) F hh (fri0 hq) (frs0 hq) rfl dX1_isPlainWith_1 ?_
  refine lv_iload_n hx hb dX1_isPlainWith_4 rfl (lv_at hl 1 rfl) ?_
  obtain ⟨t1, ht1, hf⟩ := ob hf
  refine g_iald F hh (fri1 hq) (frs1 hq) ht1 dX1_isPlainWith_5 ?_
  refine lv_istore (lv' := [(4, .int t1), (0, .ref (G.1 (q))), (1, .int x1), (2, .int x2), (3, .int x3)]) hx hb dX1_isPlainWith_6 hl (by decide) rfl (fun ls hl => ?_)
  refine lv_aload_n hx hb dX1_isPlainWith_8 rfl (lv_at hl 1 rfl) ?_
  refine r_X1_19 (b' := (q + 2)) F hh (fri0 hq) (frs0 hq) rfl dX1_isPlainWith_9 ?_
  refine lv_iload_n hx hb dX1_isPlainWith_12 rfl (lv_at hl 2 rfl) ?_
  obtain ⟨t2, ht2, hf⟩ := ob hf
  refine g_iald F hh (fri2 hq) (frs2 hq) ht2 dX1_isPlainWith_13 ?_
  refine lv_istore (lv' := [(5, .int t2), (4, .int t1), (0, .ref (G.1 (q))), (1, .int x1), (2, .int x2), (3, .int x3)]) hx hb dX1_isPlainWith_14 hl (by decide) rfl (fun ls hl => ?_)
  refine lv_aload_n hx hb dX1_isPlainWith_16 rfl (lv_at hl 2 rfl) ?_
  refine lv_iload_n hx hb dX1_isPlainWith_17 rfl (lv_at hl 3 rfl) ?_
  refine lv_iload_n hx hb dX1_isPlainWith_18 rfl (lv_at hl 4 rfl) ?_
  refine lv_iload_n hx hb dX1_isPlainWith_19 rfl (lv_at hl 5 rfl) ?_
  obtain ⟨z4, ht3, hf⟩ := ob hf
  refine m_X1_99 F hh (c_X1_putAt hq ht3) (fri0 hq) (frs0 hq) rfl hl (Nat.le_of_ble_eq_true rfl) dX1_isPlainWith_20 (fun H locs hh => ?_)
  refine lv_iconst (v := 1) hx hb dX1_isPlainWith_23 (by decide) ?_
  refine lv_istore (lv' := [(6, .int (1 : Int32)), (5, .int t2), (4, .int t1), (0, .ref (G.1 (q))), (1, .int x1), (2, .int x2), (3, .int x3)]) hx hb dX1_isPlainWith_24 hl (by decide) rfl (fun ls hl => ?_)
  refine lv_iconst (v := 0) hx hb dX1_isPlainWith_26 (by decide) ?_
  refine lv_istore (lv' := [(7, .int (0 : Int32)), (6, .int (1 : Int32)), (5, .int t2), (4, .int t1), (0, .ref (G.1 (q))), (1, .int x1), (2, .int x2), (3, .int x3)]) hx hb dX1_isPlainWith_27 hl (by decide) rfl (fun ls hl => ?_)
  exact w_X1_isPlainWith_29 F hr hlk hq fu _ _ _ _ _ _ hf  hh (lv_sub hl [4, 5, 3, 2, 1, 0] rfl)
theorem c_X1_isPlainWith {l : Launch} {G : Gm} {q : Nat} {x1 : Int32} {x2 : Int32} {x3 : Int32} {z : Sto} {Z : Int32 × Sto} (hq : FrC q) (hf : f_X1_isPlainWith q x1 x2 x3 z = some Z) : Met l yX1_isPlainWith (Cond.code yX1_isPlainWith cX1_isPlainWith 8 (some .boolean) :: TT) rmX1_isPlainWith (va_Pc [.ref (G.1 (q)), .int x1, .int x2, .int x3] (GS rC G z)) (QI rC G Z.1 Z.2) 0 0 (Am rC G) := by
  refine g_met [(0, .ref (G.1 (q))), (1, .int x1), (2, .int x2), (3, .int x3)] (by decide) (Nat.le_of_ble_eq_true rfl) rfl ?_
  intro p e s m below meth cd F hr hlk ls H locs hl hh
  exact w_X1_isPlainWith F hr hlk hq hf hh hl
def j_X1_refuseMove_43 (q : Nat)  (z : Sto) : Option (Int32 × Sto) := some ((-2 : Int32), z)
def f_X1_refuseMove (q : Nat) (x1 : Int32) (x2 : Int32) (x3 : Int32) (z : Sto) : Option (Int32 × Sto) := bd (f_X1_hasJoint (q) x1 z) fun t1 => if t1 = 0 then (some ((-1 : Int32), z)) else (bd (f_X1_isPlace x2 z) fun t3 => if t3 = 0 then (some ((-1 : Int32), z)) else (bd (f_X1_isPlace x3 z) fun t5 => if t5 = 0 then (some ((-1 : Int32), z)) else (bd (f_X1_isTaken (q) x2 x3 z) fun t7 => if t7 = 0 then (bd2 (f_X1_isPlainWith (q) x1 x2 x3 z) fun t9 z10 => if t9 = 0 then (j_X1_refuseMove_43 q z10) else (some ((0 : Int32), z10))) else (j_X1_refuseMove_43 q z))))
set_option maxRecDepth 100000 in
set_option maxHeartbeats 4000000 in
theorem w_X1_refuseMove_43 {q : Nat}  {Z : Int32 × Sto} (F : Fx rC p s m args cd cX1_refuseMove 4 RX1 G) (hr : meth.sig.returnType = (some .int)) (hlk : meth.locks = false) (hq : FrC q)  {z : Sto} {H : Heap} {locs : List Loc} {ls : Array Slot} (hf : j_X1_refuseMove_43 q z = some Z) (hh : Hh rC G z s H locs) (hl : lv_has ls 4 []) : W p l e rmX1_refuseMove s m args below meth cd H locs 0 0 (MQ below (QI rC G Z.1 Z.2) args s 0 0 (Am rC G)) (F0 m 43 ls []) := by
  have hx := F.1
  have hb := F.2.1
  unfold j_X1_refuseMove_43 at hf
  refine lv_bipush (v := -2) hx hb dX1_refuseMove_43 (by decide) ?_
  refine lv_goto (tgt := 49) hx hb dX1_refuseMove_45 (by decide) ?_
  exact g_iretW F hr hlk hh hf dX1_refuseMove_49
set_option maxRecDepth 100000 in
set_option maxHeartbeats 4000000 in
theorem w_X1_refuseMove {q : Nat} {Z : Int32 × Sto} (F : Fx rC p s m args cd cX1_refuseMove 4 RX1 G) (hr : meth.sig.returnType = (some .int)) (hlk : meth.locks = false) (hq : FrC q) {x1 : Int32} {x2 : Int32} {x3 : Int32} {z : Sto} {H : Heap} {locs : List Loc} {ls : Array Slot} (hf : f_X1_refuseMove q x1 x2 x3 z = some Z) (hh : Hh rC G z s H locs) (hl : lv_has ls 4 [(0, .ref (G.1 (q))), (1, .int x1), (2, .int x2), (3, .int x3)]) : W p l e rmX1_refuseMove s m args below meth cd H locs 0 0 (MQ below (QI rC G Z.1 Z.2) args s 0 0 (Am rC G)) (F0 m 0 ls []) := by
  have hx := F.1
  have hb := F.2.1
  unfold f_X1_refuseMove at hf
  refine lv_aload_n hx hb dX1_refuseMove_0 rfl (lv_at hl 0 rfl) ?_
  refine lv_iload_n hx hb dX1_refuseMove_1 rfl (lv_at hl 1 rfl) ?_
  obtain ⟨t1, ht1, hf⟩ := ob hf
  refine m_X1_65 F hh (c_X1_hasJoint hq ht1) (fri0 hq) (frs0 hq) rfl hl (Nat.le_of_ble_eq_true rfl) dX1_refuseMove_2 (fun H locs hh => ?_)
  refine lv_if_eq (tgt := 22) hx hb dX1_refuseMove_5 (by decide) (fun c2 => ?_) (fun c2 => ?_)
  · replace hf := itp c2 hf
    refine lv_iconst (v := -1) hx hb dX1_refuseMove_22 (by decide) ?_
    exact g_iretW F hr hlk hh hf dX1_refuseMove_23
  · replace hf := itn c2 hf
    refine lv_iload_n hx hb dX1_refuseMove_8 rfl (lv_at hl 2 rfl) ?_
    obtain ⟨t3, ht3, hf⟩ := ob hf
    refine m_X1_54 F hh (c_X1_isPlace ht3) rfl hl (Nat.le_of_ble_eq_true rfl) dX1_refuseMove_9 (fun H locs hh => ?_)
    refine lv_if_eq (tgt := 22) hx hb dX1_refuseMove_12 (by decide) (fun c4 => ?_) (fun c4 => ?_)
    · replace hf := itp c4 hf
      refine lv_iconst (v := -1) hx hb dX1_refuseMove_22 (by decide) ?_
      exact g_iretW F hr hlk hh hf dX1_refuseMove_23
    · replace hf := itn c4 hf
      refine lv_iload_n hx hb dX1_refuseMove_15 rfl (lv_at hl 3 rfl) ?_
      obtain ⟨t5, ht5, hf⟩ := ob hf
      refine m_X1_54 F hh (c_X1_isPlace ht5) rfl hl (Nat.le_of_ble_eq_true rfl) dX1_refuseMove_16 (fun H locs hh => ?_)
      refine lv_if_ne (tgt := 24) hx hb dX1_refuseMove_19 (by decide) (fun c6 => ?_) (fun c6 => ?_)
      · replace hf := itn c6 hf
        refine lv_aload_n hx hb dX1_refuseMove_24 rfl (lv_at hl 0 rfl) ?_
        refine lv_iload_n hx hb dX1_refuseMove_25 rfl (lv_at hl 2 rfl) ?_
        refine lv_iload_n hx hb dX1_refuseMove_26 rfl (lv_at hl 3 rfl) ?_
        obtain ⟨t7, ht7, hf⟩ := ob hf
        refine m_X1_58 F hh (c_X1_isTaken hq ht7) (fri0 hq) (frs0 hq) rfl hl (Nat.le_of_ble_eq_true rfl) dX1_refuseMove_27 (fun H locs hh => ?_)
        refine lv_if_ne (tgt := 43) hx hb dX1_refuseMove_30 (by decide) (fun c8 => ?_) (fun c8 => ?_)
        · replace hf := itn c8 hf
          exact w_X1_refuseMove_43 F hr hlk hq hf  hh (lv_sub hl [] rfl)
        · replace hf := itp c8 hf
          refine lv_aload_n hx hb dX1_refuseMove_33 rfl (lv_at hl 0 rfl) ?_
          refine lv_iload_n hx hb dX1_refuseMove_34 rfl (lv_at hl 1 rfl) ?_
          refine lv_iload_n hx hb dX1_refuseMove_35 rfl (lv_at hl 2 rfl) ?_
          refine lv_iload_n hx hb dX1_refuseMove_36 rfl (lv_at hl 3 rfl) ?_
          obtain ⟨t9, z10, ht9, hf⟩ := ob2 hf
          refine m_X1_68 (r := t9) (σ' := z10) F hh (c_X1_isPlainWith hq ht9) (fri0 hq) (frs0 hq) rfl hl (Nat.le_of_ble_eq_true rfl) dX1_refuseMove_37 (fun H locs hh => ?_)
          refine lv_if_ne (tgt := 48) hx hb dX1_refuseMove_40 (by decide) (fun c11 => ?_) (fun c11 => ?_)
          · replace hf := itn c11 hf
            refine lv_iconst (v := 0) hx hb dX1_refuseMove_48 (by decide) ?_
            exact g_iretW F hr hlk hh hf dX1_refuseMove_49
          · replace hf := itp c11 hf
            exact w_X1_refuseMove_43 F hr hlk hq hf  hh (lv_sub hl [] rfl)
      · replace hf := itp c6 hf
        refine lv_iconst (v := -1) hx hb dX1_refuseMove_22 (by decide) ?_
        exact g_iretW F hr hlk hh hf dX1_refuseMove_23
theorem c_X1_refuseMove {l : Launch} {G : Gm} {q : Nat} {x1 : Int32} {x2 : Int32} {x3 : Int32} {z : Sto} {Z : Int32 × Sto} (hq : FrC q) (hf : f_X1_refuseMove q x1 x2 x3 z = some Z) : Met l yX1_refuseMove (Cond.code yX1_refuseMove cX1_refuseMove 4 (some .int) :: TT) rmX1_refuseMove (va_Pc [.ref (G.1 (q)), .int x1, .int x2, .int x3] (GS rC G z)) (QI rC G Z.1 Z.2) 0 0 (Am rC G) := by
  refine g_met [(0, .ref (G.1 (q))), (1, .int x1), (2, .int x2), (3, .int x3)] (by decide) (Nat.le_of_ble_eq_true rfl) rfl ?_
  intro p e s m below meth cd F hr hlk ls H locs hl hh
  exact w_X1_refuseMove F hr hlk hq hf hh hl
def f_X1_refuseBar (q : Nat) (x1 : Int32) (x2 : Int32) (z : Sto) : Option (Int32) := bd (f_X1_hasJoint (q) x1 z) fun t1 => if t1 = 0 then (some (-1 : Int32)) else (bd (f_X1_hasJoint (q) x2 z) fun t3 => if t3 = 0 then (some (-1 : Int32)) else (if x1 = x2 then (some (-1 : Int32)) else (bd (f_X1_neighbours (q) x1 z) fun t6 => if ((t6 >>> (x2 &&& 31)) &&& (1 : Int32)) = (1 : Int32) then (some (-2 : Int32)) else (bd (f_X1_isClear (q) x1 x2 z) fun t8 => if t8 = 0 then (some (-2 : Int32)) else (if (9 : Int32) ≤ (z.1 (q) 1) then (some (-3 : Int32)) else (some (0 : Int32)))))))
set_option maxRecDepth 100000 in
set_option maxHeartbeats 4000000 in
theorem w_X1_refuseBar {q : Nat} {Z : Int32} (F : Fx rC p s m args cd cX1_refuseBar 3 RX1 G) (hr : meth.sig.returnType = (some .int)) (hlk : meth.locks = false) (hq : FrC q) {x1 : Int32} {x2 : Int32} {z : Sto} {H : Heap} {locs : List Loc} {ls : Array Slot} (hf : f_X1_refuseBar q x1 x2 z = some Z) (hh : Hh rC G z s H locs) (hl : lv_has ls 3 [(0, .ref (G.1 (q))), (1, .int x1), (2, .int x2)]) : W p l e rmX1_refuseBar s m args below meth cd H locs 0 0 (MQ below (QI rC G Z z) args s 0 0 (Am rC G)) (F0 m 0 ls []) := by
  have hx := F.1
  have hb := F.2.1
  unfold f_X1_refuseBar at hf
  refine lv_aload_n hx hb dX1_refuseBar_0 rfl (lv_at hl 0 rfl) ?_
  refine lv_iload_n hx hb dX1_refuseBar_1 rfl (lv_at hl 1 rfl) ?_
  obtain ⟨t1, ht1, hf⟩ := ob hf
  refine m_X1_65 F hh (c_X1_hasJoint hq ht1) (fri0 hq) (frs0 hq) rfl hl (Nat.le_of_ble_eq_true rfl) dX1_refuseBar_2 (fun H locs hh => ?_)
  refine lv_if_eq (tgt := 21) hx hb dX1_refuseBar_5 (by decide) (fun c2 => ?_) (fun c2 => ?_)
  · replace hf := itp c2 hf
    refine lv_iconst (v := -1) hx hb dX1_refuseBar_21 (by decide) ?_
    exact g_iret F hr hlk hh (Option.some.inj hf) rfl dX1_refuseBar_22
  · replace hf := itn c2 hf
    refine lv_aload_n hx hb dX1_refuseBar_8 rfl (lv_at hl 0 rfl) ?_
    refine lv_iload_n hx hb dX1_refuseBar_9 rfl (lv_at hl 2 rfl) ?_
    obtain ⟨t3, ht3, hf⟩ := ob hf
    refine m_X1_65 F hh (c_X1_hasJoint hq ht3) (fri0 hq) (frs0 hq) rfl hl (Nat.le_of_ble_eq_true rfl) dX1_refuseBar_10 (fun H locs hh => ?_)
    refine lv_if_eq (tgt := 21) hx hb dX1_refuseBar_13 (by decide) (fun c4 => ?_) (fun c4 => ?_)
    · replace hf := itp c4 hf
      refine lv_iconst (v := -1) hx hb dX1_refuseBar_21 (by decide) ?_
      exact g_iret F hr hlk hh (Option.some.inj hf) rfl dX1_refuseBar_22
    · replace hf := itn c4 hf
      refine lv_iload_n hx hb dX1_refuseBar_16 rfl (lv_at hl 1 rfl) ?_
      refine lv_iload_n hx hb dX1_refuseBar_17 rfl (lv_at hl 2 rfl) ?_
      refine lv_icmp_ne (tgt := 23) hx hb dX1_refuseBar_18 (by decide) (fun c5 => ?_) (fun c5 => ?_)
      · replace hf := itn c5 hf
        refine lv_aload_n hx hb dX1_refuseBar_23 rfl (lv_at hl 0 rfl) ?_
        refine lv_iload_n hx hb dX1_refuseBar_24 rfl (lv_at hl 1 rfl) ?_
        obtain ⟨t6, ht6, hf⟩ := ob hf
        refine m_X1_72 F hh (c_X1_neighbours hq ht6) (fri0 hq) (frs0 hq) rfl hl (Nat.le_of_ble_eq_true rfl) dX1_refuseBar_25 (fun H locs hh => ?_)
        refine lv_iload_n hx hb dX1_refuseBar_28 rfl (lv_at hl 2 rfl) ?_
        refine lv_ishr hx hb dX1_refuseBar_29 ?_
        refine lv_iconst (v := 1) hx hb dX1_refuseBar_30 (by decide) ?_
        refine lv_iand hx hb dX1_refuseBar_31 ?_
        refine lv_iconst (v := 1) hx hb dX1_refuseBar_32 (by decide) ?_
        refine lv_icmp_eq (tgt := 45) hx hb dX1_refuseBar_33 (by decide) (fun c7 => ?_) (fun c7 => ?_)
        · replace hf := itp c7 hf
          refine lv_bipush (v := -2) hx hb dX1_refuseBar_45 (by decide) ?_
          exact g_iret F hr hlk hh (Option.some.inj hf) rfl dX1_refuseBar_47
        · replace hf := itn c7 hf
          refine lv_aload_n hx hb dX1_refuseBar_36 rfl (lv_at hl 0 rfl) ?_
          refine lv_iload_n hx hb dX1_refuseBar_37 rfl (lv_at hl 1 rfl) ?_
          refine lv_iload_n hx hb dX1_refuseBar_38 rfl (lv_at hl 2 rfl) ?_
          obtain ⟨t8, ht8, hf⟩ := ob hf
          refine m_X1_75 F hh (c_X1_isClear hq ht8) (fri0 hq) (frs0 hq) rfl hl (Nat.le_of_ble_eq_true rfl) dX1_refuseBar_39 (fun H locs hh => ?_)
          refine lv_if_ne (tgt := 48) hx hb dX1_refuseBar_42 (by decide) (fun c9 => ?_) (fun c9 => ?_)
          · replace hf := itn c9 hf
            refine lv_aload_n hx hb dX1_refuseBar_48 rfl (lv_at hl 0 rfl) ?_
            refine r_X1_44 F hh (fri0 hq) (frs0 hq) dX1_refuseBar_49 ?_
            refine lv_bipush (v := 9) hx hb dX1_refuseBar_52 (by decide) ?_
            refine lv_icmp_ge (tgt := 61) hx hb dX1_refuseBar_54 (by decide) (fun c10 => ?_) (fun c10 => ?_)
            · replace hf := itp c10 hf
              refine lv_bipush (v := -3) hx hb dX1_refuseBar_61 (by decide) ?_
              exact g_iret F hr hlk hh (Option.some.inj hf) rfl dX1_refuseBar_63
            · replace hf := itn c10 hf
              refine lv_iconst (v := 0) hx hb dX1_refuseBar_57 (by decide) ?_
              refine lv_goto (tgt := 63) hx hb dX1_refuseBar_58 (by decide) ?_
              exact g_iret F hr hlk hh (Option.some.inj hf) rfl dX1_refuseBar_63
          · replace hf := itp c9 hf
            refine lv_bipush (v := -2) hx hb dX1_refuseBar_45 (by decide) ?_
            exact g_iret F hr hlk hh (Option.some.inj hf) rfl dX1_refuseBar_47
      · replace hf := itp c5 hf
        refine lv_iconst (v := -1) hx hb dX1_refuseBar_21 (by decide) ?_
        exact g_iret F hr hlk hh (Option.some.inj hf) rfl dX1_refuseBar_22
theorem c_X1_refuseBar {l : Launch} {G : Gm} {q : Nat} {x1 : Int32} {x2 : Int32} {z : Sto} {Z : Int32} (hq : FrC q) (hf : f_X1_refuseBar q x1 x2 z = some Z) : Met l yX1_refuseBar (Cond.code yX1_refuseBar cX1_refuseBar 3 (some .int) :: TT) rmX1_refuseBar (va_Pc [.ref (G.1 (q)), .int x1, .int x2] (GS rC G z)) (QI rC G Z z) 0 0 (Am rC G) := by
  refine g_met [(0, .ref (G.1 (q))), (1, .int x1), (2, .int x2)] (by decide) (Nat.le_of_ble_eq_true rfl) rfl ?_
  intro p e s m below meth cd F hr hlk ls H locs hl hh
  exact w_X1_refuseBar F hr hlk hq hf hh hl
def f_X1_refuseWeight (q : Nat) (x1 : Int32) (x2 : Int32) (z : Sto) : Option (Int32) := if x1 < 0 then (some (-1 : Int32)) else (if (9 : Int32) ≤ x1 then (some (-1 : Int32)) else (if x2 < (-9 : Int32) then (some (-1 : Int32)) else (if x2 ≤ (9 : Int32) then (bd (rdI z (q + 5) 9 x1) fun t5 => if t5 = x2 then (some (-2 : Int32)) else (some (0 : Int32))) else (some (-1 : Int32)))))
set_option maxRecDepth 100000 in
set_option maxHeartbeats 4000000 in
theorem w_X1_refuseWeight {q : Nat} {Z : Int32} (F : Fx rC p s m args cd cX1_refuseWeight 3 RX1 G) (hr : meth.sig.returnType = (some .int)) (hlk : meth.locks = false) (hq : FrC q) {x1 : Int32} {x2 : Int32} {z : Sto} {H : Heap} {locs : List Loc} {ls : Array Slot} (hf : f_X1_refuseWeight q x1 x2 z = some Z) (hh : Hh rC G z s H locs) (hl : lv_has ls 3 [(0, .ref (G.1 (q))), (1, .int x1), (2, .int x2)]) : W p l e rmX1_refuseWeight s m args below meth cd H locs 0 0 (MQ below (QI rC G Z z) args s 0 0 (Am rC G)) (F0 m 0 ls []) := by
  have hx := F.1
  have hb := F.2.1
  unfold f_X1_refuseWeight at hf
  refine lv_iload_n hx hb dX1_refuseWeight_0 rfl (lv_at hl 1 rfl) ?_
  refine lv_if_lt (tgt := 22) hx hb dX1_refuseWeight_1 (by decide) (fun c1 => ?_) (fun c1 => ?_)
  · replace hf := itp c1 hf
    refine lv_iconst (v := -1) hx hb dX1_refuseWeight_22 (by decide) ?_
    exact g_iret F hr hlk hh (Option.some.inj hf) rfl dX1_refuseWeight_23
  · replace hf := itn c1 hf
    refine lv_iload_n hx hb dX1_refuseWeight_4 rfl (lv_at hl 1 rfl) ?_
    refine lv_bipush (v := 9) hx hb dX1_refuseWeight_5 (by decide) ?_
    refine lv_icmp_ge (tgt := 22) hx hb dX1_refuseWeight_7 (by decide) (fun c2 => ?_) (fun c2 => ?_)
    · replace hf := itp c2 hf
      refine lv_iconst (v := -1) hx hb dX1_refuseWeight_22 (by decide) ?_
      exact g_iret F hr hlk hh (Option.some.inj hf) rfl dX1_refuseWeight_23
    · replace hf := itn c2 hf
      refine lv_iload_n hx hb dX1_refuseWeight_10 rfl (lv_at hl 2 rfl) ?_
      refine lv_bipush (v := -9) hx hb dX1_refuseWeight_11 (by decide) ?_
      refine lv_icmp_lt (tgt := 22) hx hb dX1_refuseWeight_13 (by decide) (fun c3 => ?_) (fun c3 => ?_)
      · replace hf := itp c3 hf
        refine lv_iconst (v := -1) hx hb dX1_refuseWeight_22 (by decide) ?_
        exact g_iret F hr hlk hh (Option.some.inj hf) rfl dX1_refuseWeight_23
      · replace hf := itn c3 hf
        refine lv_iload_n hx hb dX1_refuseWeight_16 rfl (lv_at hl 2 rfl) ?_
        refine lv_bipush (v := 9) hx hb dX1_refuseWeight_17 (by decide) ?_
        refine lv_icmp_le (tgt := 24) hx hb dX1_refuseWeight_19 (by decide) (fun c4 => ?_) (fun c4 => ?_)
        · replace hf := itp c4 hf
          refine lv_aload_n hx hb dX1_refuseWeight_24 rfl (lv_at hl 0 rfl) ?_
          refine r_X1_28 (b' := (q + 5)) F hh (fri0 hq) (frs0 hq) rfl dX1_refuseWeight_25 ?_
          refine lv_iload_n hx hb dX1_refuseWeight_28 rfl (lv_at hl 1 rfl) ?_
          obtain ⟨t5, ht5, hf⟩ := ob hf
          refine g_iald F hh (fri5 hq) (frs5 hq) ht5 dX1_refuseWeight_29 ?_
          refine lv_iload_n hx hb dX1_refuseWeight_30 rfl (lv_at hl 2 rfl) ?_
          refine lv_icmp_ne (tgt := 39) hx hb dX1_refuseWeight_31 (by decide) (fun c6 => ?_) (fun c6 => ?_)
          · replace hf := itn c6 hf
            refine lv_iconst (v := 0) hx hb dX1_refuseWeight_39 (by decide) ?_
            exact g_iret F hr hlk hh (Option.some.inj hf) rfl dX1_refuseWeight_40
          · replace hf := itp c6 hf
            refine lv_bipush (v := -2) hx hb dX1_refuseWeight_34 (by decide) ?_
            refine lv_goto (tgt := 40) hx hb dX1_refuseWeight_36 (by decide) ?_
            exact g_iret F hr hlk hh (Option.some.inj hf) rfl dX1_refuseWeight_40
        · replace hf := itn c4 hf
          refine lv_iconst (v := -1) hx hb dX1_refuseWeight_22 (by decide) ?_
          exact g_iret F hr hlk hh (Option.some.inj hf) rfl dX1_refuseWeight_23
theorem c_X1_refuseWeight {l : Launch} {G : Gm} {q : Nat} {x1 : Int32} {x2 : Int32} {z : Sto} {Z : Int32} (hq : FrC q) (hf : f_X1_refuseWeight q x1 x2 z = some Z) : Met l yX1_refuseWeight (Cond.code yX1_refuseWeight cX1_refuseWeight 3 (some .int) :: TT) rmX1_refuseWeight (va_Pc [.ref (G.1 (q)), .int x1, .int x2] (GS rC G z)) (QI rC G Z z) 0 0 (Am rC G) := by
  refine g_met [(0, .ref (G.1 (q))), (1, .int x1), (2, .int x2)] (by decide) (Nat.le_of_ble_eq_true rfl) rfl ?_
  intro p e s m below meth cd F hr hlk ls H locs hl hh
  exact w_X1_refuseWeight F hr hlk hq hf hh hl
def f_X1_putJoint (q : Nat) (x1 : Int32) (x2 : Int32) (z : Sto) : Option (Int32 × Sto) := bd (wrI z (q + 1) 6 (z.1 (q) 0) x1) fun z1 => bd (wrI z1 (q + 2) 6 (z1.1 (q) 0) x2) fun z2 => lt (upI z2 (q) 0 ((z2.1 (q) 0) + (1 : Int32))) fun z3 => some (((z3.1 (q) 0) - (1 : Int32)), z3)
set_option maxRecDepth 100000 in
set_option maxHeartbeats 4000000 in
theorem w_X1_putJoint {q : Nat} {Z : Int32 × Sto} (F : Fx rC p s m args cd cX1_putJoint 3 RX1 G) (hr : meth.sig.returnType = (some .int)) (hlk : meth.locks = false) (hq : FrC q) {x1 : Int32} {x2 : Int32} {z : Sto} {H : Heap} {locs : List Loc} {ls : Array Slot} (hf : f_X1_putJoint q x1 x2 z = some Z) (hh : Hh rC G z s H locs) (hl : lv_has ls 3 [(0, .ref (G.1 (q))), (1, .int x1), (2, .int x2)]) : W p l e rmX1_putJoint s m args below meth cd H locs 0 0 (MQ below (QI rC G Z.1 Z.2) args s 0 0 (Am rC G)) (F0 m 0 ls []) := by
  have hx := F.1
  have hb := F.2.1
  unfold f_X1_putJoint at hf
  refine lv_aload_n hx hb dX1_putJoint_0 rfl (lv_at hl 0 rfl) ?_
  refine r_X1_15 (b' := (q + 1)) F hh (fri0 hq) (frs0 hq) rfl dX1_putJoint_1 ?_
  refine lv_aload_n hx hb dX1_putJoint_4 rfl (lv_at hl 0 rfl) ?_
  refine r_X1_41 F hh (fri0 hq) (frs0 hq) dX1_putJoint_5 ?_
  refine lv_iload_n hx hb dX1_putJoint_8 rfl (lv_at hl 1 rfl) ?_
  obtain ⟨z1, hz1, hf⟩ := ob hf
  refine g_iast F hh (fri1 hq) (frs1 hq) hz1 dX1_putJoint_9 (fun H locs hh => ?_)
  refine lv_aload_n hx hb dX1_putJoint_10 rfl (lv_at hl 0 rfl) ?_
  refine r_X1_19 (b' := (q + 2)) F hh (fri0 hq) (frs0 hq) rfl dX1_putJoint_11 ?_
  refine lv_aload_n hx hb dX1_putJoint_14 rfl (lv_at hl 0 rfl) ?_
  refine r_X1_41 F hh (fri0 hq) (frs0 hq) dX1_putJoint_15 ?_
  refine lv_iload_n hx hb dX1_putJoint_18 rfl (lv_at hl 2 rfl) ?_
  obtain ⟨z2, hz2, hf⟩ := ob hf
  refine g_iast F hh (fri2 hq) (frs2 hq) hz2 dX1_putJoint_19 (fun H locs hh => ?_)
  refine lv_aload_n hx hb dX1_putJoint_20 rfl (lv_at hl 0 rfl) ?_
  refine lv_dup hx hb dX1_putJoint_21 rfl ?_
  refine r_X1_41 F hh (fri0 hq) (frs0 hq) dX1_putJoint_22 ?_
  refine lv_iconst (v := 1) hx hb dX1_putJoint_25 (by decide) ?_
  refine lv_iadd hx hb dX1_putJoint_26 ?_
  refine s_X1_41 F hh (fri0 hq) (frs0 hq) dX1_putJoint_27 (fun z3 ez3 H locs hh => ?_)
  replace hf := lt_e ez3 hf
  refine lv_aload_n hx hb dX1_putJoint_30 rfl (lv_at hl 0 rfl) ?_
  refine r_X1_41 F hh (fri0 hq) (frs0 hq) dX1_putJoint_31 ?_
  refine lv_iconst (v := 1) hx hb dX1_putJoint_34 (by decide) ?_
  refine lv_isub hx hb dX1_putJoint_35 ?_
  exact g_iretW F hr hlk hh hf dX1_putJoint_36
theorem c_X1_putJoint {l : Launch} {G : Gm} {q : Nat} {x1 : Int32} {x2 : Int32} {z : Sto} {Z : Int32 × Sto} (hq : FrC q) (hf : f_X1_putJoint q x1 x2 z = some Z) : Met l yX1_putJoint (Cond.code yX1_putJoint cX1_putJoint 3 (some .int) :: TT) rmX1_putJoint (va_Pc [.ref (G.1 (q)), .int x1, .int x2] (GS rC G z)) (QI rC G Z.1 Z.2) 0 0 (Am rC G) := by
  refine g_met [(0, .ref (G.1 (q))), (1, .int x1), (2, .int x2)] (by decide) (Nat.le_of_ble_eq_true rfl) rfl ?_
  intro p e s m below meth cd F hr hlk ls H locs hl hh
  exact w_X1_putJoint F hr hlk hq hf hh hl
def f_X1_putBar (q : Nat) (x1 : Int32) (x2 : Int32) (z : Sto) : Option (Int32 × Sto) := bd (wrI z (q + 3) 9 (z.1 (q) 1) (mnI x1 x2)) fun z1 => bd (wrI z1 (q + 4) 9 (z1.1 (q) 1) (mxI x1 x2)) fun z2 => lt (upI z2 (q) 1 ((z2.1 (q) 1) + (1 : Int32))) fun z3 => some (((z3.1 (q) 1) - (1 : Int32)), z3)
set_option maxRecDepth 100000 in
set_option maxHeartbeats 4000000 in
theorem w_X1_putBar {q : Nat} {Z : Int32 × Sto} (F : Fx rC p s m args cd cX1_putBar 3 RX1 G) (hr : meth.sig.returnType = (some .int)) (hlk : meth.locks = false) (hq : FrC q) {x1 : Int32} {x2 : Int32} {z : Sto} {H : Heap} {locs : List Loc} {ls : Array Slot} (hf : f_X1_putBar q x1 x2 z = some Z) (hh : Hh rC G z s H locs) (hl : lv_has ls 3 [(0, .ref (G.1 (q))), (1, .int x1), (2, .int x2)]) : W p l e rmX1_putBar s m args below meth cd H locs 0 0 (MQ below (QI rC G Z.1 Z.2) args s 0 0 (Am rC G)) (F0 m 0 ls []) := by
  have hx := F.1
  have hb := F.2.1
  unfold f_X1_putBar at hf
  refine lv_aload_n hx hb dX1_putBar_0 rfl (lv_at hl 0 rfl) ?_
  refine r_X1_22 (b' := (q + 3)) F hh (fri0 hq) (frs0 hq) rfl dX1_putBar_1 ?_
  refine lv_aload_n hx hb dX1_putBar_4 rfl (lv_at hl 0 rfl) ?_
  refine r_X1_44 F hh (fri0 hq) (frs0 hq) dX1_putBar_5 ?_
  refine lv_iload_n hx hb dX1_putBar_8 rfl (lv_at hl 1 rfl) ?_
  refine lv_iload_n hx hb dX1_putBar_9 rfl (lv_at hl 2 rfl) ?_
  refine h_X1_78 F hl (Nat.le_of_ble_eq_true rfl) (Nat.le_of_ble_eq_true rfl) dX1_putBar_10 ?_
  obtain ⟨z1, hz1, hf⟩ := ob hf
  refine g_iast F hh (fri3 hq) (frs3 hq) hz1 dX1_putBar_13 (fun H locs hh => ?_)
  refine lv_aload_n hx hb dX1_putBar_14 rfl (lv_at hl 0 rfl) ?_
  refine r_X1_25 (b' := (q + 4)) F hh (fri0 hq) (frs0 hq) rfl dX1_putBar_15 ?_
  refine lv_aload_n hx hb dX1_putBar_18 rfl (lv_at hl 0 rfl) ?_
  refine r_X1_44 F hh (fri0 hq) (frs0 hq) dX1_putBar_19 ?_
  refine lv_iload_n hx hb dX1_putBar_22 rfl (lv_at hl 1 rfl) ?_
  refine lv_iload_n hx hb dX1_putBar_23 rfl (lv_at hl 2 rfl) ?_
  refine h_X1_84 F hl (Nat.le_of_ble_eq_true rfl) (Nat.le_of_ble_eq_true rfl) dX1_putBar_24 ?_
  obtain ⟨z2, hz2, hf⟩ := ob hf
  refine g_iast F hh (fri4 hq) (frs4 hq) hz2 dX1_putBar_27 (fun H locs hh => ?_)
  refine lv_aload_n hx hb dX1_putBar_28 rfl (lv_at hl 0 rfl) ?_
  refine lv_dup hx hb dX1_putBar_29 rfl ?_
  refine r_X1_44 F hh (fri0 hq) (frs0 hq) dX1_putBar_30 ?_
  refine lv_iconst (v := 1) hx hb dX1_putBar_33 (by decide) ?_
  refine lv_iadd hx hb dX1_putBar_34 ?_
  refine s_X1_44 F hh (fri0 hq) (frs0 hq) dX1_putBar_35 (fun z3 ez3 H locs hh => ?_)
  replace hf := lt_e ez3 hf
  refine lv_aload_n hx hb dX1_putBar_38 rfl (lv_at hl 0 rfl) ?_
  refine r_X1_44 F hh (fri0 hq) (frs0 hq) dX1_putBar_39 ?_
  refine lv_iconst (v := 1) hx hb dX1_putBar_42 (by decide) ?_
  refine lv_isub hx hb dX1_putBar_43 ?_
  exact g_iretW F hr hlk hh hf dX1_putBar_44
theorem c_X1_putBar {l : Launch} {G : Gm} {q : Nat} {x1 : Int32} {x2 : Int32} {z : Sto} {Z : Int32 × Sto} (hq : FrC q) (hf : f_X1_putBar q x1 x2 z = some Z) : Met l yX1_putBar (Cond.code yX1_putBar cX1_putBar 3 (some .int) :: TT) rmX1_putBar (va_Pc [.ref (G.1 (q)), .int x1, .int x2] (GS rC G z)) (QI rC G Z.1 Z.2) 0 0 (Am rC G) := by
  refine g_met [(0, .ref (G.1 (q))), (1, .int x1), (2, .int x2)] (by decide) (Nat.le_of_ble_eq_true rfl) rfl ?_
  intro p e s m below meth cd F hr hlk ls H locs hl hh
  exact w_X1_putBar F hr hlk hq hf hh hl
def b_X1_takeOut_12 (q : Nat)  (ag12 : Int32 → Sto → Option (Sto)) (x2 : Int32) (z : Sto) : Option (Sto) := if (z.1 (q) 1) ≤ x2 then (some z) else (bd (rdI z (q + 3) 9 (x2 + (1 : Int32))) fun t3 => bd (wrI z (q + 3) 9 x2 t3) fun z4 => bd (rdI z4 (q + 4) 9 (x2 + (1 : Int32))) fun t5 => bd (wrI z4 (q + 4) 9 x2 t5) fun z6 => lt (x2 + (1 : Int32)) fun x2_7 => ag12 x2_7 z6)
def f_X1_takeOut (q : Nat) (x1 : Int32) (z : Sto) : Option (Sto) := lt (upI z (q) 1 ((z.1 (q) 1) - (1 : Int32))) fun z1 => wl2 (b_X1_takeOut_12 q) fu x1 z1
set_option maxRecDepth 100000 in
set_option maxHeartbeats 4000000 in
theorem w_X1_takeOut_12 {q : Nat}  {Z : Sto} (F : Fx rC p s m args cd cX1_takeOut 3 RX1 G) (hr : meth.sig.returnType = none) (hlk : meth.locks = false) (hq : FrC q)  : ∀ (n : Nat), ∀ (x2 : Int32) (z : Sto), wl2 (b_X1_takeOut_12 q) n x2 z = some Z → ∀ {H : Heap} {locs : List Loc} {ls : Array Slot}, Hh rC G z s H locs → lv_has ls 3 [(0, .ref (G.1 (q))), (2, .int x2)] → W p l e rmX1_takeOut s m args below meth cd H locs 0 0 (MQ below (QV rC G Z) args s 0 0 (Am rC G)) (F0 m 12 ls []) := by
  have hx := F.1
  have hb := F.2.1
  intro n
  induction n with
  | zero =>
    intro x2 z hf
    exact absurd hf (by intro h; cases h)
  | succ n ih =>
    intro x2 z hf  H locs ls hh hl
    replace hf : b_X1_takeOut_12 q (wl2 (b_X1_takeOut_12 q) n) x2 z = some Z := hf
    unfold b_X1_takeOut_12 at hf
    refine lv_iload_n hx hb dX1_takeOut_12 rfl (lv_at hl 1 rfl) ?_
    refine lv_aload_n hx hb dX1_takeOut_13 rfl (lv_at hl 0 rfl) ?_
    refine r_X1_44 F hh (fri0 hq) (frs0 hq) dX1_takeOut_14 ?_
    refine lv_icmp_ge (tgt := 54) hx hb dX1_takeOut_17 (by decide) (fun c2 => ?_) (fun c2 => ?_)
    · replace hf := itp c2 hf
      exact g_vret F hr hlk hh (Option.some.inj hf) dX1_takeOut_54
    · replace hf := itn c2 hf
      refine lv_aload_n hx hb dX1_takeOut_20 rfl (lv_at hl 0 rfl) ?_
      refine r_X1_22 (b' := (q + 3)) F hh (fri0 hq) (frs0 hq) rfl dX1_takeOut_21 ?_
      refine lv_iload_n hx hb dX1_takeOut_24 rfl (lv_at hl 1 rfl) ?_
      refine lv_aload_n hx hb dX1_takeOut_25 rfl (lv_at hl 0 rfl) ?_
      refine r_X1_22 (b' := (q + 3)) F hh (fri0 hq) (frs0 hq) rfl dX1_takeOut_26 ?_
      refine lv_iload_n hx hb dX1_takeOut_29 rfl (lv_at hl 1 rfl) ?_
      refine lv_iconst (v := 1) hx hb dX1_takeOut_30 (by decide) ?_
      refine lv_iadd hx hb dX1_takeOut_31 ?_
      obtain ⟨t3, ht3, hf⟩ := ob hf
      refine g_iald F hh (fri3 hq) (frs3 hq) ht3 dX1_takeOut_32 ?_
      obtain ⟨z4, hz4, hf⟩ := ob hf
      refine g_iast F hh (fri3 hq) (frs3 hq) hz4 dX1_takeOut_33 (fun H locs hh => ?_)
      refine lv_aload_n hx hb dX1_takeOut_34 rfl (lv_at hl 0 rfl) ?_
      refine r_X1_25 (b' := (q + 4)) F hh (fri0 hq) (frs0 hq) rfl dX1_takeOut_35 ?_
      refine lv_iload_n hx hb dX1_takeOut_38 rfl (lv_at hl 1 rfl) ?_
      refine lv_aload_n hx hb dX1_takeOut_39 rfl (lv_at hl 0 rfl) ?_
      refine r_X1_25 (b' := (q + 4)) F hh (fri0 hq) (frs0 hq) rfl dX1_takeOut_40 ?_
      refine lv_iload_n hx hb dX1_takeOut_43 rfl (lv_at hl 1 rfl) ?_
      refine lv_iconst (v := 1) hx hb dX1_takeOut_44 (by decide) ?_
      refine lv_iadd hx hb dX1_takeOut_45 ?_
      obtain ⟨t5, ht5, hf⟩ := ob hf
      refine g_iald F hh (fri4 hq) (frs4 hq) ht5 dX1_takeOut_46 ?_
      obtain ⟨z6, hz6, hf⟩ := ob hf
      refine g_iast F hh (fri4 hq) (frs4 hq) hz6 dX1_takeOut_47 (fun H locs hh => ?_)
      obtain ⟨x2_7, ex2_7⟩ : ∃ y : Int32, y = x2 + (1 : Int32) := ⟨_, rfl⟩
      replace hf := lt_e ex2_7 hf
      refine lv_iinc (v := x2_7) (lv' := [(2, .int x2_7), (0, .ref (G.1 (q)))]) hx hb dX1_takeOut_48 hl (k := 1) rfl (by rw [ex2_7]; rfl) (by decide) rfl (fun ls hl => ?_)
      refine lv_goto (tgt := 12) hx hb dX1_takeOut_51 (by decide) ?_
      exact ih _ _ hf  hh (lv_sub hl [1, 0] rfl)
set_option maxRecDepth 100000 in
set_option maxHeartbeats 4000000 in
theorem w_X1_takeOut {q : Nat} {Z : Sto} (F : Fx rC p s m args cd cX1_takeOut 3 RX1 G) (hr : meth.sig.returnType = none) (hlk : meth.locks = false) (hq : FrC q) {x1 : Int32} {z : Sto} {H : Heap} {locs : List Loc} {ls : Array Slot} (hf : f_X1_takeOut q x1 z = some Z) (hh : Hh rC G z s H locs) (hl : lv_has ls 3 [(0, .ref (G.1 (q))), (1, .int x1)]) : W p l e rmX1_takeOut s m args below meth cd H locs 0 0 (MQ below (QV rC G Z) args s 0 0 (Am rC G)) (F0 m 0 ls []) := by
  have hx := F.1
  have hb := F.2.1
  unfold f_X1_takeOut at hf
  refine lv_aload_n hx hb dX1_takeOut_0 rfl (lv_at hl 0 rfl) ?_
  refine lv_dup hx hb dX1_takeOut_1 rfl ?_
  refine r_X1_44 F hh (fri0 hq) (frs0 hq) dX1_takeOut_2 ?_
  refine lv_iconst (v := 1) hx hb dX1_takeOut_5 (by decide) ?_
  refine lv_isub hx hb dX1_takeOut_6 ?_
  refine s_X1_44 F hh (fri0 hq) (frs0 hq) dX1_takeOut_7 (fun z1 ez1 H locs hh => ?_)
  replace hf := lt_e ez1 hf
  refine lv_iload_n hx hb dX1_takeOut_10 rfl (lv_at hl 1 rfl) ?_
  refine lv_istore_n (lv' := [(2, .int x1), (0, .ref (G.1 (q))), (1, .int x1)]) hx hb dX1_takeOut_11 rfl hl (by decide) rfl (fun ls hl => ?_)
  exact w_X1_takeOut_12 F hr hlk hq fu _ _ hf  hh (lv_sub hl [1, 0] rfl)
theorem c_X1_takeOut {l : Launch} {G : Gm} {q : Nat} {x1 : Int32} {z : Sto} {Z : Sto} (hq : FrC q) (hf : f_X1_takeOut q x1 z = some Z) : Met l yX1_takeOut (Cond.code yX1_takeOut cX1_takeOut 3 none :: TT) rmX1_takeOut (va_Pc [.ref (G.1 (q)), .int x1] (GS rC G z)) (QV rC G Z) 0 0 (Am rC G) := by
  refine g_met [(0, .ref (G.1 (q))), (1, .int x1)] (by decide) (Nat.le_of_ble_eq_true rfl) rfl ?_
  intro p e s m below meth cd F hr hlk ls H locs hl hh
  exact w_X1_takeOut F hr hlk hq hf hh hl
def f_X6_asBit (x0 : Int32) (z : Sto) : Option (Int32) := if x0 = 0 then (some (0 : Int32)) else (some (1 : Int32))
set_option maxRecDepth 100000 in
set_option maxHeartbeats 4000000 in
theorem w_X6_asBit {Z : Int32} (F : Fx rC p s m args cd cX6_asBit 1 RX6 G) (hr : meth.sig.returnType = (some .int)) (hlk : meth.locks = false) {x0 : Int32} {z : Sto} {H : Heap} {locs : List Loc} {ls : Array Slot} (hf : f_X6_asBit x0 z = some Z) (hh : Hh rC G z s H locs) (hl : lv_has ls 1 [(0, .int x0)]) : W p l e rmX6_asBit s m args below meth cd H locs 0 0 (MQ below (QI rC G Z z) args s 0 0 (Am rC G)) (F0 m 0 ls []) := by
  have hx := F.1
  have hb := F.2.1
  unfold f_X6_asBit at hf
  refine lv_iload_n hx hb dX6_asBit_0 rfl (lv_at hl 0 rfl) ?_
  refine lv_if_eq (tgt := 8) hx hb dX6_asBit_1 (by decide) (fun c1 => ?_) (fun c1 => ?_)
  · replace hf := itp c1 hf
    refine lv_iconst (v := 0) hx hb dX6_asBit_8 (by decide) ?_
    exact g_iret F hr hlk hh (Option.some.inj hf) rfl dX6_asBit_9
  · replace hf := itn c1 hf
    refine lv_iconst (v := 1) hx hb dX6_asBit_4 (by decide) ?_
    refine lv_goto (tgt := 9) hx hb dX6_asBit_5 (by decide) ?_
    exact g_iret F hr hlk hh (Option.some.inj hf) rfl dX6_asBit_9
theorem c_X6_asBit {l : Launch} {G : Gm} {x0 : Int32} {z : Sto} {Z : Int32} (hf : f_X6_asBit x0 z = some Z) : Met l yX6_asBit (Cond.code yX6_asBit cX6_asBit 1 (some .int) :: TT) rmX6_asBit (va_Pc [.int x0] (GS rC G z)) (QI rC G Z z) 0 0 (Am rC G) := by
  refine g_met [(0, .int x0)] (by decide) (Nat.le_of_ble_eq_true rfl) rfl ?_
  intro p e s m below meth cd F hr hlk ls H locs hl hh
  exact w_X6_asBit F hr hlk hf hh hl
def j_X1_loseJoint_31 (q : Nat) (ag7 : Int32 → Int32 → Sto → Option (Sto)) (x1 : Int32) (x2 : Int32) (z : Sto) : Option (Sto) := bd (f_X1_takeOut (q) x2 z) fun z14 => lt (x2 + (-1 : Int32)) fun x2_15 => ag7 x1 x2_15 z14
def j_X1_loseJoint_101 (q : Nat) (ag44 : Int32 → Int32 → Sto → Option (Sto)) (x1 : Int32) (x2 : Int32) (k0 : Int32) (k1 : Int32) (k2 : Int32) (z : Sto) : Option (Sto) := bd (f_X6_asBit k0 z) fun t27 => bd (wrI z (q + 4) 9 k2 (k1 - t27)) fun z28 => lt (x2 + (1 : Int32)) fun x2_29 => ag44 x1 x2_29 z28
def j_X1_loseJoint_74 (q : Nat) (ag44 : Int32 → Int32 → Sto → Option (Sto)) (x1 : Int32) (x2 : Int32) (k0 : Int32) (k1 : Int32) (k2 : Int32) (z : Sto) : Option (Sto) := bd (f_X6_asBit k0 z) fun t22 => bd (wrI z (q + 3) 9 k2 (k1 - t22)) fun z23 => bd (rdI z23 (q + 4) 9 x2) fun t24 => bd (rdI z23 (q + 4) 9 x2) fun t25 => if t25 ≤ x1 then (j_X1_loseJoint_101 q ag44 x1 x2 (0 : Int32) t24 x2 z23) else (j_X1_loseJoint_101 q ag44 x1 x2 (1 : Int32) t24 x2 z23)
def b_X1_loseJoint_124 (q : Nat)  (ag124 : Int32 → Sto → Option (Sto)) (x2 : Int32) (z : Sto) : Option (Sto) := if (z.1 (q) 0) ≤ x2 then (some z) else (bd (rdI z (q + 1) 6 (x2 + (1 : Int32))) fun t17 => bd (wrI z (q + 1) 6 x2 t17) fun z18 => bd (rdI z18 (q + 2) 6 (x2 + (1 : Int32))) fun t19 => bd (wrI z18 (q + 2) 6 x2 t19) fun z20 => lt (x2 + (1 : Int32)) fun x2_21 => ag124 x2_21 z20)
def b_X1_loseJoint_44 (q : Nat)  (ag44 : Int32 → Int32 → Sto → Option (Sto)) (x1 : Int32) (x2 : Int32) (z : Sto) : Option (Sto) := if (z.1 (q) 1) ≤ x2 then (lt (upI z (q) 0 ((z.1 (q) 0) - (1 : Int32))) fun z9 => wl2 (b_X1_loseJoint_124 q) fu x1 z9) else (bd (rdI z (q + 3) 9 x2) fun t10 => bd (rdI z (q + 3) 9 x2) fun t11 => if t11 ≤ x1 then (j_X1_loseJoint_74 q ag44 x1 x2 (0 : Int32) t10 x2 z) else (j_X1_loseJoint_74 q ag44 x1 x2 (1 : Int32) t10 x2 z))
def b_X1_loseJoint_7 (q : Nat)  (ag7 : Int32 → Int32 → Sto → Option (Sto)) (x1 : Int32) (x2 : Int32) (z : Sto) : Option (Sto) := if x2 < 0 then (wl3 (b_X1_loseJoint_44 q) fu x1 (0 : Int32) z) else (bd (rdI z (q + 3) 9 x2) fun t3 => if t3 = x1 then (j_X1_loseJoint_31 q ag7 x1 x2 z) else (bd (rdI z (q + 4) 9 x2) fun t5 => if t5 = x1 then (j_X1_loseJoint_31 q ag7 x1 x2 z) else (lt (x2 + (-1 : Int32)) fun x2_7 => ag7 x1 x2_7 z)))
def f_X1_loseJoint (q : Nat) (x1 : Int32) (z : Sto) : Option (Sto) := lt (((z.1 (q) 1) - (1 : Int32))) fun x2_1 => wl3 (b_X1_loseJoint_7 q) fu x1 x2_1 z
set_option maxRecDepth 100000 in
set_option maxHeartbeats 4000000 in
theorem w_X1_loseJoint_31 {q : Nat} {ag7 : Int32 → Int32 → Sto → Option (Sto)} {Z : Sto} (F : Fx rC p s m args cd cX1_loseJoint 3 RX1 G) (hr : meth.sig.returnType = none) (hlk : meth.locks = false) (hq : FrC q) (hag7 : ∀ (x1 : Int32) (x2 : Int32) (z : Sto), ag7 x1 x2 z = some Z → ∀ {H : Heap} {locs : List Loc} {ls : Array Slot}, Hh rC G z s H locs → lv_has ls 3 [(0, .ref (G.1 (q))), (1, .int x1), (2, .int x2)] → W p l e rmX1_loseJoint s m args below meth cd H locs 0 0 (MQ below (QV rC G Z) args s 0 0 (Am rC G)) (F0 m 7 ls [])) {x1 : Int32} {x2 : Int32} {z : Sto} {H : Heap} {locs : List Loc} {ls : Array Slot} (hf : j_X1_loseJoint_31 q ag7 x1 x2 z = some Z) (hh : Hh rC G z s H locs) (hl : lv_has ls 3 [(0, .ref (G.1 (q))), (1, .int x1), (2, .int x2)]) : W p l e rmX1_loseJoint s m args below meth cd H locs 0 0 (MQ below (QV rC G Z) args s 0 0 (Am rC G)) (F0 m 31 ls []) := by
  have hx := F.1
  have hb := F.2.1
  unfold j_X1_loseJoint_31 at hf
  refine lv_aload_n hx hb dX1_loseJoint_31 rfl (lv_at hl 0 rfl) ?_
  refine lv_iload_n hx hb dX1_loseJoint_32 rfl (lv_at hl 2 rfl) ?_
  obtain ⟨z14, ht13, hf⟩ := ob hf
  refine m_X1_87 F hh (c_X1_takeOut hq ht13) (fri0 hq) (frs0 hq) rfl hl (Nat.le_of_ble_eq_true rfl) dX1_loseJoint_33 (fun H locs hh => ?_)
  obtain ⟨x2_15, ex2_15⟩ : ∃ y : Int32, y = x2 + (-1 : Int32) := ⟨_, rfl⟩
  replace hf := lt_e ex2_15 hf
  refine lv_iinc (v := x2_15) (lv' := [(2, .int x2_15), (0, .ref (G.1 (q))), (1, .int x1)]) hx hb dX1_loseJoint_36 hl (k := 2) rfl (by rw [ex2_15]; rfl) (by decide) rfl (fun ls hl => ?_)
  refine lv_goto (tgt := 7) hx hb dX1_loseJoint_39 (by decide) ?_
  exact hag7 _ _ _ hf  hh (lv_sub hl [1, 2, 0] rfl)
set_option maxRecDepth 100000 in
set_option maxHeartbeats 4000000 in
theorem w_X1_loseJoint_101 {q : Nat} {ag44 : Int32 → Int32 → Sto → Option (Sto)} {Z : Sto} (F : Fx rC p s m args cd cX1_loseJoint 3 RX1 G) (hr : meth.sig.returnType = none) (hlk : meth.locks = false) (hq : FrC q) (hag44 : ∀ (x1 : Int32) (x2 : Int32) (z : Sto), ag44 x1 x2 z = some Z → ∀ {H : Heap} {locs : List Loc} {ls : Array Slot}, Hh rC G z s H locs → lv_has ls 3 [(0, .ref (G.1 (q))), (1, .int x1), (2, .int x2)] → W p l e rmX1_loseJoint s m args below meth cd H locs 0 0 (MQ below (QV rC G Z) args s 0 0 (Am rC G)) (F0 m 44 ls [])) {x1 : Int32} {x2 : Int32} {k0 : Int32} {k1 : Int32} {k2 : Int32} {z : Sto} {H : Heap} {locs : List Loc} {ls : Array Slot} (hf : j_X1_loseJoint_101 q ag44 x1 x2 k0 k1 k2 z = some Z) (hh : Hh rC G z s H locs) (hl : lv_has ls 3 [(0, .ref (G.1 (q))), (1, .int x1), (2, .int x2)]) : W p l e rmX1_loseJoint s m args below meth cd H locs 0 0 (MQ below (QV rC G Z) args s 0 0 (Am rC G)) (F0 m 101 ls [.int k0, .int k1, .int k2, .ref (G.1 (q + 4))]) := by
  have hx := F.1
  have hb := F.2.1
  unfold j_X1_loseJoint_101 at hf
  obtain ⟨t27, ht27, hf⟩ := ob hf
  refine m_X1_91 F hh (c_X6_asBit ht27) rfl hl (Nat.le_of_ble_eq_true rfl) dX1_loseJoint_101 (fun H locs hh => ?_)
  refine lv_isub hx hb dX1_loseJoint_104 ?_
  obtain ⟨z28, hz28, hf⟩ := ob hf
  refine g_iast F hh (fri4 hq) (frs4 hq) hz28 dX1_loseJoint_105 (fun H locs hh => ?_)
  obtain ⟨x2_29, ex2_29⟩ : ∃ y : Int32, y = x2 + (1 : Int32) := ⟨_, rfl⟩
  replace hf := lt_e ex2_29 hf
  refine lv_iinc (v := x2_29) (lv' := [(2, .int x2_29), (0, .ref (G.1 (q))), (1, .int x1)]) hx hb dX1_loseJoint_106 hl (k := 2) rfl (by rw [ex2_29]; rfl) (by decide) rfl (fun ls hl => ?_)
  refine lv_goto (tgt := 44) hx hb dX1_loseJoint_109 (by decide) ?_
  exact hag44 _ _ _ hf  hh (lv_sub hl [1, 2, 0] rfl)
set_option maxRecDepth 100000 in
set_option maxHeartbeats 4000000 in
theorem w_X1_loseJoint_74 {q : Nat} {ag44 : Int32 → Int32 → Sto → Option (Sto)} {Z : Sto} (F : Fx rC p s m args cd cX1_loseJoint 3 RX1 G) (hr : meth.sig.returnType = none) (hlk : meth.locks = false) (hq : FrC q) (hag44 : ∀ (x1 : Int32) (x2 : Int32) (z : Sto), ag44 x1 x2 z = some Z → ∀ {H : Heap} {locs : List Loc} {ls : Array Slot}, Hh rC G z s H locs → lv_has ls 3 [(0, .ref (G.1 (q))), (1, .int x1), (2, .int x2)] → W p l e rmX1_loseJoint s m args below meth cd H locs 0 0 (MQ below (QV rC G Z) args s 0 0 (Am rC G)) (F0 m 44 ls [])) {x1 : Int32} {x2 : Int32} {k0 : Int32} {k1 : Int32} {k2 : Int32} {z : Sto} {H : Heap} {locs : List Loc} {ls : Array Slot} (hf : j_X1_loseJoint_74 q ag44 x1 x2 k0 k1 k2 z = some Z) (hh : Hh rC G z s H locs) (hl : lv_has ls 3 [(0, .ref (G.1 (q))), (1, .int x1), (2, .int x2)]) : W p l e rmX1_loseJoint s m args below meth cd H locs 0 0 (MQ below (QV rC G Z) args s 0 0 (Am rC G)) (F0 m 74 ls [.int k0, .int k1, .int k2, .ref (G.1 (q + 3))]) := by
  have hx := F.1
  have hb := F.2.1
  unfold j_X1_loseJoint_74 at hf
  obtain ⟨t22, ht22, hf⟩ := ob hf
  refine m_X1_91 F hh (c_X6_asBit ht22) rfl hl (Nat.le_of_ble_eq_true rfl) dX1_loseJoint_74 (fun H locs hh => ?_)
  refine lv_isub hx hb dX1_loseJoint_77 ?_
  obtain ⟨z23, hz23, hf⟩ := ob hf
  refine g_iast F hh (fri3 hq) (frs3 hq) hz23 dX1_loseJoint_78 (fun H locs hh => ?_)
  refine lv_aload_n hx hb dX1_loseJoint_79 rfl (lv_at hl 0 rfl) ?_
  refine r_X1_25 (b' := (q + 4)) F hh (fri0 hq) (frs0 hq) rfl dX1_loseJoint_80 ?_
  refine lv_iload_n hx hb dX1_loseJoint_83 rfl (lv_at hl 2 rfl) ?_
  refine lv_dup2_11 hx hb dX1_loseJoint_84 rfl rfl ?_
  obtain ⟨t24, ht24, hf⟩ := ob hf
  refine g_iald F hh (fri4 hq) (frs4 hq) ht24 dX1_loseJoint_85 ?_
  refine lv_aload_n hx hb dX1_loseJoint_86 rfl (lv_at hl 0 rfl) ?_
  refine r_X1_25 (b' := (q + 4)) F hh (fri0 hq) (frs0 hq) rfl dX1_loseJoint_87 ?_
  refine lv_iload_n hx hb dX1_loseJoint_90 rfl (lv_at hl 2 rfl) ?_
  obtain ⟨t25, ht25, hf⟩ := ob hf
  refine g_iald F hh (fri4 hq) (frs4 hq) ht25 dX1_loseJoint_91 ?_
  refine lv_iload_n hx hb dX1_loseJoint_92 rfl (lv_at hl 1 rfl) ?_
  refine lv_icmp_le (tgt := 100) hx hb dX1_loseJoint_93 (by decide) (fun c26 => ?_) (fun c26 => ?_)
  · replace hf := itp c26 hf
    refine lv_iconst (v := 0) hx hb dX1_loseJoint_100 (by decide) ?_
    exact w_X1_loseJoint_101 F hr hlk hq hag44 hf  hh (lv_sub hl [0, 1, 2] rfl)
  · replace hf := itn c26 hf
    refine lv_iconst (v := 1) hx hb dX1_loseJoint_96 (by decide) ?_
    refine lv_goto (tgt := 101) hx hb dX1_loseJoint_97 (by decide) ?_
    exact w_X1_loseJoint_101 F hr hlk hq hag44 hf  hh (lv_sub hl [0, 1, 2] rfl)
set_option maxRecDepth 100000 in
set_option maxHeartbeats 4000000 in
theorem w_X1_loseJoint_124 {q : Nat}  {Z : Sto} (F : Fx rC p s m args cd cX1_loseJoint 3 RX1 G) (hr : meth.sig.returnType = none) (hlk : meth.locks = false) (hq : FrC q)  : ∀ (n : Nat), ∀ (x2 : Int32) (z : Sto), wl2 (b_X1_loseJoint_124 q) n x2 z = some Z → ∀ {H : Heap} {locs : List Loc} {ls : Array Slot}, Hh rC G z s H locs → lv_has ls 3 [(0, .ref (G.1 (q))), (2, .int x2)] → W p l e rmX1_loseJoint s m args below meth cd H locs 0 0 (MQ below (QV rC G Z) args s 0 0 (Am rC G)) (F0 m 124 ls []) := by
  have hx := F.1
  have hb := F.2.1
  intro n
  induction n with
  | zero =>
    intro x2 z hf
    exact absurd hf (by intro h; cases h)
  | succ n ih =>
    intro x2 z hf  H locs ls hh hl
    replace hf : b_X1_loseJoint_124 q (wl2 (b_X1_loseJoint_124 q) n) x2 z = some Z := hf
    unfold b_X1_loseJoint_124 at hf
    refine lv_iload_n hx hb dX1_loseJoint_124 rfl (lv_at hl 1 rfl) ?_
    refine lv_aload_n hx hb dX1_loseJoint_125 rfl (lv_at hl 0 rfl) ?_
    refine r_X1_41 F hh (fri0 hq) (frs0 hq) dX1_loseJoint_126 ?_
    refine lv_icmp_ge (tgt := 166) hx hb dX1_loseJoint_129 (by decide) (fun c16 => ?_) (fun c16 => ?_)
    · replace hf := itp c16 hf
      exact g_vret F hr hlk hh (Option.some.inj hf) dX1_loseJoint_166
    · replace hf := itn c16 hf
      refine lv_aload_n hx hb dX1_loseJoint_132 rfl (lv_at hl 0 rfl) ?_
      refine r_X1_15 (b' := (q + 1)) F hh (fri0 hq) (frs0 hq) rfl dX1_loseJoint_133 ?_
      refine lv_iload_n hx hb dX1_loseJoint_136 rfl (lv_at hl 1 rfl) ?_
      refine lv_aload_n hx hb dX1_loseJoint_137 rfl (lv_at hl 0 rfl) ?_
      refine r_X1_15 (b' := (q + 1)) F hh (fri0 hq) (frs0 hq) rfl dX1_loseJoint_138 ?_
      refine lv_iload_n hx hb dX1_loseJoint_141 rfl (lv_at hl 1 rfl) ?_
      refine lv_iconst (v := 1) hx hb dX1_loseJoint_142 (by decide) ?_
      refine lv_iadd hx hb dX1_loseJoint_143 ?_
      obtain ⟨t17, ht17, hf⟩ := ob hf
      refine g_iald F hh (fri1 hq) (frs1 hq) ht17 dX1_loseJoint_144 ?_
      obtain ⟨z18, hz18, hf⟩ := ob hf
      refine g_iast F hh (fri1 hq) (frs1 hq) hz18 dX1_loseJoint_145 (fun H locs hh => ?_)
      refine lv_aload_n hx hb dX1_loseJoint_146 rfl (lv_at hl 0 rfl) ?_
      refine r_X1_19 (b' := (q + 2)) F hh (fri0 hq) (frs0 hq) rfl dX1_loseJoint_147 ?_
      refine lv_iload_n hx hb dX1_loseJoint_150 rfl (lv_at hl 1 rfl) ?_
      refine lv_aload_n hx hb dX1_loseJoint_151 rfl (lv_at hl 0 rfl) ?_
      refine r_X1_19 (b' := (q + 2)) F hh (fri0 hq) (frs0 hq) rfl dX1_loseJoint_152 ?_
      refine lv_iload_n hx hb dX1_loseJoint_155 rfl (lv_at hl 1 rfl) ?_
      refine lv_iconst (v := 1) hx hb dX1_loseJoint_156 (by decide) ?_
      refine lv_iadd hx hb dX1_loseJoint_157 ?_
      obtain ⟨t19, ht19, hf⟩ := ob hf
      refine g_iald F hh (fri2 hq) (frs2 hq) ht19 dX1_loseJoint_158 ?_
      obtain ⟨z20, hz20, hf⟩ := ob hf
      refine g_iast F hh (fri2 hq) (frs2 hq) hz20 dX1_loseJoint_159 (fun H locs hh => ?_)
      obtain ⟨x2_21, ex2_21⟩ : ∃ y : Int32, y = x2 + (1 : Int32) := ⟨_, rfl⟩
      replace hf := lt_e ex2_21 hf
      refine lv_iinc (v := x2_21) (lv' := [(2, .int x2_21), (0, .ref (G.1 (q)))]) hx hb dX1_loseJoint_160 hl (k := 1) rfl (by rw [ex2_21]; rfl) (by decide) rfl (fun ls hl => ?_)
      refine lv_goto (tgt := 124) hx hb dX1_loseJoint_163 (by decide) ?_
      exact ih _ _ hf  hh (lv_sub hl [1, 0] rfl)
set_option maxRecDepth 100000 in
set_option maxHeartbeats 4000000 in
theorem w_X1_loseJoint_44 {q : Nat}  {Z : Sto} (F : Fx rC p s m args cd cX1_loseJoint 3 RX1 G) (hr : meth.sig.returnType = none) (hlk : meth.locks = false) (hq : FrC q)  : ∀ (n : Nat), ∀ (x1 : Int32) (x2 : Int32) (z : Sto), wl3 (b_X1_loseJoint_44 q) n x1 x2 z = some Z → ∀ {H : Heap} {locs : List Loc} {ls : Array Slot}, Hh rC G z s H locs → lv_has ls 3 [(0, .ref (G.1 (q))), (1, .int x1), (2, .int x2)] → W p l e rmX1_loseJoint s m args below meth cd H locs 0 0 (MQ below (QV rC G Z) args s 0 0 (Am rC G)) (F0 m 44 ls []) := by
  have hx := F.1
  have hb := F.2.1
  intro n
  induction n with
  | zero =>
    intro x1 x2 z hf
    exact absurd hf (by intro h; cases h)
  | succ n ih =>
    intro x1 x2 z hf  H locs ls hh hl
    replace hf : b_X1_loseJoint_44 q (wl3 (b_X1_loseJoint_44 q) n) x1 x2 z = some Z := hf
    unfold b_X1_loseJoint_44 at hf
    refine lv_iload_n hx hb dX1_loseJoint_44 rfl (lv_at hl 2 rfl) ?_
    refine lv_aload_n hx hb dX1_loseJoint_45 rfl (lv_at hl 0 rfl) ?_
    refine r_X1_44 F hh (fri0 hq) (frs0 hq) dX1_loseJoint_46 ?_
    refine lv_icmp_ge (tgt := 112) hx hb dX1_loseJoint_49 (by decide) (fun c8 => ?_) (fun c8 => ?_)
    · replace hf := itp c8 hf
      refine lv_aload_n hx hb dX1_loseJoint_112 rfl (lv_at hl 0 rfl) ?_
      refine lv_dup hx hb dX1_loseJoint_113 rfl ?_
      refine r_X1_41 F hh (fri0 hq) (frs0 hq) dX1_loseJoint_114 ?_
      refine lv_iconst (v := 1) hx hb dX1_loseJoint_117 (by decide) ?_
      refine lv_isub hx hb dX1_loseJoint_118 ?_
      refine s_X1_41 F hh (fri0 hq) (frs0 hq) dX1_loseJoint_119 (fun z9 ez9 H locs hh => ?_)
      replace hf := lt_e ez9 hf
      refine lv_iload_n hx hb dX1_loseJoint_122 rfl (lv_at hl 1 rfl) ?_
      refine lv_istore_n (lv' := [(2, .int x1), (0, .ref (G.1 (q))), (1, .int x1)]) hx hb dX1_loseJoint_123 rfl hl (by decide) rfl (fun ls hl => ?_)
      exact w_X1_loseJoint_124 F hr hlk hq fu _ _ hf  hh (lv_sub hl [1, 0] rfl)
    · replace hf := itn c8 hf
      refine lv_aload_n hx hb dX1_loseJoint_52 rfl (lv_at hl 0 rfl) ?_
      refine r_X1_22 (b' := (q + 3)) F hh (fri0 hq) (frs0 hq) rfl dX1_loseJoint_53 ?_
      refine lv_iload_n hx hb dX1_loseJoint_56 rfl (lv_at hl 2 rfl) ?_
      refine lv_dup2_11 hx hb dX1_loseJoint_57 rfl rfl ?_
      obtain ⟨t10, ht10, hf⟩ := ob hf
      refine g_iald F hh (fri3 hq) (frs3 hq) ht10 dX1_loseJoint_58 ?_
      refine lv_aload_n hx hb dX1_loseJoint_59 rfl (lv_at hl 0 rfl) ?_
      refine r_X1_22 (b' := (q + 3)) F hh (fri0 hq) (frs0 hq) rfl dX1_loseJoint_60 ?_
      refine lv_iload_n hx hb dX1_loseJoint_63 rfl (lv_at hl 2 rfl) ?_
      obtain ⟨t11, ht11, hf⟩ := ob hf
      refine g_iald F hh (fri3 hq) (frs3 hq) ht11 dX1_loseJoint_64 ?_
      refine lv_iload_n hx hb dX1_loseJoint_65 rfl (lv_at hl 1 rfl) ?_
      refine lv_icmp_le (tgt := 73) hx hb dX1_loseJoint_66 (by decide) (fun c12 => ?_) (fun c12 => ?_)
      · replace hf := itp c12 hf
        refine lv_iconst (v := 0) hx hb dX1_loseJoint_73 (by decide) ?_
        exact w_X1_loseJoint_74 F hr hlk hq ih hf  hh (lv_sub hl [0, 1, 2] rfl)
      · replace hf := itn c12 hf
        refine lv_iconst (v := 1) hx hb dX1_loseJoint_69 (by decide) ?_
        refine lv_goto (tgt := 74) hx hb dX1_loseJoint_70 (by decide) ?_
        exact w_X1_loseJoint_74 F hr hlk hq ih hf  hh (lv_sub hl [0, 1, 2] rfl)
set_option maxRecDepth 100000 in
set_option maxHeartbeats 4000000 in
theorem w_X1_loseJoint_7 {q : Nat}  {Z : Sto} (F : Fx rC p s m args cd cX1_loseJoint 3 RX1 G) (hr : meth.sig.returnType = none) (hlk : meth.locks = false) (hq : FrC q)  : ∀ (n : Nat), ∀ (x1 : Int32) (x2 : Int32) (z : Sto), wl3 (b_X1_loseJoint_7 q) n x1 x2 z = some Z → ∀ {H : Heap} {locs : List Loc} {ls : Array Slot}, Hh rC G z s H locs → lv_has ls 3 [(0, .ref (G.1 (q))), (1, .int x1), (2, .int x2)] → W p l e rmX1_loseJoint s m args below meth cd H locs 0 0 (MQ below (QV rC G Z) args s 0 0 (Am rC G)) (F0 m 7 ls []) := by
  have hx := F.1
  have hb := F.2.1
  intro n
  induction n with
  | zero =>
    intro x1 x2 z hf
    exact absurd hf (by intro h; cases h)
  | succ n ih =>
    intro x1 x2 z hf  H locs ls hh hl
    replace hf : b_X1_loseJoint_7 q (wl3 (b_X1_loseJoint_7 q) n) x1 x2 z = some Z := hf
    unfold b_X1_loseJoint_7 at hf
    refine lv_iload_n hx hb dX1_loseJoint_7 rfl (lv_at hl 2 rfl) ?_
    refine lv_if_lt (tgt := 42) hx hb dX1_loseJoint_8 (by decide) (fun c2 => ?_) (fun c2 => ?_)
    · replace hf := itp c2 hf
      refine lv_iconst (v := 0) hx hb dX1_loseJoint_42 (by decide) ?_
      refine lv_istore_n (lv' := [(2, .int (0 : Int32)), (0, .ref (G.1 (q))), (1, .int x1)]) hx hb dX1_loseJoint_43 rfl hl (by decide) rfl (fun ls hl => ?_)
      exact w_X1_loseJoint_44 F hr hlk hq fu _ _ _ hf  hh (lv_sub hl [1, 2, 0] rfl)
    · replace hf := itn c2 hf
      refine lv_aload_n hx hb dX1_loseJoint_11 rfl (lv_at hl 0 rfl) ?_
      refine r_X1_22 (b' := (q + 3)) F hh (fri0 hq) (frs0 hq) rfl dX1_loseJoint_12 ?_
      refine lv_iload_n hx hb dX1_loseJoint_15 rfl (lv_at hl 2 rfl) ?_
      obtain ⟨t3, ht3, hf⟩ := ob hf
      refine g_iald F hh (fri3 hq) (frs3 hq) ht3 dX1_loseJoint_16 ?_
      refine lv_iload_n hx hb dX1_loseJoint_17 rfl (lv_at hl 1 rfl) ?_
      refine lv_icmp_eq (tgt := 31) hx hb dX1_loseJoint_18 (by decide) (fun c4 => ?_) (fun c4 => ?_)
      · replace hf := itp c4 hf
        exact w_X1_loseJoint_31 F hr hlk hq ih hf  hh (lv_sub hl [0, 1, 2] rfl)
      · replace hf := itn c4 hf
        refine lv_aload_n hx hb dX1_loseJoint_21 rfl (lv_at hl 0 rfl) ?_
        refine r_X1_25 (b' := (q + 4)) F hh (fri0 hq) (frs0 hq) rfl dX1_loseJoint_22 ?_
        refine lv_iload_n hx hb dX1_loseJoint_25 rfl (lv_at hl 2 rfl) ?_
        obtain ⟨t5, ht5, hf⟩ := ob hf
        refine g_iald F hh (fri4 hq) (frs4 hq) ht5 dX1_loseJoint_26 ?_
        refine lv_iload_n hx hb dX1_loseJoint_27 rfl (lv_at hl 1 rfl) ?_
        refine lv_icmp_ne (tgt := 36) hx hb dX1_loseJoint_28 (by decide) (fun c6 => ?_) (fun c6 => ?_)
        · replace hf := itn c6 hf
          obtain ⟨x2_7, ex2_7⟩ : ∃ y : Int32, y = x2 + (-1 : Int32) := ⟨_, rfl⟩
          replace hf := lt_e ex2_7 hf
          refine lv_iinc (v := x2_7) (lv' := [(2, .int x2_7), (0, .ref (G.1 (q))), (1, .int x1)]) hx hb dX1_loseJoint_36 hl (k := 2) rfl (by rw [ex2_7]; rfl) (by decide) rfl (fun ls hl => ?_)
          refine lv_goto (tgt := 7) hx hb dX1_loseJoint_39 (by decide) ?_
          exact ih _ _ _ hf  hh (lv_sub hl [1, 2, 0] rfl)
        · replace hf := itp c6 hf
          exact w_X1_loseJoint_31 F hr hlk hq ih hf  hh (lv_sub hl [0, 1, 2] rfl)
set_option maxRecDepth 100000 in
set_option maxHeartbeats 4000000 in
theorem w_X1_loseJoint {q : Nat} {Z : Sto} (F : Fx rC p s m args cd cX1_loseJoint 3 RX1 G) (hr : meth.sig.returnType = none) (hlk : meth.locks = false) (hq : FrC q) {x1 : Int32} {z : Sto} {H : Heap} {locs : List Loc} {ls : Array Slot} (hf : f_X1_loseJoint q x1 z = some Z) (hh : Hh rC G z s H locs) (hl : lv_has ls 3 [(0, .ref (G.1 (q))), (1, .int x1)]) : W p l e rmX1_loseJoint s m args below meth cd H locs 0 0 (MQ below (QV rC G Z) args s 0 0 (Am rC G)) (F0 m 0 ls []) := by
  have hx := F.1
  have hb := F.2.1
  unfold f_X1_loseJoint at hf
  refine lv_aload_n hx hb dX1_loseJoint_0 rfl (lv_at hl 0 rfl) ?_
  refine r_X1_44 F hh (fri0 hq) (frs0 hq) dX1_loseJoint_1 ?_
  refine lv_iconst (v := 1) hx hb dX1_loseJoint_4 (by decide) ?_
  refine lv_isub hx hb dX1_loseJoint_5 ?_
  refine lv_topi (fun x2_1 ex2_1 => ?_)
  replace hf := lt_e ex2_1 hf
  refine lv_istore_n (lv' := [(2, .int x2_1), (0, .ref (G.1 (q))), (1, .int x1)]) hx hb dX1_loseJoint_6 rfl hl (by decide) rfl (fun ls hl => ?_)
  exact w_X1_loseJoint_7 F hr hlk hq fu _ _ _ hf  hh (lv_sub hl [1, 2, 0] rfl)
theorem c_X1_loseJoint {l : Launch} {G : Gm} {q : Nat} {x1 : Int32} {z : Sto} {Z : Sto} (hq : FrC q) (hf : f_X1_loseJoint q x1 z = some Z) : Met l yX1_loseJoint (Cond.code yX1_loseJoint cX1_loseJoint 3 none :: TT) rmX1_loseJoint (va_Pc [.ref (G.1 (q)), .int x1] (GS rC G z)) (QV rC G Z) 0 0 (Am rC G) := by
  refine g_met [(0, .ref (G.1 (q))), (1, .int x1)] (by decide) (Nat.le_of_ble_eq_true rfl) rfl ?_
  intro p e s m below meth cd F hr hlk ls H locs hl hh
  exact w_X1_loseJoint F hr hlk hq hf hh hl
