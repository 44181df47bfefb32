variable {p : Program} {l : Launch} {e : Env} {s : State} {m : MethodId} {args : Array Value} {below : List Frame} {meth : Method} {cd : Code} {G : Gm}

def f_X7_in (x0 : Int64) (x2 : Int64) (x4 : Int64) (z : Sto) : Option (Int32) := if (lg_cmp x0 x2) < 0 then (some (0 : Int32)) else (if 0 < (lg_cmp x0 x4) then (some (0 : Int32)) else (some (1 : Int32)))
set_option maxRecDepth 100000 in
set_option maxHeartbeats 4000000 in
theorem w_X7_in {Z : Int32} (F : Fx rM p s m args cd cX7_in 6 RX7 G) (hr : meth.sig.returnType = (some .boolean)) (hlk : meth.locks = false) {x0 : Int64} {x2 : Int64} {x4 : Int64} {z : Sto} {H : Heap} {locs : List Loc} {ls : Array Slot} (hf : f_X7_in x0 x2 x4 z = some Z) (hh : Hh rM G z s H locs) (hl : lv_has ls 6 [(0, .long x0), (2, .long x2), (4, .long x4)]) : W p l e rmX7_in s m args below meth cd H locs 0 0 (MQ below (QI rM G Z z) args s 0 0 (Am rM G)) (F0 m 0 ls []) := by
  have hx := F.1
  have hb := F.2.1
  unfold f_X7_in at hf
  refine lv_lload_n hx hb dX7_in_0 rfl (lv_at hl 0 rfl) ?_
  refine lv_lload_n hx hb dX7_in_1 rfl (lv_at hl 1 rfl) ?_
  refine W.lcmp hx hb dX7_in_2 ?_
  refine lv_if_lt (tgt := 17) hx hb dX7_in_3 (by decide) (fun c1 => ?_) (fun c1 => ?_)
  · replace hf := itp c1 hf
    refine lv_iconst (v := 0) hx hb dX7_in_17 (by decide) ?_
    exact g_zret F hr hlk rfl hh (Option.some.inj hf) rfl dX7_in_18
  · replace hf := itn c1 hf
    refine lv_lload_n hx hb dX7_in_6 rfl (lv_at hl 0 rfl) ?_
    refine lv_lload hx hb dX7_in_7 (lv_at hl 2 rfl) ?_
    refine W.lcmp hx hb dX7_in_9 ?_
    refine lv_if_gt (tgt := 17) hx hb dX7_in_10 (by decide) (fun c2 => ?_) (fun c2 => ?_)
    · replace hf := itp c2 hf
      refine lv_iconst (v := 0) hx hb dX7_in_17 (by decide) ?_
      exact g_zret F hr hlk rfl hh (Option.some.inj hf) rfl dX7_in_18
    · replace hf := itn c2 hf
      refine lv_iconst (v := 1) hx hb dX7_in_13 (by decide) ?_
      refine lv_goto (tgt := 18) hx hb dX7_in_14 (by decide) ?_
      exact g_zret F hr hlk rfl hh (Option.some.inj hf) rfl dX7_in_18
theorem c_X7_in {l : Launch} {G : Gm} {x0 : Int64} {x2 : Int64} {x4 : Int64} {z : Sto} {Z : Int32} (hf : f_X7_in x0 x2 x4 z = some Z) : Met l yX7_in (Cond.code yX7_in cX7_in 6 (some .boolean) :: TT) rmX7_in (va_Pc [.long x0, .long x2, .long x4] (GS rM G z)) (QI rM G Z z) 0 0 (Am rM G) := by
  refine g_met [(0, .long x0), (2, .long x2), (4, .long x4)] (by decide) (Nat.le_of_ble_eq_true rfl) rfl ?_
  intro p e s m below meth cd F hr hlk ls H locs hl hh
  exact w_X7_in F hr hlk hf hh hl
def f_X7_x (x1 : Int32) (z : Sto) : Option (Int32) := bd (rdI z 123 42 ((3 : Int32) + ((2 : Int32) * x1))) fun t1 => some t1
set_option maxRecDepth 100000 in
set_option maxHeartbeats 4000000 in
theorem w_X7_x {Z : Int32} (F : Fx rM p s m args cd cX7_x 2 RX7 G) (hr : meth.sig.returnType = (some .int)) (hlk : meth.locks = false) {x1 : Int32} {z : Sto} {H : Heap} {locs : List Loc} {ls : Array Slot} (hf : f_X7_x x1 z = some Z) (hh : Hh rM G z s H locs) (hl : lv_has ls 2 [(0, .ref (G.1 122)), (1, .int x1)]) : W p l e rmX7_x s m args below meth cd H locs 0 0 (MQ below (QI rM G Z z) args s 0 0 (Am rM G)) (F0 m 0 ls []) := by
  have hx := F.1
  have hb := F.2.1
  unfold f_X7_x at hf
  refine lv_aload_n hx hb dX7_x_0 rfl (lv_at hl 0 rfl) ?_
  refine r_X7_7 (b' := 123) F hh in_122 sh_122 rfl dX7_x_1 ?_
  refine lv_iconst (v := 3) hx hb dX7_x_4 (by decide) ?_
  refine lv_iconst (v := 2) hx hb dX7_x_5 (by decide) ?_
  refine lv_iload_n hx hb dX7_x_6 rfl (lv_at hl 1 rfl) ?_
  refine lv_imul hx hb dX7_x_7 ?_
  refine lv_iadd hx hb dX7_x_8 ?_
  obtain ⟨t1, ht1, hf⟩ := ob hf
  refine g_iald F hh in_123 sh_123 ht1 dX7_x_9 ?_
  exact g_iret F hr hlk hh (Option.some.inj hf) rfl dX7_x_10
theorem c_X7_x {l : Launch} {G : Gm} {x1 : Int32} {z : Sto} {Z : Int32} (hf : f_X7_x x1 z = some Z) : Met l yX7_x (Cond.code yX7_x cX7_x 2 (some .int) :: TT) rmX7_x (va_Pc [.ref (G.1 122), .int x1] (GS rM G z)) (QI rM G Z z) 0 0 (Am rM G) := by
  refine g_met [(0, .ref (G.1 122)), (1, .int x1)] (by decide) (Nat.le_of_ble_eq_true rfl) rfl ?_
  intro p e s m below meth cd F hr hlk ls H locs hl hh
  exact w_X7_x F hr hlk hf hh hl
def f_X7_y (x1 : Int32) (z : Sto) : Option (Int32) := bd (rdI z 123 42 (((3 : Int32) + ((2 : Int32) * x1)) + (1 : Int32))) fun t1 => some t1
set_option maxRecDepth 100000 in
set_option maxHeartbeats 4000000 in
theorem w_X7_y {Z : Int32} (F : Fx rM p s m args cd cX7_y 2 RX7 G) (hr : meth.sig.returnType = (some .int)) (hlk : meth.locks = false) {x1 : Int32} {z : Sto} {H : Heap} {locs : List Loc} {ls : Array Slot} (hf : f_X7_y x1 z = some Z) (hh : Hh rM G z s H locs) (hl : lv_has ls 2 [(0, .ref (G.1 122)), (1, .int x1)]) : W p l e rmX7_y s m args below meth cd H locs 0 0 (MQ below (QI rM G Z z) args s 0 0 (Am rM G)) (F0 m 0 ls []) := by
  have hx := F.1
  have hb := F.2.1
  unfold f_X7_y at hf
  refine lv_aload_n hx hb dX7_y_0 rfl (lv_at hl 0 rfl) ?_
  refine r_X7_7 (b' := 123) F hh in_122 sh_122 rfl dX7_y_1 ?_
  refine lv_iconst (v := 3) hx hb dX7_y_4 (by decide) ?_
  refine lv_iconst (v := 2) hx hb dX7_y_5 (by decide) ?_
  refine lv_iload_n hx hb dX7_y_6 rfl (lv_at hl 1 rfl) ?_
  refine lv_imul hx hb dX7_y_7 ?_
  refine lv_iadd hx hb dX7_y_8 ?_
  refine lv_iconst (v := 1) hx hb dX7_y_9 (by decide) ?_
  refine lv_iadd hx hb dX7_y_10 ?_
  obtain ⟨t1, ht1, hf⟩ := ob hf
  refine g_iald F hh in_123 sh_123 ht1 dX7_y_11 ?_
  exact g_iret F hr hlk hh (Option.some.inj hf) rfl dX7_y_12
theorem c_X7_y {l : Launch} {G : Gm} {x1 : Int32} {z : Sto} {Z : Int32} (hf : f_X7_y x1 z = some Z) : Met l yX7_y (Cond.code yX7_y cX7_y 2 (some .int) :: TT) rmX7_y (va_Pc [.ref (G.1 122), .int x1] (GS rM G z)) (QI rM G Z z) 0 0 (Am rM G) := by
  refine g_met [(0, .ref (G.1 122)), (1, .int x1)] (by decide) (Nat.le_of_ble_eq_true rfl) rfl ?_
  intro p e s m below meth cd F hr hlk ls H locs hl hh
  exact w_X7_y F hr hlk hf hh hl
def f_X7_isJoint (x1 : Int32) (z : Sto) : Option (Int32) := bd (rdI z 123 42 (0 : Int32)) fun t1 => bd (f_X7_in ((Int32.toInt64 x1)) (0 : Int64) ((Int32.toInt64 (t1 - (1 : Int32)))) z) fun t2 => bd (bz t2) fun t3 => some t3
set_option maxRecDepth 100000 in
set_option maxHeartbeats 4000000 in
theorem w_X7_isJoint {Z : Int32} (F : Fx rM p s m args cd cX7_isJoint 2 RX7 G) (hr : meth.sig.returnType = (some .boolean)) (hlk : meth.locks = false) {x1 : Int32} {z : Sto} {H : Heap} {locs : List Loc} {ls : Array Slot} (hf : f_X7_isJoint x1 z = some Z) (hh : Hh rM G z s H locs) (hl : lv_has ls 2 [(0, .ref (G.1 122)), (1, .int x1)]) : W p l e rmX7_isJoint s m args below meth cd H locs 0 0 (MQ below (QI rM G Z z) args s 0 0 (Am rM G)) (F0 m 0 ls []) := by
  have hx := F.1
  have hb := F.2.1
  unfold f_X7_isJoint at hf
  refine lv_iload_n hx hb dX7_isJoint_0 rfl (lv_at hl 1 rfl) ?_
  refine lv_i2l hx hb dX7_isJoint_1 rfl ?_
  refine lv_lconst (v := 0) hx hb dX7_isJoint_2 (by decide) ?_
  refine lv_aload_n hx hb dX7_isJoint_3 rfl (lv_at hl 0 rfl) ?_
  refine r_X7_7 (b' := 123) F hh in_122 sh_122 rfl dX7_isJoint_4 ?_
  refine lv_iconst (v := 0) hx hb dX7_isJoint_7 (by decide) ?_
  obtain ⟨t1, ht1, hf⟩ := ob hf
  refine g_iald F hh in_123 sh_123 ht1 dX7_isJoint_8 ?_
  refine lv_iconst (v := 1) hx hb dX7_isJoint_9 (by decide) ?_
  refine lv_isub hx hb dX7_isJoint_10 ?_
  refine lv_i2l hx hb dX7_isJoint_11 rfl ?_
  obtain ⟨t2, ht2, hf⟩ := ob hf
  refine m_X7_79 F hh (c_X7_in ht2) rfl hl (Nat.le_of_ble_eq_true rfl) dX7_isJoint_12 (fun H locs hh => ?_)
  obtain ⟨t3, ht3, hf⟩ := ob hf
  exact g_zret F hr hlk (bz_e ht3).2 hh ((bz_e ht3).1.symm.trans (Option.some.inj hf)) rfl dX7_isJoint_15
theorem c_X7_isJoint {l : Launch} {G : Gm} {x1 : Int32} {z : Sto} {Z : Int32} (hf : f_X7_isJoint x1 z = some Z) : Met l yX7_isJoint (Cond.code yX7_isJoint cX7_isJoint 2 (some .boolean) :: TT) rmX7_isJoint (va_Pc [.ref (G.1 122), .int x1] (GS rM G z)) (QI rM G Z z) 0 0 (Am rM G) := by
  refine g_met [(0, .ref (G.1 122)), (1, .int x1)] (by decide) (Nat.le_of_ble_eq_true rfl) rfl ?_
  intro p e s m below meth cd F hr hlk ls H locs hl hh
  exact w_X7_isJoint F hr hlk hf hh hl
def f_X7_isBar (x1 : Int32) (z : Sto) : Option (Int32) := bd (rdI z 123 42 (1 : Int32)) fun t1 => bd (f_X7_in ((Int32.toInt64 x1)) (0 : Int64) ((Int32.toInt64 (t1 - (1 : Int32)))) z) fun t2 => bd (bz t2) fun t3 => some t3
set_option maxRecDepth 100000 in
set_option maxHeartbeats 4000000 in
theorem w_X7_isBar {Z : Int32} (F : Fx rM p s m args cd cX7_isBar 2 RX7 G) (hr : meth.sig.returnType = (some .boolean)) (hlk : meth.locks = false) {x1 : Int32} {z : Sto} {H : Heap} {locs : List Loc} {ls : Array Slot} (hf : f_X7_isBar x1 z = some Z) (hh : Hh rM G z s H locs) (hl : lv_has ls 2 [(0, .ref (G.1 122)), (1, .int x1)]) : W p l e rmX7_isBar s m args below meth cd H locs 0 0 (MQ below (QI rM G Z z) args s 0 0 (Am rM G)) (F0 m 0 ls []) := by
  have hx := F.1
  have hb := F.2.1
  unfold f_X7_isBar at hf
  refine lv_iload_n hx hb dX7_isBar_0 rfl (lv_at hl 1 rfl) ?_
  refine lv_i2l hx hb dX7_isBar_1 rfl ?_
  refine lv_lconst (v := 0) hx hb dX7_isBar_2 (by decide) ?_
  refine lv_aload_n hx hb dX7_isBar_3 rfl (lv_at hl 0 rfl) ?_
  refine r_X7_7 (b' := 123) F hh in_122 sh_122 rfl dX7_isBar_4 ?_
  refine lv_iconst (v := 1) hx hb dX7_isBar_7 (by decide) ?_
  obtain ⟨t1, ht1, hf⟩ := ob hf
  refine g_iald F hh in_123 sh_123 ht1 dX7_isBar_8 ?_
  refine lv_iconst (v := 1) hx hb dX7_isBar_9 (by decide) ?_
  refine lv_isub hx hb dX7_isBar_10 ?_
  refine lv_i2l hx hb dX7_isBar_11 rfl ?_
  obtain ⟨t2, ht2, hf⟩ := ob hf
  refine m_X7_79 F hh (c_X7_in ht2) rfl hl (Nat.le_of_ble_eq_true rfl) dX7_isBar_12 (fun H locs hh => ?_)
  obtain ⟨t3, ht3, hf⟩ := ob hf
  exact g_zret F hr hlk (bz_e ht3).2 hh ((bz_e ht3).1.symm.trans (Option.some.inj hf)) rfl dX7_isBar_15
theorem c_X7_isBar {l : Launch} {G : Gm} {x1 : Int32} {z : Sto} {Z : Int32} (hf : f_X7_isBar x1 z = some Z) : Met l yX7_isBar (Cond.code yX7_isBar cX7_isBar 2 (some .boolean) :: TT) rmX7_isBar (va_Pc [.ref (G.1 122), .int x1] (GS rM G z)) (QI rM G Z z) 0 0 (Am rM G) := by
  refine g_met [(0, .ref (G.1 122)), (1, .int x1)] (by decide) (Nat.le_of_ble_eq_true rfl) rfl ?_
  intro p e s m below meth cd F hr hlk ls H locs hl hh
  exact w_X7_isBar F hr hlk hf hh hl
def f_X7_from (x1 : Int32) (z : Sto) : Option (Int32) := bd (rdI z 123 42 ((15 : Int32) + x1)) fun t1 => some t1
set_option maxRecDepth 100000 in
set_option maxHeartbeats 4000000 in
theorem w_X7_from {Z : Int32} (F : Fx rM p s m args cd cX7_from 2 RX7 G) (hr : meth.sig.returnType = (some .int)) (hlk : meth.locks = false) {x1 : Int32} {z : Sto} {H : Heap} {locs : List Loc} {ls : Array Slot} (hf : f_X7_from x1 z = some Z) (hh : Hh rM G z s H locs) (hl : lv_has ls 2 [(0, .ref (G.1 122)), (1, .int x1)]) : W p l e rmX7_from s m args below meth cd H locs 0 0 (MQ below (QI rM G Z z) args s 0 0 (Am rM G)) (F0 m 0 ls []) := by
  have hx := F.1
  have hb := F.2.1
  unfold f_X7_from at hf
  refine lv_aload_n hx hb dX7_from_0 rfl (lv_at hl 0 rfl) ?_
  refine r_X7_7 (b' := 123) F hh in_122 sh_122 rfl dX7_from_1 ?_
  refine lv_bipush (v := 15) hx hb dX7_from_4 (by decide) ?_
  refine lv_iload_n hx hb dX7_from_6 rfl (lv_at hl 1 rfl) ?_
  refine lv_iadd hx hb dX7_from_7 ?_
  obtain ⟨t1, ht1, hf⟩ := ob hf
  refine g_iald F hh in_123 sh_123 ht1 dX7_from_8 ?_
  exact g_iret F hr hlk hh (Option.some.inj hf) rfl dX7_from_9
theorem c_X7_from {l : Launch} {G : Gm} {x1 : Int32} {z : Sto} {Z : Int32} (hf : f_X7_from x1 z = some Z) : Met l yX7_from (Cond.code yX7_from cX7_from 2 (some .int) :: TT) rmX7_from (va_Pc [.ref (G.1 122), .int x1] (GS rM G z)) (QI rM G Z z) 0 0 (Am rM G) := by
  refine g_met [(0, .ref (G.1 122)), (1, .int x1)] (by decide) (Nat.le_of_ble_eq_true rfl) rfl ?_
  intro p e s m below meth cd F hr hlk ls H locs hl hh
  exact w_X7_from F hr hlk hf hh hl
def f_X7_to (x1 : Int32) (z : Sto) : Option (Int32) := if (x1 - x1 / (2 : Int32) * (2 : Int32)) = 0 then (bd (rdI z 123 42 ((15 : Int32) + (x1 + (1 : Int32)))) fun t3 => some t3) else (bd (rdI z 123 42 ((15 : Int32) + (x1 - (1 : Int32)))) fun t2 => some t2)
set_option maxRecDepth 100000 in
set_option maxHeartbeats 4000000 in
theorem w_X7_to {Z : Int32} (F : Fx rM p s m args cd cX7_to 2 RX7 G) (hr : meth.sig.returnType = (some .int)) (hlk : meth.locks = false) {x1 : Int32} {z : Sto} {H : Heap} {locs : List Loc} {ls : Array Slot} (hf : f_X7_to x1 z = some Z) (hh : Hh rM G z s H locs) (hl : lv_has ls 2 [(0, .ref (G.1 122)), (1, .int x1)]) : W p l e rmX7_to s m args below meth cd H locs 0 0 (MQ below (QI rM G Z z) args s 0 0 (Am rM G)) (F0 m 0 ls []) := by
  have hx := F.1
  have hb := F.2.1
  unfold f_X7_to at hf
  refine lv_aload_n hx hb dX7_to_0 rfl (lv_at hl 0 rfl) ?_
  refine r_X7_7 (b' := 123) F hh in_122 sh_122 rfl dX7_to_1 ?_
  refine lv_bipush (v := 15) hx hb dX7_to_4 (by decide) ?_
  refine lv_iload_n hx hb dX7_to_6 rfl (lv_at hl 1 rfl) ?_
  refine lv_iconst (v := 2) hx hb dX7_to_7 (by decide) ?_
  refine lv_irem hx hb dX7_to_8 (by decide) ?_
  refine lv_if_ne (tgt := 18) hx hb dX7_to_9 (by decide) (fun c1 => ?_) (fun c1 => ?_)
  · replace hf := itn c1 hf
    refine lv_iload_n hx hb dX7_to_18 rfl (lv_at hl 1 rfl) ?_
    refine lv_iconst (v := 1) hx hb dX7_to_19 (by decide) ?_
    refine lv_isub hx hb dX7_to_20 ?_
    refine lv_iadd hx hb dX7_to_21 ?_
    obtain ⟨t2, ht2, hf⟩ := ob hf
    refine g_iald F hh in_123 sh_123 ht2 dX7_to_22 ?_
    exact g_iret F hr hlk hh (Option.some.inj hf) rfl dX7_to_23
  · replace hf := itp c1 hf
    refine lv_iload_n hx hb dX7_to_12 rfl (lv_at hl 1 rfl) ?_
    refine lv_iconst (v := 1) hx hb dX7_to_13 (by decide) ?_
    refine lv_iadd hx hb dX7_to_14 ?_
    refine lv_goto (tgt := 21) hx hb dX7_to_15 (by decide) ?_
    refine lv_iadd hx hb dX7_to_21 ?_
    obtain ⟨t3, ht3, hf⟩ := ob hf
    refine g_iald F hh in_123 sh_123 ht3 dX7_to_22 ?_
    exact g_iret F hr hlk hh (Option.some.inj hf) rfl dX7_to_23
theorem c_X7_to {l : Launch} {G : Gm} {x1 : Int32} {z : Sto} {Z : Int32} (hf : f_X7_to x1 z = some Z) : Met l yX7_to (Cond.code yX7_to cX7_to 2 (some .int) :: TT) rmX7_to (va_Pc [.ref (G.1 122), .int x1] (GS rM G z)) (QI rM G Z z) 0 0 (Am rM G) := by
  refine g_met [(0, .ref (G.1 122)), (1, .int x1)] (by decide) (Nat.le_of_ble_eq_true rfl) rfl ?_
  intro p e s m below meth cd F hr hlk ls H locs hl hh
  exact w_X7_to F hr hlk hf hh hl
def f_X7_back (x0 : Int32) (z : Sto) : Option (Int32) := if (x0 - x0 / (2 : Int32) * (2 : Int32)) = 0 then (some (x0 + (1 : Int32))) else (some (x0 - (1 : Int32)))
set_option maxRecDepth 100000 in
set_option maxHeartbeats 4000000 in
theorem w_X7_back {Z : Int32} (F : Fx rM p s m args cd cX7_back 1 RX7 G) (hr : meth.sig.returnType = (some .int)) (hlk : meth.locks = false) {x0 : Int32} {z : Sto} {H : Heap} {locs : List Loc} {ls : Array Slot} (hf : f_X7_back x0 z = some Z) (hh : Hh rM G z s H locs) (hl : lv_has ls 1 [(0, .int x0)]) : W p l e rmX7_back s m args below meth cd H locs 0 0 (MQ below (QI rM G Z z) args s 0 0 (Am rM G)) (F0 m 0 ls []) := by
  have hx := F.1
  have hb := F.2.1
  unfold f_X7_back at hf
  refine lv_iload_n hx hb dX7_back_0 rfl (lv_at hl 0 rfl) ?_
  refine lv_iconst (v := 2) hx hb dX7_back_1 (by decide) ?_
  refine lv_irem hx hb dX7_back_2 (by decide) ?_
  refine lv_if_ne (tgt := 12) hx hb dX7_back_3 (by decide) (fun c1 => ?_) (fun c1 => ?_)
  · replace hf := itn c1 hf
    refine lv_iload_n hx hb dX7_back_12 rfl (lv_at hl 0 rfl) ?_
    refine lv_iconst (v := 1) hx hb dX7_back_13 (by decide) ?_
    refine lv_isub hx hb dX7_back_14 ?_
    exact g_iret F hr hlk hh (Option.some.inj hf) rfl dX7_back_15
  · replace hf := itp c1 hf
    refine lv_iload_n hx hb dX7_back_6 rfl (lv_at hl 0 rfl) ?_
    refine lv_iconst (v := 1) hx hb dX7_back_7 (by decide) ?_
    refine lv_iadd hx hb dX7_back_8 ?_
    refine lv_goto (tgt := 15) hx hb dX7_back_9 (by decide) ?_
    exact g_iret F hr hlk hh (Option.some.inj hf) rfl dX7_back_15
theorem c_X7_back {l : Launch} {G : Gm} {x0 : Int32} {z : Sto} {Z : Int32} (hf : f_X7_back x0 z = some Z) : Met l yX7_back (Cond.code yX7_back cX7_back 1 (some .int) :: TT) rmX7_back (va_Pc [.int x0] (GS rM G z)) (QI rM G Z z) 0 0 (Am rM G) := by
  refine g_met [(0, .int x0)] (by decide) (Nat.le_of_ble_eq_true rfl) rfl ?_
  intro p e s m below meth cd F hr hlk ls H locs hl hh
  exact w_X7_back F hr hlk hf hh hl
def f_X7_turn (x1 : Int32) (x2 : Int32) (x3 : Int32) (z : Sto) : Option (Int32) := bd (f_X7_x x2 z) fun t1 => bd (f_X7_x x1 z) fun t2 => bd (f_X7_y x3 z) fun t3 => bd (f_X7_y x1 z) fun t4 => bd (f_X7_y x2 z) fun t5 => bd (f_X7_y x1 z) fun t6 => bd (f_X7_x x3 z) fun t7 => bd (f_X7_x x1 z) fun t8 => some (((t1 - t2) * (t3 - t4)) - ((t5 - t6) * (t7 - t8)))
set_option maxRecDepth 100000 in
set_option maxHeartbeats 4000000 in
theorem w_X7_turn {Z : Int32} (F : Fx rM p s m args cd cX7_turn 4 RX7 G) (hr : meth.sig.returnType = (some .int)) (hlk : meth.locks = false) {x1 : Int32} {x2 : Int32} {x3 : Int32} {z : Sto} {H : Heap} {locs : List Loc} {ls : Array Slot} (hf : f_X7_turn x1 x2 x3 z = some Z) (hh : Hh rM G z s H locs) (hl : lv_has ls 4 [(0, .ref (G.1 122)), (1, .int x1), (2, .int x2), (3, .int x3)]) : W p l e rmX7_turn s m args below meth cd H locs 0 0 (MQ below (QI rM G Z z) args s 0 0 (Am rM G)) (F0 m 0 ls []) := by
  have hx := F.1
  have hb := F.2.1
  unfold f_X7_turn at hf
  refine lv_aload_n hx hb dX7_turn_0 rfl (lv_at hl 0 rfl) ?_
  refine lv_iload_n hx hb dX7_turn_1 rfl (lv_at hl 2 rfl) ?_
  obtain ⟨t1, ht1, hf⟩ := ob hf
  refine m_X7_83 F hh (c_X7_x ht1) in_122 sh_122 rfl hl (Nat.le_of_ble_eq_true rfl) dX7_turn_2 (fun H locs hh => ?_)
  refine lv_aload_n hx hb dX7_turn_5 rfl (lv_at hl 0 rfl) ?_
  refine lv_iload_n hx hb dX7_turn_6 rfl (lv_at hl 1 rfl) ?_
  obtain ⟨t2, ht2, hf⟩ := ob hf
  refine m_X7_83 F hh (c_X7_x ht2) in_122 sh_122 rfl hl (Nat.le_of_ble_eq_true rfl) dX7_turn_7 (fun H locs hh => ?_)
  refine lv_isub hx hb dX7_turn_10 ?_
  refine lv_aload_n hx hb dX7_turn_11 rfl (lv_at hl 0 rfl) ?_
  refine lv_iload_n hx hb dX7_turn_12 rfl (lv_at hl 3 rfl) ?_
  obtain ⟨t3, ht3, hf⟩ := ob hf
  refine m_X7_87 F hh (c_X7_y ht3) in_122 sh_122 rfl hl (Nat.le_of_ble_eq_true rfl) dX7_turn_13 (fun H locs hh => ?_)
  refine lv_aload_n hx hb dX7_turn_16 rfl (lv_at hl 0 rfl) ?_
  refine lv_iload_n hx hb dX7_turn_17 rfl (lv_at hl 1 rfl) ?_
  obtain ⟨t4, ht4, hf⟩ := ob hf
  refine m_X7_87 F hh (c_X7_y ht4) in_122 sh_122 rfl hl (Nat.le_of_ble_eq_true rfl) dX7_turn_18 (fun H locs hh => ?_)
  refine lv_isub hx hb dX7_turn_21 ?_
  refine lv_imul hx hb dX7_turn_22 ?_
  refine lv_aload_n hx hb dX7_turn_23 rfl (lv_at hl 0 rfl) ?_
  refine lv_iload_n hx hb dX7_turn_24 rfl (lv_at hl 2 rfl) ?_
  obtain ⟨t5, ht5, hf⟩ := ob hf
  refine m_X7_87 F hh (c_X7_y ht5) in_122 sh_122 rfl hl (Nat.le_of_ble_eq_true rfl) dX7_turn_25 (fun H locs hh => ?_)
  refine lv_aload_n hx hb dX7_turn_28 rfl (lv_at hl 0 rfl) ?_
  refine lv_iload_n hx hb dX7_turn_29 rfl (lv_at hl 1 rfl) ?_
  obtain ⟨t6, ht6, hf⟩ := ob hf
  refine m_X7_87 F hh (c_X7_y ht6) in_122 sh_122 rfl hl (Nat.le_of_ble_eq_true rfl) dX7_turn_30 (fun H locs hh => ?_)
  refine lv_isub hx hb dX7_turn_33 ?_
  refine lv_aload_n hx hb dX7_turn_34 rfl (lv_at hl 0 rfl) ?_
  refine lv_iload_n hx hb dX7_turn_35 rfl (lv_at hl 3 rfl) ?_
  obtain ⟨t7, ht7, hf⟩ := ob hf
  refine m_X7_83 F hh (c_X7_x ht7) in_122 sh_122 rfl hl (Nat.le_of_ble_eq_true rfl) dX7_turn_36 (fun H locs hh => ?_)
  refine lv_aload_n hx hb dX7_turn_39 rfl (lv_at hl 0 rfl) ?_
  refine lv_iload_n hx hb dX7_turn_40 rfl (lv_at hl 1 rfl) ?_
  obtain ⟨t8, ht8, hf⟩ := ob hf
  refine m_X7_83 F hh (c_X7_x ht8) in_122 sh_122 rfl hl (Nat.le_of_ble_eq_true rfl) dX7_turn_41 (fun H locs hh => ?_)
  refine lv_isub hx hb dX7_turn_44 ?_
  refine lv_imul hx hb dX7_turn_45 ?_
  refine lv_isub hx hb dX7_turn_46 ?_
  exact g_iret F hr hlk hh (Option.some.inj hf) rfl dX7_turn_47
theorem c_X7_turn {l : Launch} {G : Gm} {x1 : Int32} {x2 : Int32} {x3 : Int32} {z : Sto} {Z : Int32} (hf : f_X7_turn x1 x2 x3 z = some Z) : Met l yX7_turn (Cond.code yX7_turn cX7_turn 4 (some .int) :: TT) rmX7_turn (va_Pc [.ref (G.1 122), .int x1, .int x2, .int x3] (GS rM G z)) (QI rM G Z z) 0 0 (Am rM G) := by
  refine g_met [(0, .ref (G.1 122)), (1, .int x1), (2, .int x2), (3, .int x3)] (by decide) (Nat.le_of_ble_eq_true rfl) rfl ?_
  intro p e s m below meth cd F hr hlk ls H locs hl hh
  exact w_X7_turn F hr hlk hf hh hl
def f_X7_isOver (x1 : Int32) (x2 : Int32) (x3 : Int32) (z : Sto) : Option (Int32) := bd (f_X7_x x1 z) fun t1 => bd (f_X7_x x3 z) fun t2 => bd (f_X7_x x2 z) fun t3 => bd (f_X7_x x3 z) fun t4 => bd (f_X7_y x1 z) fun t5 => bd (f_X7_y x3 z) fun t6 => bd (f_X7_y x2 z) fun t7 => bd (f_X7_y x3 z) fun t8 => lt ((((t1 - t2) * (t3 - t4)) + ((t5 - t6) * (t7 - t8)))) fun x4_9 => if x3 = x1 then (some (0 : Int32)) else (if x3 = x2 then (some (0 : Int32)) else (bd (f_X7_turn x1 x2 x3 z) fun t12 => if t12 = 0 then (if 0 ≤ x4_9 then (some (0 : Int32)) else (some (1 : Int32))) else (some (0 : Int32))))
set_option maxRecDepth 100000 in
set_option maxHeartbeats 4000000 in
theorem w_X7_isOver {Z : Int32} (F : Fx rM p s m args cd cX7_isOver 5 RX7 G) (hr : meth.sig.returnType = (some .boolean)) (hlk : meth.locks = false) {x1 : Int32} {x2 : Int32} {x3 : Int32} {z : Sto} {H : Heap} {locs : List Loc} {ls : Array Slot} (hf : f_X7_isOver x1 x2 x3 z = some Z) (hh : Hh rM G z s H locs) (hl : lv_has ls 5 [(0, .ref (G.1 122)), (1, .int x1), (2, .int x2), (3, .int x3)]) : W p l e rmX7_isOver s m args below meth cd H locs 0 0 (MQ below (QI rM G Z z) args s 0 0 (Am rM G)) (F0 m 0 ls []) := by
  have hx := F.1
  have hb := F.2.1
  unfold f_X7_isOver at hf
  refine lv_aload_n hx hb dX7_isOver_0 rfl (lv_at hl 0 rfl) ?_
  refine lv_iload_n hx hb dX7_isOver_1 rfl (lv_at hl 1 rfl) ?_
  obtain ⟨t1, ht1, hf⟩ := ob hf
  refine m_X7_83 F hh (c_X7_x ht1) in_122 sh_122 rfl hl (Nat.le_of_ble_eq_true rfl) dX7_isOver_2 (fun H locs hh => ?_)
  refine lv_aload_n hx hb dX7_isOver_5 rfl (lv_at hl 0 rfl) ?_
  refine lv_iload_n hx hb dX7_isOver_6 rfl (lv_at hl 3 rfl) ?_
  obtain ⟨t2, ht2, hf⟩ := ob hf
  refine m_X7_83 F hh (c_X7_x ht2) in_122 sh_122 rfl hl (Nat.le_of_ble_eq_true rfl) dX7_isOver_7 (fun H locs hh => ?_)
  refine lv_isub hx hb dX7_isOver_10 ?_
  refine lv_aload_n hx hb dX7_isOver_11 rfl (lv_at hl 0 rfl) ?_
  refine lv_iload_n hx hb dX7_isOver_12 rfl (lv_at hl 2 rfl) ?_
  obtain ⟨t3, ht3, hf⟩ := ob hf
  refine m_X7_83 F hh (c_X7_x ht3) in_122 sh_122 rfl hl (Nat.le_of_ble_eq_true rfl) dX7_isOver_13 (fun H locs hh => ?_)
  refine lv_aload_n hx hb dX7_isOver_16 rfl (lv_at hl 0 rfl) ?_
  refine lv_iload_n hx hb dX7_isOver_17 rfl (lv_at hl 3 rfl) ?_
  obtain ⟨t4, ht4, hf⟩ := ob hf
  refine m_X7_83 F hh (c_X7_x ht4) in_122 sh_122 rfl hl (Nat.le_of_ble_eq_true rfl) dX7_isOver_18 (fun H locs hh => ?_)
  refine lv_isub hx hb dX7_isOver_21 ?_
  refine lv_imul hx hb dX7_isOver_22 ?_
  refine lv_aload_n hx hb dX7_isOver_23 rfl (lv_at hl 0 rfl) ?_
  refine lv_iload_n hx hb dX7_isOver_24 rfl (lv_at hl 1 rfl) ?_
  obtain ⟨t5, ht5, hf⟩ := ob hf
  refine m_X7_87 F hh (c_X7_y ht5) in_122 sh_122 rfl hl (Nat.le_of_ble_eq_true rfl) dX7_isOver_25 (fun H locs hh => ?_)
  refine lv_aload_n hx hb dX7_isOver_28 rfl (lv_at hl 0 rfl) ?_
  refine lv_iload_n hx hb dX7_isOver_29 rfl (lv_at hl 3 rfl) ?_
  obtain ⟨t6, ht6, hf⟩ := ob hf
  refine m_X7_87 F hh (c_X7_y ht6) in_122 sh_122 rfl hl (Nat.le_of_ble_eq_true rfl) dX7_isOver_30 (fun H locs hh => ?_)
  refine lv_isub hx hb dX7_isOver_33 ?_
  refine lv_aload_n hx hb dX7_isOver_34 rfl (lv_at hl 0 rfl) ?_
  refine lv_iload_n hx hb dX7_isOver_35 rfl (lv_at hl 2 rfl) ?_
  obtain ⟨t7, ht7, hf⟩ := ob hf
  refine m_X7_87 F hh (c_X7_y ht7) in_122 sh_122 rfl hl (Nat.le_of_ble_eq_true rfl) dX7_isOver_36 (fun H locs hh => ?_)
  refine lv_aload_n hx hb dX7_isOver_39 rfl (lv_at hl 0 rfl) ?_
  refine lv_iload_n hx hb dX7_isOver_40 rfl (lv_at hl 3 rfl) ?_
  obtain ⟨t8, ht8, hf⟩ := ob hf
  refine m_X7_87 F hh (c_X7_y ht8) in_122 sh_122 rfl hl (Nat.le_of_ble_eq_true rfl) dX7_isOver_41 (fun H locs hh => ?_)
  refine lv_isub hx hb dX7_isOver_44 ?_
  refine lv_imul hx hb dX7_isOver_45 ?_
  refine lv_iadd hx hb dX7_isOver_46 ?_
  refine lv_topi (fun x4_9 ex4_9 => ?_)
  replace hf := lt_e ex4_9 hf
  refine lv_istore (lv' := [(4, .int x4_9), (0, .ref (G.1 122)), (1, .int x1), (2, .int x2), (3, .int x3)]) hx hb dX7_isOver_47 hl (by decide) rfl (fun ls hl => ?_)
  refine lv_iload_n hx hb dX7_isOver_49 rfl (lv_at hl 4 rfl) ?_
  refine lv_iload_n hx hb dX7_isOver_50 rfl (lv_at hl 2 rfl) ?_
  refine lv_icmp_eq (tgt := 78) hx hb dX7_isOver_51 (by decide) (fun c10 => ?_) (fun c10 => ?_)
  · replace hf := itp c10 hf
    refine lv_iconst (v := 0) hx hb dX7_isOver_78 (by decide) ?_
    exact g_zret F hr hlk rfl hh (Option.some.inj hf) rfl dX7_isOver_79
  · replace hf := itn c10 hf
    refine lv_iload_n hx hb dX7_isOver_54 rfl (lv_at hl 4 rfl) ?_
    refine lv_iload_n hx hb dX7_isOver_55 rfl (lv_at hl 3 rfl) ?_
    refine lv_icmp_eq (tgt := 78) hx hb dX7_isOver_56 (by decide) (fun c11 => ?_) (fun c11 => ?_)
    · replace hf := itp c11 hf
      refine lv_iconst (v := 0) hx hb dX7_isOver_78 (by decide) ?_
      exact g_zret F hr hlk rfl hh (Option.some.inj hf) rfl dX7_isOver_79
    · replace hf := itn c11 hf
      refine lv_aload_n hx hb dX7_isOver_59 rfl (lv_at hl 1 rfl) ?_
      refine lv_iload_n hx hb dX7_isOver_60 rfl (lv_at hl 2 rfl) ?_
      refine lv_iload_n hx hb dX7_isOver_61 rfl (lv_at hl 3 rfl) ?_
      refine lv_iload_n hx hb dX7_isOver_62 rfl (lv_at hl 4 rfl) ?_
      obtain ⟨t12, ht12, hf⟩ := ob hf
      refine m_X7_90 F hh (c_X7_turn ht12) in_122 sh_122 rfl hl (Nat.le_of_ble_eq_true rfl) dX7_isOver_63 (fun H locs hh => ?_)
      refine lv_if_ne (tgt := 78) hx hb dX7_isOver_66 (by decide) (fun c13 => ?_) (fun c13 => ?_)
      · replace hf := itn c13 hf
        refine lv_iconst (v := 0) hx hb dX7_isOver_78 (by decide) ?_
        exact g_zret F hr hlk rfl hh (Option.some.inj hf) rfl dX7_isOver_79
      · replace hf := itp c13 hf
        refine lv_iload hx hb dX7_isOver_69 (lv_at hl 0 rfl) ?_
        refine lv_if_ge (tgt := 78) hx hb dX7_isOver_71 (by decide) (fun c14 => ?_) (fun c14 => ?_)
        · replace hf := itp c14 hf
          refine lv_iconst (v := 0) hx hb dX7_isOver_78 (by decide) ?_
          exact g_zret F hr hlk rfl hh (Option.some.inj hf) rfl dX7_isOver_79
        · replace hf := itn c14 hf
          refine lv_iconst (v := 1) hx hb dX7_isOver_74 (by decide) ?_
          refine lv_goto (tgt := 79) hx hb dX7_isOver_75 (by decide) ?_
          exact g_zret F hr hlk rfl hh (Option.some.inj hf) rfl dX7_isOver_79
theorem c_X7_isOver {l : Launch} {G : Gm} {x1 : Int32} {x2 : Int32} {x3 : Int32} {z : Sto} {Z : Int32} (hf : f_X7_isOver x1 x2 x3 z = some Z) : Met l yX7_isOver (Cond.code yX7_isOver cX7_isOver 5 (some .boolean) :: TT) rmX7_isOver (va_Pc [.ref (G.1 122), .int x1, .int x2, .int x3] (GS rM G z)) (QI rM G Z z) 0 0 (Am rM G) := by
  refine g_met [(0, .ref (G.1 122)), (1, .int x1), (2, .int x2), (3, .int x3)] (by decide) (Nat.le_of_ble_eq_true rfl) rfl ?_
  intro p e s m below meth cd F hr hlk ls H locs hl hh
  exact w_X7_isOver F hr hlk hf hh hl
def f_X7_sign (x0 : Int64) (z : Sto) : Option (Int32) := if 0 ≤ (lg_cmp x0 (0 : Int64)) then (if (lg_cmp x0 (0 : Int64)) ≤ 0 then (some (0 : Int32)) else (some (1 : Int32))) else (some (-1 : Int32))
set_option maxRecDepth 100000 in
set_option maxHeartbeats 4000000 in
theorem w_X7_sign {Z : Int32} (F : Fx rM p s m args cd cX7_sign 2 RX7 G) (hr : meth.sig.returnType = (some .int)) (hlk : meth.locks = false) {x0 : Int64} {z : Sto} {H : Heap} {locs : List Loc} {ls : Array Slot} (hf : f_X7_sign x0 z = some Z) (hh : Hh rM G z s H locs) (hl : lv_has ls 2 [(0, .long x0)]) : W p l e rmX7_sign s m args below meth cd H locs 0 0 (MQ below (QI rM G Z z) args s 0 0 (Am rM G)) (F0 m 0 ls []) := by
  have hx := F.1
  have hb := F.2.1
  unfold f_X7_sign at hf
  refine lv_lload_n hx hb dX7_sign_0 rfl (lv_at hl 0 rfl) ?_
  refine lv_lconst (v := 0) hx hb dX7_sign_1 (by decide) ?_
  refine W.lcmp hx hb dX7_sign_2 ?_
  refine lv_if_ge (tgt := 10) hx hb dX7_sign_3 (by decide) (fun c1 => ?_) (fun c1 => ?_)
  · replace hf := itp c1 hf
    refine lv_lload_n hx hb dX7_sign_10 rfl (lv_at hl 0 rfl) ?_
    refine lv_lconst (v := 0) hx hb dX7_sign_11 (by decide) ?_
    refine W.lcmp hx hb dX7_sign_12 ?_
    refine lv_if_le (tgt := 20) hx hb dX7_sign_13 (by decide) (fun c2 => ?_) (fun c2 => ?_)
    · replace hf := itp c2 hf
      refine lv_iconst (v := 0) hx hb dX7_sign_20 (by decide) ?_
      exact g_iret F hr hlk hh (Option.some.inj hf) rfl dX7_sign_21
    · replace hf := itn c2 hf
      refine lv_iconst (v := 1) hx hb dX7_sign_16 (by decide) ?_
      refine lv_goto (tgt := 21) hx hb dX7_sign_17 (by decide) ?_
      exact g_iret F hr hlk hh (Option.some.inj hf) rfl dX7_sign_21
  · replace hf := itn c1 hf
    refine lv_iconst (v := -1) hx hb dX7_sign_6 (by decide) ?_
    refine lv_goto (tgt := 21) hx hb dX7_sign_7 (by decide) ?_
    exact g_iret F hr hlk hh (Option.some.inj hf) rfl dX7_sign_21
theorem c_X7_sign {l : Launch} {G : Gm} {x0 : Int64} {z : Sto} {Z : Int32} (hf : f_X7_sign x0 z = some Z) : Met l yX7_sign (Cond.code yX7_sign cX7_sign 2 (some .int) :: TT) rmX7_sign (va_Pc [.long x0] (GS rM G z)) (QI rM G Z z) 0 0 (Am rM G) := by
  refine g_met [(0, .long x0)] (by decide) (Nat.le_of_ble_eq_true rfl) rfl ?_
  intro p e s m below meth cd F hr hlk ls H locs hl hh
  exact w_X7_sign F hr hlk hf hh hl
def f_X7_doCross (x1 : Int32) (x2 : Int32) (x3 : Int32) (x4 : Int32) (z : Sto) : Option (Int32) := bd (f_X7_turn x1 x2 x3 z) fun t1 => bd (f_X7_sign ((Int32.toInt64 t1)) z) fun t2 => bd (f_X7_turn x1 x2 x4 z) fun t3 => bd (f_X7_sign ((Int32.toInt64 t3)) z) fun t4 => if 0 ≤ (t2 * t4) then (some (0 : Int32)) else (bd (f_X7_turn x3 x4 x1 z) fun t6 => bd (f_X7_sign ((Int32.toInt64 t6)) z) fun t7 => bd (f_X7_turn x3 x4 x2 z) fun t8 => bd (f_X7_sign ((Int32.toInt64 t8)) z) fun t9 => if 0 ≤ (t7 * t9) then (some (0 : Int32)) else (some (1 : Int32)))
set_option maxRecDepth 100000 in
set_option maxHeartbeats 4000000 in
theorem w_X7_doCross {Z : Int32} (F : Fx rM p s m args cd cX7_doCross 5 RX7 G) (hr : meth.sig.returnType = (some .boolean)) (hlk : meth.locks = false) {x1 : Int32} {x2 : Int32} {x3 : Int32} {x4 : Int32} {z : Sto} {H : Heap} {locs : List Loc} {ls : Array Slot} (hf : f_X7_doCross x1 x2 x3 x4 z = some Z) (hh : Hh rM G z s H locs) (hl : lv_has ls 5 [(0, .ref (G.1 122)), (1, .int x1), (2, .int x2), (3, .int x3), (4, .int x4)]) : W p l e rmX7_doCross s m args below meth cd H locs 0 0 (MQ below (QI rM G Z z) args s 0 0 (Am rM G)) (F0 m 0 ls []) := by
  have hx := F.1
  have hb := F.2.1
  unfold f_X7_doCross at hf
  refine lv_aload_n hx hb dX7_doCross_0 rfl (lv_at hl 0 rfl) ?_
  refine lv_iload_n hx hb dX7_doCross_1 rfl (lv_at hl 1 rfl) ?_
  refine lv_iload_n hx hb dX7_doCross_2 rfl (lv_at hl 2 rfl) ?_
  refine lv_iload_n hx hb dX7_doCross_3 rfl (lv_at hl 3 rfl) ?_
  obtain ⟨t1, ht1, hf⟩ := ob hf
  refine m_X7_90 F hh (c_X7_turn ht1) in_122 sh_122 rfl hl (Nat.le_of_ble_eq_true rfl) dX7_doCross_4 (fun H locs hh => ?_)
  refine lv_i2l hx hb dX7_doCross_7 rfl ?_
  obtain ⟨t2, ht2, hf⟩ := ob hf
  refine m_X7_94 F hh (c_X7_sign ht2) rfl hl (Nat.le_of_ble_eq_true rfl) dX7_doCross_8 (fun H locs hh => ?_)
  refine lv_aload_n hx hb dX7_doCross_11 rfl (lv_at hl 0 rfl) ?_
  refine lv_iload_n hx hb dX7_doCross_12 rfl (lv_at hl 1 rfl) ?_
  refine lv_iload_n hx hb dX7_doCross_13 rfl (lv_at hl 2 rfl) ?_
  refine lv_iload hx hb dX7_doCross_14 (lv_at hl 4 rfl) ?_
  obtain ⟨t3, ht3, hf⟩ := ob hf
  refine m_X7_90 F hh (c_X7_turn ht3) in_122 sh_122 rfl hl (Nat.le_of_ble_eq_true rfl) dX7_doCross_16 (fun H locs hh => ?_)
  refine lv_i2l hx hb dX7_doCross_19 rfl ?_
  obtain ⟨t4, ht4, hf⟩ := ob hf
  refine m_X7_94 F hh (c_X7_sign ht4) rfl hl (Nat.le_of_ble_eq_true rfl) dX7_doCross_20 (fun H locs hh => ?_)
  refine lv_imul hx hb dX7_doCross_23 ?_
  refine lv_if_ge (tgt := 59) hx hb dX7_doCross_24 (by decide) (fun c5 => ?_) (fun c5 => ?_)
  · replace hf := itp c5 hf
    refine lv_iconst (v := 0) hx hb dX7_doCross_59 (by decide) ?_
    exact g_zret F hr hlk rfl hh (Option.some.inj hf) rfl dX7_doCross_60
  · replace hf := itn c5 hf
    refine lv_aload_n hx hb dX7_doCross_27 rfl (lv_at hl 0 rfl) ?_
    refine lv_iload_n hx hb dX7_doCross_28 rfl (lv_at hl 3 rfl) ?_
    refine lv_iload hx hb dX7_doCross_29 (lv_at hl 4 rfl) ?_
    refine lv_iload_n hx hb dX7_doCross_31 rfl (lv_at hl 1 rfl) ?_
    obtain ⟨t6, ht6, hf⟩ := ob hf
    refine m_X7_90 F hh (c_X7_turn ht6) in_122 sh_122 rfl hl (Nat.le_of_ble_eq_true rfl) dX7_doCross_32 (fun H locs hh => ?_)
    refine lv_i2l hx hb dX7_doCross_35 rfl ?_
    obtain ⟨t7, ht7, hf⟩ := ob hf
    refine m_X7_94 F hh (c_X7_sign ht7) rfl hl (Nat.le_of_ble_eq_true rfl) dX7_doCross_36 (fun H locs hh => ?_)
    refine lv_aload_n hx hb dX7_doCross_39 rfl (lv_at hl 0 rfl) ?_
    refine lv_iload_n hx hb dX7_doCross_40 rfl (lv_at hl 3 rfl) ?_
    refine lv_iload hx hb dX7_doCross_41 (lv_at hl 4 rfl) ?_
    refine lv_iload_n hx hb dX7_doCross_43 rfl (lv_at hl 2 rfl) ?_
    obtain ⟨t8, ht8, hf⟩ := ob hf
    refine m_X7_90 F hh (c_X7_turn ht8) in_122 sh_122 rfl hl (Nat.le_of_ble_eq_true rfl) dX7_doCross_44 (fun H locs hh => ?_)
    refine lv_i2l hx hb dX7_doCross_47 rfl ?_
    obtain ⟨t9, ht9, hf⟩ := ob hf
    refine m_X7_94 F hh (c_X7_sign ht9) rfl hl (Nat.le_of_ble_eq_true rfl) dX7_doCross_48 (fun H locs hh => ?_)
    refine lv_imul hx hb dX7_doCross_51 ?_
    refine lv_if_ge (tgt := 59) hx hb dX7_doCross_52 (by decide) (fun c10 => ?_) (fun c10 => ?_)
    · replace hf := itp c10 hf
      refine lv_iconst (v := 0) hx hb dX7_doCross_59 (by decide) ?_
      exact g_zret F hr hlk rfl hh (Option.some.inj hf) rfl dX7_doCross_60
    · replace hf := itn c10 hf
      refine lv_iconst (v := 1) hx hb dX7_doCross_55 (by decide) ?_
      refine lv_goto (tgt := 60) hx hb dX7_doCross_56 (by decide) ?_
      exact g_zret F hr hlk rfl hh (Option.some.inj hf) rfl dX7_doCross_60
theorem c_X7_doCross {l : Launch} {G : Gm} {x1 : Int32} {x2 : Int32} {x3 : Int32} {x4 : Int32} {z : Sto} {Z : Int32} (hf : f_X7_doCross x1 x2 x3 x4 z = some Z) : Met l yX7_doCross (Cond.code yX7_doCross cX7_doCross 5 (some .boolean) :: TT) rmX7_doCross (va_Pc [.ref (G.1 122), .int x1, .int x2, .int x3, .int x4] (GS rM G z)) (QI rM G Z z) 0 0 (Am rM G) := by
  refine g_met [(0, .ref (G.1 122)), (1, .int x1), (2, .int x2), (3, .int x3), (4, .int x4)] (by decide) (Nat.le_of_ble_eq_true rfl) rfl ?_
  intro p e s m below meth cd F hr hlk ls H locs hl hh
  exact w_X7_doCross F hr hlk hf hh hl
def b_X7_isPlain_66 (z : Sto) (ag4 : Int32 → Int32 → Option (Int32)) (ag66 : Int32 → Int32 → Int32 → Option (Int32)) (x1 : Int32) (x2 : Int32) (x3 : Int32) : Option (Int32) := if x2 ≤ x3 then (lt (x2 + (1 : Int32)) fun x2_15 => ag4 x1 x2_15) else (if x1 = 0 then (lt (x3 + (1 : Int32)) fun x3_17 => ag66 (0 : Int32) x2 x3_17) else (bd (f_X7_from (((2 : Int32) * x2)) z) fun t18 => bd (f_X7_to (((2 : Int32) * x2)) z) fun t19 => bd (f_X7_from (((2 : Int32) * x3)) z) fun t20 => bd (f_X7_to (((2 : Int32) * x3)) z) fun t21 => bd (f_X7_doCross t18 t19 t20 t21 z) fun t22 => if t22 = 0 then (lt (x3 + (1 : Int32)) fun x3_25 => ag66 (1 : Int32) x2 x3_25) else (lt (x3 + (1 : Int32)) fun x3_24 => ag66 (0 : Int32) x2 x3_24)))
def b_X7_isPlain_16 (z : Sto) (ag4 : Int32 → Int32 → Option (Int32)) (ag16 : Int32 → Int32 → Int32 → Option (Int32)) (x1 : Int32) (x2 : Int32) (x3 : Int32) : Option (Int32) := bd (rdI z 123 42 (0 : Int32)) fun t4 => if t4 ≤ x3 then (wl3 (b_X7_isPlain_66 z ag4) fu x1 x2 (0 : Int32)) else (if x1 = 0 then (lt (x3 + (1 : Int32)) fun x3_7 => ag16 (0 : Int32) x2 x3_7) else (bd (f_X7_from (((2 : Int32) * x2)) z) fun t8 => bd (f_X7_to (((2 : Int32) * x2)) z) fun t9 => bd (f_X7_isOver t8 t9 x3 z) fun t10 => if t10 = 0 then (lt (x3 + (1 : Int32)) fun x3_13 => ag16 (1 : Int32) x2 x3_13) else (lt (x3 + (1 : Int32)) fun x3_12 => ag16 (0 : Int32) x2 x3_12)))
def b_X7_isPlain_4 (z : Sto)  (ag4 : Int32 → Int32 → Option (Int32)) (x1 : Int32) (x2 : Int32) : Option (Int32) := bd (rdI z 123 42 (1 : Int32)) fun t1 => if t1 ≤ x2 then (bd (bz x1) fun t3 => some t3) else (wl3 (b_X7_isPlain_16 z ag4) fu x1 x2 (0 : Int32))
def f_X7_isPlain  (z : Sto) : Option (Int32) := wl2 (b_X7_isPlain_4 z) fu (1 : Int32) (0 : Int32)
set_option maxRecDepth 100000 in
set_option maxHeartbeats 4000000 in
theorem w_X7_isPlain_66 {z : Sto} {ag4 : Int32 → Int32 → Option (Int32)} {Z : Int32} (F : Fx rM p s m args cd cX7_isPlain 4 RX7 G) (hr : meth.sig.returnType = (some .boolean)) (hlk : meth.locks = false) (hag4 : ∀ (x1 : Int32) (x2 : Int32), ag4 x1 x2 = some Z → ∀ {H : Heap} {locs : List Loc} {ls : Array Slot}, Hh rM G z s H locs → lv_has ls 4 [(0, .ref (G.1 122)), (1, .int x1), (2, .int x2)] → W p l e rmX7_isPlain s m args below meth cd H locs 0 0 (MQ below (QI rM G Z z) args s 0 0 (Am rM G)) (F0 m 4 ls [])) : ∀ (n : Nat), ∀ (x1 : Int32) (x2 : Int32) (x3 : Int32), wl3 (b_X7_isPlain_66 z ag4) n x1 x2 x3 = some Z → ∀ {H : Heap} {locs : List Loc} {ls : Array Slot}, Hh rM G z s H locs → lv_has ls 4 [(0, .ref (G.1 122)), (1, .int x1), (2, .int x2), (3, .int x3)] → W p l e rmX7_isPlain s m args below meth cd H locs 0 0 (MQ below (QI rM G Z z) args s 0 0 (Am rM G)) (F0 m 66 ls []) := by
  have hx := F.1
  have hb := F.2.1
  intro n
  induction n with
  | zero =>
    intro x1 x2 x3 hf
    exact absurd hf (by intro h; cases h)
  | succ n ih =>
    intro x1 x2 x3 hf  H locs ls hh hl
    replace hf : b_X7_isPlain_66 z ag4 (wl3 (b_X7_isPlain_66 z ag4) n) x1 x2 x3 = some Z := hf
    unfold b_X7_isPlain_66 at hf
    refine lv_iload_n hx hb dX7_isPlain_66 rfl (lv_at hl 3 rfl) ?_
    refine lv_iload_n hx hb dX7_isPlain_67 rfl (lv_at hl 2 rfl) ?_
    refine lv_icmp_ge (tgt := 122) hx hb dX7_isPlain_68 (by decide) (fun c14 => ?_) (fun c14 => ?_)
    · replace hf := itp c14 hf
      obtain ⟨x2_15, ex2_15⟩ : ∃ y : Int32, y = x2 + (1 : Int32) := ⟨_, rfl⟩
      replace hf := lt_e ex2_15 hf
      refine lv_iinc (v := x2_15) (lv' := [(2, .int x2_15), (0, .ref (G.1 122)), (1, .int x1), (3, .int x3)]) hx hb dX7_isPlain_122 hl (k := 2) rfl (by rw [ex2_15]; rfl) (by decide) rfl (fun ls hl => ?_)
      refine lv_goto (tgt := 4) hx hb dX7_isPlain_125 (by decide) ?_
      exact hag4 _ _ hf  hh (lv_sub hl [1, 2, 0] rfl)
    · replace hf := itn c14 hf
      refine lv_iload_n hx hb dX7_isPlain_71 rfl (lv_at hl 1 rfl) ?_
      refine lv_if_eq (tgt := 114) hx hb dX7_isPlain_72 (by decide) (fun c16 => ?_) (fun c16 => ?_)
      · replace hf := itp c16 hf
        refine lv_iconst (v := 0) hx hb dX7_isPlain_114 (by decide) ?_
        refine lv_istore_n (lv' := [(1, .int (0 : Int32)), (0, .ref (G.1 122)), (2, .int x2), (3, .int x3)]) hx hb dX7_isPlain_115 rfl hl (by decide) rfl (fun ls hl => ?_)
        obtain ⟨x3_17, ex3_17⟩ : ∃ y : Int32, y = x3 + (1 : Int32) := ⟨_, rfl⟩
        replace hf := lt_e ex3_17 hf
        refine lv_iinc (v := x3_17) (lv' := [(3, .int x3_17), (1, .int (0 : Int32)), (0, .ref (G.1 122)), (2, .int x2)]) hx hb dX7_isPlain_116 hl (k := 3) rfl (by rw [ex3_17]; rfl) (by decide) rfl (fun ls hl => ?_)
        refine lv_goto (tgt := 66) hx hb dX7_isPlain_119 (by decide) ?_
        exact ih _ _ _ hf  hh (lv_sub hl [2, 1, 3, 0] rfl)
      · replace hf := itn c16 hf
        refine lv_aload_n hx hb dX7_isPlain_75 rfl (lv_at hl 0 rfl) ?_
        refine lv_aload_n hx hb dX7_isPlain_76 rfl (lv_at hl 0 rfl) ?_
        refine lv_iconst (v := 2) hx hb dX7_isPlain_77 (by decide) ?_
        refine lv_iload_n hx hb dX7_isPlain_78 rfl (lv_at hl 2 rfl) ?_
        refine lv_imul hx hb dX7_isPlain_79 ?_
        obtain ⟨t18, ht18, hf⟩ := ob hf
        refine m_X7_98 F hh (c_X7_from ht18) in_122 sh_122 rfl hl (Nat.le_of_ble_eq_true rfl) dX7_isPlain_80 (fun H locs hh => ?_)
        refine lv_aload_n hx hb dX7_isPlain_83 rfl (lv_at hl 0 rfl) ?_
        refine lv_iconst (v := 2) hx hb dX7_isPlain_84 (by decide) ?_
        refine lv_iload_n hx hb dX7_isPlain_85 rfl (lv_at hl 2 rfl) ?_
        refine lv_imul hx hb dX7_isPlain_86 ?_
        obtain ⟨t19, ht19, hf⟩ := ob hf
        refine m_X7_101 F hh (c_X7_to ht19) in_122 sh_122 rfl hl (Nat.le_of_ble_eq_true rfl) dX7_isPlain_87 (fun H locs hh => ?_)
        refine lv_aload_n hx hb dX7_isPlain_90 rfl (lv_at hl 0 rfl) ?_
        refine lv_iconst (v := 2) hx hb dX7_isPlain_91 (by decide) ?_
        refine lv_iload_n hx hb dX7_isPlain_92 rfl (lv_at hl 3 rfl) ?_
        refine lv_imul hx hb dX7_isPlain_93 ?_
        obtain ⟨t20, ht20, hf⟩ := ob hf
        refine m_X7_98 F hh (c_X7_from ht20) in_122 sh_122 rfl hl (Nat.le_of_ble_eq_true rfl) dX7_isPlain_94 (fun H locs hh => ?_)
        refine lv_aload_n hx hb dX7_isPlain_97 rfl (lv_at hl 0 rfl) ?_
        refine lv_iconst (v := 2) hx hb dX7_isPlain_98 (by decide) ?_
        refine lv_iload_n hx hb dX7_isPlain_99 rfl (lv_at hl 3 rfl) ?_
        refine lv_imul hx hb dX7_isPlain_100 ?_
        obtain ⟨t21, ht21, hf⟩ := ob hf
        refine m_X7_101 F hh (c_X7_to ht21) in_122 sh_122 rfl hl (Nat.le_of_ble_eq_true rfl) dX7_isPlain_101 (fun H locs hh => ?_)
        obtain ⟨t22, ht22, hf⟩ := ob hf
        refine m_X7_108 F hh (c_X7_doCross ht22) in_122 sh_122 rfl hl (Nat.le_of_ble_eq_true rfl) dX7_isPlain_104 (fun H locs hh => ?_)
        refine lv_if_ne (tgt := 114) hx hb dX7_isPlain_107 (by decide) (fun c23 => ?_) (fun c23 => ?_)
        · replace hf := itn c23 hf
          refine lv_iconst (v := 0) hx hb dX7_isPlain_114 (by decide) ?_
          refine lv_istore_n (lv' := [(1, .int (0 : Int32)), (0, .ref (G.1 122)), (2, .int x2), (3, .int x3)]) hx hb dX7_isPlain_115 rfl hl (by decide) rfl (fun ls hl => ?_)
          obtain ⟨x3_24, ex3_24⟩ : ∃ y : Int32, y = x3 + (1 : Int32) := ⟨_, rfl⟩
          replace hf := lt_e ex3_24 hf
          refine lv_iinc (v := x3_24) (lv' := [(3, .int x3_24), (1, .int (0 : Int32)), (0, .ref (G.1 122)), (2, .int x2)]) hx hb dX7_isPlain_116 hl (k := 3) rfl (by rw [ex3_24]; rfl) (by decide) rfl (fun ls hl => ?_)
          refine lv_goto (tgt := 66) hx hb dX7_isPlain_119 (by decide) ?_
          exact ih _ _ _ hf  hh (lv_sub hl [2, 1, 3, 0] rfl)
        · replace hf := itp c23 hf
          refine lv_iconst (v := 1) hx hb dX7_isPlain_110 (by decide) ?_
          refine lv_goto (tgt := 115) hx hb dX7_isPlain_111 (by decide) ?_
          refine lv_istore_n (lv' := [(1, .int (1 : Int32)), (0, .ref (G.1 122)), (2, .int x2), (3, .int x3)]) hx hb dX7_isPlain_115 rfl hl (by decide) rfl (fun ls hl => ?_)
          obtain ⟨x3_25, ex3_25⟩ : ∃ y : Int32, y = x3 + (1 : Int32) := ⟨_, rfl⟩
          replace hf := lt_e ex3_25 hf
          refine lv_iinc (v := x3_25) (lv' := [(3, .int x3_25), (1, .int (1 : Int32)), (0, .ref (G.1 122)), (2, .int x2)]) hx hb dX7_isPlain_116 hl (k := 3) rfl (by rw [ex3_25]; rfl) (by decide) rfl (fun ls hl => ?_)
          refine lv_goto (tgt := 66) hx hb dX7_isPlain_119 (by decide) ?_
          exact ih _ _ _ hf  hh (lv_sub hl [2, 1, 3, 0] rfl)
set_option maxRecDepth 100000 in
set_option maxHeartbeats 4000000 in
theorem w_X7_isPlain_16 {z : Sto} {ag4 : Int32 → Int32 → Option (Int32)} {Z : Int32} (F : Fx rM p s m args cd cX7_isPlain 4 RX7 G) (hr : meth.sig.returnType = (some .boolean)) (hlk : meth.locks = false) (hag4 : ∀ (x1 : Int32) (x2 : Int32), ag4 x1 x2 = some Z → ∀ {H : Heap} {locs : List Loc} {ls : Array Slot}, Hh rM G z s H locs → lv_has ls 4 [(0, .ref (G.1 122)), (1, .int x1), (2, .int x2)] → W p l e rmX7_isPlain s m args below meth cd H locs 0 0 (MQ below (QI rM G Z z) args s 0 0 (Am rM G)) (F0 m 4 ls [])) : ∀ (n : Nat), ∀ (x1 : Int32) (x2 : Int32) (x3 : Int32), wl3 (b_X7_isPlain_16 z ag4) n x1 x2 x3 = some Z → ∀ {H : Heap} {locs : List Loc} {ls : Array Slot}, Hh rM G z s H locs → lv_has ls 4 [(0, .ref (G.1 122)), (1, .int x1), (2, .int x2), (3, .int x3)] → W p l e rmX7_isPlain s m args below meth cd H locs 0 0 (MQ below (QI rM G Z z) args s 0 0 (Am rM G)) (F0 m 16 ls []) := by
  have hx := F.1
  have hb := F.2.1
  intro n
  induction n with
  | zero =>
    intro x1 x2 x3 hf
    exact absurd hf (by intro h; cases h)
  | succ n ih =>
    intro x1 x2 x3 hf  H locs ls hh hl
    replace hf : b_X7_isPlain_16 z ag4 (wl3 (b_X7_isPlain_16 z ag4) n) x1 x2 x3 = some Z := hf
    unfold b_X7_isPlain_16 at hf
    refine lv_iload_n hx hb dX7_isPlain_16 rfl (lv_at hl 3 rfl) ?_
    refine lv_aload_n hx hb dX7_isPlain_17 rfl (lv_at hl 0 rfl) ?_
    refine r_X7_7 (b' := 123) F hh in_122 sh_122 rfl dX7_isPlain_18 ?_
    refine lv_iconst (v := 0) hx hb dX7_isPlain_21 (by decide) ?_
    obtain ⟨t4, ht4, hf⟩ := ob hf
    refine g_iald F hh in_123 sh_123 ht4 dX7_isPlain_22 ?_
    refine lv_icmp_ge (tgt := 64) hx hb dX7_isPlain_23 (by decide) (fun c5 => ?_) (fun c5 => ?_)
    · replace hf := itp c5 hf
      refine lv_iconst (v := 0) hx hb dX7_isPlain_64 (by decide) ?_
      refine lv_istore_n (lv' := [(3, .int (0 : Int32)), (0, .ref (G.1 122)), (1, .int x1), (2, .int x2)]) hx hb dX7_isPlain_65 rfl hl (by decide) rfl (fun ls hl => ?_)
      exact w_X7_isPlain_66 F hr hlk hag4 fu _ _ _ hf  hh (lv_sub hl [1, 2, 3, 0] rfl)
    · replace hf := itn c5 hf
      refine lv_iload_n hx hb dX7_isPlain_26 rfl (lv_at hl 1 rfl) ?_
      refine lv_if_eq (tgt := 56) hx hb dX7_isPlain_27 (by decide) (fun c6 => ?_) (fun c6 => ?_)
      · replace hf := itp c6 hf
        refine lv_iconst (v := 0) hx hb dX7_isPlain_56 (by decide) ?_
        refine lv_istore_n (lv' := [(1, .int (0 : Int32)), (0, .ref (G.1 122)), (2, .int x2), (3, .int x3)]) hx hb dX7_isPlain_57 rfl hl (by decide) rfl (fun ls hl => ?_)
        obtain ⟨x3_7, ex3_7⟩ : ∃ y : Int32, y = x3 + (1 : Int32) := ⟨_, rfl⟩
        replace hf := lt_e ex3_7 hf
        refine lv_iinc (v := x3_7) (lv' := [(3, .int x3_7), (1, .int (0 : Int32)), (0, .ref (G.1 122)), (2, .int x2)]) hx hb dX7_isPlain_58 hl (k := 3) rfl (by rw [ex3_7]; rfl) (by decide) rfl (fun ls hl => ?_)
        refine lv_goto (tgt := 16) hx hb dX7_isPlain_61 (by decide) ?_
        exact ih _ _ _ hf  hh (lv_sub hl [2, 1, 3, 0] rfl)
      · replace hf := itn c6 hf
        refine lv_aload_n hx hb dX7_isPlain_30 rfl (lv_at hl 0 rfl) ?_
        refine lv_aload_n hx hb dX7_isPlain_31 rfl (lv_at hl 0 rfl) ?_
        refine lv_iconst (v := 2) hx hb dX7_isPlain_32 (by decide) ?_
        refine lv_iload_n hx hb dX7_isPlain_33 rfl (lv_at hl 2 rfl) ?_
        refine lv_imul hx hb dX7_isPlain_34 ?_
        obtain ⟨t8, ht8, hf⟩ := ob hf
        refine m_X7_98 F hh (c_X7_from ht8) in_122 sh_122 rfl hl (Nat.le_of_ble_eq_true rfl) dX7_isPlain_35 (fun H locs hh => ?_)
        refine lv_aload_n hx hb dX7_isPlain_38 rfl (lv_at hl 0 rfl) ?_
        refine lv_iconst (v := 2) hx hb dX7_isPlain_39 (by decide) ?_
        refine lv_iload_n hx hb dX7_isPlain_40 rfl (lv_at hl 2 rfl) ?_
        refine lv_imul hx hb dX7_isPlain_41 ?_
        obtain ⟨t9, ht9, hf⟩ := ob hf
        refine m_X7_101 F hh (c_X7_to ht9) in_122 sh_122 rfl hl (Nat.le_of_ble_eq_true rfl) dX7_isPlain_42 (fun H locs hh => ?_)
        refine lv_iload_n hx hb dX7_isPlain_45 rfl (lv_at hl 3 rfl) ?_
        obtain ⟨t10, ht10, hf⟩ := ob hf
        refine m_X7_104 F hh (c_X7_isOver ht10) in_122 sh_122 rfl hl (Nat.le_of_ble_eq_true rfl) dX7_isPlain_46 (fun H locs hh => ?_)
        refine lv_if_ne (tgt := 56) hx hb dX7_isPlain_49 (by decide) (fun c11 => ?_) (fun c11 => ?_)
        · replace hf := itn c11 hf
          refine lv_iconst (v := 0) hx hb dX7_isPlain_56 (by decide) ?_
          refine lv_istore_n (lv' := [(1, .int (0 : Int32)), (0, .ref (G.1 122)), (2, .int x2), (3, .int x3)]) hx hb dX7_isPlain_57 rfl hl (by decide) rfl (fun ls hl => ?_)
          obtain ⟨x3_12, ex3_12⟩ : ∃ y : Int32, y = x3 + (1 : Int32) := ⟨_, rfl⟩
          replace hf := lt_e ex3_12 hf
          refine lv_iinc (v := x3_12) (lv' := [(3, .int x3_12), (1, .int (0 : Int32)), (0, .ref (G.1 122)), (2, .int x2)]) hx hb dX7_isPlain_58 hl (k := 3) rfl (by rw [ex3_12]; rfl) (by decide) rfl (fun ls hl => ?_)
          refine lv_goto (tgt := 16) hx hb dX7_isPlain_61 (by decide) ?_
          exact ih _ _ _ hf  hh (lv_sub hl [2, 1, 3, 0] rfl)
        · replace hf := itp c11 hf
          refine lv_iconst (v := 1) hx hb dX7_isPlain_52 (by decide) ?_
          refine lv_goto (tgt := 57) hx hb dX7_isPlain_53 (by decide) ?_
          refine lv_istore_n (lv' := [(1, .int (1 : Int32)), (0, .ref (G.1 122)), (2, .int x2), (3, .int x3)]) hx hb dX7_isPlain_57 rfl hl (by decide) rfl (fun ls hl => ?_)
          obtain ⟨x3_13, ex3_13⟩ : ∃ y : Int32, y = x3 + (1 : Int32) := ⟨_, rfl⟩
          replace hf := lt_e ex3_13 hf
          refine lv_iinc (v := x3_13) (lv' := [(3, .int x3_13), (1, .int (1 : Int32)), (0, .ref (G.1 122)), (2, .int x2)]) hx hb dX7_isPlain_58 hl (k := 3) rfl (by rw [ex3_13]; rfl) (by decide) rfl (fun ls hl => ?_)
          refine lv_goto (tgt := 16) hx hb dX7_isPlain_61 (by decide) ?_
          exact ih _ _ _ hf  hh (lv_sub hl [2, 1, 3, 0] rfl)
set_option maxRecDepth 100000 in
set_option maxHeartbeats 4000000 in
theorem w_X7_isPlain_4 {z : Sto}  {Z : Int32} (F : Fx rM p s m args cd cX7_isPlain 4 RX7 G) (hr : meth.sig.returnType = (some .boolean)) (hlk : meth.locks = false)  : ∀ (n : Nat), ∀ (x1 : Int32) (x2 : Int32), wl2 (b_X7_isPlain_4 z) n x1 x2 = some Z → ∀ {H : Heap} {locs : List Loc} {ls : Array Slot}, Hh rM G z s H locs → lv_has ls 4 [(0, .ref (G.1 122)), (1, .int x1), (2, .int x2)] → W p l e rmX7_isPlain s m args below meth cd H locs 0 0 (MQ below (QI rM G Z z) args s 0 0 (Am rM G)) (F0 m 4 ls []) := by
  have hx := F.1
  have hb := F.2.1
  intro n
  induction n with
  | zero =>
    intro x1 x2 hf
    exact absurd hf (by intro h; cases h)
  | succ n ih =>
    intro x1 x2 hf  H locs ls hh hl
    replace hf : b_X7_isPlain_4 z (wl2 (b_X7_isPlain_4 z) n) x1 x2 = some Z := hf
    unfold b_X7_isPlain_4 at hf
    refine lv_iload_n hx hb dX7_isPlain_4 rfl (lv_at hl 2 rfl) ?_
    refine lv_aload_n hx hb dX7_isPlain_5 rfl (lv_at hl 0 rfl) ?_
    refine r_X7_7 (b' := 123) F hh in_122 sh_122 rfl dX7_isPlain_6 ?_
    refine lv_iconst (v := 1) hx hb dX7_isPlain_9 (by decide) ?_
    obtain ⟨t1, ht1, hf⟩ := ob hf
    refine g_iald F hh in_123 sh_123 ht1 dX7_isPlain_10 ?_
    refine lv_icmp_ge (tgt := 128) hx hb dX7_isPlain_11 (by decide) (fun c2 => ?_) (fun c2 => ?_)
    · replace hf := itp c2 hf
      refine lv_iload_n hx hb dX7_isPlain_128 rfl (lv_at hl 1 rfl) ?_
      obtain ⟨t3, ht3, hf⟩ := ob hf
      exact g_zret F hr hlk (bz_e ht3).2 hh ((bz_e ht3).1.symm.trans (Option.some.inj hf)) rfl dX7_isPlain_129
    · replace hf := itn c2 hf
      refine lv_iconst (v := 0) hx hb dX7_isPlain_14 (by decide) ?_
      refine lv_istore_n (lv' := [(3, .int (0 : Int32)), (0, .ref (G.1 122)), (1, .int x1), (2, .int x2)]) hx hb dX7_isPlain_15 rfl hl (by decide) rfl (fun ls hl => ?_)
      exact w_X7_isPlain_16 F hr hlk ih fu _ _ _ hf  hh (lv_sub hl [1, 2, 3, 0] rfl)
set_option maxRecDepth 100000 in
set_option maxHeartbeats 4000000 in
theorem w_X7_isPlain {Z : Int32} (F : Fx rM p s m args cd cX7_isPlain 4 RX7 G) (hr : meth.sig.returnType = (some .boolean)) (hlk : meth.locks = false)  {z : Sto} {H : Heap} {locs : List Loc} {ls : Array Slot} (hf : f_X7_isPlain  z = some Z) (hh : Hh rM G z s H locs) (hl : lv_has ls 4 [(0, .ref (G.1 122))]) : W p l e rmX7_isPlain s m args below meth cd H locs 0 0 (MQ below (QI rM G Z z) args s 0 0 (Am rM G)) (F0 m 0 ls []) := by
  have hx := F.1
  have hb := F.2.1
  unfold f_X7_isPlain at hf
  refine lv_iconst (v := 1) hx hb dX7_isPlain_0 (by decide) ?_
  refine lv_istore_n (lv' := [(1, .int (1 : Int32)), (0, .ref (G.1 122))]) hx hb dX7_isPlain_1 rfl hl (by decide) rfl (fun ls hl => ?_)
  refine lv_iconst (v := 0) hx hb dX7_isPlain_2 (by decide) ?_
  refine lv_istore_n (lv' := [(2, .int (0 : Int32)), (1, .int (1 : Int32)), (0, .ref (G.1 122))]) hx hb dX7_isPlain_3 rfl hl (by decide) rfl (fun ls hl => ?_)
  exact w_X7_isPlain_4 F hr hlk fu _ _ hf  hh (lv_sub hl [2, 1, 0] rfl)
theorem c_X7_isPlain {l : Launch} {G : Gm}  {z : Sto} {Z : Int32} (hf : f_X7_isPlain  z = some Z) : Met l yX7_isPlain (Cond.code yX7_isPlain cX7_isPlain 4 (some .boolean) :: TT) rmX7_isPlain (va_Pc [.ref (G.1 122)] (GS rM G z)) (QI rM G Z z) 0 0 (Am rM G) := by
  refine g_met [(0, .ref (G.1 122))] (by decide) (Nat.le_of_ble_eq_true rfl) rfl ?_
  intro p e s m below meth cd F hr hlk ls H locs hl hh
  exact w_X7_isPlain F hr hlk hf hh hl
def b_X7_find_6 (z : Sto)  (ag6 : Int32 → Int32 → Int32 → Int32 → Option (Int32)) (x1 : Int32) (x2 : Int32) (x3 : Int32) (x4 : Int32) : Option (Int32) := bd (rdI z 123 42 (0 : Int32)) fun t1 => if t1 ≤ x4 then (some x3) else (bd (f_X7_x x4 z) fun t3 => if t3 = x1 then (bd (f_X7_y x4 z) fun t6 => if t6 = x2 then (lt (x4 + (1 : Int32)) fun x4_9 => ag6 x1 x2 x4 x4_9) else (lt (x4 + (1 : Int32)) fun x4_8 => ag6 x1 x2 x3 x4_8)) else (lt (x4 + (1 : Int32)) fun x4_5 => ag6 x1 x2 x3 x4_5))
def f_X7_find (x1 : Int32) (x2 : Int32) (z : Sto) : Option (Int32) := wl4 (b_X7_find_6 z) fu x1 x2 (-4 : Int32) (0 : Int32)
set_option maxRecDepth 100000 in
set_option maxHeartbeats 4000000 in
theorem w_X7_find_6 {z : Sto}  {Z : Int32} (F : Fx rM p s m args cd cX7_find 5 RX7 G) (hr : meth.sig.returnType = (some .int)) (hlk : meth.locks = false)  : ∀ (n : Nat), ∀ (x1 : Int32) (x2 : Int32) (x3 : Int32) (x4 : Int32), wl4 (b_X7_find_6 z) n x1 x2 x3 x4 = some Z → ∀ {H : Heap} {locs : List Loc} {ls : Array Slot}, Hh rM G z s H locs → lv_has ls 5 [(0, .ref (G.1 122)), (1, .int x1), (2, .int x2), (3, .int x3), (4, .int x4)] → W p l e rmX7_find s m args below meth cd H locs 0 0 (MQ below (QI rM G Z z) args s 0 0 (Am rM G)) (F0 m 6 ls []) := by
  have hx := F.1
  have hb := F.2.1
  intro n
  induction n with
  | zero =>
    intro x1 x2 x3 x4 hf
    exact absurd hf (by intro h; cases h)
  | succ n ih =>
    intro x1 x2 x3 x4 hf  H locs ls hh hl
    replace hf : b_X7_find_6 z (wl4 (b_X7_find_6 z) n) x1 x2 x3 x4 = some Z := hf
    unfold b_X7_find_6 at hf
    refine lv_iload hx hb dX7_find_6 (lv_at hl 4 rfl) ?_
    refine lv_aload_n hx hb dX7_find_8 rfl (lv_at hl 0 rfl) ?_
    refine r_X7_7 (b' := 123) F hh in_122 sh_122 rfl dX7_find_9 ?_
    refine lv_iconst (v := 0) hx hb dX7_find_12 (by decide) ?_
    obtain ⟨t1, ht1, hf⟩ := ob hf
    refine g_iald F hh in_123 sh_123 ht1 dX7_find_13 ?_
    refine lv_icmp_ge (tgt := 50) hx hb dX7_find_14 (by decide) (fun c2 => ?_) (fun c2 => ?_)
    · replace hf := itp c2 hf
      refine lv_iload_n hx hb dX7_find_50 rfl (lv_at hl 3 rfl) ?_
      exact g_iret F hr hlk hh (Option.some.inj hf) rfl dX7_find_51
    · replace hf := itn c2 hf
      refine lv_aload_n hx hb dX7_find_17 rfl (lv_at hl 0 rfl) ?_
      refine lv_iload hx hb dX7_find_18 (lv_at hl 4 rfl) ?_
      obtain ⟨t3, ht3, hf⟩ := ob hf
      refine m_X7_83 F hh (c_X7_x ht3) in_122 sh_122 rfl hl (Nat.le_of_ble_eq_true rfl) dX7_find_20 (fun H locs hh => ?_)
      refine lv_iload_n hx hb dX7_find_23 rfl (lv_at hl 1 rfl) ?_
      refine lv_icmp_ne (tgt := 42) hx hb dX7_find_24 (by decide) (fun c4 => ?_) (fun c4 => ?_)
      · replace hf := itn c4 hf
        refine lv_iload_n hx hb dX7_find_42 rfl (lv_at hl 3 rfl) ?_
        refine lv_istore_n (lv' := [(3, .int x3), (0, .ref (G.1 122)), (1, .int x1), (2, .int x2), (4, .int x4)]) hx hb dX7_find_43 rfl hl (by decide) rfl (fun ls hl => ?_)
        obtain ⟨x4_5, ex4_5⟩ : ∃ y : Int32, y = x4 + (1 : Int32) := ⟨_, rfl⟩
        replace hf := lt_e ex4_5 hf
        refine lv_iinc (v := x4_5) (lv' := [(4, .int x4_5), (3, .int x3), (0, .ref (G.1 122)), (1, .int x1), (2, .int x2)]) hx hb dX7_find_44 hl (k := 4) rfl (by rw [ex4_5]; rfl) (by decide) rfl (fun ls hl => ?_)
        refine lv_goto (tgt := 6) hx hb dX7_find_47 (by decide) ?_
        exact ih _ _ _ _ hf  hh (lv_sub hl [2, 3, 4, 1, 0] rfl)
      · replace hf := itp c4 hf
        refine lv_aload_n hx hb dX7_find_27 rfl (lv_at hl 0 rfl) ?_
        refine lv_iload hx hb dX7_find_28 (lv_at hl 4 rfl) ?_
        obtain ⟨t6, ht6, hf⟩ := ob hf
        refine m_X7_87 F hh (c_X7_y ht6) in_122 sh_122 rfl hl (Nat.le_of_ble_eq_true rfl) dX7_find_30 (fun H locs hh => ?_)
        refine lv_iload_n hx hb dX7_find_33 rfl (lv_at hl 2 rfl) ?_
        refine lv_icmp_ne (tgt := 42) hx hb dX7_find_34 (by decide) (fun c7 => ?_) (fun c7 => ?_)
        · replace hf := itn c7 hf
          refine lv_iload_n hx hb dX7_find_42 rfl (lv_at hl 3 rfl) ?_
          refine lv_istore_n (lv' := [(3, .int x3), (0, .ref (G.1 122)), (1, .int x1), (2, .int x2), (4, .int x4)]) hx hb dX7_find_43 rfl hl (by decide) rfl (fun ls hl => ?_)
          obtain ⟨x4_8, ex4_8⟩ : ∃ y : Int32, y = x4 + (1 : Int32) := ⟨_, rfl⟩
          replace hf := lt_e ex4_8 hf
          refine lv_iinc (v := x4_8) (lv' := [(4, .int x4_8), (3, .int x3), (0, .ref (G.1 122)), (1, .int x1), (2, .int x2)]) hx hb dX7_find_44 hl (k := 4) rfl (by rw [ex4_8]; rfl) (by decide) rfl (fun ls hl => ?_)
          refine lv_goto (tgt := 6) hx hb dX7_find_47 (by decide) ?_
          exact ih _ _ _ _ hf  hh (lv_sub hl [2, 3, 4, 1, 0] rfl)
        · replace hf := itp c7 hf
          refine lv_iload hx hb dX7_find_37 (lv_at hl 4 rfl) ?_
          refine lv_goto (tgt := 43) hx hb dX7_find_39 (by decide) ?_
          refine lv_istore_n (lv' := [(3, .int x4), (0, .ref (G.1 122)), (1, .int x1), (2, .int x2), (4, .int x4)]) hx hb dX7_find_43 rfl hl (by decide) rfl (fun ls hl => ?_)
          obtain ⟨x4_9, ex4_9⟩ : ∃ y : Int32, y = x4 + (1 : Int32) := ⟨_, rfl⟩
          replace hf := lt_e ex4_9 hf
          refine lv_iinc (v := x4_9) (lv' := [(4, .int x4_9), (3, .int x4), (0, .ref (G.1 122)), (1, .int x1), (2, .int x2)]) hx hb dX7_find_44 hl (k := 4) rfl (by rw [ex4_9]; rfl) (by decide) rfl (fun ls hl => ?_)
          refine lv_goto (tgt := 6) hx hb dX7_find_47 (by decide) ?_
          exact ih _ _ _ _ hf  hh (lv_sub hl [2, 3, 4, 1, 0] rfl)
set_option maxRecDepth 100000 in
set_option maxHeartbeats 4000000 in
theorem w_X7_find {Z : Int32} (F : Fx rM p s m args cd cX7_find 5 RX7 G) (hr : meth.sig.returnType = (some .int)) (hlk : meth.locks = false) {x1 : Int32} {x2 : Int32} {z : Sto} {H : Heap} {locs : List Loc} {ls : Array Slot} (hf : f_X7_find x1 x2 z = some Z) (hh : Hh rM G z s H locs) (hl : lv_has ls 5 [(0, .ref (G.1 122)), (1, .int x1), (2, .int x2)]) : W p l e rmX7_find s m args below meth cd H locs 0 0 (MQ below (QI rM G Z z) args s 0 0 (Am rM G)) (F0 m 0 ls []) := by
  have hx := F.1
  have hb := F.2.1
  unfold f_X7_find at hf
  refine lv_bipush (v := -4) hx hb dX7_find_0 (by decide) ?_
  refine lv_istore_n (lv' := [(3, .int (-4 : Int32)), (0, .ref (G.1 122)), (1, .int x1), (2, .int x2)]) hx hb dX7_find_2 rfl hl (by decide) rfl (fun ls hl => ?_)
  refine lv_iconst (v := 0) hx hb dX7_find_3 (by decide) ?_
  refine lv_istore (lv' := [(4, .int (0 : Int32)), (3, .int (-4 : Int32)), (0, .ref (G.1 122)), (1, .int x1), (2, .int x2)]) hx hb dX7_find_4 hl (by decide) rfl (fun ls hl => ?_)
  exact w_X7_find_6 F hr hlk fu _ _ _ _ hf  hh (lv_sub hl [2, 3, 4, 1, 0] rfl)
theorem c_X7_find {l : Launch} {G : Gm} {x1 : Int32} {x2 : Int32} {z : Sto} {Z : Int32} (hf : f_X7_find x1 x2 z = some Z) : Met l yX7_find (Cond.code yX7_find cX7_find 5 (some .int) :: TT) rmX7_find (va_Pc [.ref (G.1 122), .int x1, .int x2] (GS rM G z)) (QI rM G Z z) 0 0 (Am rM G) := by
  refine g_met [(0, .ref (G.1 122)), (1, .int x1), (2, .int x2)] (by decide) (Nat.le_of_ble_eq_true rfl) rfl ?_
  intro p e s m below meth cd F hr hlk ls H locs hl hh
  exact w_X7_find F hr hlk hf hh hl
def j_X7_findBar_70 (z : Sto) (ag6 : Int32 → Int32 → Int32 → Int32 → Option (Int32)) (x1 : Int32) (x2 : Int32) (x3 : Int32) (x4 : Int32) (k0 : Int32) : Option (Int32) := if k0 = 0 then (lt (x4 + (1 : Int32)) fun x4_12 => ag6 x1 x2 x3 x4_12) else (lt (x4 + (1 : Int32)) fun x4_13 => ag6 x1 x2 x4 x4_13)
def j_X7_findBar_65 (z : Sto) (ag6 : Int32 → Int32 → Int32 → Int32 → Option (Int32)) (x1 : Int32) (x2 : Int32) (x3 : Int32) (x4 : Int32) : Option (Int32) := j_X7_findBar_70 z ag6 x1 x2 x3 x4 (1 : Int32)
def j_X7_findBar_69 (z : Sto) (ag6 : Int32 → Int32 → Int32 → Int32 → Option (Int32)) (x1 : Int32) (x2 : Int32) (x3 : Int32) (x4 : Int32) : Option (Int32) := j_X7_findBar_70 z ag6 x1 x2 x3 x4 (0 : Int32)
def j_X7_findBar_41 (z : Sto) (ag6 : Int32 → Int32 → Int32 → Int32 → Option (Int32)) (x1 : Int32) (x2 : Int32) (x3 : Int32) (x4 : Int32) : Option (Int32) := bd (f_X7_from (((2 : Int32) * x4)) z) fun t7 => if t7 = x2 then (bd (f_X7_to (((2 : Int32) * x4)) z) fun t9 => if t9 = x1 then (j_X7_findBar_65 z ag6 x1 x2 x3 x4) else (j_X7_findBar_69 z ag6 x1 x2 x3 x4)) else (j_X7_findBar_69 z ag6 x1 x2 x3 x4)
def b_X7_findBar_6 (z : Sto)  (ag6 : Int32 → Int32 → Int32 → Int32 → Option (Int32)) (x1 : Int32) (x2 : Int32) (x3 : Int32) (x4 : Int32) : Option (Int32) := bd (rdI z 123 42 (1 : Int32)) fun t1 => if t1 ≤ x4 then (some x3) else (bd (f_X7_from (((2 : Int32) * x4)) z) fun t3 => if t3 = x1 then (bd (f_X7_to (((2 : Int32) * x4)) z) fun t5 => if t5 = x2 then (j_X7_findBar_65 z ag6 x1 x2 x3 x4) else (j_X7_findBar_41 z ag6 x1 x2 x3 x4)) else (j_X7_findBar_41 z ag6 x1 x2 x3 x4))
def f_X7_findBar (x1 : Int32) (x2 : Int32) (z : Sto) : Option (Int32) := wl4 (b_X7_findBar_6 z) fu x1 x2 (-4 : Int32) (0 : Int32)
set_option maxRecDepth 100000 in
set_option maxHeartbeats 4000000 in
theorem w_X7_findBar_70 {z : Sto} {ag6 : Int32 → Int32 → Int32 → Int32 → Option (Int32)} {Z : Int32} (F : Fx rM p s m args cd cX7_findBar 6 RX7 G) (hr : meth.sig.returnType = (some .int)) (hlk : meth.locks = false) (hag6 : ∀ (x1 : Int32) (x2 : Int32) (x3 : Int32) (x4 : Int32), ag6 x1 x2 x3 x4 = some Z → ∀ {H : Heap} {locs : List Loc} {ls : Array Slot}, Hh rM G z s H locs → lv_has ls 6 [(0, .ref (G.1 122)), (1, .int x1), (2, .int x2), (3, .int x3), (4, .int x4)] → W p l e rmX7_findBar s m args below meth cd H locs 0 0 (MQ below (QI rM G Z z) args s 0 0 (Am rM G)) (F0 m 6 ls [])) {x1 : Int32} {x2 : Int32} {x3 : Int32} {x4 : Int32} {k0 : Int32} {H : Heap} {locs : List Loc} {ls : Array Slot} (hf : j_X7_findBar_70 z ag6 x1 x2 x3 x4 k0 = some Z) (hh : Hh rM G z s H locs) (hl : lv_has ls 6 [(0, .ref (G.1 122)), (1, .int x1), (2, .int x2), (3, .int x3), (4, .int x4)]) : W p l e rmX7_findBar s m args below meth cd H locs 0 0 (MQ below (QI rM G Z z) args s 0 0 (Am rM G)) (F0 m 70 ls [.int k0]) := by
  have hx := F.1
  have hb := F.2.1
  unfold j_X7_findBar_70 at hf
  refine lv_istore (lv' := [(5, .int k0), (0, .ref (G.1 122)), (1, .int x1), (2, .int x2), (3, .int x3), (4, .int x4)]) hx hb dX7_findBar_70 hl (by decide) rfl (fun ls hl => ?_)
  refine lv_iload hx hb dX7_findBar_72 (lv_at hl 0 rfl) ?_
  refine lv_if_eq (tgt := 82) hx hb dX7_findBar_74 (by decide) (fun c11 => ?_) (fun c11 => ?_)
  · replace hf := itp c11 hf
    refine lv_iload_n hx hb dX7_findBar_82 rfl (lv_at hl 4 rfl) ?_
    refine lv_istore_n (lv' := [(3, .int x3), (5, .int k0), (0, .ref (G.1 122)), (1, .int x1), (2, .int x2), (4, .int x4)]) hx hb dX7_findBar_83 rfl hl (by decide) rfl (fun ls hl => ?_)
    obtain ⟨x4_12, ex4_12⟩ : ∃ y : Int32, y = x4 + (1 : Int32) := ⟨_, rfl⟩
    replace hf := lt_e ex4_12 hf
    refine lv_iinc (v := x4_12) (lv' := [(4, .int x4_12), (3, .int x3), (5, .int k0), (0, .ref (G.1 122)), (1, .int x1), (2, .int x2)]) hx hb dX7_findBar_84 hl (k := 5) rfl (by rw [ex4_12]; rfl) (by decide) rfl (fun ls hl => ?_)
    refine lv_goto (tgt := 6) hx hb dX7_findBar_87 (by decide) ?_
    exact hag6 _ _ _ _ hf  hh (lv_sub hl [3, 4, 5, 1, 0] rfl)
  · replace hf := itn c11 hf
    refine lv_iload hx hb dX7_findBar_77 (lv_at hl 5 rfl) ?_
    refine lv_goto (tgt := 83) hx hb dX7_findBar_79 (by decide) ?_
    refine lv_istore_n (lv' := [(3, .int x4), (5, .int k0), (0, .ref (G.1 122)), (1, .int x1), (2, .int x2), (4, .int x4)]) hx hb dX7_findBar_83 rfl hl (by decide) rfl (fun ls hl => ?_)
    obtain ⟨x4_13, ex4_13⟩ : ∃ y : Int32, y = x4 + (1 : Int32) := ⟨_, rfl⟩
    replace hf := lt_e ex4_13 hf
    refine lv_iinc (v := x4_13) (lv' := [(4, .int x4_13), (3, .int x4), (5, .int k0), (0, .ref (G.1 122)), (1, .int x1), (2, .int x2)]) hx hb dX7_findBar_84 hl (k := 5) rfl (by rw [ex4_13]; rfl) (by decide) rfl (fun ls hl => ?_)
    refine lv_goto (tgt := 6) hx hb dX7_findBar_87 (by decide) ?_
    exact hag6 _ _ _ _ hf  hh (lv_sub hl [3, 4, 5, 1, 0] rfl)
set_option maxRecDepth 100000 in
set_option maxHeartbeats 4000000 in
theorem w_X7_findBar_65 {z : Sto} {ag6 : Int32 → Int32 → Int32 → Int32 → Option (Int32)} {Z : Int32} (F : Fx rM p s m args cd cX7_findBar 6 RX7 G) (hr : meth.sig.returnType = (some .int)) (hlk : meth.locks = false) (hag6 : ∀ (x1 : Int32) (x2 : Int32) (x3 : Int32) (x4 : Int32), ag6 x1 x2 x3 x4 = some Z → ∀ {H : Heap} {locs : List Loc} {ls : Array Slot}, Hh rM G z s H locs → lv_has ls 6 [(0, .ref (G.1 122)), (1, .int x1), (2, .int x2), (3, .int x3), (4, .int x4)] → W p l e rmX7_findBar s m args below meth cd H locs 0 0 (MQ below (QI rM G Z z) args s 0 0 (Am rM G)) (F0 m 6 ls [])) {x1 : Int32} {x2 : Int32} {x3 : Int32} {x4 : Int32} {H : Heap} {locs : List Loc} {ls : Array Slot} (hf : j_X7_findBar_65 z ag6 x1 x2 x3 x4 = some Z) (hh : Hh rM G z s H locs) (hl : lv_has ls 6 [(0, .ref (G.1 122)), (1, .int x1), (2, .int x2), (3, .int x3), (4, .int x4)]) : W p l e rmX7_findBar s m args below meth cd H locs 0 0 (MQ below (QI rM G Z z) args s 0 0 (Am rM G)) (F0 m 65 ls []) := by
  have hx := F.1
  have hb := F.2.1
  unfold j_X7_findBar_65 at hf
  refine lv_iconst (v := 1) hx hb dX7_findBar_65 (by decide) ?_
  refine lv_goto (tgt := 70) hx hb dX7_findBar_66 (by decide) ?_
  exact w_X7_findBar_70 F hr hlk hag6 hf  hh (lv_sub hl [0, 1, 2, 3, 4] rfl)
set_option maxRecDepth 100000 in
set_option maxHeartbeats 4000000 in
theorem w_X7_findBar_69 {z : Sto} {ag6 : Int32 → Int32 → Int32 → Int32 → Option (Int32)} {Z : Int32} (F : Fx rM p s m args cd cX7_findBar 6 RX7 G) (hr : meth.sig.returnType = (some .int)) (hlk : meth.locks = false) (hag6 : ∀ (x1 : Int32) (x2 : Int32) (x3 : Int32) (x4 : Int32), ag6 x1 x2 x3 x4 = some Z → ∀ {H : Heap} {locs : List Loc} {ls : Array Slot}, Hh rM G z s H locs → lv_has ls 6 [(0, .ref (G.1 122)), (1, .int x1), (2, .int x2), (3, .int x3), (4, .int x4)] → W p l e rmX7_findBar s m args below meth cd H locs 0 0 (MQ below (QI rM G Z z) args s 0 0 (Am rM G)) (F0 m 6 ls [])) {x1 : Int32} {x2 : Int32} {x3 : Int32} {x4 : Int32} {H : Heap} {locs : List Loc} {ls : Array Slot} (hf : j_X7_findBar_69 z ag6 x1 x2 x3 x4 = some Z) (hh : Hh rM G z s H locs) (hl : lv_has ls 6 [(0, .ref (G.1 122)), (1, .int x1), (2, .int x2), (3, .int x3), (4, .int x4)]) : W p l e rmX7_findBar s m args below meth cd H locs 0 0 (MQ below (QI rM G Z z) args s 0 0 (Am rM G)) (F0 m 69 ls []) := by
  have hx := F.1
  have hb := F.2.1
  unfold j_X7_findBar_69 at hf
  refine lv_iconst (v := 0) hx hb dX7_findBar_69 (by decide) ?_
  exact w_X7_findBar_70 F hr hlk hag6 hf  hh (lv_sub hl [0, 1, 2, 3, 4] rfl)
set_option maxRecDepth 100000 in
set_option maxHeartbeats 4000000 in
theorem w_X7_findBar_41 {z : Sto} {ag6 : Int32 → Int32 → Int32 → Int32 → Option (Int32)} {Z : Int32} (F : Fx rM p s m args cd cX7_findBar 6 RX7 G) (hr : meth.sig.returnType = (some .int)) (hlk : meth.locks = false) (hag6 : ∀ (x1 : Int32) (x2 : Int32) (x3 : Int32) (x4 : Int32), ag6 x1 x2 x3 x4 = some Z → ∀ {H : Heap} {locs : List Loc} {ls : Array Slot}, Hh rM G z s H locs → lv_has ls 6 [(0, .ref (G.1 122)), (1, .int x1), (2, .int x2), (3, .int x3), (4, .int x4)] → W p l e rmX7_findBar s m args below meth cd H locs 0 0 (MQ below (QI rM G Z z) args s 0 0 (Am rM G)) (F0 m 6 ls [])) {x1 : Int32} {x2 : Int32} {x3 : Int32} {x4 : Int32} {H : Heap} {locs : List Loc} {ls : Array Slot} (hf : j_X7_findBar_41 z ag6 x1 x2 x3 x4 = some Z) (hh : Hh rM G z s H locs) (hl : lv_has ls 6 [(0, .ref (G.1 122)), (1, .int x1), (2, .int x2), (3, .int x3), (4, .int x4)]) : W p l e rmX7_findBar s m args below meth cd H locs 0 0 (MQ below (QI rM G Z z) args s 0 0 (Am rM G)) (F0 m 41 ls []) := by
  have hx := F.1
  have hb := F.2.1
  unfold j_X7_findBar_41 at hf
  refine lv_aload_n hx hb dX7_findBar_41 rfl (lv_at hl 0 rfl) ?_
  refine lv_iconst (v := 2) hx hb dX7_findBar_42 (by decide) ?_
  refine lv_iload hx hb dX7_findBar_43 (lv_at hl 4 rfl) ?_
  refine lv_imul hx hb dX7_findBar_45 ?_
  obtain ⟨t7, ht7, hf⟩ := ob hf
  refine m_X7_98 F hh (c_X7_from ht7) in_122 sh_122 rfl hl (Nat.le_of_ble_eq_true rfl) dX7_findBar_46 (fun H locs hh => ?_)
  refine lv_iload_n hx hb dX7_findBar_49 rfl (lv_at hl 2 rfl) ?_
  refine lv_icmp_ne (tgt := 69) hx hb dX7_findBar_50 (by decide) (fun c8 => ?_) (fun c8 => ?_)
  · replace hf := itn c8 hf
    exact w_X7_findBar_69 F hr hlk hag6 hf  hh (lv_sub hl [0, 1, 2, 3, 4] rfl)
  · replace hf := itp c8 hf
    refine lv_aload_n hx hb dX7_findBar_53 rfl (lv_at hl 0 rfl) ?_
    refine lv_iconst (v := 2) hx hb dX7_findBar_54 (by decide) ?_
    refine lv_iload hx hb dX7_findBar_55 (lv_at hl 4 rfl) ?_
    refine lv_imul hx hb dX7_findBar_57 ?_
    obtain ⟨t9, ht9, hf⟩ := ob hf
    refine m_X7_101 F hh (c_X7_to ht9) in_122 sh_122 rfl hl (Nat.le_of_ble_eq_true rfl) dX7_findBar_58 (fun H locs hh => ?_)
    refine lv_iload_n hx hb dX7_findBar_61 rfl (lv_at hl 1 rfl) ?_
    refine lv_icmp_ne (tgt := 69) hx hb dX7_findBar_62 (by decide) (fun c10 => ?_) (fun c10 => ?_)
    · replace hf := itn c10 hf
      exact w_X7_findBar_69 F hr hlk hag6 hf  hh (lv_sub hl [0, 1, 2, 3, 4] rfl)
    · replace hf := itp c10 hf
      exact w_X7_findBar_65 F hr hlk hag6 hf  hh (lv_sub hl [0, 1, 2, 3, 4] rfl)
set_option maxRecDepth 100000 in
set_option maxHeartbeats 4000000 in
theorem w_X7_findBar_6 {z : Sto}  {Z : Int32} (F : Fx rM p s m args cd cX7_findBar 6 RX7 G) (hr : meth.sig.returnType = (some .int)) (hlk : meth.locks = false)  : ∀ (n : Nat), ∀ (x1 : Int32) (x2 : Int32) (x3 : Int32) (x4 : Int32), wl4 (b_X7_findBar_6 z) n x1 x2 x3 x4 = some Z → ∀ {H : Heap} {locs : List Loc} {ls : Array Slot}, Hh rM G z s H locs → lv_has ls 6 [(0, .ref (G.1 122)), (1, .int x1), (2, .int x2), (3, .int x3), (4, .int x4)] → W p l e rmX7_findBar s m args below meth cd H locs 0 0 (MQ below (QI rM G Z z) args s 0 0 (Am rM G)) (F0 m 6 ls []) := by
  have hx := F.1
  have hb := F.2.1
  intro n
  induction n with
  | zero =>
    intro x1 x2 x3 x4 hf
    exact absurd hf (by intro h; cases h)
  | succ n ih =>
    intro x1 x2 x3 x4 hf  H locs ls hh hl
    replace hf : b_X7_findBar_6 z (wl4 (b_X7_findBar_6 z) n) x1 x2 x3 x4 = some Z := hf
    unfold b_X7_findBar_6 at hf
    refine lv_iload hx hb dX7_findBar_6 (lv_at hl 4 rfl) ?_
    refine lv_aload_n hx hb dX7_findBar_8 rfl (lv_at hl 0 rfl) ?_
    refine r_X7_7 (b' := 123) F hh in_122 sh_122 rfl dX7_findBar_9 ?_
    refine lv_iconst (v := 1) hx hb dX7_findBar_12 (by decide) ?_
    obtain ⟨t1, ht1, hf⟩ := ob hf
    refine g_iald F hh in_123 sh_123 ht1 dX7_findBar_13 ?_
    refine lv_icmp_ge (tgt := 90) hx hb dX7_findBar_14 (by decide) (fun c2 => ?_) (fun c2 => ?_)
    · replace hf := itp c2 hf
      refine lv_iload_n hx hb dX7_findBar_90 rfl (lv_at hl 3 rfl) ?_
      exact g_iret F hr hlk hh (Option.some.inj hf) rfl dX7_findBar_91
    · replace hf := itn c2 hf
      refine lv_aload_n hx hb dX7_findBar_17 rfl (lv_at hl 0 rfl) ?_
      refine lv_iconst (v := 2) hx hb dX7_findBar_18 (by decide) ?_
      refine lv_iload hx hb dX7_findBar_19 (lv_at hl 4 rfl) ?_
      refine lv_imul hx hb dX7_findBar_21 ?_
      obtain ⟨t3, ht3, hf⟩ := ob hf
      refine m_X7_98 F hh (c_X7_from ht3) in_122 sh_122 rfl hl (Nat.le_of_ble_eq_true rfl) dX7_findBar_22 (fun H locs hh => ?_)
      refine lv_iload_n hx hb dX7_findBar_25 rfl (lv_at hl 1 rfl) ?_
      refine lv_icmp_ne (tgt := 41) hx hb dX7_findBar_26 (by decide) (fun c4 => ?_) (fun c4 => ?_)
      · replace hf := itn c4 hf
        exact w_X7_findBar_41 F hr hlk ih hf  hh (lv_sub hl [0, 1, 2, 3, 4] rfl)
      · replace hf := itp c4 hf
        refine lv_aload_n hx hb dX7_findBar_29 rfl (lv_at hl 0 rfl) ?_
        refine lv_iconst (v := 2) hx hb dX7_findBar_30 (by decide) ?_
        refine lv_iload hx hb dX7_findBar_31 (lv_at hl 4 rfl) ?_
        refine lv_imul hx hb dX7_findBar_33 ?_
        obtain ⟨t5, ht5, hf⟩ := ob hf
        refine m_X7_101 F hh (c_X7_to ht5) in_122 sh_122 rfl hl (Nat.le_of_ble_eq_true rfl) dX7_findBar_34 (fun H locs hh => ?_)
        refine lv_iload_n hx hb dX7_findBar_37 rfl (lv_at hl 2 rfl) ?_
        refine lv_icmp_eq (tgt := 65) hx hb dX7_findBar_38 (by decide) (fun c6 => ?_) (fun c6 => ?_)
        · replace hf := itp c6 hf
          exact w_X7_findBar_65 F hr hlk ih hf  hh (lv_sub hl [0, 1, 2, 3, 4] rfl)
        · replace hf := itn c6 hf
          exact w_X7_findBar_41 F hr hlk ih hf  hh (lv_sub hl [0, 1, 2, 3, 4] rfl)
set_option maxRecDepth 100000 in
set_option maxHeartbeats 4000000 in
theorem w_X7_findBar {Z : Int32} (F : Fx rM p s m args cd cX7_findBar 6 RX7 G) (hr : meth.sig.returnType = (some .int)) (hlk : meth.locks = false) {x1 : Int32} {x2 : Int32} {z : Sto} {H : Heap} {locs : List Loc} {ls : Array Slot} (hf : f_X7_findBar x1 x2 z = some Z) (hh : Hh rM G z s H locs) (hl : lv_has ls 6 [(0, .ref (G.1 122)), (1, .int x1), (2, .int x2)]) : W p l e rmX7_findBar s m args below meth cd H locs 0 0 (MQ below (QI rM G Z z) args s 0 0 (Am rM G)) (F0 m 0 ls []) := by
  have hx := F.1
  have hb := F.2.1
  unfold f_X7_findBar at hf
  refine lv_bipush (v := -4) hx hb dX7_findBar_0 (by decide) ?_
  refine lv_istore_n (lv' := [(3, .int (-4 : Int32)), (0, .ref (G.1 122)), (1, .int x1), (2, .int x2)]) hx hb dX7_findBar_2 rfl hl (by decide) rfl (fun ls hl => ?_)
  refine lv_iconst (v := 0) hx hb dX7_findBar_3 (by decide) ?_
  refine lv_istore (lv' := [(4, .int (0 : Int32)), (3, .int (-4 : Int32)), (0, .ref (G.1 122)), (1, .int x1), (2, .int x2)]) hx hb dX7_findBar_4 hl (by decide) rfl (fun ls hl => ?_)
  exact w_X7_findBar_6 F hr hlk fu _ _ _ _ hf  hh (lv_sub hl [2, 3, 4, 1, 0] rfl)
theorem c_X7_findBar {l : Launch} {G : Gm} {x1 : Int32} {x2 : Int32} {z : Sto} {Z : Int32} (hf : f_X7_findBar x1 x2 z = some Z) : Met l yX7_findBar (Cond.code yX7_findBar cX7_findBar 6 (some .int) :: TT) rmX7_findBar (va_Pc [.ref (G.1 122), .int x1, .int x2] (GS rM G z)) (QI rM G Z z) 0 0 (Am rM G) := by
  refine g_met [(0, .ref (G.1 122)), (1, .int x1), (2, .int x2)] (by decide) (Nat.le_of_ble_eq_true rfl) rfl ?_
  intro p e s m below meth cd F hr hlk ls H locs hl hh
  exact w_X7_findBar F hr hlk hf hh hl
def b_X7_notes_46  (ag46 : Int32 → Sto → Option (Sto)) (x1 : Int32) (z : Sto) : Option (Sto) := if (42 : Int32) ≤ x1 then (lt (upI z 122 2 ((z.1 122 2) + (1 : Int32))) fun z3 => some z3) else (bd (rdI z 123 42 x1) fun t4 => bd (wrI z 124 252 (((42 : Int32) * (z.1 122 2)) + x1) t4) fun z5 => lt (x1 + (1 : Int32)) fun x1_6 => ag46 x1_6 z5)
def b_X7_notes_11  (ag11 : Int32 → Sto → Option (Sto)) (x1 : Int32) (z : Sto) : Option (Sto) := if (210 : Int32) ≤ x1 then (lt (upI z 122 2 (5 : Int32)) fun z8 => wl2 (b_X7_notes_46) fu (0 : Int32) z8) else (bd (rdI z 124 252 (x1 + (42 : Int32))) fun t9 => bd (wrI z 124 252 x1 t9) fun z10 => lt (x1 + (1 : Int32)) fun x1_11 => ag11 x1_11 z10)
def f_X7_notes  (z : Sto) : Option (Sto) := if (z.1 122 2) = (6 : Int32) then (wl2 (b_X7_notes_11) fu (0 : Int32) z) else (wl2 (b_X7_notes_46) fu (0 : Int32) z)
set_option maxRecDepth 100000 in
set_option maxHeartbeats 4000000 in
theorem w_X7_notes_46  {Z : Sto} (F : Fx rM p s m args cd cX7_notes 2 RX7 G) (hr : meth.sig.returnType = none) (hlk : meth.locks = false)  : ∀ (n : Nat), ∀ (x1 : Int32) (z : Sto), wl2 (b_X7_notes_46) n x1 z = some Z → ∀ {H : Heap} {locs : List Loc} {ls : Array Slot}, Hh rM G z s H locs → lv_has ls 2 [(0, .ref (G.1 122)), (1, .int x1)] → W p l e rmX7_notes s m args below meth cd H locs 0 0 (MQ below (QV rM G Z) args s 0 0 (Am rM G)) (F0 m 46 ls []) := by
  have hx := F.1
  have hb := F.2.1
  intro n
  induction n with
  | zero =>
    intro x1 z hf
    exact absurd hf (by intro h; cases h)
  | succ n ih =>
    intro x1 z hf  H locs ls hh hl
    replace hf : b_X7_notes_46 (wl2 (b_X7_notes_46) n) x1 z = some Z := hf
    unfold b_X7_notes_46 at hf
    refine lv_iload_n hx hb dX7_notes_46 rfl (lv_at hl 1 rfl) ?_
    refine lv_bipush (v := 42) hx hb dX7_notes_47 (by decide) ?_
    refine lv_icmp_ge (tgt := 78) hx hb dX7_notes_49 (by decide) (fun c2 => ?_) (fun c2 => ?_)
    · replace hf := itp c2 hf
      refine lv_aload_n hx hb dX7_notes_78 rfl (lv_at hl 0 rfl) ?_
      refine lv_dup hx hb dX7_notes_79 rfl ?_
      refine r_X7_112 F hh in_122 sh_122 dX7_notes_80 ?_
      refine lv_iconst (v := 1) hx hb dX7_notes_83 (by decide) ?_
      refine lv_iadd hx hb dX7_notes_84 ?_
      refine s_X7_112 F hh in_122 sh_122 dX7_notes_85 (fun z3 ez3 H locs hh => ?_)
      replace hf := lt_e ez3 hf
      exact g_vret F hr hlk hh (Option.some.inj hf) dX7_notes_88
    · replace hf := itn c2 hf
      refine lv_aload_n hx hb dX7_notes_52 rfl (lv_at hl 0 rfl) ?_
      refine r_X7_13 (b' := 124) F hh in_122 sh_122 rfl dX7_notes_53 ?_
      refine lv_bipush (v := 42) hx hb dX7_notes_56 (by decide) ?_
      refine lv_aload_n hx hb dX7_notes_58 rfl (lv_at hl 0 rfl) ?_
      refine r_X7_112 F hh in_122 sh_122 dX7_notes_59 ?_
      refine lv_imul hx hb dX7_notes_62 ?_
      refine lv_iload_n hx hb dX7_notes_63 rfl (lv_at hl 1 rfl) ?_
      refine lv_iadd hx hb dX7_notes_64 ?_
      refine lv_aload_n hx hb dX7_notes_65 rfl (lv_at hl 0 rfl) ?_
      refine r_X7_7 (b' := 123) F hh in_122 sh_122 rfl dX7_notes_66 ?_
      refine lv_iload_n hx hb dX7_notes_69 rfl (lv_at hl 1 rfl) ?_
      obtain ⟨t4, ht4, hf⟩ := ob hf
      refine g_iald F hh in_123 sh_123 ht4 dX7_notes_70 ?_
      obtain ⟨z5, hz5, hf⟩ := ob hf
      refine g_iast F hh in_124 sh_124 hz5 dX7_notes_71 (fun H locs hh => ?_)
      obtain ⟨x1_6, ex1_6⟩ : ∃ y : Int32, y = x1 + (1 : Int32) := ⟨_, rfl⟩
      replace hf := lt_e ex1_6 hf
      refine lv_iinc (v := x1_6) (lv' := [(1, .int x1_6), (0, .ref (G.1 122))]) hx hb dX7_notes_72 hl (k := 1) rfl (by rw [ex1_6]; rfl) (by decide) rfl (fun ls hl => ?_)
      refine lv_goto (tgt := 46) hx hb dX7_notes_75 (by decide) ?_
      exact ih _ _ hf  hh (lv_sub hl [1, 0] rfl)
set_option maxRecDepth 100000 in
set_option maxHeartbeats 4000000 in
theorem w_X7_notes_11  {Z : Sto} (F : Fx rM p s m args cd cX7_notes 2 RX7 G) (hr : meth.sig.returnType = none) (hlk : meth.locks = false)  : ∀ (n : Nat), ∀ (x1 : Int32) (z : Sto), wl2 (b_X7_notes_11) n x1 z = some Z → ∀ {H : Heap} {locs : List Loc} {ls : Array Slot}, Hh rM G z s H locs → lv_has ls 2 [(0, .ref (G.1 122)), (1, .int x1)] → W p l e rmX7_notes s m args below meth cd H locs 0 0 (MQ below (QV rM G Z) args s 0 0 (Am rM G)) (F0 m 11 ls []) := by
  have hx := F.1
  have hb := F.2.1
  intro n
  induction n with
  | zero =>
    intro x1 z hf
    exact absurd hf (by intro h; cases h)
  | succ n ih =>
    intro x1 z hf  H locs ls hh hl
    replace hf : b_X7_notes_11 (wl2 (b_X7_notes_11) n) x1 z = some Z := hf
    unfold b_X7_notes_11 at hf
    refine lv_iload_n hx hb dX7_notes_11 rfl (lv_at hl 1 rfl) ?_
    refine lv_sipush (v := 210) hx hb dX7_notes_12 (by decide) ?_
    refine lv_icmp_ge (tgt := 39) hx hb dX7_notes_15 (by decide) (fun c7 => ?_) (fun c7 => ?_)
    · replace hf := itp c7 hf
      refine lv_aload_n hx hb dX7_notes_39 rfl (lv_at hl 0 rfl) ?_
      refine lv_iconst (v := 5) hx hb dX7_notes_40 (by decide) ?_
      refine s_X7_112 F hh in_122 sh_122 dX7_notes_41 (fun z8 ez8 H locs hh => ?_)
      replace hf := lt_e ez8 hf
      refine lv_iconst (v := 0) hx hb dX7_notes_44 (by decide) ?_
      refine lv_istore_n (lv' := [(1, .int (0 : Int32)), (0, .ref (G.1 122))]) hx hb dX7_notes_45 rfl hl (by decide) rfl (fun ls hl => ?_)
      exact w_X7_notes_46 F hr hlk fu _ _ hf  hh (lv_sub hl [1, 0] rfl)
    · replace hf := itn c7 hf
      refine lv_aload_n hx hb dX7_notes_18 rfl (lv_at hl 0 rfl) ?_
      refine r_X7_13 (b' := 124) F hh in_122 sh_122 rfl dX7_notes_19 ?_
      refine lv_iload_n hx hb dX7_notes_22 rfl (lv_at hl 1 rfl) ?_
      refine lv_aload_n hx hb dX7_notes_23 rfl (lv_at hl 0 rfl) ?_
      refine r_X7_13 (b' := 124) F hh in_122 sh_122 rfl dX7_notes_24 ?_
      refine lv_iload_n hx hb dX7_notes_27 rfl (lv_at hl 1 rfl) ?_
      refine lv_bipush (v := 42) hx hb dX7_notes_28 (by decide) ?_
      refine lv_iadd hx hb dX7_notes_30 ?_
      obtain ⟨t9, ht9, hf⟩ := ob hf
      refine g_iald F hh in_124 sh_124 ht9 dX7_notes_31 ?_
      obtain ⟨z10, hz10, hf⟩ := ob hf
      refine g_iast F hh in_124 sh_124 hz10 dX7_notes_32 (fun H locs hh => ?_)
      obtain ⟨x1_11, ex1_11⟩ : ∃ y : Int32, y = x1 + (1 : Int32) := ⟨_, rfl⟩
      replace hf := lt_e ex1_11 hf
      refine lv_iinc (v := x1_11) (lv' := [(1, .int x1_11), (0, .ref (G.1 122))]) hx hb dX7_notes_33 hl (k := 1) rfl (by rw [ex1_11]; rfl) (by decide) rfl (fun ls hl => ?_)
      refine lv_goto (tgt := 11) hx hb dX7_notes_36 (by decide) ?_
      exact ih _ _ hf  hh (lv_sub hl [1, 0] rfl)
set_option maxRecDepth 100000 in
set_option maxHeartbeats 4000000 in
theorem w_X7_notes {Z : Sto} (F : Fx rM p s m args cd cX7_notes 2 RX7 G) (hr : meth.sig.returnType = none) (hlk : meth.locks = false)  {z : Sto} {H : Heap} {locs : List Loc} {ls : Array Slot} (hf : f_X7_notes  z = some Z) (hh : Hh rM G z s H locs) (hl : lv_has ls 2 [(0, .ref (G.1 122))]) : W p l e rmX7_notes s m args below meth cd H locs 0 0 (MQ below (QV rM G Z) args s 0 0 (Am rM G)) (F0 m 0 ls []) := by
  have hx := F.1
  have hb := F.2.1
  unfold f_X7_notes at hf
  refine lv_aload_n hx hb dX7_notes_0 rfl (lv_at hl 0 rfl) ?_
  refine r_X7_112 F hh in_122 sh_122 dX7_notes_1 ?_
  refine lv_bipush (v := 6) hx hb dX7_notes_4 (by decide) ?_
  refine lv_icmp_ne (tgt := 44) hx hb dX7_notes_6 (by decide) (fun c1 => ?_) (fun c1 => ?_)
  · replace hf := itn c1 hf
    refine lv_iconst (v := 0) hx hb dX7_notes_44 (by decide) ?_
    refine lv_istore_n (lv' := [(1, .int (0 : Int32)), (0, .ref (G.1 122))]) hx hb dX7_notes_45 rfl hl (by decide) rfl (fun ls hl => ?_)
    exact w_X7_notes_46 F hr hlk fu _ _ hf  hh (lv_sub hl [1, 0] rfl)
  · replace hf := itp c1 hf
    refine lv_iconst (v := 0) hx hb dX7_notes_9 (by decide) ?_
    refine lv_istore_n (lv' := [(1, .int (0 : Int32)), (0, .ref (G.1 122))]) hx hb dX7_notes_10 rfl hl (by decide) rfl (fun ls hl => ?_)
    exact w_X7_notes_11 F hr hlk fu _ _ hf  hh (lv_sub hl [1, 0] rfl)
theorem c_X7_notes {l : Launch} {G : Gm}  {z : Sto} {Z : Sto} (hf : f_X7_notes  z = some Z) : Met l yX7_notes (Cond.code yX7_notes cX7_notes 2 none :: TT) rmX7_notes (va_Pc [.ref (G.1 122)] (GS rM G z)) (QV rM G Z) 0 0 (Am rM G) := by
  refine g_met [(0, .ref (G.1 122))] (by decide) (Nat.le_of_ble_eq_true rfl) rfl ?_
  intro p e s m below meth cd F hr hlk ls H locs hl hh
  exact w_X7_notes F hr hlk hf hh hl
def b_X7_holds_2  (ag2 : Int32 → Sto → Option (Sto)) (x1 : Int32) (z : Sto) : Option (Sto) := if (42 : Int32) ≤ x1 then (some z) else (bd (rdI z 123 42 x1) fun t2 => bd (wrI z 132 42 x1 t2) fun z3 => lt (x1 + (1 : Int32)) fun x1_4 => ag2 x1_4 z3)
def f_X7_holds  (z : Sto) : Option (Sto) := wl2 (b_X7_holds_2) fu (0 : Int32) z
set_option maxRecDepth 100000 in
set_option maxHeartbeats 4000000 in
theorem w_X7_holds_2  {Z : Sto} (F : Fx rM p s m args cd cX7_holds 2 RX7 G) (hr : meth.sig.returnType = none) (hlk : meth.locks = false)  : ∀ (n : Nat), ∀ (x1 : Int32) (z : Sto), wl2 (b_X7_holds_2) n x1 z = some Z → ∀ {H : Heap} {locs : List Loc} {ls : Array Slot}, Hh rM G z s H locs → lv_has ls 2 [(0, .ref (G.1 122)), (1, .int x1)] → W p l e rmX7_holds s m args below meth cd H locs 0 0 (MQ below (QV rM G Z) args s 0 0 (Am rM G)) (F0 m 2 ls []) := by
  have hx := F.1
  have hb := F.2.1
  intro n
  induction n with
  | zero =>
    intro x1 z hf
    exact absurd hf (by intro h; cases h)
  | succ n ih =>
    intro x1 z hf  H locs ls hh hl
    replace hf : b_X7_holds_2 (wl2 (b_X7_holds_2) n) x1 z = some Z := hf
    unfold b_X7_holds_2 at hf
    refine lv_iload_n hx hb dX7_holds_2 rfl (lv_at hl 1 rfl) ?_
    refine lv_bipush (v := 42) hx hb dX7_holds_3 (by decide) ?_
    refine lv_icmp_ge (tgt := 26) hx hb dX7_holds_5 (by decide) (fun c1 => ?_) (fun c1 => ?_)
    · replace hf := itp c1 hf
      exact g_vret F hr hlk hh (Option.some.inj hf) dX7_holds_26
    · replace hf := itn c1 hf
      refine lv_aload_n hx hb dX7_holds_8 rfl (lv_at hl 0 rfl) ?_
      refine r_X7_42 (b' := 132) F hh in_122 sh_122 rfl dX7_holds_9 ?_
      refine lv_iload_n hx hb dX7_holds_12 rfl (lv_at hl 1 rfl) ?_
      refine lv_aload_n hx hb dX7_holds_13 rfl (lv_at hl 0 rfl) ?_
      refine r_X7_7 (b' := 123) F hh in_122 sh_122 rfl dX7_holds_14 ?_
      refine lv_iload_n hx hb dX7_holds_17 rfl (lv_at hl 1 rfl) ?_
      obtain ⟨t2, ht2, hf⟩ := ob hf
      refine g_iald F hh in_123 sh_123 ht2 dX7_holds_18 ?_
      obtain ⟨z3, hz3, hf⟩ := ob hf
      refine g_iast F hh in_132 sh_132 hz3 dX7_holds_19 (fun H locs hh => ?_)
      obtain ⟨x1_4, ex1_4⟩ : ∃ y : Int32, y = x1 + (1 : Int32) := ⟨_, rfl⟩
      replace hf := lt_e ex1_4 hf
      refine lv_iinc (v := x1_4) (lv' := [(1, .int x1_4), (0, .ref (G.1 122))]) hx hb dX7_holds_20 hl (k := 1) rfl (by rw [ex1_4]; rfl) (by decide) rfl (fun ls hl => ?_)
      refine lv_goto (tgt := 2) hx hb dX7_holds_23 (by decide) ?_
      exact ih _ _ hf  hh (lv_sub hl [1, 0] rfl)
set_option maxRecDepth 100000 in
set_option maxHeartbeats 4000000 in
theorem w_X7_holds {Z : Sto} (F : Fx rM p s m args cd cX7_holds 2 RX7 G) (hr : meth.sig.returnType = none) (hlk : meth.locks = false)  {z : Sto} {H : Heap} {locs : List Loc} {ls : Array Slot} (hf : f_X7_holds  z = some Z) (hh : Hh rM G z s H locs) (hl : lv_has ls 2 [(0, .ref (G.1 122))]) : W p l e rmX7_holds s m args below meth cd H locs 0 0 (MQ below (QV rM G Z) args s 0 0 (Am rM G)) (F0 m 0 ls []) := by
  have hx := F.1
  have hb := F.2.1
  unfold f_X7_holds at hf
  refine lv_iconst (v := 0) hx hb dX7_holds_0 (by decide) ?_
  refine lv_istore_n (lv' := [(1, .int (0 : Int32)), (0, .ref (G.1 122))]) hx hb dX7_holds_1 rfl hl (by decide) rfl (fun ls hl => ?_)
  exact w_X7_holds_2 F hr hlk fu _ _ hf  hh (lv_sub hl [1, 0] rfl)
theorem c_X7_holds {l : Launch} {G : Gm}  {z : Sto} {Z : Sto} (hf : f_X7_holds  z = some Z) : Met l yX7_holds (Cond.code yX7_holds cX7_holds 2 none :: TT) rmX7_holds (va_Pc [.ref (G.1 122)] (GS rM G z)) (QV rM G Z) 0 0 (Am rM G) := by
  refine g_met [(0, .ref (G.1 122))] (by decide) (Nat.le_of_ble_eq_true rfl) rfl ?_
  intro p e s m below meth cd F hr hlk ls H locs hl hh
  exact w_X7_holds F hr hlk hf hh hl
def b_X7_takesBack_2  (ag2 : Int32 → Sto → Option (Sto)) (x1 : Int32) (z : Sto) : Option (Sto) := if (42 : Int32) ≤ x1 then (some z) else (bd (rdI z 132 42 x1) fun t2 => bd (wrI z 123 42 x1 t2) fun z3 => lt (x1 + (1 : Int32)) fun x1_4 => ag2 x1_4 z3)
def f_X7_takesBack  (z : Sto) : Option (Sto) := wl2 (b_X7_takesBack_2) fu (0 : Int32) z
set_option maxRecDepth 100000 in
set_option maxHeartbeats 4000000 in
theorem w_X7_takesBack_2  {Z : Sto} (F : Fx rM p s m args cd cX7_takesBack 2 RX7 G) (hr : meth.sig.returnType = none) (hlk : meth.locks = false)  : ∀ (n : Nat), ∀ (x1 : Int32) (z : Sto), wl2 (b_X7_takesBack_2) n x1 z = some Z → ∀ {H : Heap} {locs : List Loc} {ls : Array Slot}, Hh rM G z s H locs → lv_has ls 2 [(0, .ref (G.1 122)), (1, .int x1)] → W p l e rmX7_takesBack s m args below meth cd H locs 0 0 (MQ below (QV rM G Z) args s 0 0 (Am rM G)) (F0 m 2 ls []) := by
  have hx := F.1
  have hb := F.2.1
  intro n
  induction n with
  | zero =>
    intro x1 z hf
    exact absurd hf (by intro h; cases h)
  | succ n ih =>
    intro x1 z hf  H locs ls hh hl
    replace hf : b_X7_takesBack_2 (wl2 (b_X7_takesBack_2) n) x1 z = some Z := hf
    unfold b_X7_takesBack_2 at hf
    refine lv_iload_n hx hb dX7_takesBack_2 rfl (lv_at hl 1 rfl) ?_
    refine lv_bipush (v := 42) hx hb dX7_takesBack_3 (by decide) ?_
    refine lv_icmp_ge (tgt := 26) hx hb dX7_takesBack_5 (by decide) (fun c1 => ?_) (fun c1 => ?_)
    · replace hf := itp c1 hf
      exact g_vret F hr hlk hh (Option.some.inj hf) dX7_takesBack_26
    · replace hf := itn c1 hf
      refine lv_aload_n hx hb dX7_takesBack_8 rfl (lv_at hl 0 rfl) ?_
      refine r_X7_7 (b' := 123) F hh in_122 sh_122 rfl dX7_takesBack_9 ?_
      refine lv_iload_n hx hb dX7_takesBack_12 rfl (lv_at hl 1 rfl) ?_
      refine lv_aload_n hx hb dX7_takesBack_13 rfl (lv_at hl 0 rfl) ?_
      refine r_X7_42 (b' := 132) F hh in_122 sh_122 rfl dX7_takesBack_14 ?_
      refine lv_iload_n hx hb dX7_takesBack_17 rfl (lv_at hl 1 rfl) ?_
      obtain ⟨t2, ht2, hf⟩ := ob hf
      refine g_iald F hh in_132 sh_132 ht2 dX7_takesBack_18 ?_
      obtain ⟨z3, hz3, hf⟩ := ob hf
      refine g_iast F hh in_123 sh_123 hz3 dX7_takesBack_19 (fun H locs hh => ?_)
      obtain ⟨x1_4, ex1_4⟩ : ∃ y : Int32, y = x1 + (1 : Int32) := ⟨_, rfl⟩
      replace hf := lt_e ex1_4 hf
      refine lv_iinc (v := x1_4) (lv' := [(1, .int x1_4), (0, .ref (G.1 122))]) hx hb dX7_takesBack_20 hl (k := 1) rfl (by rw [ex1_4]; rfl) (by decide) rfl (fun ls hl => ?_)
      refine lv_goto (tgt := 2) hx hb dX7_takesBack_23 (by decide) ?_
      exact ih _ _ hf  hh (lv_sub hl [1, 0] rfl)
set_option maxRecDepth 100000 in
set_option maxHeartbeats 4000000 in
theorem w_X7_takesBack {Z : Sto} (F : Fx rM p s m args cd cX7_takesBack 2 RX7 G) (hr : meth.sig.returnType = none) (hlk : meth.locks = false)  {z : Sto} {H : Heap} {locs : List Loc} {ls : Array Slot} (hf : f_X7_takesBack  z = some Z) (hh : Hh rM G z s H locs) (hl : lv_has ls 2 [(0, .ref (G.1 122))]) : W p l e rmX7_takesBack s m args below meth cd H locs 0 0 (MQ below (QV rM G Z) args s 0 0 (Am rM G)) (F0 m 0 ls []) := by
  have hx := F.1
  have hb := F.2.1
  unfold f_X7_takesBack at hf
  refine lv_iconst (v := 0) hx hb dX7_takesBack_0 (by decide) ?_
  refine lv_istore_n (lv' := [(1, .int (0 : Int32)), (0, .ref (G.1 122))]) hx hb dX7_takesBack_1 rfl hl (by decide) rfl (fun ls hl => ?_)
  exact w_X7_takesBack_2 F hr hlk fu _ _ hf  hh (lv_sub hl [1, 0] rfl)
theorem c_X7_takesBack {l : Launch} {G : Gm}  {z : Sto} {Z : Sto} (hf : f_X7_takesBack  z = some Z) : Met l yX7_takesBack (Cond.code yX7_takesBack cX7_takesBack 2 none :: TT) rmX7_takesBack (va_Pc [.ref (G.1 122)] (GS rM G z)) (QV rM G Z) 0 0 (Am rM G) := by
  refine g_met [(0, .ref (G.1 122))] (by decide) (Nat.le_of_ble_eq_true rfl) rfl ?_
  intro p e s m below meth cd F hr hlk ls H locs hl hh
  exact w_X7_takesBack F hr hlk hf hh hl
def f_X7_isPlace (x0 : Int32) (x1 : Int32) (z : Sto) : Option (Int32) := bd (f_X7_in ((Int32.toInt64 x0)) (0 : Int64) (5 : Int64) z) fun t1 => if t1 = 0 then (some (0 : Int32)) else (bd (f_X7_in ((Int32.toInt64 x1)) (0 : Int64) (5 : Int64) z) fun t3 => if t3 = 0 then (some (0 : Int32)) else (some (1 : Int32)))
set_option maxRecDepth 100000 in
set_option maxHeartbeats 4000000 in
theorem w_X7_isPlace {Z : Int32} (F : Fx rM p s m args cd cX7_isPlace 2 RX7 G) (hr : meth.sig.returnType = (some .boolean)) (hlk : meth.locks = false) {x0 : Int32} {x1 : Int32} {z : Sto} {H : Heap} {locs : List Loc} {ls : Array Slot} (hf : f_X7_isPlace x0 x1 z = some Z) (hh : Hh rM G z s H locs) (hl : lv_has ls 2 [(0, .int x0), (1, .int x1)]) : W p l e rmX7_isPlace s m args below meth cd H locs 0 0 (MQ below (QI rM G Z z) args s 0 0 (Am rM G)) (F0 m 0 ls []) := by
  have hx := F.1
  have hb := F.2.1
  unfold f_X7_isPlace at hf
  refine lv_iload_n hx hb dX7_isPlace_0 rfl (lv_at hl 0 rfl) ?_
  refine lv_i2l hx hb dX7_isPlace_1 rfl ?_
  refine lv_lconst (v := 0) hx hb dX7_isPlace_2 (by decide) ?_
  refine lv_ldc2 hx hb F.2.2.2.1 (F.2.2.2.2.1 _ lk981) dX7_isPlace_3 ?_
  obtain ⟨t1, ht1, hf⟩ := ob hf
  refine m_X7_79 F hh (c_X7_in ht1) rfl hl (Nat.le_of_ble_eq_true rfl) dX7_isPlace_6 (fun H locs hh => ?_)
  refine lv_if_eq (tgt := 28) hx hb dX7_isPlace_9 (by decide) (fun c2 => ?_) (fun c2 => ?_)
  · replace hf := itp c2 hf
    refine lv_iconst (v := 0) hx hb dX7_isPlace_28 (by decide) ?_
    exact g_zret F hr hlk rfl hh (Option.some.inj hf) rfl dX7_isPlace_29
  · replace hf := itn c2 hf
    refine lv_iload_n hx hb dX7_isPlace_12 rfl (lv_at hl 1 rfl) ?_
    refine lv_i2l hx hb dX7_isPlace_13 rfl ?_
    refine lv_lconst (v := 0) hx hb dX7_isPlace_14 (by decide) ?_
    refine lv_ldc2 hx hb F.2.2.2.1 (F.2.2.2.2.1 _ lk981) dX7_isPlace_15 ?_
    obtain ⟨t3, ht3, hf⟩ := ob hf
    refine m_X7_79 F hh (c_X7_in ht3) rfl hl (Nat.le_of_ble_eq_true rfl) dX7_isPlace_18 (fun H locs hh => ?_)
    refine lv_if_eq (tgt := 28) hx hb dX7_isPlace_21 (by decide) (fun c4 => ?_) (fun c4 => ?_)
    · replace hf := itp c4 hf
      refine lv_iconst (v := 0) hx hb dX7_isPlace_28 (by decide) ?_
      exact g_zret F hr hlk rfl hh (Option.some.inj hf) rfl dX7_isPlace_29
    · replace hf := itn c4 hf
      refine lv_iconst (v := 1) hx hb dX7_isPlace_24 (by decide) ?_
      refine lv_goto (tgt := 29) hx hb dX7_isPlace_25 (by decide) ?_
      exact g_zret F hr hlk rfl hh (Option.some.inj hf) rfl dX7_isPlace_29
theorem c_X7_isPlace {l : Launch} {G : Gm} {x0 : Int32} {x1 : Int32} {z : Sto} {Z : Int32} (hf : f_X7_isPlace x0 x1 z = some Z) : Met l yX7_isPlace (Cond.code yX7_isPlace cX7_isPlace 2 (some .boolean) :: TT) rmX7_isPlace (va_Pc [.int x0, .int x1] (GS rM G z)) (QI rM G Z z) 0 0 (Am rM G) := by
  refine g_met [(0, .int x0), (1, .int x1)] (by decide) (Nat.le_of_ble_eq_true rfl) rfl ?_
  intro p e s m below meth cd F hr hlk ls H locs hl hh
  exact w_X7_isPlace F hr hlk hf hh hl
def j_X7_isUnder_134 (z : Sto) (ag5 : Int32 → Int32 → Int32 → Int32 → Option (Int32)) (x1 : Int32) (x2 : Int32) (x4 : Int32) : Option (Int32) := lt (x4 + (1 : Int32)) fun x4_23 => ag5 x1 x2 (1 : Int32) x4_23
def b_X7_isUnder_5 (z : Sto)  (ag5 : Int32 → Int32 → Int32 → Int32 → Option (Int32)) (x1 : Int32) (x2 : Int32) (x3 : Int32) (x4 : Int32) : Option (Int32) := bd (rdI z 123 42 (1 : Int32)) fun t1 => if t1 ≤ x4 then (bd (bz x3) fun t3 => some t3) else (bd (f_X7_from (((2 : Int32) * x4)) z) fun t4 => bd (f_X7_to (((2 : Int32) * x4)) z) fun t5 => bd (f_X7_x t5 z) fun t6 => bd (f_X7_x t4 z) fun t7 => bd (f_X7_y t4 z) fun t8 => bd (f_X7_y t5 z) fun t9 => bd (f_X7_y t4 z) fun t10 => bd (f_X7_x t4 z) fun t11 => lt ((((t6 - t7) * (x2 - t8)) - ((t9 - t10) * (x1 - t11)))) fun x7_12 => bd (f_X7_x t4 z) fun t13 => bd (f_X7_x t5 z) fun t14 => bd (f_X7_y t4 z) fun t15 => bd (f_X7_y t5 z) fun t16 => lt ((((t13 - x1) * (t14 - x1)) + ((t15 - x2) * (t16 - x2)))) fun x8_17 => if x3 = 0 then (if x7_12 = 0 then (if 0 ≤ x8_17 then (lt (x4 + (1 : Int32)) fun x4_22 => ag5 x1 x2 (0 : Int32) x4_22) else (j_X7_isUnder_134 z ag5 x1 x2 x4)) else (lt (x4 + (1 : Int32)) fun x4_20 => ag5 x1 x2 (0 : Int32) x4_20)) else (j_X7_isUnder_134 z ag5 x1 x2 x4))
def f_X7_isUnder (x1 : Int32) (x2 : Int32) (z : Sto) : Option (Int32) := wl4 (b_X7_isUnder_5 z) fu x1 x2 (0 : Int32) (0 : Int32)
set_option maxRecDepth 100000 in
set_option maxHeartbeats 4000000 in
theorem w_X7_isUnder_134 {z : Sto} {ag5 : Int32 → Int32 → Int32 → Int32 → Option (Int32)} {Z : Int32} (F : Fx rM p s m args cd cX7_isUnder 9 RX7 G) (hr : meth.sig.returnType = (some .boolean)) (hlk : meth.locks = false) (hag5 : ∀ (x1 : Int32) (x2 : Int32) (x3 : Int32) (x4 : Int32), ag5 x1 x2 x3 x4 = some Z → ∀ {H : Heap} {locs : List Loc} {ls : Array Slot}, Hh rM G z s H locs → lv_has ls 9 [(0, .ref (G.1 122)), (1, .int x1), (2, .int x2), (3, .int x3), (4, .int x4)] → W p l e rmX7_isUnder s m args below meth cd H locs 0 0 (MQ below (QI rM G Z z) args s 0 0 (Am rM G)) (F0 m 5 ls [])) {x1 : Int32} {x2 : Int32} {x4 : Int32} {H : Heap} {locs : List Loc} {ls : Array Slot} (hf : j_X7_isUnder_134 z ag5 x1 x2 x4 = some Z) (hh : Hh rM G z s H locs) (hl : lv_has ls 9 [(0, .ref (G.1 122)), (1, .int x1), (2, .int x2), (4, .int x4)]) : W p l e rmX7_isUnder s m args below meth cd H locs 0 0 (MQ below (QI rM G Z z) args s 0 0 (Am rM G)) (F0 m 134 ls []) := by
  have hx := F.1
  have hb := F.2.1
  unfold j_X7_isUnder_134 at hf
  refine lv_iconst (v := 1) hx hb dX7_isUnder_134 (by decide) ?_
  refine lv_goto (tgt := 139) hx hb dX7_isUnder_135 (by decide) ?_
  refine lv_istore_n (lv' := [(3, .int (1 : Int32)), (0, .ref (G.1 122)), (1, .int x1), (2, .int x2), (4, .int x4)]) hx hb dX7_isUnder_139 rfl hl (by decide) rfl (fun ls hl => ?_)
  obtain ⟨x4_23, ex4_23⟩ : ∃ y : Int32, y = x4 + (1 : Int32) := ⟨_, rfl⟩
  replace hf := lt_e ex4_23 hf
  refine lv_iinc (v := x4_23) (lv' := [(4, .int x4_23), (3, .int (1 : Int32)), (0, .ref (G.1 122)), (1, .int x1), (2, .int x2)]) hx hb dX7_isUnder_140 hl (k := 4) rfl (by rw [ex4_23]; rfl) (by decide) rfl (fun ls hl => ?_)
  refine lv_goto (tgt := 5) hx hb dX7_isUnder_143 (by decide) ?_
  exact hag5 _ _ _ _ hf  hh (lv_sub hl [2, 3, 4, 1, 0] rfl)
set_option maxRecDepth 100000 in
set_option maxHeartbeats 4000000 in
theorem w_X7_isUnder_5 {z : Sto}  {Z : Int32} (F : Fx rM p s m args cd cX7_isUnder 9 RX7 G) (hr : meth.sig.returnType = (some .boolean)) (hlk : meth.locks = false)  : ∀ (n : Nat), ∀ (x1 : Int32) (x2 : Int32) (x3 : Int32) (x4 : Int32), wl4 (b_X7_isUnder_5 z) n x1 x2 x3 x4 = some Z → ∀ {H : Heap} {locs : List Loc} {ls : Array Slot}, Hh rM G z s H locs → lv_has ls 9 [(0, .ref (G.1 122)), (1, .int x1), (2, .int x2), (3, .int x3), (4, .int x4)] → W p l e rmX7_isUnder s m args below meth cd H locs 0 0 (MQ below (QI rM G Z z) args s 0 0 (Am rM G)) (F0 m 5 ls []) := by
  have hx := F.1
  have hb := F.2.1
  intro n
  induction n with
  | zero =>
    intro x1 x2 x3 x4 hf
    exact absurd hf (by intro h; cases h)
  | succ n ih =>
    intro x1 x2 x3 x4 hf  H locs ls hh hl
    replace hf : b_X7_isUnder_5 z (wl4 (b_X7_isUnder_5 z) n) x1 x2 x3 x4 = some Z := hf
    unfold b_X7_isUnder_5 at hf
    refine lv_iload hx hb dX7_isUnder_5 (lv_at hl 4 rfl) ?_
    refine lv_aload_n hx hb dX7_isUnder_7 rfl (lv_at hl 0 rfl) ?_
    refine r_X7_7 (b' := 123) F hh in_122 sh_122 rfl dX7_isUnder_8 ?_
    refine lv_iconst (v := 1) hx hb dX7_isUnder_11 (by decide) ?_
    obtain ⟨t1, ht1, hf⟩ := ob hf
    refine g_iald F hh in_123 sh_123 ht1 dX7_isUnder_12 ?_
    refine lv_icmp_ge (tgt := 146) hx hb dX7_isUnder_13 (by decide) (fun c2 => ?_) (fun c2 => ?_)
    · replace hf := itp c2 hf
      refine lv_iload_n hx hb dX7_isUnder_146 rfl (lv_at hl 3 rfl) ?_
      obtain ⟨t3, ht3, hf⟩ := ob hf
      exact g_zret F hr hlk (bz_e ht3).2 hh ((bz_e ht3).1.symm.trans (Option.some.inj hf)) rfl dX7_isUnder_147
    · replace hf := itn c2 hf
      refine lv_aload_n hx hb dX7_isUnder_16 rfl (lv_at hl 0 rfl) ?_
      refine lv_iconst (v := 2) hx hb dX7_isUnder_17 (by decide) ?_
      refine lv_iload hx hb dX7_isUnder_18 (lv_at hl 4 rfl) ?_
      refine lv_imul hx hb dX7_isUnder_20 ?_
      obtain ⟨t4, ht4, hf⟩ := ob hf
      refine m_X7_98 F hh (c_X7_from ht4) in_122 sh_122 rfl hl (Nat.le_of_ble_eq_true rfl) dX7_isUnder_21 (fun H locs hh => ?_)
      refine lv_istore (lv' := [(5, .int t4), (0, .ref (G.1 122)), (1, .int x1), (2, .int x2), (3, .int x3), (4, .int x4)]) hx hb dX7_isUnder_24 hl (by decide) rfl (fun ls hl => ?_)
      refine lv_aload_n hx hb dX7_isUnder_26 rfl (lv_at hl 1 rfl) ?_
      refine lv_iconst (v := 2) hx hb dX7_isUnder_27 (by decide) ?_
      refine lv_iload hx hb dX7_isUnder_28 (lv_at hl 5 rfl) ?_
      refine lv_imul hx hb dX7_isUnder_30 ?_
      obtain ⟨t5, ht5, hf⟩ := ob hf
      refine m_X7_101 F hh (c_X7_to ht5) in_122 sh_122 rfl hl (Nat.le_of_ble_eq_true rfl) dX7_isUnder_31 (fun H locs hh => ?_)
      refine lv_istore (lv' := [(6, .int t5), (5, .int t4), (0, .ref (G.1 122)), (1, .int x1), (2, .int x2), (3, .int x3), (4, .int x4)]) hx hb dX7_isUnder_34 hl (by decide) rfl (fun ls hl => ?_)
      refine lv_aload_n hx hb dX7_isUnder_36 rfl (lv_at hl 2 rfl) ?_
      refine lv_iload hx hb dX7_isUnder_37 (lv_at hl 0 rfl) ?_
      obtain ⟨t6, ht6, hf⟩ := ob hf
      refine m_X7_83 F hh (c_X7_x ht6) in_122 sh_122 rfl hl (Nat.le_of_ble_eq_true rfl) dX7_isUnder_39 (fun H locs hh => ?_)
      refine lv_aload_n hx hb dX7_isUnder_42 rfl (lv_at hl 2 rfl) ?_
      refine lv_iload hx hb dX7_isUnder_43 (lv_at hl 1 rfl) ?_
      obtain ⟨t7, ht7, hf⟩ := ob hf
      refine m_X7_83 F hh (c_X7_x ht7) in_122 sh_122 rfl hl (Nat.le_of_ble_eq_true rfl) dX7_isUnder_45 (fun H locs hh => ?_)
      refine lv_isub hx hb dX7_isUnder_48 ?_
      refine lv_iload_n hx hb dX7_isUnder_49 rfl (lv_at hl 4 rfl) ?_
      refine lv_aload_n hx hb dX7_isUnder_50 rfl (lv_at hl 2 rfl) ?_
      refine lv_iload hx hb dX7_isUnder_51 (lv_at hl 1 rfl) ?_
      obtain ⟨t8, ht8, hf⟩ := ob hf
      refine m_X7_87 F hh (c_X7_y ht8) in_122 sh_122 rfl hl (Nat.le_of_ble_eq_true rfl) dX7_isUnder_53 (fun H locs hh => ?_)
      refine lv_isub hx hb dX7_isUnder_56 ?_
      refine lv_imul hx hb dX7_isUnder_57 ?_
      refine lv_aload_n hx hb dX7_isUnder_58 rfl (lv_at hl 2 rfl) ?_
      refine lv_iload hx hb dX7_isUnder_59 (lv_at hl 0 rfl) ?_
      obtain ⟨t9, ht9, hf⟩ := ob hf
      refine m_X7_87 F hh (c_X7_y ht9) in_122 sh_122 rfl hl (Nat.le_of_ble_eq_true rfl) dX7_isUnder_61 (fun H locs hh => ?_)
      refine lv_aload_n hx hb dX7_isUnder_64 rfl (lv_at hl 2 rfl) ?_
      refine lv_iload hx hb dX7_isUnder_65 (lv_at hl 1 rfl) ?_
      obtain ⟨t10, ht10, hf⟩ := ob hf
      refine m_X7_87 F hh (c_X7_y ht10) in_122 sh_122 rfl hl (Nat.le_of_ble_eq_true rfl) dX7_isUnder_67 (fun H locs hh => ?_)
      refine lv_isub hx hb dX7_isUnder_70 ?_
      refine lv_iload_n hx hb dX7_isUnder_71 rfl (lv_at hl 3 rfl) ?_
      refine lv_aload_n hx hb dX7_isUnder_72 rfl (lv_at hl 2 rfl) ?_
      refine lv_iload hx hb dX7_isUnder_73 (lv_at hl 1 rfl) ?_
      obtain ⟨t11, ht11, hf⟩ := ob hf
      refine m_X7_83 F hh (c_X7_x ht11) in_122 sh_122 rfl hl (Nat.le_of_ble_eq_true rfl) dX7_isUnder_75 (fun H locs hh => ?_)
      refine lv_isub hx hb dX7_isUnder_78 ?_
      refine lv_imul hx hb dX7_isUnder_79 ?_
      refine lv_isub hx hb dX7_isUnder_80 ?_
      refine lv_topi (fun x7_12 ex7_12 => ?_)
      replace hf := lt_e ex7_12 hf
      refine lv_istore (lv' := [(7, .int x7_12), (6, .int t5), (5, .int t4), (0, .ref (G.1 122)), (1, .int x1), (2, .int x2), (3, .int x3), (4, .int x4)]) hx hb dX7_isUnder_81 hl (by decide) rfl (fun ls hl => ?_)
      refine lv_aload_n hx hb dX7_isUnder_83 rfl (lv_at hl 3 rfl) ?_
      refine lv_iload hx hb dX7_isUnder_84 (lv_at hl 2 rfl) ?_
      obtain ⟨t13, ht13, hf⟩ := ob hf
      refine m_X7_83 F hh (c_X7_x ht13) in_122 sh_122 rfl hl (Nat.le_of_ble_eq_true rfl) dX7_isUnder_86 (fun H locs hh => ?_)
      refine lv_iload_n hx hb dX7_isUnder_89 rfl (lv_at hl 4 rfl) ?_
      refine lv_isub hx hb dX7_isUnder_90 ?_
      refine lv_aload_n hx hb dX7_isUnder_91 rfl (lv_at hl 3 rfl) ?_
      refine lv_iload hx hb dX7_isUnder_92 (lv_at hl 1 rfl) ?_
      obtain ⟨t14, ht14, hf⟩ := ob hf
      refine m_X7_83 F hh (c_X7_x ht14) in_122 sh_122 rfl hl (Nat.le_of_ble_eq_true rfl) dX7_isUnder_94 (fun H locs hh => ?_)
      refine lv_iload_n hx hb dX7_isUnder_97 rfl (lv_at hl 4 rfl) ?_
      refine lv_isub hx hb dX7_isUnder_98 ?_
      refine lv_imul hx hb dX7_isUnder_99 ?_
      refine lv_aload_n hx hb dX7_isUnder_100 rfl (lv_at hl 3 rfl) ?_
      refine lv_iload hx hb dX7_isUnder_101 (lv_at hl 2 rfl) ?_
      obtain ⟨t15, ht15, hf⟩ := ob hf
      refine m_X7_87 F hh (c_X7_y ht15) in_122 sh_122 rfl hl (Nat.le_of_ble_eq_true rfl) dX7_isUnder_103 (fun H locs hh => ?_)
      refine lv_iload_n hx hb dX7_isUnder_106 rfl (lv_at hl 5 rfl) ?_
      refine lv_isub hx hb dX7_isUnder_107 ?_
      refine lv_aload_n hx hb dX7_isUnder_108 rfl (lv_at hl 3 rfl) ?_
      refine lv_iload hx hb dX7_isUnder_109 (lv_at hl 1 rfl) ?_
      obtain ⟨t16, ht16, hf⟩ := ob hf
      refine m_X7_87 F hh (c_X7_y ht16) in_122 sh_122 rfl hl (Nat.le_of_ble_eq_true rfl) dX7_isUnder_111 (fun H locs hh => ?_)
      refine lv_iload_n hx hb dX7_isUnder_114 rfl (lv_at hl 5 rfl) ?_
      refine lv_isub hx hb dX7_isUnder_115 ?_
      refine lv_imul hx hb dX7_isUnder_116 ?_
      refine lv_iadd hx hb dX7_isUnder_117 ?_
      refine lv_topi (fun x8_17 ex8_17 => ?_)
      replace hf := lt_e ex8_17 hf
      refine lv_istore (lv' := [(8, .int x8_17), (7, .int x7_12), (6, .int t5), (5, .int t4), (0, .ref (G.1 122)), (1, .int x1), (2, .int x2), (3, .int x3), (4, .int x4)]) hx hb dX7_isUnder_118 hl (by decide) rfl (fun ls hl => ?_)
      refine lv_iload_n hx hb dX7_isUnder_120 rfl (lv_at hl 7 rfl) ?_
      refine lv_if_ne (tgt := 134) hx hb dX7_isUnder_121 (by decide) (fun c18 => ?_) (fun c18 => ?_)
      · replace hf := itn c18 hf
        exact w_X7_isUnder_134 F hr hlk ih hf  hh (lv_sub hl [4, 5, 6, 8] rfl)
      · replace hf := itp c18 hf
        refine lv_iload hx hb dX7_isUnder_124 (lv_at hl 1 rfl) ?_
        refine lv_if_ne (tgt := 138) hx hb dX7_isUnder_126 (by decide) (fun c19 => ?_) (fun c19 => ?_)
        · replace hf := itn c19 hf
          refine lv_iconst (v := 0) hx hb dX7_isUnder_138 (by decide) ?_
          refine lv_istore_n (lv' := [(3, .int (0 : Int32)), (8, .int x8_17), (7, .int x7_12), (6, .int t5), (5, .int t4), (0, .ref (G.1 122)), (1, .int x1), (2, .int x2), (4, .int x4)]) hx hb dX7_isUnder_139 rfl hl (by decide) rfl (fun ls hl => ?_)
          obtain ⟨x4_20, ex4_20⟩ : ∃ y : Int32, y = x4 + (1 : Int32) := ⟨_, rfl⟩
          replace hf := lt_e ex4_20 hf
          refine lv_iinc (v := x4_20) (lv' := [(4, .int x4_20), (3, .int (0 : Int32)), (8, .int x8_17), (7, .int x7_12), (6, .int t5), (5, .int t4), (0, .ref (G.1 122)), (1, .int x1), (2, .int x2)]) hx hb dX7_isUnder_140 hl (k := 8) rfl (by rw [ex4_20]; rfl) (by decide) rfl (fun ls hl => ?_)
          refine lv_goto (tgt := 5) hx hb dX7_isUnder_143 (by decide) ?_
          exact ih _ _ _ _ hf  hh (lv_sub hl [6, 7, 8, 1, 0] rfl)
        · replace hf := itp c19 hf
          refine lv_iload hx hb dX7_isUnder_129 (lv_at hl 0 rfl) ?_
          refine lv_if_ge (tgt := 138) hx hb dX7_isUnder_131 (by decide) (fun c21 => ?_) (fun c21 => ?_)
          · replace hf := itp c21 hf
            refine lv_iconst (v := 0) hx hb dX7_isUnder_138 (by decide) ?_
            refine lv_istore_n (lv' := [(3, .int (0 : Int32)), (8, .int x8_17), (7, .int x7_12), (6, .int t5), (5, .int t4), (0, .ref (G.1 122)), (1, .int x1), (2, .int x2), (4, .int x4)]) hx hb dX7_isUnder_139 rfl hl (by decide) rfl (fun ls hl => ?_)
            obtain ⟨x4_22, ex4_22⟩ : ∃ y : Int32, y = x4 + (1 : Int32) := ⟨_, rfl⟩
            replace hf := lt_e ex4_22 hf
            refine lv_iinc (v := x4_22) (lv' := [(4, .int x4_22), (3, .int (0 : Int32)), (8, .int x8_17), (7, .int x7_12), (6, .int t5), (5, .int t4), (0, .ref (G.1 122)), (1, .int x1), (2, .int x2)]) hx hb dX7_isUnder_140 hl (k := 8) rfl (by rw [ex4_22]; rfl) (by decide) rfl (fun ls hl => ?_)
            refine lv_goto (tgt := 5) hx hb dX7_isUnder_143 (by decide) ?_
            exact ih _ _ _ _ hf  hh (lv_sub hl [6, 7, 8, 1, 0] rfl)
          · replace hf := itn c21 hf
            exact w_X7_isUnder_134 F hr hlk ih hf  hh (lv_sub hl [4, 5, 6, 8] rfl)
set_option maxRecDepth 100000 in
set_option maxHeartbeats 4000000 in
theorem w_X7_isUnder {Z : Int32} (F : Fx rM p s m args cd cX7_isUnder 9 RX7 G) (hr : meth.sig.returnType = (some .boolean)) (hlk : meth.locks = false) {x1 : Int32} {x2 : Int32} {z : Sto} {H : Heap} {locs : List Loc} {ls : Array Slot} (hf : f_X7_isUnder x1 x2 z = some Z) (hh : Hh rM G z s H locs) (hl : lv_has ls 9 [(0, .ref (G.1 122)), (1, .int x1), (2, .int x2)]) : W p l e rmX7_isUnder s m args below meth cd H locs 0 0 (MQ below (QI rM G Z z) args s 0 0 (Am rM G)) (F0 m 0 ls []) := by
  have hx := F.1
  have hb := F.2.1
  unfold f_X7_isUnder at hf
  refine lv_iconst (v := 0) hx hb dX7_isUnder_0 (by decide) ?_
  refine lv_istore_n (lv' := [(3, .int (0 : Int32)), (0, .ref (G.1 122)), (1, .int x1), (2, .int x2)]) hx hb dX7_isUnder_1 rfl hl (by decide) rfl (fun ls hl => ?_)
  refine lv_iconst (v := 0) hx hb dX7_isUnder_2 (by decide) ?_
  refine lv_istore (lv' := [(4, .int (0 : Int32)), (3, .int (0 : Int32)), (0, .ref (G.1 122)), (1, .int x1), (2, .int x2)]) hx hb dX7_isUnder_3 hl (by decide) rfl (fun ls hl => ?_)
  exact w_X7_isUnder_5 F hr hlk fu _ _ _ _ hf  hh (lv_sub hl [2, 3, 4, 1, 0] rfl)
theorem c_X7_isUnder {l : Launch} {G : Gm} {x1 : Int32} {x2 : Int32} {z : Sto} {Z : Int32} (hf : f_X7_isUnder x1 x2 z = some Z) : Met l yX7_isUnder (Cond.code yX7_isUnder cX7_isUnder 9 (some .boolean) :: TT) rmX7_isUnder (va_Pc [.ref (G.1 122), .int x1, .int x2] (GS rM G z)) (QI rM G Z z) 0 0 (Am rM G) := by
  refine g_met [(0, .ref (G.1 122)), (1, .int x1), (2, .int x2)] (by decide) (Nat.le_of_ble_eq_true rfl) rfl ?_
  intro p e s m below meth cd F hr hlk ls H locs hl hh
  exact w_X7_isUnder F hr hlk hf hh hl
def f_X7_joins (x1 : Int32) (x2 : Int32) (z : Sto) : Option (Int32 × Sto) := bd (f_X7_isPlace x1 x2 z) fun t1 => if t1 = 0 then (some ((-1 : Int32), z)) else (bd (f_X7_find x1 x2 z) fun t3 => if t3 < 0 then (bd (rdI z 123 42 (0 : Int32)) fun t5 => if t5 = (6 : Int32) then (bd (f_X7_isUnder x1 x2 z) fun t13 => if t13 = 0 then (some ((-3 : Int32), z)) else (some ((-2 : Int32), z))) else (bd (f_X7_isUnder x1 x2 z) fun t7 => if t7 = 0 then (bd (wrI z 123 42 ((3 : Int32) + ((2 : Int32) * t5)) x1) fun z9 => bd (wrI z9 123 42 (((3 : Int32) + ((2 : Int32) * t5)) + (1 : Int32)) x2) fun z10 => bd (rdI z10 123 42 (0 : Int32)) fun t11 => bd (wrI z10 123 42 (0 : Int32) (t11 + (1 : Int32))) fun z12 => some (t5, z12)) else (some ((-2 : Int32), z)))) else (some ((-2 : Int32), z)))
set_option maxRecDepth 100000 in
set_option maxHeartbeats 4000000 in
theorem w_X7_joins {Z : Int32 × Sto} (F : Fx rM p s m args cd cX7_joins 4 RX7 G) (hr : meth.sig.returnType = (some .int)) (hlk : meth.locks = false) {x1 : Int32} {x2 : Int32} {z : Sto} {H : Heap} {locs : List Loc} {ls : Array Slot} (hf : f_X7_joins x1 x2 z = some Z) (hh : Hh rM G z s H locs) (hl : lv_has ls 4 [(0, .ref (G.1 122)), (1, .int x1), (2, .int x2)]) : W p l e rmX7_joins s m args below meth cd H locs 0 0 (MQ below (QI rM G Z.1 Z.2) args s 0 0 (Am rM G)) (F0 m 0 ls []) := by
  have hx := F.1
  have hb := F.2.1
  unfold f_X7_joins at hf
  refine lv_iload_n hx hb dX7_joins_0 rfl (lv_at hl 1 rfl) ?_
  refine lv_iload_n hx hb dX7_joins_1 rfl (lv_at hl 2 rfl) ?_
  obtain ⟨t1, ht1, hf⟩ := ob hf
  refine m_X7_117 F hh (c_X7_isPlace ht1) rfl hl (Nat.le_of_ble_eq_true rfl) dX7_joins_2 (fun H locs hh => ?_)
  refine lv_if_ne (tgt := 10) hx hb dX7_joins_5 (by decide) (fun c2 => ?_) (fun c2 => ?_)
  · replace hf := itn c2 hf
    refine lv_aload_n hx hb dX7_joins_10 rfl (lv_at hl 0 rfl) ?_
    refine lv_iload_n hx hb dX7_joins_11 rfl (lv_at hl 1 rfl) ?_
    refine lv_iload_n hx hb dX7_joins_12 rfl (lv_at hl 2 rfl) ?_
    obtain ⟨t3, ht3, hf⟩ := ob hf
    refine m_X7_121 F hh (c_X7_find ht3) in_122 sh_122 rfl hl (Nat.le_of_ble_eq_true rfl) dX7_joins_13 (fun H locs hh => ?_)
    refine lv_if_lt (tgt := 22) hx hb dX7_joins_16 (by decide) (fun c4 => ?_) (fun c4 => ?_)
    · replace hf := itp c4 hf
      refine lv_aload_n hx hb dX7_joins_22 rfl (lv_at hl 0 rfl) ?_
      refine r_X7_7 (b' := 123) F hh in_122 sh_122 rfl dX7_joins_23 ?_
      refine lv_iconst (v := 0) hx hb dX7_joins_26 (by decide) ?_
      obtain ⟨t5, ht5, hf⟩ := ob hf
      refine g_iald F hh in_123 sh_123 ht5 dX7_joins_27 ?_
      refine lv_istore_n (lv' := [(3, .int t5), (0, .ref (G.1 122)), (1, .int x1), (2, .int x2)]) hx hb dX7_joins_28 rfl hl (by decide) rfl (fun ls hl => ?_)
      refine lv_iload_n hx hb dX7_joins_29 rfl (lv_at hl 0 rfl) ?_
      refine lv_bipush (v := 6) hx hb dX7_joins_30 (by decide) ?_
      refine lv_icmp_ne (tgt := 52) hx hb dX7_joins_32 (by decide) (fun c6 => ?_) (fun c6 => ?_)
      · replace hf := itn c6 hf
        refine lv_aload_n hx hb dX7_joins_52 rfl (lv_at hl 1 rfl) ?_
        refine lv_iload_n hx hb dX7_joins_53 rfl (lv_at hl 2 rfl) ?_
        refine lv_iload_n hx hb dX7_joins_54 rfl (lv_at hl 3 rfl) ?_
        obtain ⟨t7, ht7, hf⟩ := ob hf
        refine m_X7_125 F hh (c_X7_isUnder ht7) in_122 sh_122 rfl hl (Nat.le_of_ble_eq_true rfl) dX7_joins_55 (fun H locs hh => ?_)
        refine lv_if_eq (tgt := 64) hx hb dX7_joins_58 (by decide) (fun c8 => ?_) (fun c8 => ?_)
        · replace hf := itp c8 hf
          refine lv_aload_n hx hb dX7_joins_64 rfl (lv_at hl 1 rfl) ?_
          refine r_X7_7 (b' := 123) F hh in_122 sh_122 rfl dX7_joins_65 ?_
          refine lv_iconst (v := 3) hx hb dX7_joins_68 (by decide) ?_
          refine lv_iconst (v := 2) hx hb dX7_joins_69 (by decide) ?_
          refine lv_iload_n hx hb dX7_joins_70 rfl (lv_at hl 0 rfl) ?_
          refine lv_imul hx hb dX7_joins_71 ?_
          refine lv_iadd hx hb dX7_joins_72 ?_
          refine lv_iload_n hx hb dX7_joins_73 rfl (lv_at hl 2 rfl) ?_
          obtain ⟨z9, hz9, hf⟩ := ob hf
          refine g_iast F hh in_123 sh_123 hz9 dX7_joins_74 (fun H locs hh => ?_)
          refine lv_aload_n hx hb dX7_joins_75 rfl (lv_at hl 1 rfl) ?_
          refine r_X7_7 (b' := 123) F hh in_122 sh_122 rfl dX7_joins_76 ?_
          refine lv_iconst (v := 3) hx hb dX7_joins_79 (by decide) ?_
          refine lv_iconst (v := 2) hx hb dX7_joins_80 (by decide) ?_
          refine lv_iload_n hx hb dX7_joins_81 rfl (lv_at hl 0 rfl) ?_
          refine lv_imul hx hb dX7_joins_82 ?_
          refine lv_iadd hx hb dX7_joins_83 ?_
          refine lv_iconst (v := 1) hx hb dX7_joins_84 (by decide) ?_
          refine lv_iadd hx hb dX7_joins_85 ?_
          refine lv_iload_n hx hb dX7_joins_86 rfl (lv_at hl 3 rfl) ?_
          obtain ⟨z10, hz10, hf⟩ := ob hf
          refine g_iast F hh in_123 sh_123 hz10 dX7_joins_87 (fun H locs hh => ?_)
          refine lv_aload_n hx hb dX7_joins_88 rfl (lv_at hl 1 rfl) ?_
          refine r_X7_7 (b' := 123) F hh in_122 sh_122 rfl dX7_joins_89 ?_
          refine lv_iconst (v := 0) hx hb dX7_joins_92 (by decide) ?_
          refine lv_dup2_11 hx hb dX7_joins_93 rfl rfl ?_
          obtain ⟨t11, ht11, hf⟩ := ob hf
          refine g_iald F hh in_123 sh_123 ht11 dX7_joins_94 ?_
          refine lv_iconst (v := 1) hx hb dX7_joins_95 (by decide) ?_
          refine lv_iadd hx hb dX7_joins_96 ?_
          obtain ⟨z12, hz12, hf⟩ := ob hf
          refine g_iast F hh in_123 sh_123 hz12 dX7_joins_97 (fun H locs hh => ?_)
          refine lv_iload_n hx hb dX7_joins_98 rfl (lv_at hl 0 rfl) ?_
          exact g_iretW F hr hlk hh hf dX7_joins_99
        · replace hf := itn c8 hf
          refine lv_bipush (v := -2) hx hb dX7_joins_61 (by decide) ?_
          exact g_iretW F hr hlk hh hf dX7_joins_63
      · replace hf := itp c6 hf
        refine lv_aload_n hx hb dX7_joins_35 rfl (lv_at hl 1 rfl) ?_
        refine lv_iload_n hx hb dX7_joins_36 rfl (lv_at hl 2 rfl) ?_
        refine lv_iload_n hx hb dX7_joins_37 rfl (lv_at hl 3 rfl) ?_
        obtain ⟨t13, ht13, hf⟩ := ob hf
        refine m_X7_125 F hh (c_X7_isUnder ht13) in_122 sh_122 rfl hl (Nat.le_of_ble_eq_true rfl) dX7_joins_38 (fun H locs hh => ?_)
        refine lv_if_eq (tgt := 49) hx hb dX7_joins_41 (by decide) (fun c14 => ?_) (fun c14 => ?_)
        · replace hf := itp c14 hf
          refine lv_bipush (v := -3) hx hb dX7_joins_49 (by decide) ?_
          exact g_iretW F hr hlk hh hf dX7_joins_51
        · replace hf := itn c14 hf
          refine lv_bipush (v := -2) hx hb dX7_joins_44 (by decide) ?_
          refine lv_goto (tgt := 51) hx hb dX7_joins_46 (by decide) ?_
          exact g_iretW F hr hlk hh hf dX7_joins_51
    · replace hf := itn c4 hf
      refine lv_bipush (v := -2) hx hb dX7_joins_19 (by decide) ?_
      exact g_iretW F hr hlk hh hf dX7_joins_21
  · replace hf := itp c2 hf
    refine lv_iconst (v := -1) hx hb dX7_joins_8 (by decide) ?_
    exact g_iretW F hr hlk hh hf dX7_joins_9
theorem c_X7_joins {l : Launch} {G : Gm} {x1 : Int32} {x2 : Int32} {z : Sto} {Z : Int32 × Sto} (hf : f_X7_joins x1 x2 z = some Z) : Met l yX7_joins (Cond.code yX7_joins cX7_joins 4 (some .int) :: TT) rmX7_joins (va_Pc [.ref (G.1 122), .int x1, .int x2] (GS rM G z)) (QI rM G Z.1 Z.2) 0 0 (Am rM G) := by
  refine g_met [(0, .ref (G.1 122)), (1, .int x1), (2, .int x2)] (by decide) (Nat.le_of_ble_eq_true rfl) rfl ?_
  intro p e s m below meth cd F hr hlk ls H locs hl hh
  exact w_X7_joins F hr hlk hf hh hl
def b_X7_barsOf_4 (z : Sto)  (ag4 : Int32 → Int32 → Int32 → Option (Int32)) (x1 : Int32) (x2 : Int32) (x3 : Int32) : Option (Int32) := bd (rdI z 123 42 (1 : Int32)) fun t1 => if ((2 : Int32) * t1) ≤ x3 then (some x2) else (bd (f_X7_from x3 z) fun t3 => if t3 = x1 then (lt ((x2 + (1 : Int32))) fun x2_7 => lt (x3 + (1 : Int32)) fun x3_8 => ag4 x1 x2_7 x3_8) else (lt ((x2 + (0 : Int32))) fun x2_5 => lt (x3 + (1 : Int32)) fun x3_6 => ag4 x1 x2_5 x3_6))
def f_X7_barsOf (x1 : Int32) (z : Sto) : Option (Int32) := wl3 (b_X7_barsOf_4 z) fu x1 (0 : Int32) (0 : Int32)
set_option maxRecDepth 100000 in
set_option maxHeartbeats 4000000 in
theorem w_X7_barsOf_4 {z : Sto}  {Z : Int32} (F : Fx rM p s m args cd cX7_barsOf 4 RX7 G) (hr : meth.sig.returnType = (some .int)) (hlk : meth.locks = false)  : ∀ (n : Nat), ∀ (x1 : Int32) (x2 : Int32) (x3 : Int32), wl3 (b_X7_barsOf_4 z) n x1 x2 x3 = some Z → ∀ {H : Heap} {locs : List Loc} {ls : Array Slot}, Hh rM G z s H locs → lv_has ls 4 [(0, .ref (G.1 122)), (1, .int x1), (2, .int x2), (3, .int x3)] → W p l e rmX7_barsOf s m args below meth cd H locs 0 0 (MQ below (QI rM G Z z) args s 0 0 (Am rM G)) (F0 m 4 ls []) := by
  have hx := F.1
  have hb := F.2.1
  intro n
  induction n with
  | zero =>
    intro x1 x2 x3 hf
    exact absurd hf (by intro h; cases h)
  | succ n ih =>
    intro x1 x2 x3 hf  H locs ls hh hl
    replace hf : b_X7_barsOf_4 z (wl3 (b_X7_barsOf_4 z) n) x1 x2 x3 = some Z := hf
    unfold b_X7_barsOf_4 at hf
    refine lv_iload_n hx hb dX7_barsOf_4 rfl (lv_at hl 3 rfl) ?_
    refine lv_iconst (v := 2) hx hb dX7_barsOf_5 (by decide) ?_
    refine lv_aload_n hx hb dX7_barsOf_6 rfl (lv_at hl 0 rfl) ?_
    refine r_X7_7 (b' := 123) F hh in_122 sh_122 rfl dX7_barsOf_7 ?_
    refine lv_iconst (v := 1) hx hb dX7_barsOf_10 (by decide) ?_
    obtain ⟨t1, ht1, hf⟩ := ob hf
    refine g_iald F hh in_123 sh_123 ht1 dX7_barsOf_11 ?_
    refine lv_imul hx hb dX7_barsOf_12 ?_
    refine lv_icmp_ge (tgt := 39) hx hb dX7_barsOf_13 (by decide) (fun c2 => ?_) (fun c2 => ?_)
    · replace hf := itp c2 hf
      refine lv_iload_n hx hb dX7_barsOf_39 rfl (lv_at hl 2 rfl) ?_
      exact g_iret F hr hlk hh (Option.some.inj hf) rfl dX7_barsOf_40
    · replace hf := itn c2 hf
      refine lv_iload_n hx hb dX7_barsOf_16 rfl (lv_at hl 2 rfl) ?_
      refine lv_aload_n hx hb dX7_barsOf_17 rfl (lv_at hl 0 rfl) ?_
      refine lv_iload_n hx hb dX7_barsOf_18 rfl (lv_at hl 3 rfl) ?_
      obtain ⟨t3, ht3, hf⟩ := ob hf
      refine m_X7_98 F hh (c_X7_from ht3) in_122 sh_122 rfl hl (Nat.le_of_ble_eq_true rfl) dX7_barsOf_19 (fun H locs hh => ?_)
      refine lv_iload_n hx hb dX7_barsOf_22 rfl (lv_at hl 1 rfl) ?_
      refine lv_icmp_ne (tgt := 30) hx hb dX7_barsOf_23 (by decide) (fun c4 => ?_) (fun c4 => ?_)
      · replace hf := itn c4 hf
        refine lv_iconst (v := 0) hx hb dX7_barsOf_30 (by decide) ?_
        refine lv_iadd hx hb dX7_barsOf_31 ?_
        refine lv_topi (fun x2_5 ex2_5 => ?_)
        replace hf := lt_e ex2_5 hf
        refine lv_istore_n (lv' := [(2, .int x2_5), (0, .ref (G.1 122)), (1, .int x1), (3, .int x3)]) hx hb dX7_barsOf_32 rfl hl (by decide) rfl (fun ls hl => ?_)
        obtain ⟨x3_6, ex3_6⟩ : ∃ y : Int32, y = x3 + (1 : Int32) := ⟨_, rfl⟩
        replace hf := lt_e ex3_6 hf
        refine lv_iinc (v := x3_6) (lv' := [(3, .int x3_6), (2, .int x2_5), (0, .ref (G.1 122)), (1, .int x1)]) hx hb dX7_barsOf_33 hl (k := 3) rfl (by rw [ex3_6]; rfl) (by decide) rfl (fun ls hl => ?_)
        refine lv_goto (tgt := 4) hx hb dX7_barsOf_36 (by decide) ?_
        exact ih _ _ _ hf  hh (lv_sub hl [2, 3, 1, 0] rfl)
      · replace hf := itp c4 hf
        refine lv_iconst (v := 1) hx hb dX7_barsOf_26 (by decide) ?_
        refine lv_goto (tgt := 31) hx hb dX7_barsOf_27 (by decide) ?_
        refine lv_iadd hx hb dX7_barsOf_31 ?_
        refine lv_topi (fun x2_7 ex2_7 => ?_)
        replace hf := lt_e ex2_7 hf
        refine lv_istore_n (lv' := [(2, .int x2_7), (0, .ref (G.1 122)), (1, .int x1), (3, .int x3)]) hx hb dX7_barsOf_32 rfl hl (by decide) rfl (fun ls hl => ?_)
        obtain ⟨x3_8, ex3_8⟩ : ∃ y : Int32, y = x3 + (1 : Int32) := ⟨_, rfl⟩
        replace hf := lt_e ex3_8 hf
        refine lv_iinc (v := x3_8) (lv' := [(3, .int x3_8), (2, .int x2_7), (0, .ref (G.1 122)), (1, .int x1)]) hx hb dX7_barsOf_33 hl (k := 3) rfl (by rw [ex3_8]; rfl) (by decide) rfl (fun ls hl => ?_)
        refine lv_goto (tgt := 4) hx hb dX7_barsOf_36 (by decide) ?_
        exact ih _ _ _ hf  hh (lv_sub hl [2, 3, 1, 0] rfl)
set_option maxRecDepth 100000 in
set_option maxHeartbeats 4000000 in
theorem w_X7_barsOf {Z : Int32} (F : Fx rM p s m args cd cX7_barsOf 4 RX7 G) (hr : meth.sig.returnType = (some .int)) (hlk : meth.locks = false) {x1 : Int32} {z : Sto} {H : Heap} {locs : List Loc} {ls : Array Slot} (hf : f_X7_barsOf x1 z = some Z) (hh : Hh rM G z s H locs) (hl : lv_has ls 4 [(0, .ref (G.1 122)), (1, .int x1)]) : W p l e rmX7_barsOf s m args below meth cd H locs 0 0 (MQ below (QI rM G Z z) args s 0 0 (Am rM G)) (F0 m 0 ls []) := by
  have hx := F.1
  have hb := F.2.1
  unfold f_X7_barsOf at hf
  refine lv_iconst (v := 0) hx hb dX7_barsOf_0 (by decide) ?_
  refine lv_istore_n (lv' := [(2, .int (0 : Int32)), (0, .ref (G.1 122)), (1, .int x1)]) hx hb dX7_barsOf_1 rfl hl (by decide) rfl (fun ls hl => ?_)
  refine lv_iconst (v := 0) hx hb dX7_barsOf_2 (by decide) ?_
  refine lv_istore_n (lv' := [(3, .int (0 : Int32)), (2, .int (0 : Int32)), (0, .ref (G.1 122)), (1, .int x1)]) hx hb dX7_barsOf_3 rfl hl (by decide) rfl (fun ls hl => ?_)
  exact w_X7_barsOf_4 F hr hlk fu _ _ _ hf  hh (lv_sub hl [2, 3, 1, 0] rfl)
theorem c_X7_barsOf {l : Launch} {G : Gm} {x1 : Int32} {z : Sto} {Z : Int32} (hf : f_X7_barsOf x1 z = some Z) : Met l yX7_barsOf (Cond.code yX7_barsOf cX7_barsOf 4 (some .int) :: TT) rmX7_barsOf (va_Pc [.ref (G.1 122), .int x1] (GS rM G z)) (QI rM G Z z) 0 0 (Am rM G) := by
  refine g_met [(0, .ref (G.1 122)), (1, .int x1)] (by decide) (Nat.le_of_ble_eq_true rfl) rfl ?_
  intro p e s m below meth cd F hr hlk ls H locs hl hh
  exact w_X7_barsOf F hr hlk hf hh hl
def f_X7_moves (x1 : Int32) (x2 : Int32) (x3 : Int32) (z : Sto) : Option (Int32 × Sto) := bd (f_X7_isJoint x1 z) fun t1 => if t1 = 0 then (some ((-1 : Int32), z)) else (bd (f_X7_isPlace x2 x3 z) fun t3 => if t3 = 0 then (some ((-1 : Int32), z)) else (bd (f_X7_find x2 x3 z) fun t5 => if t5 < 0 then (bd (f_X7_holds z) fun z8 => bd (wrI z8 123 42 ((3 : Int32) + ((2 : Int32) * x1)) x2) fun z9 => bd (wrI z9 123 42 (((3 : Int32) + ((2 : Int32) * x1)) + (1 : Int32)) x3) fun z10 => bd (f_X7_isPlain z10) fun t11 => if t11 = 0 then (bd (f_X7_takesBack z10) fun z15 => some ((-2 : Int32), z15)) else (bd (f_X7_barsOf x1 z10) fun t13 => some (t13, z10))) else (some ((-2 : Int32), z))))
set_option maxRecDepth 100000 in
set_option maxHeartbeats 4000000 in
theorem w_X7_moves {Z : Int32 × Sto} (F : Fx rM p s m args cd cX7_moves 4 RX7 G) (hr : meth.sig.returnType = (some .int)) (hlk : meth.locks = false) {x1 : Int32} {x2 : Int32} {x3 : Int32} {z : Sto} {H : Heap} {locs : List Loc} {ls : Array Slot} (hf : f_X7_moves x1 x2 x3 z = some Z) (hh : Hh rM G z s H locs) (hl : lv_has ls 4 [(0, .ref (G.1 122)), (1, .int x1), (2, .int x2), (3, .int x3)]) : W p l e rmX7_moves s m args below meth cd H locs 0 0 (MQ below (QI rM G Z.1 Z.2) args s 0 0 (Am rM G)) (F0 m 0 ls []) := by
  have hx := F.1
  have hb := F.2.1
  unfold f_X7_moves at hf
  refine lv_aload_n hx hb dX7_moves_0 rfl (lv_at hl 0 rfl) ?_
  refine lv_iload_n hx hb dX7_moves_1 rfl (lv_at hl 1 rfl) ?_
  obtain ⟨t1, ht1, hf⟩ := ob hf
  refine m_X7_128 F hh (c_X7_isJoint ht1) in_122 sh_122 rfl hl (Nat.le_of_ble_eq_true rfl) dX7_moves_2 (fun H locs hh => ?_)
  refine lv_if_eq (tgt := 16) hx hb dX7_moves_5 (by decide) (fun c2 => ?_) (fun c2 => ?_)
  · replace hf := itp c2 hf
    refine lv_iconst (v := -1) hx hb dX7_moves_16 (by decide) ?_
    exact g_iretW F hr hlk hh hf dX7_moves_17
  · replace hf := itn c2 hf
    refine lv_iload_n hx hb dX7_moves_8 rfl (lv_at hl 2 rfl) ?_
    refine lv_iload_n hx hb dX7_moves_9 rfl (lv_at hl 3 rfl) ?_
    obtain ⟨t3, ht3, hf⟩ := ob hf
    refine m_X7_117 F hh (c_X7_isPlace ht3) rfl hl (Nat.le_of_ble_eq_true rfl) dX7_moves_10 (fun H locs hh => ?_)
    refine lv_if_ne (tgt := 18) hx hb dX7_moves_13 (by decide) (fun c4 => ?_) (fun c4 => ?_)
    · replace hf := itn c4 hf
      refine lv_aload_n hx hb dX7_moves_18 rfl (lv_at hl 0 rfl) ?_
      refine lv_iload_n hx hb dX7_moves_19 rfl (lv_at hl 2 rfl) ?_
      refine lv_iload_n hx hb dX7_moves_20 rfl (lv_at hl 3 rfl) ?_
      obtain ⟨t5, ht5, hf⟩ := ob hf
      refine m_X7_121 F hh (c_X7_find ht5) in_122 sh_122 rfl hl (Nat.le_of_ble_eq_true rfl) dX7_moves_21 (fun H locs hh => ?_)
      refine lv_if_lt (tgt := 30) hx hb dX7_moves_24 (by decide) (fun c6 => ?_) (fun c6 => ?_)
      · replace hf := itp c6 hf
        refine lv_aload_n hx hb dX7_moves_30 rfl (lv_at hl 0 rfl) ?_
        obtain ⟨z8, ht7, hf⟩ := ob hf
        refine m_X7_132 F hh (c_X7_holds ht7) in_122 sh_122 rfl hl (Nat.le_of_ble_eq_true rfl) dX7_moves_31 (fun H locs hh => ?_)
        refine lv_aload_n hx hb dX7_moves_34 rfl (lv_at hl 0 rfl) ?_
        refine r_X7_7 (b' := 123) F hh in_122 sh_122 rfl dX7_moves_35 ?_
        refine lv_iconst (v := 3) hx hb dX7_moves_38 (by decide) ?_
        refine lv_iconst (v := 2) hx hb dX7_moves_39 (by decide) ?_
        refine lv_iload_n hx hb dX7_moves_40 rfl (lv_at hl 1 rfl) ?_
        refine lv_imul hx hb dX7_moves_41 ?_
        refine lv_iadd hx hb dX7_moves_42 ?_
        refine lv_iload_n hx hb dX7_moves_43 rfl (lv_at hl 2 rfl) ?_
        obtain ⟨z9, hz9, hf⟩ := ob hf
        refine g_iast F hh in_123 sh_123 hz9 dX7_moves_44 (fun H locs hh => ?_)
        refine lv_aload_n hx hb dX7_moves_45 rfl (lv_at hl 0 rfl) ?_
        refine r_X7_7 (b' := 123) F hh in_122 sh_122 rfl dX7_moves_46 ?_
        refine lv_iconst (v := 3) hx hb dX7_moves_49 (by decide) ?_
        refine lv_iconst (v := 2) hx hb dX7_moves_50 (by decide) ?_
        refine lv_iload_n hx hb dX7_moves_51 rfl (lv_at hl 1 rfl) ?_
        refine lv_imul hx hb dX7_moves_52 ?_
        refine lv_iadd hx hb dX7_moves_53 ?_
        refine lv_iconst (v := 1) hx hb dX7_moves_54 (by decide) ?_
        refine lv_iadd hx hb dX7_moves_55 ?_
        refine lv_iload_n hx hb dX7_moves_56 rfl (lv_at hl 3 rfl) ?_
        obtain ⟨z10, hz10, hf⟩ := ob hf
        refine g_iast F hh in_123 sh_123 hz10 dX7_moves_57 (fun H locs hh => ?_)
        refine lv_aload_n hx hb dX7_moves_58 rfl (lv_at hl 0 rfl) ?_
        obtain ⟨t11, ht11, hf⟩ := ob hf
        refine m_X7_135 F hh (c_X7_isPlain ht11) in_122 sh_122 rfl hl (Nat.le_of_ble_eq_true rfl) dX7_moves_59 (fun H locs hh => ?_)
        refine lv_if_ne (tgt := 72) hx hb dX7_moves_62 (by decide) (fun c12 => ?_) (fun c12 => ?_)
        · replace hf := itn c12 hf
          refine lv_aload_n hx hb dX7_moves_72 rfl (lv_at hl 0 rfl) ?_
          refine lv_iload_n hx hb dX7_moves_73 rfl (lv_at hl 1 rfl) ?_
          obtain ⟨t13, ht13, hf⟩ := ob hf
          refine m_X7_142 F hh (c_X7_barsOf ht13) in_122 sh_122 rfl hl (Nat.le_of_ble_eq_true rfl) dX7_moves_74 (fun H locs hh => ?_)
          exact g_iretW F hr hlk hh hf dX7_moves_77
        · replace hf := itp c12 hf
          refine lv_aload_n hx hb dX7_moves_65 rfl (lv_at hl 0 rfl) ?_
          obtain ⟨z15, ht14, hf⟩ := ob hf
          refine m_X7_139 F hh (c_X7_takesBack ht14) in_122 sh_122 rfl hl (Nat.le_of_ble_eq_true rfl) dX7_moves_66 (fun H locs hh => ?_)
          refine lv_bipush (v := -2) hx hb dX7_moves_69 (by decide) ?_
          exact g_iretW F hr hlk hh hf dX7_moves_71
      · replace hf := itn c6 hf
        refine lv_bipush (v := -2) hx hb dX7_moves_27 (by decide) ?_
        exact g_iretW F hr hlk hh hf dX7_moves_29
    · replace hf := itp c4 hf
      refine lv_iconst (v := -1) hx hb dX7_moves_16 (by decide) ?_
      exact g_iretW F hr hlk hh hf dX7_moves_17
theorem c_X7_moves {l : Launch} {G : Gm} {x1 : Int32} {x2 : Int32} {x3 : Int32} {z : Sto} {Z : Int32 × Sto} (hf : f_X7_moves x1 x2 x3 z = some Z) : Met l yX7_moves (Cond.code yX7_moves cX7_moves 4 (some .int) :: TT) rmX7_moves (va_Pc [.ref (G.1 122), .int x1, .int x2, .int x3] (GS rM G z)) (QI rM G Z.1 Z.2) 0 0 (Am rM G) := by
  refine g_met [(0, .ref (G.1 122)), (1, .int x1), (2, .int x2), (3, .int x3)] (by decide) (Nat.le_of_ble_eq_true rfl) rfl ?_
  intro p e s m below meth cd F hr hlk ls H locs hl hh
  exact w_X7_moves F hr hlk hf hh hl
def b_X7_drops_14  (ag14 : Int32 → Sto → Option (Sto)) (x2 : Int32) (z : Sto) : Option (Sto) := bd (rdI z 123 42 (1 : Int32)) fun t4 => if ((2 : Int32) * t4) ≤ x2 then (bd (rdI z 123 42 (1 : Int32)) fun t6 => bd (wrI z 123 42 ((15 : Int32) + ((2 : Int32) * t6)) (0 : Int32)) fun z7 => bd (rdI z7 123 42 (1 : Int32)) fun t8 => bd (wrI z7 123 42 (((15 : Int32) + ((2 : Int32) * t8)) + (1 : Int32)) (0 : Int32)) fun z9 => some z9) else (bd (rdI z 123 42 (((15 : Int32) + x2) + (2 : Int32))) fun t10 => bd (wrI z 123 42 ((15 : Int32) + x2) t10) fun z11 => lt (x2 + (1 : Int32)) fun x2_12 => ag14 x2_12 z11)
def f_X7_drops (x1 : Int32) (z : Sto) : Option (Sto) := bd (rdI z 123 42 (1 : Int32)) fun t1 => bd (wrI z 123 42 (1 : Int32) (t1 - (1 : Int32))) fun z2 => lt (((2 : Int32) * x1)) fun x2_3 => wl2 (b_X7_drops_14) fu x2_3 z2
set_option maxRecDepth 100000 in
set_option maxHeartbeats 4000000 in
theorem w_X7_drops_14  {Z : Sto} (F : Fx rM p s m args cd cX7_drops 3 RX7 G) (hr : meth.sig.returnType = none) (hlk : meth.locks = false)  : ∀ (n : Nat), ∀ (x2 : Int32) (z : Sto), wl2 (b_X7_drops_14) n x2 z = some Z → ∀ {H : Heap} {locs : List Loc} {ls : Array Slot}, Hh rM G z s H locs → lv_has ls 3 [(0, .ref (G.1 122)), (2, .int x2)] → W p l e rmX7_drops s m args below meth cd H locs 0 0 (MQ below (QV rM G Z) args s 0 0 (Am rM G)) (F0 m 14 ls []) := by
  have hx := F.1
  have hb := F.2.1
  intro n
  induction n with
  | zero =>
    intro x2 z hf
    exact absurd hf (by intro h; cases h)
  | succ n ih =>
    intro x2 z hf  H locs ls hh hl
    replace hf : b_X7_drops_14 (wl2 (b_X7_drops_14) n) x2 z = some Z := hf
    unfold b_X7_drops_14 at hf
    refine lv_iload_n hx hb dX7_drops_14 rfl (lv_at hl 1 rfl) ?_
    refine lv_iconst (v := 2) hx hb dX7_drops_15 (by decide) ?_
    refine lv_aload_n hx hb dX7_drops_16 rfl (lv_at hl 0 rfl) ?_
    refine r_X7_7 (b' := 123) F hh in_122 sh_122 rfl dX7_drops_17 ?_
    refine lv_iconst (v := 1) hx hb dX7_drops_20 (by decide) ?_
    obtain ⟨t4, ht4, hf⟩ := ob hf
    refine g_iald F hh in_123 sh_123 ht4 dX7_drops_21 ?_
    refine lv_imul hx hb dX7_drops_22 ?_
    refine lv_icmp_ge (tgt := 52) hx hb dX7_drops_23 (by decide) (fun c5 => ?_) (fun c5 => ?_)
    · replace hf := itp c5 hf
      refine lv_aload_n hx hb dX7_drops_52 rfl (lv_at hl 0 rfl) ?_
      refine r_X7_7 (b' := 123) F hh in_122 sh_122 rfl dX7_drops_53 ?_
      refine lv_bipush (v := 15) hx hb dX7_drops_56 (by decide) ?_
      refine lv_iconst (v := 2) hx hb dX7_drops_58 (by decide) ?_
      refine lv_aload_n hx hb dX7_drops_59 rfl (lv_at hl 0 rfl) ?_
      refine r_X7_7 (b' := 123) F hh in_122 sh_122 rfl dX7_drops_60 ?_
      refine lv_iconst (v := 1) hx hb dX7_drops_63 (by decide) ?_
      obtain ⟨t6, ht6, hf⟩ := ob hf
      refine g_iald F hh in_123 sh_123 ht6 dX7_drops_64 ?_
      refine lv_imul hx hb dX7_drops_65 ?_
      refine lv_iadd hx hb dX7_drops_66 ?_
      refine lv_iconst (v := 0) hx hb dX7_drops_67 (by decide) ?_
      obtain ⟨z7, hz7, hf⟩ := ob hf
      refine g_iast F hh in_123 sh_123 hz7 dX7_drops_68 (fun H locs hh => ?_)
      refine lv_aload_n hx hb dX7_drops_69 rfl (lv_at hl 0 rfl) ?_
      refine r_X7_7 (b' := 123) F hh in_122 sh_122 rfl dX7_drops_70 ?_
      refine lv_bipush (v := 15) hx hb dX7_drops_73 (by decide) ?_
      refine lv_iconst (v := 2) hx hb dX7_drops_75 (by decide) ?_
      refine lv_aload_n hx hb dX7_drops_76 rfl (lv_at hl 0 rfl) ?_
      refine r_X7_7 (b' := 123) F hh in_122 sh_122 rfl dX7_drops_77 ?_
      refine lv_iconst (v := 1) hx hb dX7_drops_80 (by decide) ?_
      obtain ⟨t8, ht8, hf⟩ := ob hf
      refine g_iald F hh in_123 sh_123 ht8 dX7_drops_81 ?_
      refine lv_imul hx hb dX7_drops_82 ?_
      refine lv_iadd hx hb dX7_drops_83 ?_
      refine lv_iconst (v := 1) hx hb dX7_drops_84 (by decide) ?_
      refine lv_iadd hx hb dX7_drops_85 ?_
      refine lv_iconst (v := 0) hx hb dX7_drops_86 (by decide) ?_
      obtain ⟨z9, hz9, hf⟩ := ob hf
      refine g_iast F hh in_123 sh_123 hz9 dX7_drops_87 (fun H locs hh => ?_)
      exact g_vret F hr hlk hh (Option.some.inj hf) dX7_drops_88
    · replace hf := itn c5 hf
      refine lv_aload_n hx hb dX7_drops_26 rfl (lv_at hl 0 rfl) ?_
      refine r_X7_7 (b' := 123) F hh in_122 sh_122 rfl dX7_drops_27 ?_
      refine lv_bipush (v := 15) hx hb dX7_drops_30 (by decide) ?_
      refine lv_iload_n hx hb dX7_drops_32 rfl (lv_at hl 1 rfl) ?_
      refine lv_iadd hx hb dX7_drops_33 ?_
      refine lv_aload_n hx hb dX7_drops_34 rfl (lv_at hl 0 rfl) ?_
      refine r_X7_7 (b' := 123) F hh in_122 sh_122 rfl dX7_drops_35 ?_
      refine lv_bipush (v := 15) hx hb dX7_drops_38 (by decide) ?_
      refine lv_iload_n hx hb dX7_drops_40 rfl (lv_at hl 1 rfl) ?_
      refine lv_iadd hx hb dX7_drops_41 ?_
      refine lv_iconst (v := 2) hx hb dX7_drops_42 (by decide) ?_
      refine lv_iadd hx hb dX7_drops_43 ?_
      obtain ⟨t10, ht10, hf⟩ := ob hf
      refine g_iald F hh in_123 sh_123 ht10 dX7_drops_44 ?_
      obtain ⟨z11, hz11, hf⟩ := ob hf
      refine g_iast F hh in_123 sh_123 hz11 dX7_drops_45 (fun H locs hh => ?_)
      obtain ⟨x2_12, ex2_12⟩ : ∃ y : Int32, y = x2 + (1 : Int32) := ⟨_, rfl⟩
      replace hf := lt_e ex2_12 hf
      refine lv_iinc (v := x2_12) (lv' := [(2, .int x2_12), (0, .ref (G.1 122))]) hx hb dX7_drops_46 hl (k := 1) rfl (by rw [ex2_12]; rfl) (by decide) rfl (fun ls hl => ?_)
      refine lv_goto (tgt := 14) hx hb dX7_drops_49 (by decide) ?_
      exact ih _ _ hf  hh (lv_sub hl [1, 0] rfl)
set_option maxRecDepth 100000 in
set_option maxHeartbeats 4000000 in
theorem w_X7_drops {Z : Sto} (F : Fx rM p s m args cd cX7_drops 3 RX7 G) (hr : meth.sig.returnType = none) (hlk : meth.locks = false) {x1 : Int32} {z : Sto} {H : Heap} {locs : List Loc} {ls : Array Slot} (hf : f_X7_drops x1 z = some Z) (hh : Hh rM G z s H locs) (hl : lv_has ls 3 [(0, .ref (G.1 122)), (1, .int x1)]) : W p l e rmX7_drops s m args below meth cd H locs 0 0 (MQ below (QV rM G Z) args s 0 0 (Am rM G)) (F0 m 0 ls []) := by
  have hx := F.1
  have hb := F.2.1
  unfold f_X7_drops at hf
  refine lv_aload_n hx hb dX7_drops_0 rfl (lv_at hl 0 rfl) ?_
  refine r_X7_7 (b' := 123) F hh in_122 sh_122 rfl dX7_drops_1 ?_
  refine lv_iconst (v := 1) hx hb dX7_drops_4 (by decide) ?_
  refine lv_dup2_11 hx hb dX7_drops_5 rfl rfl ?_
  obtain ⟨t1, ht1, hf⟩ := ob hf
  refine g_iald F hh in_123 sh_123 ht1 dX7_drops_6 ?_
  refine lv_iconst (v := 1) hx hb dX7_drops_7 (by decide) ?_
  refine lv_isub hx hb dX7_drops_8 ?_
  obtain ⟨z2, hz2, hf⟩ := ob hf
  refine g_iast F hh in_123 sh_123 hz2 dX7_drops_9 (fun H locs hh => ?_)
  refine lv_iconst (v := 2) hx hb dX7_drops_10 (by decide) ?_
  refine lv_iload_n hx hb dX7_drops_11 rfl (lv_at hl 1 rfl) ?_
  refine lv_imul hx hb dX7_drops_12 ?_
  refine lv_topi (fun x2_3 ex2_3 => ?_)
  replace hf := lt_e ex2_3 hf
  refine lv_istore_n (lv' := [(2, .int x2_3), (0, .ref (G.1 122)), (1, .int x1)]) hx hb dX7_drops_13 rfl hl (by decide) rfl (fun ls hl => ?_)
  exact w_X7_drops_14 F hr hlk fu _ _ hf  hh (lv_sub hl [1, 0] rfl)
theorem c_X7_drops {l : Launch} {G : Gm} {x1 : Int32} {z : Sto} {Z : Sto} (hf : f_X7_drops x1 z = some Z) : Met l yX7_drops (Cond.code yX7_drops cX7_drops 3 none :: TT) rmX7_drops (va_Pc [.ref (G.1 122), .int x1] (GS rM G z)) (QV rM G Z) 0 0 (Am rM G) := by
  refine g_met [(0, .ref (G.1 122)), (1, .int x1)] (by decide) (Nat.le_of_ble_eq_true rfl) rfl ?_
  intro p e s m below meth cd F hr hlk ls H locs hl hh
  exact w_X7_drops F hr hlk hf hh hl
def j_X7_loses_45 (ag19 : Int32 → Int32 → Sto → Option (Int32 × Sto)) (x1 : Int32) (x2 : Int32) (z : Sto) : Option (Int32 × Sto) := bd (f_X7_drops x2 z) fun z24 => lt (x2 + (-1 : Int32)) fun x2_25 => ag19 x1 x2_25 z24
def b_X7_loses_120  (ag120 : Int32 → Sto → Option (Int32 × Sto)) (x2 : Int32) (z : Sto) : Option (Int32 × Sto) := bd (rdI z 123 42 (0 : Int32)) fun t26 => if ((2 : Int32) * t26) ≤ x2 then (bd (rdI z 123 42 (0 : Int32)) fun t28 => bd (wrI z 123 42 ((3 : Int32) + ((2 : Int32) * t28)) (0 : Int32)) fun z29 => bd (rdI z29 123 42 (0 : Int32)) fun t30 => bd (wrI z29 123 42 (((3 : Int32) + ((2 : Int32) * t30)) + (1 : Int32)) (0 : Int32)) fun z31 => bd (rdI z31 123 42 (1 : Int32)) fun t32 => some (t32, z31)) else (bd (rdI z 123 42 (((3 : Int32) + x2) + (2 : Int32))) fun t33 => bd (wrI z 123 42 ((3 : Int32) + x2) t33) fun z34 => lt (x2 + (1 : Int32)) fun x2_35 => ag120 x2_35 z34)
def b_X7_loses_58  (ag58 : Int32 → Int32 → Sto → Option (Int32 × Sto)) (x1 : Int32) (x2 : Int32) (z : Sto) : Option (Int32 × Sto) := bd (rdI z 123 42 (1 : Int32)) fun t11 => if ((2 : Int32) * t11) ≤ x2 then (bd (rdI z 123 42 (0 : Int32)) fun t13 => bd (wrI z 123 42 (0 : Int32) (t13 - (1 : Int32))) fun z14 => lt (((2 : Int32) * x1)) fun x2_15 => wl2 (b_X7_loses_120) fu x2_15 z14) else (bd (rdI z 123 42 ((15 : Int32) + x2)) fun t16 => bd (rdI z 123 42 ((15 : Int32) + x2)) fun t17 => if t17 ≤ x1 then (bd (wrI z 123 42 ((15 : Int32) + x2) (t16 - (0 : Int32))) fun z19 => lt (x2 + (1 : Int32)) fun x2_20 => ag58 x1 x2_20 z19) else (bd (wrI z 123 42 ((15 : Int32) + x2) (t16 - (1 : Int32))) fun z21 => lt (x2 + (1 : Int32)) fun x2_22 => ag58 x1 x2_22 z21))
def b_X7_loses_19  (ag19 : Int32 → Int32 → Sto → Option (Int32 × Sto)) (x1 : Int32) (x2 : Int32) (z : Sto) : Option (Int32 × Sto) := if x2 < 0 then (wl3 (b_X7_loses_58) fu x1 (0 : Int32) z) else (bd (f_X7_from (((2 : Int32) * x2)) z) fun t6 => if t6 = x1 then (j_X7_loses_45 ag19 x1 x2 z) else (bd (f_X7_to (((2 : Int32) * x2)) z) fun t8 => if t8 = x1 then (j_X7_loses_45 ag19 x1 x2 z) else (lt (x2 + (-1 : Int32)) fun x2_10 => ag19 x1 x2_10 z)))
def f_X7_loses (x1 : Int32) (z : Sto) : Option (Int32 × Sto) := bd (f_X7_isJoint x1 z) fun t1 => if t1 = 0 then (some ((-1 : Int32), z)) else (bd (rdI z 123 42 (1 : Int32)) fun t3 => lt ((t3 - (1 : Int32))) fun x2_4 => wl3 (b_X7_loses_19) fu x1 x2_4 z)
set_option maxRecDepth 100000 in
set_option maxHeartbeats 4000000 in
theorem w_X7_loses_45 {ag19 : Int32 → Int32 → Sto → Option (Int32 × Sto)} {Z : Int32 × Sto} (F : Fx rM p s m args cd cX7_loses 3 RX7 G) (hr : meth.sig.returnType = (some .int)) (hlk : meth.locks = false) (hag19 : ∀ (x1 : Int32) (x2 : Int32) (z : Sto), ag19 x1 x2 z = some Z → ∀ {H : Heap} {locs : List Loc} {ls : Array Slot}, Hh rM G z s H locs → lv_has ls 3 [(0, .ref (G.1 122)), (1, .int x1), (2, .int x2)] → W p l e rmX7_loses s m args below meth cd H locs 0 0 (MQ below (QI rM G Z.1 Z.2) args s 0 0 (Am rM G)) (F0 m 19 ls [])) {x1 : Int32} {x2 : Int32} {z : Sto} {H : Heap} {locs : List Loc} {ls : Array Slot} (hf : j_X7_loses_45 ag19 x1 x2 z = some Z) (hh : Hh rM G z s H locs) (hl : lv_has ls 3 [(0, .ref (G.1 122)), (1, .int x1), (2, .int x2)]) : W p l e rmX7_loses s m args below meth cd H locs 0 0 (MQ below (QI rM G Z.1 Z.2) args s 0 0 (Am rM G)) (F0 m 45 ls []) := by
  have hx := F.1
  have hb := F.2.1
  unfold j_X7_loses_45 at hf
  refine lv_aload_n hx hb dX7_loses_45 rfl (lv_at hl 0 rfl) ?_
  refine lv_iload_n hx hb dX7_loses_46 rfl (lv_at hl 2 rfl) ?_
  obtain ⟨z24, ht23, hf⟩ := ob hf
  refine m_X7_145 F hh (c_X7_drops ht23) in_122 sh_122 rfl hl (Nat.le_of_ble_eq_true rfl) dX7_loses_47 (fun H locs hh => ?_)
  obtain ⟨x2_25, ex2_25⟩ : ∃ y : Int32, y = x2 + (-1 : Int32) := ⟨_, rfl⟩
  replace hf := lt_e ex2_25 hf
  refine lv_iinc (v := x2_25) (lv' := [(2, .int x2_25), (0, .ref (G.1 122)), (1, .int x1)]) hx hb dX7_loses_50 hl (k := 2) rfl (by rw [ex2_25]; rfl) (by decide) rfl (fun ls hl => ?_)
  refine lv_goto (tgt := 19) hx hb dX7_loses_53 (by decide) ?_
  exact hag19 _ _ _ hf  hh (lv_sub hl [1, 2, 0] rfl)
set_option maxRecDepth 100000 in
set_option maxHeartbeats 4000000 in
theorem w_X7_loses_120  {Z : Int32 × Sto} (F : Fx rM p s m args cd cX7_loses 3 RX7 G) (hr : meth.sig.returnType = (some .int)) (hlk : meth.locks = false)  : ∀ (n : Nat), ∀ (x2 : Int32) (z : Sto), wl2 (b_X7_loses_120) n x2 z = some Z → ∀ {H : Heap} {locs : List Loc} {ls : Array Slot}, Hh rM G z s H locs → lv_has ls 3 [(0, .ref (G.1 122)), (2, .int x2)] → W p l e rmX7_loses s m args below meth cd H locs 0 0 (MQ below (QI rM G Z.1 Z.2) args s 0 0 (Am rM G)) (F0 m 120 ls []) := by
  have hx := F.1
  have hb := F.2.1
  intro n
  induction n with
  | zero =>
    intro x2 z hf
    exact absurd hf (by intro h; cases h)
  | succ n ih =>
    intro x2 z hf  H locs ls hh hl
    replace hf : b_X7_loses_120 (wl2 (b_X7_loses_120) n) x2 z = some Z := hf
    unfold b_X7_loses_120 at hf
    refine lv_iload_n hx hb dX7_loses_120 rfl (lv_at hl 1 rfl) ?_
    refine lv_iconst (v := 2) hx hb dX7_loses_121 (by decide) ?_
    refine lv_aload_n hx hb dX7_loses_122 rfl (lv_at hl 0 rfl) ?_
    refine r_X7_7 (b' := 123) F hh in_122 sh_122 rfl dX7_loses_123 ?_
    refine lv_iconst (v := 0) hx hb dX7_loses_126 (by decide) ?_
    obtain ⟨t26, ht26, hf⟩ := ob hf
    refine g_iald F hh in_123 sh_123 ht26 dX7_loses_127 ?_
    refine lv_imul hx hb dX7_loses_128 ?_
    refine lv_icmp_ge (tgt := 156) hx hb dX7_loses_129 (by decide) (fun c27 => ?_) (fun c27 => ?_)
    · replace hf := itp c27 hf
      refine lv_aload_n hx hb dX7_loses_156 rfl (lv_at hl 0 rfl) ?_
      refine r_X7_7 (b' := 123) F hh in_122 sh_122 rfl dX7_loses_157 ?_
      refine lv_iconst (v := 3) hx hb dX7_loses_160 (by decide) ?_
      refine lv_iconst (v := 2) hx hb dX7_loses_161 (by decide) ?_
      refine lv_aload_n hx hb dX7_loses_162 rfl (lv_at hl 0 rfl) ?_
      refine r_X7_7 (b' := 123) F hh in_122 sh_122 rfl dX7_loses_163 ?_
      refine lv_iconst (v := 0) hx hb dX7_loses_166 (by decide) ?_
      obtain ⟨t28, ht28, hf⟩ := ob hf
      refine g_iald F hh in_123 sh_123 ht28 dX7_loses_167 ?_
      refine lv_imul hx hb dX7_loses_168 ?_
      refine lv_iadd hx hb dX7_loses_169 ?_
      refine lv_iconst (v := 0) hx hb dX7_loses_170 (by decide) ?_
      obtain ⟨z29, hz29, hf⟩ := ob hf
      refine g_iast F hh in_123 sh_123 hz29 dX7_loses_171 (fun H locs hh => ?_)
      refine lv_aload_n hx hb dX7_loses_172 rfl (lv_at hl 0 rfl) ?_
      refine r_X7_7 (b' := 123) F hh in_122 sh_122 rfl dX7_loses_173 ?_
      refine lv_iconst (v := 3) hx hb dX7_loses_176 (by decide) ?_
      refine lv_iconst (v := 2) hx hb dX7_loses_177 (by decide) ?_
      refine lv_aload_n hx hb dX7_loses_178 rfl (lv_at hl 0 rfl) ?_
      refine r_X7_7 (b' := 123) F hh in_122 sh_122 rfl dX7_loses_179 ?_
      refine lv_iconst (v := 0) hx hb dX7_loses_182 (by decide) ?_
      obtain ⟨t30, ht30, hf⟩ := ob hf
      refine g_iald F hh in_123 sh_123 ht30 dX7_loses_183 ?_
      refine lv_imul hx hb dX7_loses_184 ?_
      refine lv_iadd hx hb dX7_loses_185 ?_
      refine lv_iconst (v := 1) hx hb dX7_loses_186 (by decide) ?_
      refine lv_iadd hx hb dX7_loses_187 ?_
      refine lv_iconst (v := 0) hx hb dX7_loses_188 (by decide) ?_
      obtain ⟨z31, hz31, hf⟩ := ob hf
      refine g_iast F hh in_123 sh_123 hz31 dX7_loses_189 (fun H locs hh => ?_)
      refine lv_aload_n hx hb dX7_loses_190 rfl (lv_at hl 0 rfl) ?_
      refine r_X7_7 (b' := 123) F hh in_122 sh_122 rfl dX7_loses_191 ?_
      refine lv_iconst (v := 1) hx hb dX7_loses_194 (by decide) ?_
      obtain ⟨t32, ht32, hf⟩ := ob hf
      refine g_iald F hh in_123 sh_123 ht32 dX7_loses_195 ?_
      exact g_iretW F hr hlk hh hf dX7_loses_196
    · replace hf := itn c27 hf
      refine lv_aload_n hx hb dX7_loses_132 rfl (lv_at hl 0 rfl) ?_
      refine r_X7_7 (b' := 123) F hh in_122 sh_122 rfl dX7_loses_133 ?_
      refine lv_iconst (v := 3) hx hb dX7_loses_136 (by decide) ?_
      refine lv_iload_n hx hb dX7_loses_137 rfl (lv_at hl 1 rfl) ?_
      refine lv_iadd hx hb dX7_loses_138 ?_
      refine lv_aload_n hx hb dX7_loses_139 rfl (lv_at hl 0 rfl) ?_
      refine r_X7_7 (b' := 123) F hh in_122 sh_122 rfl dX7_loses_140 ?_
      refine lv_iconst (v := 3) hx hb dX7_loses_143 (by decide) ?_
      refine lv_iload_n hx hb dX7_loses_144 rfl (lv_at hl 1 rfl) ?_
      refine lv_iadd hx hb dX7_loses_145 ?_
      refine lv_iconst (v := 2) hx hb dX7_loses_146 (by decide) ?_
      refine lv_iadd hx hb dX7_loses_147 ?_
      obtain ⟨t33, ht33, hf⟩ := ob hf
      refine g_iald F hh in_123 sh_123 ht33 dX7_loses_148 ?_
      obtain ⟨z34, hz34, hf⟩ := ob hf
      refine g_iast F hh in_123 sh_123 hz34 dX7_loses_149 (fun H locs hh => ?_)
      obtain ⟨x2_35, ex2_35⟩ : ∃ y : Int32, y = x2 + (1 : Int32) := ⟨_, rfl⟩
      replace hf := lt_e ex2_35 hf
      refine lv_iinc (v := x2_35) (lv' := [(2, .int x2_35), (0, .ref (G.1 122))]) hx hb dX7_loses_150 hl (k := 1) rfl (by rw [ex2_35]; rfl) (by decide) rfl (fun ls hl => ?_)
      refine lv_goto (tgt := 120) hx hb dX7_loses_153 (by decide) ?_
      exact ih _ _ hf  hh (lv_sub hl [1, 0] rfl)
set_option maxRecDepth 100000 in
set_option maxHeartbeats 4000000 in
theorem w_X7_loses_58  {Z : Int32 × Sto} (F : Fx rM p s m args cd cX7_loses 3 RX7 G) (hr : meth.sig.returnType = (some .int)) (hlk : meth.locks = false)  : ∀ (n : Nat), ∀ (x1 : Int32) (x2 : Int32) (z : Sto), wl3 (b_X7_loses_58) n x1 x2 z = some Z → ∀ {H : Heap} {locs : List Loc} {ls : Array Slot}, Hh rM G z s H locs → lv_has ls 3 [(0, .ref (G.1 122)), (1, .int x1), (2, .int x2)] → W p l e rmX7_loses s m args below meth cd H locs 0 0 (MQ below (QI rM G Z.1 Z.2) args s 0 0 (Am rM G)) (F0 m 58 ls []) := by
  have hx := F.1
  have hb := F.2.1
  intro n
  induction n with
  | zero =>
    intro x1 x2 z hf
    exact absurd hf (by intro h; cases h)
  | succ n ih =>
    intro x1 x2 z hf  H locs ls hh hl
    replace hf : b_X7_loses_58 (wl3 (b_X7_loses_58) n) x1 x2 z = some Z := hf
    unfold b_X7_loses_58 at hf
    refine lv_iload_n hx hb dX7_loses_58 rfl (lv_at hl 2 rfl) ?_
    refine lv_iconst (v := 2) hx hb dX7_loses_59 (by decide) ?_
    refine lv_aload_n hx hb dX7_loses_60 rfl (lv_at hl 0 rfl) ?_
    refine r_X7_7 (b' := 123) F hh in_122 sh_122 rfl dX7_loses_61 ?_
    refine lv_iconst (v := 1) hx hb dX7_loses_64 (by decide) ?_
    obtain ⟨t11, ht11, hf⟩ := ob hf
    refine g_iald F hh in_123 sh_123 ht11 dX7_loses_65 ?_
    refine lv_imul hx hb dX7_loses_66 ?_
    refine lv_icmp_ge (tgt := 106) hx hb dX7_loses_67 (by decide) (fun c12 => ?_) (fun c12 => ?_)
    · replace hf := itp c12 hf
      refine lv_aload_n hx hb dX7_loses_106 rfl (lv_at hl 0 rfl) ?_
      refine r_X7_7 (b' := 123) F hh in_122 sh_122 rfl dX7_loses_107 ?_
      refine lv_iconst (v := 0) hx hb dX7_loses_110 (by decide) ?_
      refine lv_dup2_11 hx hb dX7_loses_111 rfl rfl ?_
      obtain ⟨t13, ht13, hf⟩ := ob hf
      refine g_iald F hh in_123 sh_123 ht13 dX7_loses_112 ?_
      refine lv_iconst (v := 1) hx hb dX7_loses_113 (by decide) ?_
      refine lv_isub hx hb dX7_loses_114 ?_
      obtain ⟨z14, hz14, hf⟩ := ob hf
      refine g_iast F hh in_123 sh_123 hz14 dX7_loses_115 (fun H locs hh => ?_)
      refine lv_iconst (v := 2) hx hb dX7_loses_116 (by decide) ?_
      refine lv_iload_n hx hb dX7_loses_117 rfl (lv_at hl 1 rfl) ?_
      refine lv_imul hx hb dX7_loses_118 ?_
      refine lv_topi (fun x2_15 ex2_15 => ?_)
      replace hf := lt_e ex2_15 hf
      refine lv_istore_n (lv' := [(2, .int x2_15), (0, .ref (G.1 122)), (1, .int x1)]) hx hb dX7_loses_119 rfl hl (by decide) rfl (fun ls hl => ?_)
      exact w_X7_loses_120 F hr hlk fu _ _ hf  hh (lv_sub hl [1, 0] rfl)
    · replace hf := itn c12 hf
      refine lv_aload_n hx hb dX7_loses_70 rfl (lv_at hl 0 rfl) ?_
      refine r_X7_7 (b' := 123) F hh in_122 sh_122 rfl dX7_loses_71 ?_
      refine lv_bipush (v := 15) hx hb dX7_loses_74 (by decide) ?_
      refine lv_iload_n hx hb dX7_loses_76 rfl (lv_at hl 2 rfl) ?_
      refine lv_iadd hx hb dX7_loses_77 ?_
      refine lv_dup2_11 hx hb dX7_loses_78 rfl rfl ?_
      obtain ⟨t16, ht16, hf⟩ := ob hf
      refine g_iald F hh in_123 sh_123 ht16 dX7_loses_79 ?_
      refine lv_aload_n hx hb dX7_loses_80 rfl (lv_at hl 0 rfl) ?_
      refine r_X7_7 (b' := 123) F hh in_122 sh_122 rfl dX7_loses_81 ?_
      refine lv_bipush (v := 15) hx hb dX7_loses_84 (by decide) ?_
      refine lv_iload_n hx hb dX7_loses_86 rfl (lv_at hl 2 rfl) ?_
      refine lv_iadd hx hb dX7_loses_87 ?_
      obtain ⟨t17, ht17, hf⟩ := ob hf
      refine g_iald F hh in_123 sh_123 ht17 dX7_loses_88 ?_
      refine lv_iload_n hx hb dX7_loses_89 rfl (lv_at hl 1 rfl) ?_
      refine lv_icmp_le (tgt := 97) hx hb dX7_loses_90 (by decide) (fun c18 => ?_) (fun c18 => ?_)
      · replace hf := itp c18 hf
        refine lv_iconst (v := 0) hx hb dX7_loses_97 (by decide) ?_
        refine lv_isub hx hb dX7_loses_98 ?_
        obtain ⟨z19, hz19, hf⟩ := ob hf
        refine g_iast F hh in_123 sh_123 hz19 dX7_loses_99 (fun H locs hh => ?_)
        obtain ⟨x2_20, ex2_20⟩ : ∃ y : Int32, y = x2 + (1 : Int32) := ⟨_, rfl⟩
        replace hf := lt_e ex2_20 hf
        refine lv_iinc (v := x2_20) (lv' := [(2, .int x2_20), (0, .ref (G.1 122)), (1, .int x1)]) hx hb dX7_loses_100 hl (k := 2) rfl (by rw [ex2_20]; rfl) (by decide) rfl (fun ls hl => ?_)
        refine lv_goto (tgt := 58) hx hb dX7_loses_103 (by decide) ?_
        exact ih _ _ _ hf  hh (lv_sub hl [1, 2, 0] rfl)
      · replace hf := itn c18 hf
        refine lv_iconst (v := 1) hx hb dX7_loses_93 (by decide) ?_
        refine lv_goto (tgt := 98) hx hb dX7_loses_94 (by decide) ?_
        refine lv_isub hx hb dX7_loses_98 ?_
        obtain ⟨z21, hz21, hf⟩ := ob hf
        refine g_iast F hh in_123 sh_123 hz21 dX7_loses_99 (fun H locs hh => ?_)
        obtain ⟨x2_22, ex2_22⟩ : ∃ y : Int32, y = x2 + (1 : Int32) := ⟨_, rfl⟩
        replace hf := lt_e ex2_22 hf
        refine lv_iinc (v := x2_22) (lv' := [(2, .int x2_22), (0, .ref (G.1 122)), (1, .int x1)]) hx hb dX7_loses_100 hl (k := 2) rfl (by rw [ex2_22]; rfl) (by decide) rfl (fun ls hl => ?_)
        refine lv_goto (tgt := 58) hx hb dX7_loses_103 (by decide) ?_
        exact ih _ _ _ hf  hh (lv_sub hl [1, 2, 0] rfl)
set_option maxRecDepth 100000 in
set_option maxHeartbeats 4000000 in
theorem w_X7_loses_19  {Z : Int32 × Sto} (F : Fx rM p s m args cd cX7_loses 3 RX7 G) (hr : meth.sig.returnType = (some .int)) (hlk : meth.locks = false)  : ∀ (n : Nat), ∀ (x1 : Int32) (x2 : Int32) (z : Sto), wl3 (b_X7_loses_19) n x1 x2 z = some Z → ∀ {H : Heap} {locs : List Loc} {ls : Array Slot}, Hh rM G z s H locs → lv_has ls 3 [(0, .ref (G.1 122)), (1, .int x1), (2, .int x2)] → W p l e rmX7_loses s m args below meth cd H locs 0 0 (MQ below (QI rM G Z.1 Z.2) args s 0 0 (Am rM G)) (F0 m 19 ls []) := by
  have hx := F.1
  have hb := F.2.1
  intro n
  induction n with
  | zero =>
    intro x1 x2 z hf
    exact absurd hf (by intro h; cases h)
  | succ n ih =>
    intro x1 x2 z hf  H locs ls hh hl
    replace hf : b_X7_loses_19 (wl3 (b_X7_loses_19) n) x1 x2 z = some Z := hf
    unfold b_X7_loses_19 at hf
    refine lv_iload_n hx hb dX7_loses_19 rfl (lv_at hl 2 rfl) ?_
    refine lv_if_lt (tgt := 56) hx hb dX7_loses_20 (by decide) (fun c5 => ?_) (fun c5 => ?_)
    · replace hf := itp c5 hf
      refine lv_iconst (v := 0) hx hb dX7_loses_56 (by decide) ?_
      refine lv_istore_n (lv' := [(2, .int (0 : Int32)), (0, .ref (G.1 122)), (1, .int x1)]) hx hb dX7_loses_57 rfl hl (by decide) rfl (fun ls hl => ?_)
      exact w_X7_loses_58 F hr hlk fu _ _ _ hf  hh (lv_sub hl [1, 2, 0] rfl)
    · replace hf := itn c5 hf
      refine lv_aload_n hx hb dX7_loses_23 rfl (lv_at hl 0 rfl) ?_
      refine lv_iconst (v := 2) hx hb dX7_loses_24 (by decide) ?_
      refine lv_iload_n hx hb dX7_loses_25 rfl (lv_at hl 2 rfl) ?_
      refine lv_imul hx hb dX7_loses_26 ?_
      obtain ⟨t6, ht6, hf⟩ := ob hf
      refine m_X7_98 F hh (c_X7_from ht6) in_122 sh_122 rfl hl (Nat.le_of_ble_eq_true rfl) dX7_loses_27 (fun H locs hh => ?_)
      refine lv_iload_n hx hb dX7_loses_30 rfl (lv_at hl 1 rfl) ?_
      refine lv_icmp_eq (tgt := 45) hx hb dX7_loses_31 (by decide) (fun c7 => ?_) (fun c7 => ?_)
      · replace hf := itp c7 hf
        exact w_X7_loses_45 F hr hlk ih hf  hh (lv_sub hl [0, 1, 2] rfl)
      · replace hf := itn c7 hf
        refine lv_aload_n hx hb dX7_loses_34 rfl (lv_at hl 0 rfl) ?_
        refine lv_iconst (v := 2) hx hb dX7_loses_35 (by decide) ?_
        refine lv_iload_n hx hb dX7_loses_36 rfl (lv_at hl 2 rfl) ?_
        refine lv_imul hx hb dX7_loses_37 ?_
        obtain ⟨t8, ht8, hf⟩ := ob hf
        refine m_X7_101 F hh (c_X7_to ht8) in_122 sh_122 rfl hl (Nat.le_of_ble_eq_true rfl) dX7_loses_38 (fun H locs hh => ?_)
        refine lv_iload_n hx hb dX7_loses_41 rfl (lv_at hl 1 rfl) ?_
        refine lv_icmp_ne (tgt := 50) hx hb dX7_loses_42 (by decide) (fun c9 => ?_) (fun c9 => ?_)
        · replace hf := itn c9 hf
          obtain ⟨x2_10, ex2_10⟩ : ∃ y : Int32, y = x2 + (-1 : Int32) := ⟨_, rfl⟩
          replace hf := lt_e ex2_10 hf
          refine lv_iinc (v := x2_10) (lv' := [(2, .int x2_10), (0, .ref (G.1 122)), (1, .int x1)]) hx hb dX7_loses_50 hl (k := 2) rfl (by rw [ex2_10]; rfl) (by decide) rfl (fun ls hl => ?_)
          refine lv_goto (tgt := 19) hx hb dX7_loses_53 (by decide) ?_
          exact ih _ _ _ hf  hh (lv_sub hl [1, 2, 0] rfl)
        · replace hf := itp c9 hf
          exact w_X7_loses_45 F hr hlk ih hf  hh (lv_sub hl [0, 1, 2] rfl)
set_option maxRecDepth 100000 in
set_option maxHeartbeats 4000000 in
theorem w_X7_loses {Z : Int32 × Sto} (F : Fx rM p s m args cd cX7_loses 3 RX7 G) (hr : meth.sig.returnType = (some .int)) (hlk : meth.locks = false) {x1 : Int32} {z : Sto} {H : Heap} {locs : List Loc} {ls : Array Slot} (hf : f_X7_loses x1 z = some Z) (hh : Hh rM G z s H locs) (hl : lv_has ls 3 [(0, .ref (G.1 122)), (1, .int x1)]) : W p l e rmX7_loses s m args below meth cd H locs 0 0 (MQ below (QI rM G Z.1 Z.2) args s 0 0 (Am rM G)) (F0 m 0 ls []) := by
  have hx := F.1
  have hb := F.2.1
  unfold f_X7_loses at hf
  refine lv_aload_n hx hb dX7_loses_0 rfl (lv_at hl 0 rfl) ?_
  refine lv_iload_n hx hb dX7_loses_1 rfl (lv_at hl 1 rfl) ?_
  obtain ⟨t1, ht1, hf⟩ := ob hf
  refine m_X7_128 F hh (c_X7_isJoint ht1) in_122 sh_122 rfl hl (Nat.le_of_ble_eq_true rfl) dX7_loses_2 (fun H locs hh => ?_)
  refine lv_if_ne (tgt := 10) hx hb dX7_loses_5 (by decide) (fun c2 => ?_) (fun c2 => ?_)
  · replace hf := itn c2 hf
    refine lv_aload_n hx hb dX7_loses_10 rfl (lv_at hl 0 rfl) ?_
    refine r_X7_7 (b' := 123) F hh in_122 sh_122 rfl dX7_loses_11 ?_
    refine lv_iconst (v := 1) hx hb dX7_loses_14 (by decide) ?_
    obtain ⟨t3, ht3, hf⟩ := ob hf
    refine g_iald F hh in_123 sh_123 ht3 dX7_loses_15 ?_
    refine lv_iconst (v := 1) hx hb dX7_loses_16 (by decide) ?_
    refine lv_isub hx hb dX7_loses_17 ?_
    refine lv_topi (fun x2_4 ex2_4 => ?_)
    replace hf := lt_e ex2_4 hf
    refine lv_istore_n (lv' := [(2, .int x2_4), (0, .ref (G.1 122)), (1, .int x1)]) hx hb dX7_loses_18 rfl hl (by decide) rfl (fun ls hl => ?_)
    exact w_X7_loses_19 F hr hlk fu _ _ _ hf  hh (lv_sub hl [1, 2, 0] rfl)
  · replace hf := itp c2 hf
    refine lv_iconst (v := -1) hx hb dX7_loses_8 (by decide) ?_
    exact g_iretW F hr hlk hh hf dX7_loses_9
theorem c_X7_loses {l : Launch} {G : Gm} {x1 : Int32} {z : Sto} {Z : Int32 × Sto} (hf : f_X7_loses x1 z = some Z) : Met l yX7_loses (Cond.code yX7_loses cX7_loses 3 (some .int) :: TT) rmX7_loses (va_Pc [.ref (G.1 122), .int x1] (GS rM G z)) (QI rM G Z.1 Z.2) 0 0 (Am rM G) := by
  refine g_met [(0, .ref (G.1 122)), (1, .int x1)] (by decide) (Nat.le_of_ble_eq_true rfl) rfl ?_
  intro p e s m below meth cd F hr hlk ls H locs hl hh
  exact w_X7_loses F hr hlk hf hh hl
def j_X7_adds_200  (x3 : Int32) (k0 : Int32) (k1 : Int32) (z : Sto) : Option (Int32 × Sto) := bd (wrI z 123 42 k1 k0) fun z31 => bd (rdI z31 123 42 (1 : Int32)) fun t32 => bd (wrI z31 123 42 (1 : Int32) (t32 + (1 : Int32))) fun z33 => some (x3, z33)
def j_X7_adds_177  (x1 : Int32) (x2 : Int32) (x3 : Int32) (k0 : Int32) (k1 : Int32) (z : Sto) : Option (Int32 × Sto) := bd (wrI z 123 42 k1 k0) fun z29 => if x2 ≤ x1 then (j_X7_adds_200 x3 x1 ((((15 : Int32) + ((2 : Int32) * x3)) + (1 : Int32))) z29) else (j_X7_adds_200 x3 x2 ((((15 : Int32) + ((2 : Int32) * x3)) + (1 : Int32))) z29)
def b_X7_adds_91  (ag91 : Int32 → Int32 → Int32 → Int32 → Int32 → Sto → Option (Int32 × Sto)) (x1 : Int32) (x2 : Int32) (x3 : Int32) (x4 : Int32) (x5 : Int32) (z : Sto) : Option (Int32 × Sto) := if x3 ≤ x5 then (if x4 = 0 then (some ((-2 : Int32), z)) else (if x3 = (9 : Int32) then (some ((-3 : Int32), z)) else (if x2 ≤ x1 then (j_X7_adds_177 x1 x2 x3 x2 (((15 : Int32) + ((2 : Int32) * x3))) z) else (j_X7_adds_177 x1 x2 x3 x1 (((15 : Int32) + ((2 : Int32) * x3))) z)))) else (if x4 = 0 then (lt (x5 + (1 : Int32)) fun x5_22 => ag91 x1 x2 x3 (0 : Int32) x5_22 z) else (bd (f_X7_from (((2 : Int32) * x5)) z) fun t23 => bd (f_X7_to (((2 : Int32) * x5)) z) fun t24 => bd (f_X7_doCross x1 x2 t23 t24 z) fun t25 => if t25 = 0 then (lt (x5 + (1 : Int32)) fun x5_28 => ag91 x1 x2 x3 (1 : Int32) x5_28 z) else (lt (x5 + (1 : Int32)) fun x5_27 => ag91 x1 x2 x3 (0 : Int32) x5_27 z)))
def b_X7_adds_48  (ag48 : Int32 → Int32 → Int32 → Int32 → Int32 → Sto → Option (Int32 × Sto)) (x1 : Int32) (x2 : Int32) (x3 : Int32) (x4 : Int32) (x5 : Int32) (z : Sto) : Option (Int32 × Sto) := bd (rdI z 123 42 (0 : Int32)) fun t9 => if t9 ≤ x5 then (wl6 (b_X7_adds_91) fu x1 x2 x3 x4 (0 : Int32) z) else (if x4 = 0 then (lt (x5 + (1 : Int32)) fun x5_12 => ag48 x1 x2 x3 (0 : Int32) x5_12 z) else (bd (f_X7_isOver x1 x2 x5 z) fun t13 => if t13 = 0 then (lt (x5 + (1 : Int32)) fun x5_16 => ag48 x1 x2 x3 (1 : Int32) x5_16 z) else (lt (x5 + (1 : Int32)) fun x5_15 => ag48 x1 x2 x3 (0 : Int32) x5_15 z)))
def f_X7_adds (x1 : Int32) (x2 : Int32) (z : Sto) : Option (Int32 × Sto) := bd (f_X7_isJoint x1 z) fun t1 => if t1 = 0 then (some ((-1 : Int32), z)) else (bd (f_X7_isJoint x2 z) fun t3 => if t3 = 0 then (some ((-1 : Int32), z)) else (if x1 = x2 then (some ((-1 : Int32), z)) else (bd (f_X7_findBar x1 x2 z) fun t6 => if t6 < 0 then (bd (rdI z 123 42 (1 : Int32)) fun t8 => wl6 (b_X7_adds_48) fu x1 x2 t8 (1 : Int32) (0 : Int32) z) else (some ((-2 : Int32), z)))))
set_option maxRecDepth 100000 in
set_option maxHeartbeats 4000000 in
theorem w_X7_adds_200  {Z : Int32 × Sto} (F : Fx rM p s m args cd cX7_adds 6 RX7 G) (hr : meth.sig.returnType = (some .int)) (hlk : meth.locks = false)  {x3 : Int32} {k0 : Int32} {k1 : Int32} {z : Sto} {H : Heap} {locs : List Loc} {ls : Array Slot} (hf : j_X7_adds_200 x3 k0 k1 z = some Z) (hh : Hh rM G z s H locs) (hl : lv_has ls 6 [(0, .ref (G.1 122)), (3, .int x3)]) : W p l e rmX7_adds s m args below meth cd H locs 0 0 (MQ below (QI rM G Z.1 Z.2) args s 0 0 (Am rM G)) (F0 m 200 ls [.int k0, .int k1, .ref (G.1 123)]) := by
  have hx := F.1
  have hb := F.2.1
  unfold j_X7_adds_200 at hf
  obtain ⟨z31, hz31, hf⟩ := ob hf
  refine g_iast F hh in_123 sh_123 hz31 dX7_adds_200 (fun H locs hh => ?_)
  refine lv_aload_n hx hb dX7_adds_201 rfl (lv_at hl 0 rfl) ?_
  refine r_X7_7 (b' := 123) F hh in_122 sh_122 rfl dX7_adds_202 ?_
  refine lv_iconst (v := 1) hx hb dX7_adds_205 (by decide) ?_
  refine lv_dup2_11 hx hb dX7_adds_206 rfl rfl ?_
  obtain ⟨t32, ht32, hf⟩ := ob hf
  refine g_iald F hh in_123 sh_123 ht32 dX7_adds_207 ?_
  refine lv_iconst (v := 1) hx hb dX7_adds_208 (by decide) ?_
  refine lv_iadd hx hb dX7_adds_209 ?_
  obtain ⟨z33, hz33, hf⟩ := ob hf
  refine g_iast F hh in_123 sh_123 hz33 dX7_adds_210 (fun H locs hh => ?_)
  refine lv_iload_n hx hb dX7_adds_211 rfl (lv_at hl 1 rfl) ?_
  exact g_iretW F hr hlk hh hf dX7_adds_212
set_option maxRecDepth 100000 in
set_option maxHeartbeats 4000000 in
theorem w_X7_adds_177  {Z : Int32 × Sto} (F : Fx rM p s m args cd cX7_adds 6 RX7 G) (hr : meth.sig.returnType = (some .int)) (hlk : meth.locks = false)  {x1 : Int32} {x2 : Int32} {x3 : Int32} {k0 : Int32} {k1 : Int32} {z : Sto} {H : Heap} {locs : List Loc} {ls : Array Slot} (hf : j_X7_adds_177 x1 x2 x3 k0 k1 z = some Z) (hh : Hh rM G z s H locs) (hl : lv_has ls 6 [(0, .ref (G.1 122)), (1, .int x1), (2, .int x2), (3, .int x3)]) : W p l e rmX7_adds s m args below meth cd H locs 0 0 (MQ below (QI rM G Z.1 Z.2) args s 0 0 (Am rM G)) (F0 m 177 ls [.int k0, .int k1, .ref (G.1 123)]) := by
  have hx := F.1
  have hb := F.2.1
  unfold j_X7_adds_177 at hf
  obtain ⟨z29, hz29, hf⟩ := ob hf
  refine g_iast F hh in_123 sh_123 hz29 dX7_adds_177 (fun H locs hh => ?_)
  refine lv_aload_n hx hb dX7_adds_178 rfl (lv_at hl 0 rfl) ?_
  refine r_X7_7 (b' := 123) F hh in_122 sh_122 rfl dX7_adds_179 ?_
  refine lv_bipush (v := 15) hx hb dX7_adds_182 (by decide) ?_
  refine lv_iconst (v := 2) hx hb dX7_adds_184 (by decide) ?_
  refine lv_iload_n hx hb dX7_adds_185 rfl (lv_at hl 3 rfl) ?_
  refine lv_imul hx hb dX7_adds_186 ?_
  refine lv_iadd hx hb dX7_adds_187 ?_
  refine lv_iconst (v := 1) hx hb dX7_adds_188 (by decide) ?_
  refine lv_iadd hx hb dX7_adds_189 ?_
  refine lv_iload_n hx hb dX7_adds_190 rfl (lv_at hl 1 rfl) ?_
  refine lv_iload_n hx hb dX7_adds_191 rfl (lv_at hl 2 rfl) ?_
  refine lv_icmp_ge (tgt := 199) hx hb dX7_adds_192 (by decide) (fun c30 => ?_) (fun c30 => ?_)
  · replace hf := itp c30 hf
    refine lv_iload_n hx hb dX7_adds_199 rfl (lv_at hl 1 rfl) ?_
    exact w_X7_adds_200 F hr hlk hf  hh (lv_sub hl [0, 3] rfl)
  · replace hf := itn c30 hf
    refine lv_iload_n hx hb dX7_adds_195 rfl (lv_at hl 2 rfl) ?_
    refine lv_goto (tgt := 200) hx hb dX7_adds_196 (by decide) ?_
    exact w_X7_adds_200 F hr hlk hf  hh (lv_sub hl [0, 3] rfl)
set_option maxRecDepth 100000 in
set_option maxHeartbeats 4000000 in
theorem w_X7_adds_91  {Z : Int32 × Sto} (F : Fx rM p s m args cd cX7_adds 6 RX7 G) (hr : meth.sig.returnType = (some .int)) (hlk : meth.locks = false)  : ∀ (n : Nat), ∀ (x1 : Int32) (x2 : Int32) (x3 : Int32) (x4 : Int32) (x5 : Int32) (z : Sto), wl6 (b_X7_adds_91) n x1 x2 x3 x4 x5 z = some Z → ∀ {H : Heap} {locs : List Loc} {ls : Array Slot}, Hh rM G z s H locs → lv_has ls 6 [(0, .ref (G.1 122)), (1, .int x1), (2, .int x2), (3, .int x3), (4, .int x4), (5, .int x5)] → W p l e rmX7_adds s m args below meth cd H locs 0 0 (MQ below (QI rM G Z.1 Z.2) args s 0 0 (Am rM G)) (F0 m 91 ls []) := by
  have hx := F.1
  have hb := F.2.1
  intro n
  induction n with
  | zero =>
    intro x1 x2 x3 x4 x5 z hf
    exact absurd hf (by intro h; cases h)
  | succ n ih =>
    intro x1 x2 x3 x4 x5 z hf  H locs ls hh hl
    replace hf : b_X7_adds_91 (wl6 (b_X7_adds_91) n) x1 x2 x3 x4 x5 z = some Z := hf
    unfold b_X7_adds_91 at hf
    refine lv_iload hx hb dX7_adds_91 (lv_at hl 5 rfl) ?_
    refine lv_iload_n hx hb dX7_adds_93 rfl (lv_at hl 3 rfl) ?_
    refine lv_icmp_ge (tgt := 140) hx hb dX7_adds_94 (by decide) (fun c17 => ?_) (fun c17 => ?_)
    · replace hf := itp c17 hf
      refine lv_iload hx hb dX7_adds_140 (lv_at hl 4 rfl) ?_
      refine lv_if_ne (tgt := 148) hx hb dX7_adds_142 (by decide) (fun c18 => ?_) (fun c18 => ?_)
      · replace hf := itn c18 hf
        refine lv_iload_n hx hb dX7_adds_148 rfl (lv_at hl 3 rfl) ?_
        refine lv_bipush (v := 9) hx hb dX7_adds_149 (by decide) ?_
        refine lv_icmp_ne (tgt := 157) hx hb dX7_adds_151 (by decide) (fun c19 => ?_) (fun c19 => ?_)
        · replace hf := itn c19 hf
          refine lv_aload_n hx hb dX7_adds_157 rfl (lv_at hl 0 rfl) ?_
          refine r_X7_7 (b' := 123) F hh in_122 sh_122 rfl dX7_adds_158 ?_
          refine lv_bipush (v := 15) hx hb dX7_adds_161 (by decide) ?_
          refine lv_iconst (v := 2) hx hb dX7_adds_163 (by decide) ?_
          refine lv_iload_n hx hb dX7_adds_164 rfl (lv_at hl 3 rfl) ?_
          refine lv_imul hx hb dX7_adds_165 ?_
          refine lv_iadd hx hb dX7_adds_166 ?_
          refine lv_iload_n hx hb dX7_adds_167 rfl (lv_at hl 1 rfl) ?_
          refine lv_iload_n hx hb dX7_adds_168 rfl (lv_at hl 2 rfl) ?_
          refine lv_icmp_ge (tgt := 176) hx hb dX7_adds_169 (by decide) (fun c20 => ?_) (fun c20 => ?_)
          · replace hf := itp c20 hf
            refine lv_iload_n hx hb dX7_adds_176 rfl (lv_at hl 2 rfl) ?_
            exact w_X7_adds_177 F hr hlk hf  hh (lv_sub hl [0, 1, 2, 3] rfl)
          · replace hf := itn c20 hf
            refine lv_iload_n hx hb dX7_adds_172 rfl (lv_at hl 1 rfl) ?_
            refine lv_goto (tgt := 177) hx hb dX7_adds_173 (by decide) ?_
            exact w_X7_adds_177 F hr hlk hf  hh (lv_sub hl [0, 1, 2, 3] rfl)
        · replace hf := itp c19 hf
          refine lv_bipush (v := -3) hx hb dX7_adds_154 (by decide) ?_
          exact g_iretW F hr hlk hh hf dX7_adds_156
      · replace hf := itp c18 hf
        refine lv_bipush (v := -2) hx hb dX7_adds_145 (by decide) ?_
        exact g_iretW F hr hlk hh hf dX7_adds_147
    · replace hf := itn c17 hf
      refine lv_iload hx hb dX7_adds_97 (lv_at hl 4 rfl) ?_
      refine lv_if_eq (tgt := 131) hx hb dX7_adds_99 (by decide) (fun c21 => ?_) (fun c21 => ?_)
      · replace hf := itp c21 hf
        refine lv_iconst (v := 0) hx hb dX7_adds_131 (by decide) ?_
        refine lv_istore (lv' := [(4, .int (0 : Int32)), (0, .ref (G.1 122)), (1, .int x1), (2, .int x2), (3, .int x3), (5, .int x5)]) hx hb dX7_adds_132 hl (by decide) rfl (fun ls hl => ?_)
        obtain ⟨x5_22, ex5_22⟩ : ∃ y : Int32, y = x5 + (1 : Int32) := ⟨_, rfl⟩
        replace hf := lt_e ex5_22 hf
        refine lv_iinc (v := x5_22) (lv' := [(5, .int x5_22), (4, .int (0 : Int32)), (0, .ref (G.1 122)), (1, .int x1), (2, .int x2), (3, .int x3)]) hx hb dX7_adds_134 hl (k := 5) rfl (by rw [ex5_22]; rfl) (by decide) rfl (fun ls hl => ?_)
        refine lv_goto (tgt := 91) hx hb dX7_adds_137 (by decide) ?_
        exact ih _ _ _ _ _ _ hf  hh (lv_sub hl [2, 3, 4, 5, 1, 0] rfl)
      · replace hf := itn c21 hf
        refine lv_aload_n hx hb dX7_adds_102 rfl (lv_at hl 0 rfl) ?_
        refine lv_iload_n hx hb dX7_adds_103 rfl (lv_at hl 1 rfl) ?_
        refine lv_iload_n hx hb dX7_adds_104 rfl (lv_at hl 2 rfl) ?_
        refine lv_aload_n hx hb dX7_adds_105 rfl (lv_at hl 0 rfl) ?_
        refine lv_iconst (v := 2) hx hb dX7_adds_106 (by decide) ?_
        refine lv_iload hx hb dX7_adds_107 (lv_at hl 5 rfl) ?_
        refine lv_imul hx hb dX7_adds_109 ?_
        obtain ⟨t23, ht23, hf⟩ := ob hf
        refine m_X7_98 F hh (c_X7_from ht23) in_122 sh_122 rfl hl (Nat.le_of_ble_eq_true rfl) dX7_adds_110 (fun H locs hh => ?_)
        refine lv_aload_n hx hb dX7_adds_113 rfl (lv_at hl 0 rfl) ?_
        refine lv_iconst (v := 2) hx hb dX7_adds_114 (by decide) ?_
        refine lv_iload hx hb dX7_adds_115 (lv_at hl 5 rfl) ?_
        refine lv_imul hx hb dX7_adds_117 ?_
        obtain ⟨t24, ht24, hf⟩ := ob hf
        refine m_X7_101 F hh (c_X7_to ht24) in_122 sh_122 rfl hl (Nat.le_of_ble_eq_true rfl) dX7_adds_118 (fun H locs hh => ?_)
        obtain ⟨t25, ht25, hf⟩ := ob hf
        refine m_X7_108 F hh (c_X7_doCross ht25) in_122 sh_122 rfl hl (Nat.le_of_ble_eq_true rfl) dX7_adds_121 (fun H locs hh => ?_)
        refine lv_if_ne (tgt := 131) hx hb dX7_adds_124 (by decide) (fun c26 => ?_) (fun c26 => ?_)
        · replace hf := itn c26 hf
          refine lv_iconst (v := 0) hx hb dX7_adds_131 (by decide) ?_
          refine lv_istore (lv' := [(4, .int (0 : Int32)), (0, .ref (G.1 122)), (1, .int x1), (2, .int x2), (3, .int x3), (5, .int x5)]) hx hb dX7_adds_132 hl (by decide) rfl (fun ls hl => ?_)
          obtain ⟨x5_27, ex5_27⟩ : ∃ y : Int32, y = x5 + (1 : Int32) := ⟨_, rfl⟩
          replace hf := lt_e ex5_27 hf
          refine lv_iinc (v := x5_27) (lv' := [(5, .int x5_27), (4, .int (0 : Int32)), (0, .ref (G.1 122)), (1, .int x1), (2, .int x2), (3, .int x3)]) hx hb dX7_adds_134 hl (k := 5) rfl (by rw [ex5_27]; rfl) (by decide) rfl (fun ls hl => ?_)
          refine lv_goto (tgt := 91) hx hb dX7_adds_137 (by decide) ?_
          exact ih _ _ _ _ _ _ hf  hh (lv_sub hl [2, 3, 4, 5, 1, 0] rfl)
        · replace hf := itp c26 hf
          refine lv_iconst (v := 1) hx hb dX7_adds_127 (by decide) ?_
          refine lv_goto (tgt := 132) hx hb dX7_adds_128 (by decide) ?_
          refine lv_istore (lv' := [(4, .int (1 : Int32)), (0, .ref (G.1 122)), (1, .int x1), (2, .int x2), (3, .int x3), (5, .int x5)]) hx hb dX7_adds_132 hl (by decide) rfl (fun ls hl => ?_)
          obtain ⟨x5_28, ex5_28⟩ : ∃ y : Int32, y = x5 + (1 : Int32) := ⟨_, rfl⟩
          replace hf := lt_e ex5_28 hf
          refine lv_iinc (v := x5_28) (lv' := [(5, .int x5_28), (4, .int (1 : Int32)), (0, .ref (G.1 122)), (1, .int x1), (2, .int x2), (3, .int x3)]) hx hb dX7_adds_134 hl (k := 5) rfl (by rw [ex5_28]; rfl) (by decide) rfl (fun ls hl => ?_)
          refine lv_goto (tgt := 91) hx hb dX7_adds_137 (by decide) ?_
          exact ih _ _ _ _ _ _ hf  hh (lv_sub hl [2, 3, 4, 5, 1, 0] rfl)
set_option maxRecDepth 100000 in
set_option maxHeartbeats 4000000 in
theorem w_X7_adds_48  {Z : Int32 × Sto} (F : Fx rM p s m args cd cX7_adds 6 RX7 G) (hr : meth.sig.returnType = (some .int)) (hlk : meth.locks = false)  : ∀ (n : Nat), ∀ (x1 : Int32) (x2 : Int32) (x3 : Int32) (x4 : Int32) (x5 : Int32) (z : Sto), wl6 (b_X7_adds_48) n x1 x2 x3 x4 x5 z = some Z → ∀ {H : Heap} {locs : List Loc} {ls : Array Slot}, Hh rM G z s H locs → lv_has ls 6 [(0, .ref (G.1 122)), (1, .int x1), (2, .int x2), (3, .int x3), (4, .int x4), (5, .int x5)] → W p l e rmX7_adds s m args below meth cd H locs 0 0 (MQ below (QI rM G Z.1 Z.2) args s 0 0 (Am rM G)) (F0 m 48 ls []) := by
  have hx := F.1
  have hb := F.2.1
  intro n
  induction n with
  | zero =>
    intro x1 x2 x3 x4 x5 z hf
    exact absurd hf (by intro h; cases h)
  | succ n ih =>
    intro x1 x2 x3 x4 x5 z hf  H locs ls hh hl
    replace hf : b_X7_adds_48 (wl6 (b_X7_adds_48) n) x1 x2 x3 x4 x5 z = some Z := hf
    unfold b_X7_adds_48 at hf
    refine lv_iload hx hb dX7_adds_48 (lv_at hl 5 rfl) ?_
    refine lv_aload_n hx hb dX7_adds_50 rfl (lv_at hl 0 rfl) ?_
    refine r_X7_7 (b' := 123) F hh in_122 sh_122 rfl dX7_adds_51 ?_
    refine lv_iconst (v := 0) hx hb dX7_adds_54 (by decide) ?_
    obtain ⟨t9, ht9, hf⟩ := ob hf
    refine g_iald F hh in_123 sh_123 ht9 dX7_adds_55 ?_
    refine lv_icmp_ge (tgt := 88) hx hb dX7_adds_56 (by decide) (fun c10 => ?_) (fun c10 => ?_)
    · replace hf := itp c10 hf
      refine lv_iconst (v := 0) hx hb dX7_adds_88 (by decide) ?_
      refine lv_istore (lv' := [(5, .int (0 : Int32)), (0, .ref (G.1 122)), (1, .int x1), (2, .int x2), (3, .int x3), (4, .int x4)]) hx hb dX7_adds_89 hl (by decide) rfl (fun ls hl => ?_)
      exact w_X7_adds_91 F hr hlk fu _ _ _ _ _ _ hf  hh (lv_sub hl [1, 2, 3, 4, 5, 0] rfl)
    · replace hf := itn c10 hf
      refine lv_iload hx hb dX7_adds_59 (lv_at hl 4 rfl) ?_
      refine lv_if_eq (tgt := 79) hx hb dX7_adds_61 (by decide) (fun c11 => ?_) (fun c11 => ?_)
      · replace hf := itp c11 hf
        refine lv_iconst (v := 0) hx hb dX7_adds_79 (by decide) ?_
        refine lv_istore (lv' := [(4, .int (0 : Int32)), (0, .ref (G.1 122)), (1, .int x1), (2, .int x2), (3, .int x3), (5, .int x5)]) hx hb dX7_adds_80 hl (by decide) rfl (fun ls hl => ?_)
        obtain ⟨x5_12, ex5_12⟩ : ∃ y : Int32, y = x5 + (1 : Int32) := ⟨_, rfl⟩
        replace hf := lt_e ex5_12 hf
        refine lv_iinc (v := x5_12) (lv' := [(5, .int x5_12), (4, .int (0 : Int32)), (0, .ref (G.1 122)), (1, .int x1), (2, .int x2), (3, .int x3)]) hx hb dX7_adds_82 hl (k := 5) rfl (by rw [ex5_12]; rfl) (by decide) rfl (fun ls hl => ?_)
        refine lv_goto (tgt := 48) hx hb dX7_adds_85 (by decide) ?_
        exact ih _ _ _ _ _ _ hf  hh (lv_sub hl [2, 3, 4, 5, 1, 0] rfl)
      · replace hf := itn c11 hf
        refine lv_aload_n hx hb dX7_adds_64 rfl (lv_at hl 0 rfl) ?_
        refine lv_iload_n hx hb dX7_adds_65 rfl (lv_at hl 1 rfl) ?_
        refine lv_iload_n hx hb dX7_adds_66 rfl (lv_at hl 2 rfl) ?_
        refine lv_iload hx hb dX7_adds_67 (lv_at hl 5 rfl) ?_
        obtain ⟨t13, ht13, hf⟩ := ob hf
        refine m_X7_104 F hh (c_X7_isOver ht13) in_122 sh_122 rfl hl (Nat.le_of_ble_eq_true rfl) dX7_adds_69 (fun H locs hh => ?_)
        refine lv_if_ne (tgt := 79) hx hb dX7_adds_72 (by decide) (fun c14 => ?_) (fun c14 => ?_)
        · replace hf := itn c14 hf
          refine lv_iconst (v := 0) hx hb dX7_adds_79 (by decide) ?_
          refine lv_istore (lv' := [(4, .int (0 : Int32)), (0, .ref (G.1 122)), (1, .int x1), (2, .int x2), (3, .int x3), (5, .int x5)]) hx hb dX7_adds_80 hl (by decide) rfl (fun ls hl => ?_)
          obtain ⟨x5_15, ex5_15⟩ : ∃ y : Int32, y = x5 + (1 : Int32) := ⟨_, rfl⟩
          replace hf := lt_e ex5_15 hf
          refine lv_iinc (v := x5_15) (lv' := [(5, .int x5_15), (4, .int (0 : Int32)), (0, .ref (G.1 122)), (1, .int x1), (2, .int x2), (3, .int x3)]) hx hb dX7_adds_82 hl (k := 5) rfl (by rw [ex5_15]; rfl) (by decide) rfl (fun ls hl => ?_)
          refine lv_goto (tgt := 48) hx hb dX7_adds_85 (by decide) ?_
          exact ih _ _ _ _ _ _ hf  hh (lv_sub hl [2, 3, 4, 5, 1, 0] rfl)
        · replace hf := itp c14 hf
          refine lv_iconst (v := 1) hx hb dX7_adds_75 (by decide) ?_
          refine lv_goto (tgt := 80) hx hb dX7_adds_76 (by decide) ?_
          refine lv_istore (lv' := [(4, .int (1 : Int32)), (0, .ref (G.1 122)), (1, .int x1), (2, .int x2), (3, .int x3), (5, .int x5)]) hx hb dX7_adds_80 hl (by decide) rfl (fun ls hl => ?_)
          obtain ⟨x5_16, ex5_16⟩ : ∃ y : Int32, y = x5 + (1 : Int32) := ⟨_, rfl⟩
          replace hf := lt_e ex5_16 hf
          refine lv_iinc (v := x5_16) (lv' := [(5, .int x5_16), (4, .int (1 : Int32)), (0, .ref (G.1 122)), (1, .int x1), (2, .int x2), (3, .int x3)]) hx hb dX7_adds_82 hl (k := 5) rfl (by rw [ex5_16]; rfl) (by decide) rfl (fun ls hl => ?_)
          refine lv_goto (tgt := 48) hx hb dX7_adds_85 (by decide) ?_
          exact ih _ _ _ _ _ _ hf  hh (lv_sub hl [2, 3, 4, 5, 1, 0] rfl)
set_option maxRecDepth 100000 in
set_option maxHeartbeats 4000000 in
theorem w_X7_adds {Z : Int32 × Sto} (F : Fx rM p s m args cd cX7_adds 6 RX7 G) (hr : meth.sig.returnType = (some .int)) (hlk : meth.locks = false) {x1 : Int32} {x2 : Int32} {z : Sto} {H : Heap} {locs : List Loc} {ls : Array Slot} (hf : f_X7_adds x1 x2 z = some Z) (hh : Hh rM G z s H locs) (hl : lv_has ls 6 [(0, .ref (G.1 122)), (1, .int x1), (2, .int x2)]) : W p l e rmX7_adds s m args below meth cd H locs 0 0 (MQ below (QI rM G Z.1 Z.2) args s 0 0 (Am rM G)) (F0 m 0 ls []) := by
  have hx := F.1
  have hb := F.2.1
  unfold f_X7_adds at hf
  refine lv_aload_n hx hb dX7_adds_0 rfl (lv_at hl 0 rfl) ?_
  refine lv_iload_n hx hb dX7_adds_1 rfl (lv_at hl 1 rfl) ?_
  obtain ⟨t1, ht1, hf⟩ := ob hf
  refine m_X7_128 F hh (c_X7_isJoint ht1) in_122 sh_122 rfl hl (Nat.le_of_ble_eq_true rfl) dX7_adds_2 (fun H locs hh => ?_)
  refine lv_if_eq (tgt := 21) hx hb dX7_adds_5 (by decide) (fun c2 => ?_) (fun c2 => ?_)
  · replace hf := itp c2 hf
    refine lv_iconst (v := -1) hx hb dX7_adds_21 (by decide) ?_
    exact g_iretW F hr hlk hh hf dX7_adds_22
  · replace hf := itn c2 hf
    refine lv_aload_n hx hb dX7_adds_8 rfl (lv_at hl 0 rfl) ?_
    refine lv_iload_n hx hb dX7_adds_9 rfl (lv_at hl 2 rfl) ?_
    obtain ⟨t3, ht3, hf⟩ := ob hf
    refine m_X7_128 F hh (c_X7_isJoint ht3) in_122 sh_122 rfl hl (Nat.le_of_ble_eq_true rfl) dX7_adds_10 (fun H locs hh => ?_)
    refine lv_if_eq (tgt := 21) hx hb dX7_adds_13 (by decide) (fun c4 => ?_) (fun c4 => ?_)
    · replace hf := itp c4 hf
      refine lv_iconst (v := -1) hx hb dX7_adds_21 (by decide) ?_
      exact g_iretW F hr hlk hh hf dX7_adds_22
    · replace hf := itn c4 hf
      refine lv_iload_n hx hb dX7_adds_16 rfl (lv_at hl 1 rfl) ?_
      refine lv_iload_n hx hb dX7_adds_17 rfl (lv_at hl 2 rfl) ?_
      refine lv_icmp_ne (tgt := 23) hx hb dX7_adds_18 (by decide) (fun c5 => ?_) (fun c5 => ?_)
      · replace hf := itn c5 hf
        refine lv_aload_n hx hb dX7_adds_23 rfl (lv_at hl 0 rfl) ?_
        refine lv_iload_n hx hb dX7_adds_24 rfl (lv_at hl 1 rfl) ?_
        refine lv_iload_n hx hb dX7_adds_25 rfl (lv_at hl 2 rfl) ?_
        obtain ⟨t6, ht6, hf⟩ := ob hf
        refine m_X7_149 F hh (c_X7_findBar ht6) in_122 sh_122 rfl hl (Nat.le_of_ble_eq_true rfl) dX7_adds_26 (fun H locs hh => ?_)
        refine lv_if_lt (tgt := 35) hx hb dX7_adds_29 (by decide) (fun c7 => ?_) (fun c7 => ?_)
        · replace hf := itp c7 hf
          refine lv_aload_n hx hb dX7_adds_35 rfl (lv_at hl 0 rfl) ?_
          refine r_X7_7 (b' := 123) F hh in_122 sh_122 rfl dX7_adds_36 ?_
          refine lv_iconst (v := 1) hx hb dX7_adds_39 (by decide) ?_
          obtain ⟨t8, ht8, hf⟩ := ob hf
          refine g_iald F hh in_123 sh_123 ht8 dX7_adds_40 ?_
          refine lv_istore_n (lv' := [(3, .int t8), (0, .ref (G.1 122)), (1, .int x1), (2, .int x2)]) hx hb dX7_adds_41 rfl hl (by decide) rfl (fun ls hl => ?_)
          refine lv_iconst (v := 1) hx hb dX7_adds_42 (by decide) ?_
          refine lv_istore (lv' := [(4, .int (1 : Int32)), (3, .int t8), (0, .ref (G.1 122)), (1, .int x1), (2, .int x2)]) hx hb dX7_adds_43 hl (by decide) rfl (fun ls hl => ?_)
          refine lv_iconst (v := 0) hx hb dX7_adds_45 (by decide) ?_
          refine lv_istore (lv' := [(5, .int (0 : Int32)), (4, .int (1 : Int32)), (3, .int t8), (0, .ref (G.1 122)), (1, .int x1), (2, .int x2)]) hx hb dX7_adds_46 hl (by decide) rfl (fun ls hl => ?_)
          exact w_X7_adds_48 F hr hlk fu _ _ _ _ _ _ hf  hh (lv_sub hl [3, 4, 5, 2, 1, 0] rfl)
        · replace hf := itn c7 hf
          refine lv_bipush (v := -2) hx hb dX7_adds_32 (by decide) ?_
          exact g_iretW F hr hlk hh hf dX7_adds_34
      · replace hf := itp c5 hf
        refine lv_iconst (v := -1) hx hb dX7_adds_21 (by decide) ?_
        exact g_iretW F hr hlk hh hf dX7_adds_22
theorem c_X7_adds {l : Launch} {G : Gm} {x1 : Int32} {x2 : Int32} {z : Sto} {Z : Int32 × Sto} (hf : f_X7_adds x1 x2 z = some Z) : Met l yX7_adds (Cond.code yX7_adds cX7_adds 6 (some .int) :: TT) rmX7_adds (va_Pc [.ref (G.1 122), .int x1, .int x2] (GS rM G z)) (QI rM G Z.1 Z.2) 0 0 (Am rM G) := by
  refine g_met [(0, .ref (G.1 122)), (1, .int x1), (2, .int x2)] (by decide) (Nat.le_of_ble_eq_true rfl) rfl ?_
  intro p e s m below meth cd F hr hlk ls H locs hl hh
  exact w_X7_adds F hr hlk hf hh hl
def f_X7_takesOut (x1 : Int32) (z : Sto) : Option (Int32 × Sto) := bd (f_X7_isBar x1 z) fun t1 => if t1 = 0 then (some ((-1 : Int32), z)) else (bd (f_X7_drops x1 z) fun z4 => bd (rdI z4 123 42 (1 : Int32)) fun t5 => some (t5, z4))
set_option maxRecDepth 100000 in
set_option maxHeartbeats 4000000 in
theorem w_X7_takesOut {Z : Int32 × Sto} (F : Fx rM p s m args cd cX7_takesOut 2 RX7 G) (hr : meth.sig.returnType = (some .int)) (hlk : meth.locks = false) {x1 : Int32} {z : Sto} {H : Heap} {locs : List Loc} {ls : Array Slot} (hf : f_X7_takesOut x1 z = some Z) (hh : Hh rM G z s H locs) (hl : lv_has ls 2 [(0, .ref (G.1 122)), (1, .int x1)]) : W p l e rmX7_takesOut s m args below meth cd H locs 0 0 (MQ below (QI rM G Z.1 Z.2) args s 0 0 (Am rM G)) (F0 m 0 ls []) := by
  have hx := F.1
  have hb := F.2.1
  unfold f_X7_takesOut at hf
  refine lv_aload_n hx hb dX7_takesOut_0 rfl (lv_at hl 0 rfl) ?_
  refine lv_iload_n hx hb dX7_takesOut_1 rfl (lv_at hl 1 rfl) ?_
  obtain ⟨t1, ht1, hf⟩ := ob hf
  refine m_X7_152 F hh (c_X7_isBar ht1) in_122 sh_122 rfl hl (Nat.le_of_ble_eq_true rfl) dX7_takesOut_2 (fun H locs hh => ?_)
  refine lv_if_ne (tgt := 10) hx hb dX7_takesOut_5 (by decide) (fun c2 => ?_) (fun c2 => ?_)
  · replace hf := itn c2 hf
    refine lv_aload_n hx hb dX7_takesOut_10 rfl (lv_at hl 0 rfl) ?_
    refine lv_iload_n hx hb dX7_takesOut_11 rfl (lv_at hl 1 rfl) ?_
    obtain ⟨z4, ht3, hf⟩ := ob hf
    refine m_X7_145 F hh (c_X7_drops ht3) in_122 sh_122 rfl hl (Nat.le_of_ble_eq_true rfl) dX7_takesOut_12 (fun H locs hh => ?_)
    refine lv_aload_n hx hb dX7_takesOut_15 rfl (lv_at hl 0 rfl) ?_
    refine r_X7_7 (b' := 123) F hh in_122 sh_122 rfl dX7_takesOut_16 ?_
    refine lv_iconst (v := 1) hx hb dX7_takesOut_19 (by decide) ?_
    obtain ⟨t5, ht5, hf⟩ := ob hf
    refine g_iald F hh in_123 sh_123 ht5 dX7_takesOut_20 ?_
    exact g_iretW F hr hlk hh hf dX7_takesOut_21
  · replace hf := itp c2 hf
    refine lv_iconst (v := -1) hx hb dX7_takesOut_8 (by decide) ?_
    exact g_iretW F hr hlk hh hf dX7_takesOut_9
theorem c_X7_takesOut {l : Launch} {G : Gm} {x1 : Int32} {z : Sto} {Z : Int32 × Sto} (hf : f_X7_takesOut x1 z = some Z) : Met l yX7_takesOut (Cond.code yX7_takesOut cX7_takesOut 2 (some .int) :: TT) rmX7_takesOut (va_Pc [.ref (G.1 122), .int x1] (GS rM G z)) (QI rM G Z.1 Z.2) 0 0 (Am rM G) := by
  refine g_met [(0, .ref (G.1 122)), (1, .int x1)] (by decide) (Nat.le_of_ble_eq_true rfl) rfl ?_
  intro p e s m below meth cd F hr hlk ls H locs hl hh
  exact w_X7_takesOut F hr hlk hf hh hl
