variable {p : Program} {l : Launch} {e : Env} {s : State} {m : MethodId} {args : Array Value} {below : List Frame} {meth : Method} {cd : Code} {G : Gm}

def f_X6_startStep  (z : Sto) : Option (Sto) := bd (f_X2_remember 19 z) fun z2 => lt (upI z2 0 10 (0 : Int32)) fun z3 => some z3
set_option maxRecDepth 100000 in
set_option maxHeartbeats 4000000 in
theorem w_X6_startStep {Z : Sto} (F : Fx rC p s m args cd cX6_startStep 1 RX6 G) (hr : meth.sig.returnType = none) (hlk : meth.locks = false)  {z : Sto} {H : Heap} {locs : List Loc} {ls : Array Slot} (hf : f_X6_startStep  z = some Z) (hh : Hh rC G z s H locs) (hl : lv_has ls 1 [(0, .ref (G.1 0))]) : W p l e rmX6_startStep s m args below meth cd H locs 0 0 (MQ below (QV rC G Z) args s 0 0 (Am rC G)) (F0 m 0 ls []) := by
  have hx := F.1
  have hb := F.2.1
  unfold f_X6_startStep at hf
  refine lv_aload_n hx hb dX6_startStep_0 rfl (lv_at hl 0 rfl) ?_
  refine r_X6_25 (b' := 19) F hh in_0 sh_0 rfl dX6_startStep_1 ?_
  refine lv_aload_n hx hb dX6_startStep_4 rfl (lv_at hl 0 rfl) ?_
  refine r_X6_12 (b' := 1) F hh in_0 sh_0 rfl dX6_startStep_5 ?_
  obtain ⟨z2, ht1, hf⟩ := ob hf
  refine m_X6_337 F hh (c_X2_remember hi_19 ht1) in_19 sh_19 rfl hl (Nat.le_of_ble_eq_true rfl) dX6_startStep_8 (fun H locs hh => ?_)
  refine lv_aload_n hx hb dX6_startStep_11 rfl (lv_at hl 0 rfl) ?_
  refine lv_iconst (v := 0) hx hb dX6_startStep_12 (by decide) ?_
  refine s_X6_274 F hh in_0 sh_0 rfl rfl dX6_startStep_13 (fun z3 ez3 H locs hh => ?_)
  replace hf := lt_e ez3 hf
  exact g_vret F hr hlk hh (Option.some.inj hf) dX6_startStep_16
theorem c_X6_startStep {l : Launch} {G : Gm}  {z : Sto} {Z : Sto} (hf : f_X6_startStep  z = some Z) : Met l yX6_startStep (Cond.code yX6_startStep cX6_startStep 1 none :: TT) rmX6_startStep (va_Pc [.ref (G.1 0)] (GS rC G z)) (QV rC G Z) 0 0 (Am rC G) := by
  refine g_met [(0, .ref (G.1 0))] (by decide) (Nat.le_of_ble_eq_true rfl) rfl ?_
  intro p e s m below meth cd F hr hlk ls H locs hl hh
  exact w_X6_startStep F hr hlk hf hh hl
def f_X6_joint (x1 : Int32) (x2 : Int32) (z : Sto) : Option (Int32 × Sto) := bd (f_X1_refuseJoint 1 x1 x2 z) fun t1 => if t1 = 0 then (bd (f_X6_startStep z) fun z4 => bd2 (f_X1_putJoint 1 x1 x2 z4) fun t5 z6 => some (t5, z6)) else (some (t1, z))
set_option maxRecDepth 100000 in
set_option maxHeartbeats 4000000 in
theorem w_X6_joint {Z : Int32 × Sto} (F : Fx rC p s m args cd cX6_joint 4 RX6 G) (hr : meth.sig.returnType = (some .int)) (hlk : meth.locks = false) {x1 : Int32} {x2 : Int32} {z : Sto} {H : Heap} {locs : List Loc} {ls : Array Slot} (hf : f_X6_joint x1 x2 z = some Z) (hh : Hh rC G z s H locs) (hl : lv_has ls 4 [(0, .ref (G.1 0)), (1, .int x1), (2, .int x2)]) : W p l e rmX6_joint s m args below meth cd H locs 0 0 (MQ below (QI rC G Z.1 Z.2) args s 0 0 (Am rC G)) (F0 m 0 ls []) := by
  have hx := F.1
  have hb := F.2.1
  unfold f_X6_joint at hf
  refine lv_aload_n hx hb dX6_joint_0 rfl (lv_at hl 0 rfl) ?_
  refine r_X6_12 (b' := 1) F hh in_0 sh_0 rfl dX6_joint_1 ?_
  refine lv_iload_n hx hb dX6_joint_4 rfl (lv_at hl 1 rfl) ?_
  refine lv_iload_n hx hb dX6_joint_5 rfl (lv_at hl 2 rfl) ?_
  obtain ⟨t1, ht1, hf⟩ := ob hf
  refine m_X6_60 F hh (c_X1_refuseJoint fr_1 ht1) in_1 sh_1 rfl hl (Nat.le_of_ble_eq_true rfl) dX6_joint_6 (fun H locs hh => ?_)
  refine lv_istore_n (lv' := [(3, .int t1), (0, .ref (G.1 0)), (1, .int x1), (2, .int x2)]) hx hb dX6_joint_9 rfl hl (by decide) rfl (fun ls hl => ?_)
  refine lv_iload_n hx hb dX6_joint_10 rfl (lv_at hl 0 rfl) ?_
  refine lv_if_eq (tgt := 16) hx hb dX6_joint_11 (by decide) (fun c2 => ?_) (fun c2 => ?_)
  · replace hf := itp c2 hf
    refine lv_aload_n hx hb dX6_joint_16 rfl (lv_at hl 1 rfl) ?_
    obtain ⟨z4, ht3, hf⟩ := ob hf
    refine m_X6_64 F hh (c_X6_startStep ht3) in_0 sh_0 rfl hl (Nat.le_of_ble_eq_true rfl) dX6_joint_17 (fun H locs hh => ?_)
    refine lv_aload_n hx hb dX6_joint_20 rfl (lv_at hl 1 rfl) ?_
    refine r_X6_12 (b' := 1) F hh in_0 sh_0 rfl dX6_joint_21 ?_
    refine lv_iload_n hx hb dX6_joint_24 rfl (lv_at hl 2 rfl) ?_
    refine lv_iload_n hx hb dX6_joint_25 rfl (lv_at hl 3 rfl) ?_
    obtain ⟨t5, z6, ht5, hf⟩ := ob2 hf
    refine m_X6_67 (r := t5) (σ' := z6) F hh (c_X1_putJoint fr_1 ht5) in_1 sh_1 rfl hl (Nat.le_of_ble_eq_true rfl) dX6_joint_26 (fun H locs hh => ?_)
    exact g_iretW F hr hlk hh hf dX6_joint_29
  · replace hf := itn c2 hf
    refine lv_iload_n hx hb dX6_joint_14 rfl (lv_at hl 0 rfl) ?_
    exact g_iretW F hr hlk hh hf dX6_joint_15
theorem c_X6_joint {l : Launch} {G : Gm} {x1 : Int32} {x2 : Int32} {z : Sto} {Z : Int32 × Sto} (hf : f_X6_joint x1 x2 z = some Z) : Met l yX6_joint (Cond.code yX6_joint cX6_joint 4 (some .int) :: TT) rmX6_joint (va_Pc [.ref (G.1 0), .int x1, .int x2] (GS rC G z)) (QI rC G Z.1 Z.2) 0 0 (Am rC G) := by
  refine g_met [(0, .ref (G.1 0)), (1, .int x1), (2, .int x2)] (by decide) (Nat.le_of_ble_eq_true rfl) rfl ?_
  intro p e s m below meth cd F hr hlk ls H locs hl hh
  exact w_X6_joint F hr hlk hf hh hl
def f_X6_move (x1 : Int32) (x2 : Int32) (x3 : Int32) (z : Sto) : Option (Int32 × Sto) := bd2 (f_X1_refuseMove 1 x1 x2 x3 z) fun t1 z2 => if t1 = 0 then (bd (f_X6_startStep z2) fun z5 => bd (f_X1_putAt 1 x1 x2 x3 z5) fun z7 => bd (f_X1_barsOf 1 x1 z7) fun t8 => some (t8, z7)) else (some (t1, z2))
set_option maxRecDepth 100000 in
set_option maxHeartbeats 4000000 in
theorem w_X6_move {Z : Int32 × Sto} (F : Fx rC p s m args cd cX6_move 5 RX6 G) (hr : meth.sig.returnType = (some .int)) (hlk : meth.locks = false) {x1 : Int32} {x2 : Int32} {x3 : Int32} {z : Sto} {H : Heap} {locs : List Loc} {ls : Array Slot} (hf : f_X6_move x1 x2 x3 z = some Z) (hh : Hh rC G z s H locs) (hl : lv_has ls 5 [(0, .ref (G.1 0)), (1, .int x1), (2, .int x2), (3, .int x3)]) : W p l e rmX6_move s m args below meth cd H locs 0 0 (MQ below (QI rC G Z.1 Z.2) args s 0 0 (Am rC G)) (F0 m 0 ls []) := by
  have hx := F.1
  have hb := F.2.1
  unfold f_X6_move at hf
  refine lv_aload_n hx hb dX6_move_0 rfl (lv_at hl 0 rfl) ?_
  refine r_X6_12 (b' := 1) F hh in_0 sh_0 rfl dX6_move_1 ?_
  refine lv_iload_n hx hb dX6_move_4 rfl (lv_at hl 1 rfl) ?_
  refine lv_iload_n hx hb dX6_move_5 rfl (lv_at hl 2 rfl) ?_
  refine lv_iload_n hx hb dX6_move_6 rfl (lv_at hl 3 rfl) ?_
  obtain ⟨t1, z2, ht1, hf⟩ := ob2 hf
  refine m_X6_70 (r := t1) (σ' := z2) F hh (c_X1_refuseMove fr_1 ht1) in_1 sh_1 rfl hl (Nat.le_of_ble_eq_true rfl) dX6_move_7 (fun H locs hh => ?_)
  refine lv_istore (lv' := [(4, .int t1), (0, .ref (G.1 0)), (1, .int x1), (2, .int x2), (3, .int x3)]) hx hb dX6_move_10 hl (by decide) rfl (fun ls hl => ?_)
  refine lv_iload hx hb dX6_move_12 (lv_at hl 0 rfl) ?_
  refine lv_if_eq (tgt := 20) hx hb dX6_move_14 (by decide) (fun c3 => ?_) (fun c3 => ?_)
  · replace hf := itp c3 hf
    refine lv_aload_n hx hb dX6_move_20 rfl (lv_at hl 1 rfl) ?_
    obtain ⟨z5, ht4, hf⟩ := ob hf
    refine m_X6_64 F hh (c_X6_startStep ht4) in_0 sh_0 rfl hl (Nat.le_of_ble_eq_true rfl) dX6_move_21 (fun H locs hh => ?_)
    refine lv_aload_n hx hb dX6_move_24 rfl (lv_at hl 1 rfl) ?_
    refine r_X6_12 (b' := 1) F hh in_0 sh_0 rfl dX6_move_25 ?_
    refine lv_iload_n hx hb dX6_move_28 rfl (lv_at hl 2 rfl) ?_
    refine lv_iload_n hx hb dX6_move_29 rfl (lv_at hl 3 rfl) ?_
    refine lv_iload_n hx hb dX6_move_30 rfl (lv_at hl 4 rfl) ?_
    obtain ⟨z7, ht6, hf⟩ := ob hf
    refine m_X6_74 F hh (c_X1_putAt fr_1 ht6) in_1 sh_1 rfl hl (Nat.le_of_ble_eq_true rfl) dX6_move_31 (fun H locs hh => ?_)
    refine lv_aload_n hx hb dX6_move_34 rfl (lv_at hl 1 rfl) ?_
    refine r_X6_12 (b' := 1) F hh in_0 sh_0 rfl dX6_move_35 ?_
    refine lv_iload_n hx hb dX6_move_38 rfl (lv_at hl 2 rfl) ?_
    obtain ⟨t8, ht8, hf⟩ := ob hf
    refine m_X6_78 F hh (c_X1_barsOf fr_1 ht8) in_1 sh_1 rfl hl (Nat.le_of_ble_eq_true rfl) dX6_move_39 (fun H locs hh => ?_)
    exact g_iretW F hr hlk hh hf dX6_move_42
  · replace hf := itn c3 hf
    refine lv_iload hx hb dX6_move_17 (lv_at hl 0 rfl) ?_
    exact g_iretW F hr hlk hh hf dX6_move_19
theorem c_X6_move {l : Launch} {G : Gm} {x1 : Int32} {x2 : Int32} {x3 : Int32} {z : Sto} {Z : Int32 × Sto} (hf : f_X6_move x1 x2 x3 z = some Z) : Met l yX6_move (Cond.code yX6_move cX6_move 5 (some .int) :: TT) rmX6_move (va_Pc [.ref (G.1 0), .int x1, .int x2, .int x3] (GS rC G z)) (QI rC G Z.1 Z.2) 0 0 (Am rC G) := by
  refine g_met [(0, .ref (G.1 0)), (1, .int x1), (2, .int x2), (3, .int x3)] (by decide) (Nat.le_of_ble_eq_true rfl) rfl ?_
  intro p e s m below meth cd F hr hlk ls H locs hl hh
  exact w_X6_move F hr hlk hf hh hl
def f_X6_lose (x1 : Int32) (z : Sto) : Option (Int32 × Sto) := bd (f_X1_hasJoint 1 x1 z) fun t1 => if t1 = 0 then (some ((-1 : Int32), z)) else (bd (f_X6_startStep z) fun z4 => bd (f_X1_loseJoint 1 x1 z4) fun z6 => some ((z6.1 1 1), z6))
set_option maxRecDepth 100000 in
set_option maxHeartbeats 4000000 in
theorem w_X6_lose {Z : Int32 × Sto} (F : Fx rC p s m args cd cX6_lose 2 RX6 G) (hr : meth.sig.returnType = (some .int)) (hlk : meth.locks = false) {x1 : Int32} {z : Sto} {H : Heap} {locs : List Loc} {ls : Array Slot} (hf : f_X6_lose x1 z = some Z) (hh : Hh rC G z s H locs) (hl : lv_has ls 2 [(0, .ref (G.1 0)), (1, .int x1)]) : W p l e rmX6_lose s m args below meth cd H locs 0 0 (MQ below (QI rC G Z.1 Z.2) args s 0 0 (Am rC G)) (F0 m 0 ls []) := by
  have hx := F.1
  have hb := F.2.1
  unfold f_X6_lose at hf
  refine lv_aload_n hx hb dX6_lose_0 rfl (lv_at hl 0 rfl) ?_
  refine r_X6_12 (b' := 1) F hh in_0 sh_0 rfl dX6_lose_1 ?_
  refine lv_iload_n hx hb dX6_lose_4 rfl (lv_at hl 1 rfl) ?_
  obtain ⟨t1, ht1, hf⟩ := ob hf
  refine m_X6_82 F hh (c_X1_hasJoint fr_1 ht1) in_1 sh_1 rfl hl (Nat.le_of_ble_eq_true rfl) dX6_lose_5 (fun H locs hh => ?_)
  refine lv_if_ne (tgt := 13) hx hb dX6_lose_8 (by decide) (fun c2 => ?_) (fun c2 => ?_)
  · replace hf := itn c2 hf
    refine lv_aload_n hx hb dX6_lose_13 rfl (lv_at hl 0 rfl) ?_
    obtain ⟨z4, ht3, hf⟩ := ob hf
    refine m_X6_64 F hh (c_X6_startStep ht3) in_0 sh_0 rfl hl (Nat.le_of_ble_eq_true rfl) dX6_lose_14 (fun H locs hh => ?_)
    refine lv_aload_n hx hb dX6_lose_17 rfl (lv_at hl 0 rfl) ?_
    refine r_X6_12 (b' := 1) F hh in_0 sh_0 rfl dX6_lose_18 ?_
    refine lv_iload_n hx hb dX6_lose_21 rfl (lv_at hl 1 rfl) ?_
    obtain ⟨z6, ht5, hf⟩ := ob hf
    refine m_X6_86 F hh (c_X1_loseJoint fr_1 ht5) in_1 sh_1 rfl hl (Nat.le_of_ble_eq_true rfl) dX6_lose_22 (fun H locs hh => ?_)
    refine lv_aload_n hx hb dX6_lose_25 rfl (lv_at hl 0 rfl) ?_
    refine r_X6_12 (b' := 1) F hh in_0 sh_0 rfl dX6_lose_26 ?_
    refine r_X6_90 F hh in_1 sh_1 dX6_lose_29 ?_
    exact g_iretW F hr hlk hh hf dX6_lose_32
  · replace hf := itp c2 hf
    refine lv_iconst (v := -1) hx hb dX6_lose_11 (by decide) ?_
    exact g_iretW F hr hlk hh hf dX6_lose_12
theorem c_X6_lose {l : Launch} {G : Gm} {x1 : Int32} {z : Sto} {Z : Int32 × Sto} (hf : f_X6_lose x1 z = some Z) : Met l yX6_lose (Cond.code yX6_lose cX6_lose 2 (some .int) :: TT) rmX6_lose (va_Pc [.ref (G.1 0), .int x1] (GS rC G z)) (QI rC G Z.1 Z.2) 0 0 (Am rC G) := by
  refine g_met [(0, .ref (G.1 0)), (1, .int x1)] (by decide) (Nat.le_of_ble_eq_true rfl) rfl ?_
  intro p e s m below meth cd F hr hlk ls H locs hl hh
  exact w_X6_lose F hr hlk hf hh hl
def f_X6_bar (x1 : Int32) (x2 : Int32) (z : Sto) : Option (Int32 × Sto) := bd (f_X1_refuseBar 1 x1 x2 z) fun t1 => if t1 = 0 then (bd (f_X6_startStep z) fun z4 => bd2 (f_X1_putBar 1 x1 x2 z4) fun t5 z6 => some (t5, z6)) else (some (t1, z))
set_option maxRecDepth 100000 in
set_option maxHeartbeats 4000000 in
theorem w_X6_bar {Z : Int32 × Sto} (F : Fx rC p s m args cd cX6_bar 4 RX6 G) (hr : meth.sig.returnType = (some .int)) (hlk : meth.locks = false) {x1 : Int32} {x2 : Int32} {z : Sto} {H : Heap} {locs : List Loc} {ls : Array Slot} (hf : f_X6_bar x1 x2 z = some Z) (hh : Hh rC G z s H locs) (hl : lv_has ls 4 [(0, .ref (G.1 0)), (1, .int x1), (2, .int x2)]) : W p l e rmX6_bar s m args below meth cd H locs 0 0 (MQ below (QI rC G Z.1 Z.2) args s 0 0 (Am rC G)) (F0 m 0 ls []) := by
  have hx := F.1
  have hb := F.2.1
  unfold f_X6_bar at hf
  refine lv_aload_n hx hb dX6_bar_0 rfl (lv_at hl 0 rfl) ?_
  refine r_X6_12 (b' := 1) F hh in_0 sh_0 rfl dX6_bar_1 ?_
  refine lv_iload_n hx hb dX6_bar_4 rfl (lv_at hl 1 rfl) ?_
  refine lv_iload_n hx hb dX6_bar_5 rfl (lv_at hl 2 rfl) ?_
  obtain ⟨t1, ht1, hf⟩ := ob hf
  refine m_X6_94 F hh (c_X1_refuseBar fr_1 ht1) in_1 sh_1 rfl hl (Nat.le_of_ble_eq_true rfl) dX6_bar_6 (fun H locs hh => ?_)
  refine lv_istore_n (lv' := [(3, .int t1), (0, .ref (G.1 0)), (1, .int x1), (2, .int x2)]) hx hb dX6_bar_9 rfl hl (by decide) rfl (fun ls hl => ?_)
  refine lv_iload_n hx hb dX6_bar_10 rfl (lv_at hl 0 rfl) ?_
  refine lv_if_eq (tgt := 16) hx hb dX6_bar_11 (by decide) (fun c2 => ?_) (fun c2 => ?_)
  · replace hf := itp c2 hf
    refine lv_aload_n hx hb dX6_bar_16 rfl (lv_at hl 1 rfl) ?_
    obtain ⟨z4, ht3, hf⟩ := ob hf
    refine m_X6_64 F hh (c_X6_startStep ht3) in_0 sh_0 rfl hl (Nat.le_of_ble_eq_true rfl) dX6_bar_17 (fun H locs hh => ?_)
    refine lv_aload_n hx hb dX6_bar_20 rfl (lv_at hl 1 rfl) ?_
    refine r_X6_12 (b' := 1) F hh in_0 sh_0 rfl dX6_bar_21 ?_
    refine lv_iload_n hx hb dX6_bar_24 rfl (lv_at hl 2 rfl) ?_
    refine lv_iload_n hx hb dX6_bar_25 rfl (lv_at hl 3 rfl) ?_
    obtain ⟨t5, z6, ht5, hf⟩ := ob2 hf
    refine m_X6_97 (r := t5) (σ' := z6) F hh (c_X1_putBar fr_1 ht5) in_1 sh_1 rfl hl (Nat.le_of_ble_eq_true rfl) dX6_bar_26 (fun H locs hh => ?_)
    exact g_iretW F hr hlk hh hf dX6_bar_29
  · replace hf := itn c2 hf
    refine lv_iload_n hx hb dX6_bar_14 rfl (lv_at hl 0 rfl) ?_
    exact g_iretW F hr hlk hh hf dX6_bar_15
theorem c_X6_bar {l : Launch} {G : Gm} {x1 : Int32} {x2 : Int32} {z : Sto} {Z : Int32 × Sto} (hf : f_X6_bar x1 x2 z = some Z) : Met l yX6_bar (Cond.code yX6_bar cX6_bar 4 (some .int) :: TT) rmX6_bar (va_Pc [.ref (G.1 0), .int x1, .int x2] (GS rC G z)) (QI rC G Z.1 Z.2) 0 0 (Am rC G) := by
  refine g_met [(0, .ref (G.1 0)), (1, .int x1), (2, .int x2)] (by decide) (Nat.le_of_ble_eq_true rfl) rfl ?_
  intro p e s m below meth cd F hr hlk ls H locs hl hh
  exact w_X6_bar F hr hlk hf hh hl
def f_X6_out (x1 : Int32) (z : Sto) : Option (Int32 × Sto) := bd (f_X1_hasBar 1 x1 z) fun t1 => if t1 = 0 then (some ((-1 : Int32), z)) else (bd (f_X6_startStep z) fun z4 => bd (f_X1_takeOut 1 x1 z4) fun z6 => some ((z6.1 1 1), z6))
set_option maxRecDepth 100000 in
set_option maxHeartbeats 4000000 in
theorem w_X6_out {Z : Int32 × Sto} (F : Fx rC p s m args cd cX6_out 2 RX6 G) (hr : meth.sig.returnType = (some .int)) (hlk : meth.locks = false) {x1 : Int32} {z : Sto} {H : Heap} {locs : List Loc} {ls : Array Slot} (hf : f_X6_out x1 z = some Z) (hh : Hh rC G z s H locs) (hl : lv_has ls 2 [(0, .ref (G.1 0)), (1, .int x1)]) : W p l e rmX6_out s m args below meth cd H locs 0 0 (MQ below (QI rC G Z.1 Z.2) args s 0 0 (Am rC G)) (F0 m 0 ls []) := by
  have hx := F.1
  have hb := F.2.1
  unfold f_X6_out at hf
  refine lv_aload_n hx hb dX6_out_0 rfl (lv_at hl 0 rfl) ?_
  refine r_X6_12 (b' := 1) F hh in_0 sh_0 rfl dX6_out_1 ?_
  refine lv_iload_n hx hb dX6_out_4 rfl (lv_at hl 1 rfl) ?_
  obtain ⟨t1, ht1, hf⟩ := ob hf
  refine m_X6_100 F hh (c_X1_hasBar fr_1 ht1) in_1 sh_1 rfl hl (Nat.le_of_ble_eq_true rfl) dX6_out_5 (fun H locs hh => ?_)
  refine lv_if_ne (tgt := 13) hx hb dX6_out_8 (by decide) (fun c2 => ?_) (fun c2 => ?_)
  · replace hf := itn c2 hf
    refine lv_aload_n hx hb dX6_out_13 rfl (lv_at hl 0 rfl) ?_
    obtain ⟨z4, ht3, hf⟩ := ob hf
    refine m_X6_64 F hh (c_X6_startStep ht3) in_0 sh_0 rfl hl (Nat.le_of_ble_eq_true rfl) dX6_out_14 (fun H locs hh => ?_)
    refine lv_aload_n hx hb dX6_out_17 rfl (lv_at hl 0 rfl) ?_
    refine r_X6_12 (b' := 1) F hh in_0 sh_0 rfl dX6_out_18 ?_
    refine lv_iload_n hx hb dX6_out_21 rfl (lv_at hl 1 rfl) ?_
    obtain ⟨z6, ht5, hf⟩ := ob hf
    refine m_X6_103 F hh (c_X1_takeOut fr_1 ht5) in_1 sh_1 rfl hl (Nat.le_of_ble_eq_true rfl) dX6_out_22 (fun H locs hh => ?_)
    refine lv_aload_n hx hb dX6_out_25 rfl (lv_at hl 0 rfl) ?_
    refine r_X6_12 (b' := 1) F hh in_0 sh_0 rfl dX6_out_26 ?_
    refine r_X6_90 F hh in_1 sh_1 dX6_out_29 ?_
    exact g_iretW F hr hlk hh hf dX6_out_32
  · replace hf := itp c2 hf
    refine lv_iconst (v := -1) hx hb dX6_out_11 (by decide) ?_
    exact g_iretW F hr hlk hh hf dX6_out_12
theorem c_X6_out {l : Launch} {G : Gm} {x1 : Int32} {z : Sto} {Z : Int32 × Sto} (hf : f_X6_out x1 z = some Z) : Met l yX6_out (Cond.code yX6_out cX6_out 2 (some .int) :: TT) rmX6_out (va_Pc [.ref (G.1 0), .int x1] (GS rC G z)) (QI rC G Z.1 Z.2) 0 0 (Am rC G) := by
  refine g_met [(0, .ref (G.1 0)), (1, .int x1)] (by decide) (Nat.le_of_ble_eq_true rfl) rfl ?_
  intro p e s m below meth cd F hr hlk ls H locs hl hh
  exact w_X6_out F hr hlk hf hh hl
def f_X6_weight (x1 : Int32) (x2 : Int32) (z : Sto) : Option (Int32 × Sto) := bd (f_X1_refuseWeight 1 x1 x2 z) fun t1 => if t1 = 0 then (bd (f_X6_startStep z) fun z4 => bd (rdI z4 6 9 x1) fun t5 => bd (wrI z4 6 9 x1 x2) fun z6 => some ((t5 + (9 : Int32)), z6)) else (some (t1, z))
set_option maxRecDepth 100000 in
set_option maxHeartbeats 4000000 in
theorem w_X6_weight {Z : Int32 × Sto} (F : Fx rC p s m args cd cX6_weight 5 RX6 G) (hr : meth.sig.returnType = (some .int)) (hlk : meth.locks = false) {x1 : Int32} {x2 : Int32} {z : Sto} {H : Heap} {locs : List Loc} {ls : Array Slot} (hf : f_X6_weight x1 x2 z = some Z) (hh : Hh rC G z s H locs) (hl : lv_has ls 5 [(0, .ref (G.1 0)), (1, .int x1), (2, .int x2)]) : W p l e rmX6_weight s m args below meth cd H locs 0 0 (MQ below (QI rC G Z.1 Z.2) args s 0 0 (Am rC G)) (F0 m 0 ls []) := by
  have hx := F.1
  have hb := F.2.1
  unfold f_X6_weight at hf
  refine lv_aload_n hx hb dX6_weight_0 rfl (lv_at hl 0 rfl) ?_
  refine r_X6_12 (b' := 1) F hh in_0 sh_0 rfl dX6_weight_1 ?_
  refine lv_iload_n hx hb dX6_weight_4 rfl (lv_at hl 1 rfl) ?_
  refine lv_iload_n hx hb dX6_weight_5 rfl (lv_at hl 2 rfl) ?_
  obtain ⟨t1, ht1, hf⟩ := ob hf
  refine m_X6_106 F hh (c_X1_refuseWeight fr_1 ht1) in_1 sh_1 rfl hl (Nat.le_of_ble_eq_true rfl) dX6_weight_6 (fun H locs hh => ?_)
  refine lv_istore_n (lv' := [(3, .int t1), (0, .ref (G.1 0)), (1, .int x1), (2, .int x2)]) hx hb dX6_weight_9 rfl hl (by decide) rfl (fun ls hl => ?_)
  refine lv_iload_n hx hb dX6_weight_10 rfl (lv_at hl 0 rfl) ?_
  refine lv_if_eq (tgt := 16) hx hb dX6_weight_11 (by decide) (fun c2 => ?_) (fun c2 => ?_)
  · replace hf := itp c2 hf
    refine lv_aload_n hx hb dX6_weight_16 rfl (lv_at hl 1 rfl) ?_
    obtain ⟨z4, ht3, hf⟩ := ob hf
    refine m_X6_64 F hh (c_X6_startStep ht3) in_0 sh_0 rfl hl (Nat.le_of_ble_eq_true rfl) dX6_weight_17 (fun H locs hh => ?_)
    refine lv_aload_n hx hb dX6_weight_20 rfl (lv_at hl 1 rfl) ?_
    refine r_X6_12 (b' := 1) F hh in_0 sh_0 rfl dX6_weight_21 ?_
    refine r_X6_109 (b' := 6) F hh in_1 sh_1 rfl dX6_weight_24 ?_
    refine lv_iload_n hx hb dX6_weight_27 rfl (lv_at hl 2 rfl) ?_
    obtain ⟨t5, ht5, hf⟩ := ob hf
    refine g_iald F hh in_6 sh_6 ht5 dX6_weight_28 ?_
    refine lv_istore (lv' := [(4, .int t5), (3, .int t1), (0, .ref (G.1 0)), (1, .int x1), (2, .int x2)]) hx hb dX6_weight_29 hl (by decide) rfl (fun ls hl => ?_)
    refine lv_aload_n hx hb dX6_weight_31 rfl (lv_at hl 2 rfl) ?_
    refine r_X6_12 (b' := 1) F hh in_0 sh_0 rfl dX6_weight_32 ?_
    refine r_X6_109 (b' := 6) F hh in_1 sh_1 rfl dX6_weight_35 ?_
    refine lv_iload_n hx hb dX6_weight_38 rfl (lv_at hl 3 rfl) ?_
    refine lv_iload_n hx hb dX6_weight_39 rfl (lv_at hl 4 rfl) ?_
    obtain ⟨z6, hz6, hf⟩ := ob hf
    refine g_iast F hh in_6 sh_6 hz6 dX6_weight_40 (fun H locs hh => ?_)
    refine lv_iload hx hb dX6_weight_41 (lv_at hl 0 rfl) ?_
    refine lv_bipush (v := 9) hx hb dX6_weight_43 (by decide) ?_
    refine lv_iadd hx hb dX6_weight_45 ?_
    exact g_iretW F hr hlk hh hf dX6_weight_46
  · replace hf := itn c2 hf
    refine lv_iload_n hx hb dX6_weight_14 rfl (lv_at hl 0 rfl) ?_
    exact g_iretW F hr hlk hh hf dX6_weight_15
theorem c_X6_weight {l : Launch} {G : Gm} {x1 : Int32} {x2 : Int32} {z : Sto} {Z : Int32 × Sto} (hf : f_X6_weight x1 x2 z = some Z) : Met l yX6_weight (Cond.code yX6_weight cX6_weight 5 (some .int) :: TT) rmX6_weight (va_Pc [.ref (G.1 0), .int x1, .int x2] (GS rC G z)) (QI rC G Z.1 Z.2) 0 0 (Am rC G) := by
  refine g_met [(0, .ref (G.1 0)), (1, .int x1), (2, .int x2)] (by decide) (Nat.le_of_ble_eq_true rfl) rfl ?_
  intro p e s m below meth cd F hr hlk ls H locs hl hh
  exact w_X6_weight F hr hlk hf hh hl
def f_X6_at (x1 : Int32) (x2 : Int32) (z : Sto) : Option (Int32) := bd (f_X1_hasJoint 1 x1 z) fun t1 => if t1 = 0 then (some (-1 : Int32)) else (if x2 = 0 then (bd (rdI z 2 6 x1) fun t4 => some t4) else (if x2 = 1 then (bd (rdI z 3 6 x1) fun t6 => some t6) else (if x2 = 2 then (bd (f_X1_barsOf 1 x1 z) fun t8 => some t8) else (if x2 = 3 then (bd (f_X1_neighbours 1 x1 z) fun t10 => some t10) else (some (-1 : Int32))))))
set_option maxRecDepth 100000 in
set_option maxHeartbeats 4000000 in
theorem w_X6_at {Z : Int32} (F : Fx rC p s m args cd cX6_at 3 RX6 G) (hr : meth.sig.returnType = (some .int)) (hlk : meth.locks = false) {x1 : Int32} {x2 : Int32} {z : Sto} {H : Heap} {locs : List Loc} {ls : Array Slot} (hf : f_X6_at x1 x2 z = some Z) (hh : Hh rC G z s H locs) (hl : lv_has ls 3 [(0, .ref (G.1 0)), (1, .int x1), (2, .int x2)]) : W p l e rmX6_at s m args below meth cd H locs 0 0 (MQ below (QI rC G Z z) args s 0 0 (Am rC G)) (F0 m 0 ls []) := by
  have hx := F.1
  have hb := F.2.1
  unfold f_X6_at at hf
  refine lv_aload_n hx hb dX6_at_0 rfl (lv_at hl 0 rfl) ?_
  refine r_X6_12 (b' := 1) F hh in_0 sh_0 rfl dX6_at_1 ?_
  refine lv_iload_n hx hb dX6_at_4 rfl (lv_at hl 1 rfl) ?_
  obtain ⟨t1, ht1, hf⟩ := ob hf
  refine m_X6_82 F hh (c_X1_hasJoint fr_1 ht1) in_1 sh_1 rfl hl (Nat.le_of_ble_eq_true rfl) dX6_at_5 (fun H locs hh => ?_)
  refine lv_if_ne (tgt := 13) hx hb dX6_at_8 (by decide) (fun c2 => ?_) (fun c2 => ?_)
  · replace hf := itn c2 hf
    refine lv_iload_n hx hb dX6_at_13 rfl (lv_at hl 2 rfl) ?_
    by_cases c3 : x2 = 0
    · replace hf := itp c3 hf
      refine lv_tableIn (tgt := 44) (off := 30) hx hb dX6_at_14 (by rw [c3]; decide) (by rw [c3]; decide) (by rw [c3]; rfl) (by decide) ?_
      refine lv_aload_n hx hb dX6_at_44 rfl (lv_at hl 0 rfl) ?_
      refine r_X6_12 (b' := 1) F hh in_0 sh_0 rfl dX6_at_45 ?_
      refine r_X6_113 (b' := 2) F hh in_1 sh_1 rfl dX6_at_48 ?_
      refine lv_iload_n hx hb dX6_at_51 rfl (lv_at hl 1 rfl) ?_
      obtain ⟨t4, ht4, hf⟩ := ob hf
      refine g_iald F hh in_2 sh_2 ht4 dX6_at_52 ?_
      exact g_iret F hr hlk hh (Option.some.inj hf) rfl dX6_at_53
    replace hf := itn c3 hf
    by_cases c5 : x2 = 1
    · replace hf := itp c5 hf
      refine lv_tableIn (tgt := 54) (off := 40) hx hb dX6_at_14 (by rw [c5]; decide) (by rw [c5]; decide) (by rw [c5]; rfl) (by decide) ?_
      refine lv_aload_n hx hb dX6_at_54 rfl (lv_at hl 0 rfl) ?_
      refine r_X6_12 (b' := 1) F hh in_0 sh_0 rfl dX6_at_55 ?_
      refine r_X6_116 (b' := 3) F hh in_1 sh_1 rfl dX6_at_58 ?_
      refine lv_iload_n hx hb dX6_at_61 rfl (lv_at hl 1 rfl) ?_
      obtain ⟨t6, ht6, hf⟩ := ob hf
      refine g_iald F hh in_3 sh_3 ht6 dX6_at_62 ?_
      exact g_iret F hr hlk hh (Option.some.inj hf) rfl dX6_at_63
    replace hf := itn c5 hf
    by_cases c7 : x2 = 2
    · replace hf := itp c7 hf
      refine lv_tableIn (tgt := 64) (off := 50) hx hb dX6_at_14 (by rw [c7]; decide) (by rw [c7]; decide) (by rw [c7]; rfl) (by decide) ?_
      refine lv_aload_n hx hb dX6_at_64 rfl (lv_at hl 0 rfl) ?_
      refine r_X6_12 (b' := 1) F hh in_0 sh_0 rfl dX6_at_65 ?_
      refine lv_iload_n hx hb dX6_at_68 rfl (lv_at hl 1 rfl) ?_
      obtain ⟨t8, ht8, hf⟩ := ob hf
      refine m_X6_78 F hh (c_X1_barsOf fr_1 ht8) in_1 sh_1 rfl hl (Nat.le_of_ble_eq_true rfl) dX6_at_69 (fun H locs hh => ?_)
      exact g_iret F hr hlk hh (Option.some.inj hf) rfl dX6_at_72
    replace hf := itn c7 hf
    by_cases c9 : x2 = 3
    · replace hf := itp c9 hf
      refine lv_tableIn (tgt := 73) (off := 59) hx hb dX6_at_14 (by rw [c9]; decide) (by rw [c9]; decide) (by rw [c9]; rfl) (by decide) ?_
      refine lv_aload_n hx hb dX6_at_73 rfl (lv_at hl 0 rfl) ?_
      refine r_X6_12 (b' := 1) F hh in_0 sh_0 rfl dX6_at_74 ?_
      refine lv_iload_n hx hb dX6_at_77 rfl (lv_at hl 1 rfl) ?_
      obtain ⟨t10, ht10, hf⟩ := ob hf
      refine m_X6_119 F hh (c_X1_neighbours fr_1 ht10) in_1 sh_1 rfl hl (Nat.le_of_ble_eq_true rfl) dX6_at_78 (fun H locs hh => ?_)
      exact g_iret F hr hlk hh (Option.some.inj hf) rfl dX6_at_81
    replace hf := itn c9 hf
    refine lv_tableOut (tgt := 82) hx hb dX6_at_14 (tb_out4 c3 c5 c7 c9) (by decide) ?_
    refine lv_iconst (v := -1) hx hb dX6_at_82 (by decide) ?_
    exact g_iret F hr hlk hh (Option.some.inj hf) rfl dX6_at_83
  · replace hf := itp c2 hf
    refine lv_iconst (v := -1) hx hb dX6_at_11 (by decide) ?_
    exact g_iret F hr hlk hh (Option.some.inj hf) rfl dX6_at_12
theorem c_X6_at {l : Launch} {G : Gm} {x1 : Int32} {x2 : Int32} {z : Sto} {Z : Int32} (hf : f_X6_at x1 x2 z = some Z) : Met l yX6_at (Cond.code yX6_at cX6_at 3 (some .int) :: TT) rmX6_at (va_Pc [.ref (G.1 0), .int x1, .int x2] (GS rC G z)) (QI rC G Z z) 0 0 (Am rC G) := by
  refine g_met [(0, .ref (G.1 0)), (1, .int x1), (2, .int x2)] (by decide) (Nat.le_of_ble_eq_true rfl) rfl ?_
  intro p e s m below meth cd F hr hlk ls H locs hl hh
  exact w_X6_at F hr hlk hf hh hl
def f_X6_settle  (z : Sto) : Option (Sto) := if (z.1 0 10) = 0 then (bd (f_X4_solve z) fun z3 => bd (f_X0_walk z3) fun z5 => bd (f_X0_lift z5) fun z7 => lt (upI z7 0 10 (1 : Int32)) fun z8 => some z8) else (some z)
set_option maxRecDepth 100000 in
set_option maxHeartbeats 4000000 in
theorem w_X6_settle {Z : Sto} (F : Fx rC p s m args cd cX6_settle 1 RX6 G) (hr : meth.sig.returnType = none) (hlk : meth.locks = false)  {z : Sto} {H : Heap} {locs : List Loc} {ls : Array Slot} (hf : f_X6_settle  z = some Z) (hh : Hh rC G z s H locs) (hl : lv_has ls 1 [(0, .ref (G.1 0))]) : W p l e rmX6_settle s m args below meth cd H locs 0 0 (MQ below (QV rC G Z) args s 0 0 (Am rC G)) (F0 m 0 ls []) := by
  have hx := F.1
  have hb := F.2.1
  unfold f_X6_settle at hf
  refine lv_aload_n hx hb dX6_settle_0 rfl (lv_at hl 0 rfl) ?_
  refine r_X6_274 F hh in_0 sh_0 dX6_settle_1 ?_
  refine lv_if_eq (tgt := 8) hx hb dX6_settle_4 (by decide) (fun c1 => ?_) (fun c1 => ?_)
  · replace hf := itp c1 hf
    refine lv_aload_n hx hb dX6_settle_8 rfl (lv_at hl 0 rfl) ?_
    refine r_X6_35 (b' := 95) F hh in_0 sh_0 rfl dX6_settle_9 ?_
    refine lv_aload_n hx hb dX6_settle_12 rfl (lv_at hl 0 rfl) ?_
    refine r_X6_12 (b' := 1) F hh in_0 sh_0 rfl dX6_settle_13 ?_
    obtain ⟨z3, ht2, hf⟩ := ob hf
    refine m_X6_340 F hh (c_X4_solve ht2) in_95 sh_95 rfl hl (Nat.le_of_ble_eq_true rfl) dX6_settle_16 (fun H locs hh => ?_)
    refine lv_aload_n hx hb dX6_settle_19 rfl (lv_at hl 0 rfl) ?_
    refine r_X6_42 (b' := 100) F hh in_0 sh_0 rfl dX6_settle_20 ?_
    refine lv_aload_n hx hb dX6_settle_23 rfl (lv_at hl 0 rfl) ?_
    refine r_X6_12 (b' := 1) F hh in_0 sh_0 rfl dX6_settle_24 ?_
    obtain ⟨z5, ht4, hf⟩ := ob hf
    refine m_X6_343 F hh (c_X0_walk ht4) in_100 sh_100 rfl hl (Nat.le_of_ble_eq_true rfl) dX6_settle_27 (fun H locs hh => ?_)
    refine lv_aload_n hx hb dX6_settle_30 rfl (lv_at hl 0 rfl) ?_
    refine r_X6_42 (b' := 100) F hh in_0 sh_0 rfl dX6_settle_31 ?_
    refine lv_aload_n hx hb dX6_settle_34 rfl (lv_at hl 0 rfl) ?_
    refine r_X6_12 (b' := 1) F hh in_0 sh_0 rfl dX6_settle_35 ?_
    refine lv_aload_n hx hb dX6_settle_38 rfl (lv_at hl 0 rfl) ?_
    refine r_X6_35 (b' := 95) F hh in_0 sh_0 rfl dX6_settle_39 ?_
    refine r_X6_184 (b' := 97) F hh in_95 sh_95 rfl dX6_settle_42 ?_
    obtain ⟨z7, ht6, hf⟩ := ob hf
    refine m_X6_346 F hh (c_X0_lift ht6) in_100 sh_100 rfl hl (Nat.le_of_ble_eq_true rfl) dX6_settle_45 (fun H locs hh => ?_)
    refine lv_aload_n hx hb dX6_settle_48 rfl (lv_at hl 0 rfl) ?_
    refine lv_iconst (v := 1) hx hb dX6_settle_49 (by decide) ?_
    refine s_X6_274 F hh in_0 sh_0 rfl rfl dX6_settle_50 (fun z8 ez8 H locs hh => ?_)
    replace hf := lt_e ez8 hf
    exact g_vret F hr hlk hh (Option.some.inj hf) dX6_settle_53
  · replace hf := itn c1 hf
    exact g_vret F hr hlk hh (Option.some.inj hf) dX6_settle_7
theorem c_X6_settle {l : Launch} {G : Gm}  {z : Sto} {Z : Sto} (hf : f_X6_settle  z = some Z) : Met l yX6_settle (Cond.code yX6_settle cX6_settle 1 none :: TT) rmX6_settle (va_Pc [.ref (G.1 0)] (GS rC G z)) (QV rC G Z) 0 0 (Am rC G) := by
  refine g_met [(0, .ref (G.1 0))] (by decide) (Nat.le_of_ble_eq_true rfl) rfl ?_
  intro p e s m below meth cd F hr hlk ls H locs hl hh
  exact w_X6_settle F hr hlk hf hh hl
def f_X6_of (x1 : Int32) (x2 : Int32) (z : Sto) : Option (Int32 × Sto) := bd (f_X1_hasBar 1 x1 z) fun t1 => if t1 = 0 then (some ((-1 : Int32), z)) else (bd (f_X6_settle z) fun z4 => if x2 = 0 then (bd (rdI z4 4 9 x1) fun t6 => some (t6, z4)) else (if x2 = 1 then (bd (rdI z4 5 9 x1) fun t8 => some (t8, z4)) else (if x2 = 2 then (bd (f_X4_isLeading x1 z4) fun t10 => bd (f_X6_asBit t10 z4) fun t11 => some (t11, z4)) else (if x2 = 3 then (bd (f_X4_isNeeded x1 z4) fun t13 => bd (f_X6_asBit t13 z4) fun t14 => some (t14, z4)) else (some ((-1 : Int32), z4))))))
set_option maxRecDepth 100000 in
set_option maxHeartbeats 4000000 in
theorem w_X6_of {Z : Int32 × Sto} (F : Fx rC p s m args cd cX6_of 3 RX6 G) (hr : meth.sig.returnType = (some .int)) (hlk : meth.locks = false) {x1 : Int32} {x2 : Int32} {z : Sto} {H : Heap} {locs : List Loc} {ls : Array Slot} (hf : f_X6_of x1 x2 z = some Z) (hh : Hh rC G z s H locs) (hl : lv_has ls 3 [(0, .ref (G.1 0)), (1, .int x1), (2, .int x2)]) : W p l e rmX6_of s m args below meth cd H locs 0 0 (MQ below (QI rC G Z.1 Z.2) args s 0 0 (Am rC G)) (F0 m 0 ls []) := by
  have hx := F.1
  have hb := F.2.1
  unfold f_X6_of at hf
  refine lv_aload_n hx hb dX6_of_0 rfl (lv_at hl 0 rfl) ?_
  refine r_X6_12 (b' := 1) F hh in_0 sh_0 rfl dX6_of_1 ?_
  refine lv_iload_n hx hb dX6_of_4 rfl (lv_at hl 1 rfl) ?_
  obtain ⟨t1, ht1, hf⟩ := ob hf
  refine m_X6_100 F hh (c_X1_hasBar fr_1 ht1) in_1 sh_1 rfl hl (Nat.le_of_ble_eq_true rfl) dX6_of_5 (fun H locs hh => ?_)
  refine lv_if_ne (tgt := 13) hx hb dX6_of_8 (by decide) (fun c2 => ?_) (fun c2 => ?_)
  · replace hf := itn c2 hf
    refine lv_aload_n hx hb dX6_of_13 rfl (lv_at hl 0 rfl) ?_
    obtain ⟨z4, ht3, hf⟩ := ob hf
    refine m_X6_122 F hh (c_X6_settle ht3) in_0 sh_0 rfl hl (Nat.le_of_ble_eq_true rfl) dX6_of_14 (fun H locs hh => ?_)
    refine lv_iload_n hx hb dX6_of_17 rfl (lv_at hl 2 rfl) ?_
    by_cases c5 : x2 = 0
    · replace hf := itp c5 hf
      refine lv_tableIn (tgt := 48) (off := 30) hx hb dX6_of_18 (by rw [c5]; decide) (by rw [c5]; decide) (by rw [c5]; rfl) (by decide) ?_
      refine lv_aload_n hx hb dX6_of_48 rfl (lv_at hl 0 rfl) ?_
      refine r_X6_12 (b' := 1) F hh in_0 sh_0 rfl dX6_of_49 ?_
      refine r_X6_125 (b' := 4) F hh in_1 sh_1 rfl dX6_of_52 ?_
      refine lv_iload_n hx hb dX6_of_55 rfl (lv_at hl 1 rfl) ?_
      obtain ⟨t6, ht6, hf⟩ := ob hf
      refine g_iald F hh in_4 sh_4 ht6 dX6_of_56 ?_
      exact g_iretW F hr hlk hh hf dX6_of_57
    replace hf := itn c5 hf
    by_cases c7 : x2 = 1
    · replace hf := itp c7 hf
      refine lv_tableIn (tgt := 58) (off := 40) hx hb dX6_of_18 (by rw [c7]; decide) (by rw [c7]; decide) (by rw [c7]; rfl) (by decide) ?_
      refine lv_aload_n hx hb dX6_of_58 rfl (lv_at hl 0 rfl) ?_
      refine r_X6_12 (b' := 1) F hh in_0 sh_0 rfl dX6_of_59 ?_
      refine r_X6_128 (b' := 5) F hh in_1 sh_1 rfl dX6_of_62 ?_
      refine lv_iload_n hx hb dX6_of_65 rfl (lv_at hl 1 rfl) ?_
      obtain ⟨t8, ht8, hf⟩ := ob hf
      refine g_iald F hh in_5 sh_5 ht8 dX6_of_66 ?_
      exact g_iretW F hr hlk hh hf dX6_of_67
    replace hf := itn c7 hf
    by_cases c9 : x2 = 2
    · replace hf := itp c9 hf
      refine lv_tableIn (tgt := 68) (off := 50) hx hb dX6_of_18 (by rw [c9]; decide) (by rw [c9]; decide) (by rw [c9]; rfl) (by decide) ?_
      refine lv_aload_n hx hb dX6_of_68 rfl (lv_at hl 0 rfl) ?_
      refine r_X6_35 (b' := 95) F hh in_0 sh_0 rfl dX6_of_69 ?_
      refine lv_iload_n hx hb dX6_of_72 rfl (lv_at hl 1 rfl) ?_
      obtain ⟨t10, ht10, hf⟩ := ob hf
      refine m_X6_131 F hh (c_X4_isLeading ht10) in_95 sh_95 rfl hl (Nat.le_of_ble_eq_true rfl) dX6_of_73 (fun H locs hh => ?_)
      obtain ⟨t11, ht11, hf⟩ := ob hf
      refine m_X6_134 F hh (c_X6_asBit ht11) rfl hl (Nat.le_of_ble_eq_true rfl) dX6_of_76 (fun H locs hh => ?_)
      exact g_iretW F hr hlk hh hf dX6_of_79
    replace hf := itn c9 hf
    by_cases c12 : x2 = 3
    · replace hf := itp c12 hf
      refine lv_tableIn (tgt := 80) (off := 62) hx hb dX6_of_18 (by rw [c12]; decide) (by rw [c12]; decide) (by rw [c12]; rfl) (by decide) ?_
      refine lv_aload_n hx hb dX6_of_80 rfl (lv_at hl 0 rfl) ?_
      refine r_X6_35 (b' := 95) F hh in_0 sh_0 rfl dX6_of_81 ?_
      refine lv_iload_n hx hb dX6_of_84 rfl (lv_at hl 1 rfl) ?_
      obtain ⟨t13, ht13, hf⟩ := ob hf
      refine m_X6_138 F hh (c_X4_isNeeded ht13) in_95 sh_95 rfl hl (Nat.le_of_ble_eq_true rfl) dX6_of_85 (fun H locs hh => ?_)
      obtain ⟨t14, ht14, hf⟩ := ob hf
      refine m_X6_134 F hh (c_X6_asBit ht14) rfl hl (Nat.le_of_ble_eq_true rfl) dX6_of_88 (fun H locs hh => ?_)
      exact g_iretW F hr hlk hh hf dX6_of_91
    replace hf := itn c12 hf
    refine lv_tableOut (tgt := 92) hx hb dX6_of_18 (tb_out4 c5 c7 c9 c12) (by decide) ?_
    refine lv_iconst (v := -1) hx hb dX6_of_92 (by decide) ?_
    exact g_iretW F hr hlk hh hf dX6_of_93
  · replace hf := itp c2 hf
    refine lv_iconst (v := -1) hx hb dX6_of_11 (by decide) ?_
    exact g_iretW F hr hlk hh hf dX6_of_12
theorem c_X6_of {l : Launch} {G : Gm} {x1 : Int32} {x2 : Int32} {z : Sto} {Z : Int32 × Sto} (hf : f_X6_of x1 x2 z = some Z) : Met l yX6_of (Cond.code yX6_of cX6_of 3 (some .int) :: TT) rmX6_of (va_Pc [.ref (G.1 0), .int x1, .int x2] (GS rC G z)) (QI rC G Z.1 Z.2) 0 0 (Am rC G) := by
  refine g_met [(0, .ref (G.1 0)), (1, .int x1), (2, .int x2)] (by decide) (Nat.le_of_ble_eq_true rfl) rfl ?_
  intro p e s m below meth cd F hr hlk ls H locs hl hh
  exact w_X6_of F hr hlk hf hh hl
def f_X6_isStiff  (z : Sto) : Option (Int32) := if (z.1 1 0) < (2 : Int32) then (some (0 : Int32)) else (if ((z.1 1 1) - (z.1 95 0)) = (((2 : Int32) * (z.1 1 0)) - (3 : Int32)) then (some (1 : Int32)) else (some (0 : Int32)))
set_option maxRecDepth 100000 in
set_option maxHeartbeats 4000000 in
theorem w_X6_isStiff {Z : Int32} (F : Fx rC p s m args cd cX6_isStiff 1 RX6 G) (hr : meth.sig.returnType = (some .boolean)) (hlk : meth.locks = false)  {z : Sto} {H : Heap} {locs : List Loc} {ls : Array Slot} (hf : f_X6_isStiff  z = some Z) (hh : Hh rC G z s H locs) (hl : lv_has ls 1 [(0, .ref (G.1 0))]) : W p l e rmX6_isStiff s m args below meth cd H locs 0 0 (MQ below (QI rC G Z z) args s 0 0 (Am rC G)) (F0 m 0 ls []) := by
  have hx := F.1
  have hb := F.2.1
  unfold f_X6_isStiff at hf
  refine lv_aload_n hx hb dX6_isStiff_0 rfl (lv_at hl 0 rfl) ?_
  refine r_X6_12 (b' := 1) F hh in_0 sh_0 rfl dX6_isStiff_1 ?_
  refine r_X6_141 F hh in_1 sh_1 dX6_isStiff_4 ?_
  refine lv_iconst (v := 2) hx hb dX6_isStiff_7 (by decide) ?_
  refine lv_icmp_lt (tgt := 44) hx hb dX6_isStiff_8 (by decide) (fun c1 => ?_) (fun c1 => ?_)
  · replace hf := itp c1 hf
    refine lv_iconst (v := 0) hx hb dX6_isStiff_44 (by decide) ?_
    exact g_zret F hr hlk rfl hh (Option.some.inj hf) rfl dX6_isStiff_45
  · replace hf := itn c1 hf
    refine lv_aload_n hx hb dX6_isStiff_11 rfl (lv_at hl 0 rfl) ?_
    refine r_X6_12 (b' := 1) F hh in_0 sh_0 rfl dX6_isStiff_12 ?_
    refine r_X6_90 F hh in_1 sh_1 dX6_isStiff_15 ?_
    refine lv_aload_n hx hb dX6_isStiff_18 rfl (lv_at hl 0 rfl) ?_
    refine r_X6_35 (b' := 95) F hh in_0 sh_0 rfl dX6_isStiff_19 ?_
    refine r_X6_144 F hh in_95 sh_95 dX6_isStiff_22 ?_
    refine lv_isub hx hb dX6_isStiff_25 ?_
    refine lv_iconst (v := 2) hx hb dX6_isStiff_26 (by decide) ?_
    refine lv_aload_n hx hb dX6_isStiff_27 rfl (lv_at hl 0 rfl) ?_
    refine r_X6_12 (b' := 1) F hh in_0 sh_0 rfl dX6_isStiff_28 ?_
    refine r_X6_141 F hh in_1 sh_1 dX6_isStiff_31 ?_
    refine lv_imul hx hb dX6_isStiff_34 ?_
    refine lv_iconst (v := 3) hx hb dX6_isStiff_35 (by decide) ?_
    refine lv_isub hx hb dX6_isStiff_36 ?_
    refine lv_icmp_ne (tgt := 44) hx hb dX6_isStiff_37 (by decide) (fun c2 => ?_) (fun c2 => ?_)
    · replace hf := itn c2 hf
      refine lv_iconst (v := 0) hx hb dX6_isStiff_44 (by decide) ?_
      exact g_zret F hr hlk rfl hh (Option.some.inj hf) rfl dX6_isStiff_45
    · replace hf := itp c2 hf
      refine lv_iconst (v := 1) hx hb dX6_isStiff_40 (by decide) ?_
      refine lv_goto (tgt := 45) hx hb dX6_isStiff_41 (by decide) ?_
      exact g_zret F hr hlk rfl hh (Option.some.inj hf) rfl dX6_isStiff_45
theorem c_X6_isStiff {l : Launch} {G : Gm}  {z : Sto} {Z : Int32} (hf : f_X6_isStiff  z = some Z) : Met l yX6_isStiff (Cond.code yX6_isStiff cX6_isStiff 1 (some .boolean) :: TT) rmX6_isStiff (va_Pc [.ref (G.1 0)] (GS rC G z)) (QI rC G Z z) 0 0 (Am rC G) := by
  refine g_met [(0, .ref (G.1 0))] (by decide) (Nat.le_of_ble_eq_true rfl) rfl ?_
  intro p e s m below meth cd F hr hlk ls H locs hl hh
  exact w_X6_isStiff F hr hlk hf hh hl
def f_X6_count (x1 : Int32) (z : Sto) : Option (Int32 × Sto) := bd (f_X6_settle z) fun z2 => if x1 = 0 then (some ((z2.1 1 0), z2)) else (if x1 = 1 then (some ((z2.1 1 1), z2)) else (if x1 = 2 then (some ((z2.1 95 0), z2)) else (if x1 = 3 then (bd (f_X6_isStiff z2) fun t7 => bd (f_X6_asBit t7 z2) fun t8 => some (t8, z2)) else (if x1 = 4 then (bd (f_X1_isWhole 1 z2) fun t10 => bd (f_X6_asBit t10 z2) fun t11 => some (t11, z2)) else (if x1 = 5 then (some ((z2.1 100 0), z2)) else (if x1 = 6 then (some ((z2.1 100 1), z2)) else (if x1 = 7 then (bd (f_X1_sumOfWeights 1 z2) fun t15 => some ((t15 + (81 : Int32)), z2)) else (if x1 = 8 then (some ((z2.1 19 1), z2)) else (some ((-1 : Int32), z2))))))))))
set_option maxRecDepth 100000 in
set_option maxHeartbeats 4000000 in
theorem w_X6_count {Z : Int32 × Sto} (F : Fx rC p s m args cd cX6_count 2 RX6 G) (hr : meth.sig.returnType = (some .int)) (hlk : meth.locks = false) {x1 : Int32} {z : Sto} {H : Heap} {locs : List Loc} {ls : Array Slot} (hf : f_X6_count x1 z = some Z) (hh : Hh rC G z s H locs) (hl : lv_has ls 2 [(0, .ref (G.1 0)), (1, .int x1)]) : W p l e rmX6_count s m args below meth cd H locs 0 0 (MQ below (QI rC G Z.1 Z.2) args s 0 0 (Am rC G)) (F0 m 0 ls []) := by
  have hx := F.1
  have hb := F.2.1
  unfold f_X6_count at hf
  refine lv_aload_n hx hb dX6_count_0 rfl (lv_at hl 0 rfl) ?_
  obtain ⟨z2, ht1, hf⟩ := ob hf
  refine m_X6_122 F hh (c_X6_settle ht1) in_0 sh_0 rfl hl (Nat.le_of_ble_eq_true rfl) dX6_count_1 (fun H locs hh => ?_)
  refine lv_iload_n hx hb dX6_count_4 rfl (lv_at hl 1 rfl) ?_
  by_cases c3 : x1 = 0
  · replace hf := itp c3 hf
    refine lv_tableIn (tgt := 56) (off := 51) hx hb dX6_count_5 (by rw [c3]; decide) (by rw [c3]; decide) (by rw [c3]; rfl) (by decide) ?_
    refine lv_aload_n hx hb dX6_count_56 rfl (lv_at hl 0 rfl) ?_
    refine r_X6_12 (b' := 1) F hh in_0 sh_0 rfl dX6_count_57 ?_
    refine r_X6_141 F hh in_1 sh_1 dX6_count_60 ?_
    exact g_iretW F hr hlk hh hf dX6_count_63
  replace hf := itn c3 hf
  by_cases c4 : x1 = 1
  · replace hf := itp c4 hf
    refine lv_tableIn (tgt := 64) (off := 59) hx hb dX6_count_5 (by rw [c4]; decide) (by rw [c4]; decide) (by rw [c4]; rfl) (by decide) ?_
    refine lv_aload_n hx hb dX6_count_64 rfl (lv_at hl 0 rfl) ?_
    refine r_X6_12 (b' := 1) F hh in_0 sh_0 rfl dX6_count_65 ?_
    refine r_X6_90 F hh in_1 sh_1 dX6_count_68 ?_
    exact g_iretW F hr hlk hh hf dX6_count_71
  replace hf := itn c4 hf
  by_cases c5 : x1 = 2
  · replace hf := itp c5 hf
    refine lv_tableIn (tgt := 72) (off := 67) hx hb dX6_count_5 (by rw [c5]; decide) (by rw [c5]; decide) (by rw [c5]; rfl) (by decide) ?_
    refine lv_aload_n hx hb dX6_count_72 rfl (lv_at hl 0 rfl) ?_
    refine r_X6_35 (b' := 95) F hh in_0 sh_0 rfl dX6_count_73 ?_
    refine r_X6_144 F hh in_95 sh_95 dX6_count_76 ?_
    exact g_iretW F hr hlk hh hf dX6_count_79
  replace hf := itn c5 hf
  by_cases c6 : x1 = 3
  · replace hf := itp c6 hf
    refine lv_tableIn (tgt := 80) (off := 75) hx hb dX6_count_5 (by rw [c6]; decide) (by rw [c6]; decide) (by rw [c6]; rfl) (by decide) ?_
    refine lv_aload_n hx hb dX6_count_80 rfl (lv_at hl 0 rfl) ?_
    obtain ⟨t7, ht7, hf⟩ := ob hf
    refine m_X6_147 F hh (c_X6_isStiff ht7) in_0 sh_0 rfl hl (Nat.le_of_ble_eq_true rfl) dX6_count_81 (fun H locs hh => ?_)
    obtain ⟨t8, ht8, hf⟩ := ob hf
    refine m_X6_134 F hh (c_X6_asBit ht8) rfl hl (Nat.le_of_ble_eq_true rfl) dX6_count_84 (fun H locs hh => ?_)
    exact g_iretW F hr hlk hh hf dX6_count_87
  replace hf := itn c6 hf
  by_cases c9 : x1 = 4
  · replace hf := itp c9 hf
    refine lv_tableIn (tgt := 88) (off := 83) hx hb dX6_count_5 (by rw [c9]; decide) (by rw [c9]; decide) (by rw [c9]; rfl) (by decide) ?_
    refine lv_aload_n hx hb dX6_count_88 rfl (lv_at hl 0 rfl) ?_
    refine r_X6_12 (b' := 1) F hh in_0 sh_0 rfl dX6_count_89 ?_
    obtain ⟨t10, ht10, hf⟩ := ob hf
    refine m_X6_151 F hh (c_X1_isWhole fr_1 ht10) in_1 sh_1 rfl hl (Nat.le_of_ble_eq_true rfl) dX6_count_92 (fun H locs hh => ?_)
    obtain ⟨t11, ht11, hf⟩ := ob hf
    refine m_X6_134 F hh (c_X6_asBit ht11) rfl hl (Nat.le_of_ble_eq_true rfl) dX6_count_95 (fun H locs hh => ?_)
    exact g_iretW F hr hlk hh hf dX6_count_98
  replace hf := itn c9 hf
  by_cases c12 : x1 = 5
  · replace hf := itp c12 hf
    refine lv_tableIn (tgt := 99) (off := 94) hx hb dX6_count_5 (by rw [c12]; decide) (by rw [c12]; decide) (by rw [c12]; rfl) (by decide) ?_
    refine lv_aload_n hx hb dX6_count_99 rfl (lv_at hl 0 rfl) ?_
    refine r_X6_42 (b' := 100) F hh in_0 sh_0 rfl dX6_count_100 ?_
    refine r_X6_154 F hh in_100 sh_100 dX6_count_103 ?_
    exact g_iretW F hr hlk hh hf dX6_count_106
  replace hf := itn c12 hf
  by_cases c13 : x1 = 6
  · replace hf := itp c13 hf
    refine lv_tableIn (tgt := 107) (off := 102) hx hb dX6_count_5 (by rw [c13]; decide) (by rw [c13]; decide) (by rw [c13]; rfl) (by decide) ?_
    refine lv_aload_n hx hb dX6_count_107 rfl (lv_at hl 0 rfl) ?_
    refine r_X6_42 (b' := 100) F hh in_0 sh_0 rfl dX6_count_108 ?_
    refine r_X6_157 F hh in_100 sh_100 dX6_count_111 ?_
    exact g_iretW F hr hlk hh hf dX6_count_114
  replace hf := itn c13 hf
  by_cases c14 : x1 = 7
  · replace hf := itp c14 hf
    refine lv_tableIn (tgt := 115) (off := 110) hx hb dX6_count_5 (by rw [c14]; decide) (by rw [c14]; decide) (by rw [c14]; rfl) (by decide) ?_
    refine lv_aload_n hx hb dX6_count_115 rfl (lv_at hl 0 rfl) ?_
    refine r_X6_12 (b' := 1) F hh in_0 sh_0 rfl dX6_count_116 ?_
    obtain ⟨t15, ht15, hf⟩ := ob hf
    refine m_X6_160 F hh (c_X1_sumOfWeights fr_1 ht15) in_1 sh_1 rfl hl (Nat.le_of_ble_eq_true rfl) dX6_count_119 (fun H locs hh => ?_)
    refine lv_bipush (v := 81) hx hb dX6_count_122 (by decide) ?_
    refine lv_iadd hx hb dX6_count_124 ?_
    exact g_iretW F hr hlk hh hf dX6_count_125
  replace hf := itn c14 hf
  by_cases c16 : x1 = 8
  · replace hf := itp c16 hf
    refine lv_tableIn (tgt := 126) (off := 121) hx hb dX6_count_5 (by rw [c16]; decide) (by rw [c16]; decide) (by rw [c16]; rfl) (by decide) ?_
    refine lv_aload_n hx hb dX6_count_126 rfl (lv_at hl 0 rfl) ?_
    refine r_X6_25 (b' := 19) F hh in_0 sh_0 rfl dX6_count_127 ?_
    refine r_X6_164 F hh in_19 sh_19 dX6_count_130 ?_
    exact g_iretW F hr hlk hh hf dX6_count_133
  replace hf := itn c16 hf
  refine lv_tableOut (tgt := 134) hx hb dX6_count_5 (tb_out9 c3 c4 c5 c6 c9 c12 c13 c14 c16) (by decide) ?_
  refine lv_iconst (v := -1) hx hb dX6_count_134 (by decide) ?_
  exact g_iretW F hr hlk hh hf dX6_count_135
theorem c_X6_count {l : Launch} {G : Gm} {x1 : Int32} {z : Sto} {Z : Int32 × Sto} (hf : f_X6_count x1 z = some Z) : Met l yX6_count (Cond.code yX6_count cX6_count 2 (some .int) :: TT) rmX6_count (va_Pc [.ref (G.1 0), .int x1] (GS rC G z)) (QI rC G Z.1 Z.2) 0 0 (Am rC G) := by
  refine g_met [(0, .ref (G.1 0)), (1, .int x1)] (by decide) (Nat.le_of_ble_eq_true rfl) rfl ?_
  intro p e s m below meth cd F hr hlk ls H locs hl hh
  exact w_X6_count F hr hlk hf hh hl
def f_X6_isPart (x0 : Int32) (z : Sto) : Option (Int32) := if x0 < 0 then (some (0 : Int32)) else (if (2 : Int32) < x0 then (some (0 : Int32)) else (some (1 : Int32)))
set_option maxRecDepth 100000 in
set_option maxHeartbeats 4000000 in
theorem w_X6_isPart {Z : Int32} (F : Fx rC p s m args cd cX6_isPart 1 RX6 G) (hr : meth.sig.returnType = (some .boolean)) (hlk : meth.locks = false) {x0 : Int32} {z : Sto} {H : Heap} {locs : List Loc} {ls : Array Slot} (hf : f_X6_isPart x0 z = some Z) (hh : Hh rC G z s H locs) (hl : lv_has ls 1 [(0, .int x0)]) : W p l e rmX6_isPart s m args below meth cd H locs 0 0 (MQ below (QI rC G Z z) args s 0 0 (Am rC G)) (F0 m 0 ls []) := by
  have hx := F.1
  have hb := F.2.1
  unfold f_X6_isPart at hf
  refine lv_iload_n hx hb dX6_isPart_0 rfl (lv_at hl 0 rfl) ?_
  refine lv_if_lt (tgt := 13) hx hb dX6_isPart_1 (by decide) (fun c1 => ?_) (fun c1 => ?_)
  · replace hf := itp c1 hf
    refine lv_iconst (v := 0) hx hb dX6_isPart_13 (by decide) ?_
    exact g_zret F hr hlk rfl hh (Option.some.inj hf) rfl dX6_isPart_14
  · replace hf := itn c1 hf
    refine lv_iload_n hx hb dX6_isPart_4 rfl (lv_at hl 0 rfl) ?_
    refine lv_iconst (v := 2) hx hb dX6_isPart_5 (by decide) ?_
    refine lv_icmp_gt (tgt := 13) hx hb dX6_isPart_6 (by decide) (fun c2 => ?_) (fun c2 => ?_)
    · replace hf := itp c2 hf
      refine lv_iconst (v := 0) hx hb dX6_isPart_13 (by decide) ?_
      exact g_zret F hr hlk rfl hh (Option.some.inj hf) rfl dX6_isPart_14
    · replace hf := itn c2 hf
      refine lv_iconst (v := 1) hx hb dX6_isPart_9 (by decide) ?_
      refine lv_goto (tgt := 14) hx hb dX6_isPart_10 (by decide) ?_
      exact g_zret F hr hlk rfl hh (Option.some.inj hf) rfl dX6_isPart_14
theorem c_X6_isPart {l : Launch} {G : Gm} {x0 : Int32} {z : Sto} {Z : Int32} (hf : f_X6_isPart x0 z = some Z) : Met l yX6_isPart (Cond.code yX6_isPart cX6_isPart 1 (some .boolean) :: TT) rmX6_isPart (va_Pc [.int x0] (GS rC G z)) (QI rC G Z z) 0 0 (Am rC G) := by
  refine g_met [(0, .int x0)] (by decide) (Nat.le_of_ble_eq_true rfl) rfl ?_
  intro p e s m below meth cd F hr hlk ls H locs hl hh
  exact w_X6_isPart F hr hlk hf hh hl
def j_X6_commonDivisor_33 (z : Sto)  (x0 : Int64) : Option (Int64) := some (mxL x0 (1 : Int64))
def b_X6_commonDivisor_3 (z : Sto)  (ag3 : Int64 → Int64 → Int32 → Option (Int64)) (x0 : Int64) (x2 : Int64) (x4 : Int32) : Option (Int64) := if (200 : Int32) ≤ x4 then (j_X6_commonDivisor_33 z x0) else (if (lg_cmp x2 (0 : Int64)) = 0 then (j_X6_commonDivisor_33 z x0) else (bd (rmL x0 x2) fun t3 => lt (x4 + (1 : Int32)) fun x4_4 => ag3 x2 t3 x4_4))
def f_X6_commonDivisor (x0 : Int64) (x2 : Int64) (z : Sto) : Option (Int64) := wl3 (b_X6_commonDivisor_3 z) fu x0 x2 (0 : Int32)
set_option maxRecDepth 100000 in
set_option maxHeartbeats 4000000 in
theorem w_X6_commonDivisor_33 {z : Sto}  {Z : Int64} (F : Fx rC p s m args cd cX6_commonDivisor 7 RX6 G) (hr : meth.sig.returnType = (some .long)) (hlk : meth.locks = false)  {x0 : Int64} {H : Heap} {locs : List Loc} {ls : Array Slot} (hf : j_X6_commonDivisor_33 z x0 = some Z) (hh : Hh rC G z s H locs) (hl : lv_has ls 7 [(0, .long x0)]) : W p l e rmX6_commonDivisor s m args below meth cd H locs 0 0 (MQ below (QL rC G Z z) args s 0 0 (Am rC G)) (F0 m 33 ls []) := by
  have hx := F.1
  have hb := F.2.1
  unfold j_X6_commonDivisor_33 at hf
  refine lv_lload_n hx hb dX6_commonDivisor_33 rfl (lv_at hl 0 rfl) ?_
  refine lv_lconst (v := 1) hx hb dX6_commonDivisor_34 (by decide) ?_
  refine h_X6_380 F hl (Nat.le_of_ble_eq_true rfl) (Nat.le_of_ble_eq_true rfl) dX6_commonDivisor_35 ?_
  exact g_lret F hr hlk hh (Option.some.inj hf) rfl dX6_commonDivisor_38
set_option maxRecDepth 100000 in
set_option maxHeartbeats 4000000 in
theorem w_X6_commonDivisor_3 {z : Sto}  {Z : Int64} (F : Fx rC p s m args cd cX6_commonDivisor 7 RX6 G) (hr : meth.sig.returnType = (some .long)) (hlk : meth.locks = false)  : ∀ (n : Nat), ∀ (x0 : Int64) (x2 : Int64) (x4 : Int32), wl3 (b_X6_commonDivisor_3 z) n x0 x2 x4 = some Z → ∀ {H : Heap} {locs : List Loc} {ls : Array Slot}, Hh rC G z s H locs → lv_has ls 7 [(0, .long x0), (2, .long x2), (4, .int x4)] → W p l e rmX6_commonDivisor s m args below meth cd H locs 0 0 (MQ below (QL rC G Z z) args s 0 0 (Am rC G)) (F0 m 3 ls []) := by
  have hx := F.1
  have hb := F.2.1
  intro n
  induction n with
  | zero =>
    intro x0 x2 x4 hf
    exact absurd hf (by intro h; cases h)
  | succ n ih =>
    intro x0 x2 x4 hf  H locs ls hh hl
    replace hf : b_X6_commonDivisor_3 z (wl3 (b_X6_commonDivisor_3 z) n) x0 x2 x4 = some Z := hf
    unfold b_X6_commonDivisor_3 at hf
    refine lv_iload hx hb dX6_commonDivisor_3 (lv_at hl 2 rfl) ?_
    refine lv_sipush (v := 200) hx hb dX6_commonDivisor_5 (by decide) ?_
    refine lv_icmp_ge (tgt := 33) hx hb dX6_commonDivisor_8 (by decide) (fun c1 => ?_) (fun c1 => ?_)
    · replace hf := itp c1 hf
      exact w_X6_commonDivisor_33 F hr hlk hf  hh (lv_sub hl [0] rfl)
    · replace hf := itn c1 hf
      refine lv_lload_n hx hb dX6_commonDivisor_11 rfl (lv_at hl 1 rfl) ?_
      refine lv_lconst (v := 0) hx hb dX6_commonDivisor_12 (by decide) ?_
      refine W.lcmp hx hb dX6_commonDivisor_13 ?_
      refine lv_if_eq (tgt := 33) hx hb dX6_commonDivisor_14 (by decide) (fun c2 => ?_) (fun c2 => ?_)
      · replace hf := itp c2 hf
        exact w_X6_commonDivisor_33 F hr hlk hf  hh (lv_sub hl [0] rfl)
      · replace hf := itn c2 hf
        refine lv_lload_n hx hb dX6_commonDivisor_17 rfl (lv_at hl 0 rfl) ?_
        refine lv_lload_n hx hb dX6_commonDivisor_18 rfl (lv_at hl 1 rfl) ?_
        obtain ⟨t3, ht3, hf⟩ := ob hf
        refine g_lrem hx hb ht3 dX6_commonDivisor_19 ?_
        refine lv_lstore (lv' := [(5, .long t3), (0, .long x0), (2, .long x2), (4, .int x4)]) hx hb dX6_commonDivisor_20 hl (by decide) rfl (fun ls hl => ?_)
        refine lv_lload_n hx hb dX6_commonDivisor_22 rfl (lv_at hl 2 rfl) ?_
        refine lv_lstore_n (lv' := [(0, .long x2), (5, .long t3), (2, .long x2), (4, .int x4)]) hx hb dX6_commonDivisor_23 rfl hl (by decide) rfl (fun ls hl => ?_)
        refine lv_lload hx hb dX6_commonDivisor_24 (lv_at hl 1 rfl) ?_
        refine lv_lstore_n (lv' := [(2, .long t3), (0, .long x2), (5, .long t3), (4, .int x4)]) hx hb dX6_commonDivisor_26 rfl hl (by decide) rfl (fun ls hl => ?_)
        obtain ⟨x4_4, ex4_4⟩ : ∃ y : Int32, y = x4 + (1 : Int32) := ⟨_, rfl⟩
        replace hf := lt_e ex4_4 hf
        refine lv_iinc (v := x4_4) (lv' := [(4, .int x4_4), (2, .long t3), (0, .long x2), (5, .long t3)]) hx hb dX6_commonDivisor_27 hl (k := 3) rfl (by rw [ex4_4]; rfl) (by decide) rfl (fun ls hl => ?_)
        refine lv_goto (tgt := 3) hx hb dX6_commonDivisor_30 (by decide) ?_
        exact ih _ _ _ hf  hh (lv_sub hl [2, 1, 0] rfl)
set_option maxRecDepth 100000 in
set_option maxHeartbeats 4000000 in
theorem w_X6_commonDivisor {Z : Int64} (F : Fx rC p s m args cd cX6_commonDivisor 7 RX6 G) (hr : meth.sig.returnType = (some .long)) (hlk : meth.locks = false) {x0 : Int64} {x2 : Int64} {z : Sto} {H : Heap} {locs : List Loc} {ls : Array Slot} (hf : f_X6_commonDivisor x0 x2 z = some Z) (hh : Hh rC G z s H locs) (hl : lv_has ls 7 [(0, .long x0), (2, .long x2)]) : W p l e rmX6_commonDivisor s m args below meth cd H locs 0 0 (MQ below (QL rC G Z z) args s 0 0 (Am rC G)) (F0 m 0 ls []) := by
  have hx := F.1
  have hb := F.2.1
  unfold f_X6_commonDivisor at hf
  refine lv_iconst (v := 0) hx hb dX6_commonDivisor_0 (by decide) ?_
  refine lv_istore (lv' := [(4, .int (0 : Int32)), (0, .long x0), (2, .long x2)]) hx hb dX6_commonDivisor_1 hl (by decide) rfl (fun ls hl => ?_)
  exact w_X6_commonDivisor_3 F hr hlk fu _ _ _ hf  hh (lv_sub hl [1, 2, 0] rfl)
theorem c_X6_commonDivisor {l : Launch} {G : Gm} {x0 : Int64} {x2 : Int64} {z : Sto} {Z : Int64} (hf : f_X6_commonDivisor x0 x2 z = some Z) : Met l yX6_commonDivisor (Cond.code yX6_commonDivisor cX6_commonDivisor 7 (some .long) :: TT) rmX6_commonDivisor (va_Pc [.long x0, .long x2] (GS rC G z)) (QL rC G Z z) 0 0 (Am rC G) := by
  refine g_met [(0, .long x0), (2, .long x2)] (by decide) (Nat.le_of_ble_eq_true rfl) rfl ?_
  intro p e s m below meth cd F hr hlk ls H locs hl hh
  exact w_X6_commonDivisor F hr hlk hf hh hl
def j_X6_partOf_12 (z : Sto)  (x4 : Int32) : Option (Int64) := if x4 = (1 : Int32) then (some (1 : Int64)) else (some (0 : Int64))
def j_X6_partOf_52 (z : Sto)  (k0 : Int32) (k1 : Int32) : Option (Int64) := if k1 = k0 then (some (1 : Int64)) else (some (2 : Int64))
def j_X6_partOf_41 (z : Sto)  (x2 : Int64) (k0 : Int32) : Option (Int64) := if 0 ≤ (lg_cmp x2 (0 : Int64)) then (j_X6_partOf_52 z (0 : Int32) k0) else (j_X6_partOf_52 z (1 : Int32) k0)
def j_X6_partOf_86 (z : Sto)  (x5 : Int64) (k0 : Int64) : Option (Int64) := bd (dvL (abL k0) x5) fun t8 => some t8
def f_X6_partOf (x0 : Int64) (x2 : Int64) (x4 : Int32) (z : Sto) : Option (Int64) := if (lg_cmp x0 (0 : Int64)) = 0 then (j_X6_partOf_12 z x4) else (if (lg_cmp x2 (0 : Int64)) = 0 then (j_X6_partOf_12 z x4) else (if x4 = (2 : Int32) then (if 0 ≤ (lg_cmp x0 (0 : Int64)) then (j_X6_partOf_41 z x2 (0 : Int32)) else (j_X6_partOf_41 z x2 (1 : Int32))) else (bd (f_X6_commonDivisor ((abL x0)) ((abL x2)) z) fun t4 => if x4 = 0 then (j_X6_partOf_86 z t4 x0) else (j_X6_partOf_86 z t4 x2))))
set_option maxRecDepth 100000 in
set_option maxHeartbeats 4000000 in
theorem w_X6_partOf_12 {z : Sto}  {Z : Int64} (F : Fx rC p s m args cd cX6_partOf 7 RX6 G) (hr : meth.sig.returnType = (some .long)) (hlk : meth.locks = false)  {x4 : Int32} {H : Heap} {locs : List Loc} {ls : Array Slot} (hf : j_X6_partOf_12 z x4 = some Z) (hh : Hh rC G z s H locs) (hl : lv_has ls 7 [(4, .int x4)]) : W p l e rmX6_partOf s m args below meth cd H locs 0 0 (MQ below (QL rC G Z z) args s 0 0 (Am rC G)) (F0 m 12 ls []) := by
  have hx := F.1
  have hb := F.2.1
  unfold j_X6_partOf_12 at hf
  refine lv_iload hx hb dX6_partOf_12 (lv_at hl 0 rfl) ?_
  refine lv_iconst (v := 1) hx hb dX6_partOf_14 (by decide) ?_
  refine lv_icmp_ne (tgt := 22) hx hb dX6_partOf_15 (by decide) (fun c7 => ?_) (fun c7 => ?_)
  · replace hf := itn c7 hf
    refine lv_lconst (v := 0) hx hb dX6_partOf_22 (by decide) ?_
    exact g_lret F hr hlk hh (Option.some.inj hf) rfl dX6_partOf_23
  · replace hf := itp c7 hf
    refine lv_lconst (v := 1) hx hb dX6_partOf_18 (by decide) ?_
    refine lv_goto (tgt := 23) hx hb dX6_partOf_19 (by decide) ?_
    exact g_lret F hr hlk hh (Option.some.inj hf) rfl dX6_partOf_23
set_option maxRecDepth 100000 in
set_option maxHeartbeats 4000000 in
theorem w_X6_partOf_52 {z : Sto}  {Z : Int64} (F : Fx rC p s m args cd cX6_partOf 7 RX6 G) (hr : meth.sig.returnType = (some .long)) (hlk : meth.locks = false)  {k0 : Int32} {k1 : Int32} {H : Heap} {locs : List Loc} {ls : Array Slot} (hf : j_X6_partOf_52 z k0 k1 = some Z) (hh : Hh rC G z s H locs) (hl : lv_has ls 7 []) : W p l e rmX6_partOf s m args below meth cd H locs 0 0 (MQ below (QL rC G Z z) args s 0 0 (Am rC G)) (F0 m 52 ls [.int k0, .int k1]) := by
  have hx := F.1
  have hb := F.2.1
  unfold j_X6_partOf_52 at hf
  refine lv_icmp_ne (tgt := 59) hx hb dX6_partOf_52 (by decide) (fun c10 => ?_) (fun c10 => ?_)
  · replace hf := itn c10 hf
    refine lv_ldc2 hx hb F.2.2.2.1 (F.2.2.2.2.1 _ lk629) dX6_partOf_59 ?_
    exact g_lret F hr hlk hh (Option.some.inj hf) rfl dX6_partOf_62
  · replace hf := itp c10 hf
    refine lv_lconst (v := 1) hx hb dX6_partOf_55 (by decide) ?_
    refine lv_goto (tgt := 62) hx hb dX6_partOf_56 (by decide) ?_
    exact g_lret F hr hlk hh (Option.some.inj hf) rfl dX6_partOf_62
set_option maxRecDepth 100000 in
set_option maxHeartbeats 4000000 in
theorem w_X6_partOf_41 {z : Sto}  {Z : Int64} (F : Fx rC p s m args cd cX6_partOf 7 RX6 G) (hr : meth.sig.returnType = (some .long)) (hlk : meth.locks = false)  {x2 : Int64} {k0 : Int32} {H : Heap} {locs : List Loc} {ls : Array Slot} (hf : j_X6_partOf_41 z x2 k0 = some Z) (hh : Hh rC G z s H locs) (hl : lv_has ls 7 [(2, .long x2)]) : W p l e rmX6_partOf s m args below meth cd H locs 0 0 (MQ below (QL rC G Z z) args s 0 0 (Am rC G)) (F0 m 41 ls [.int k0]) := by
  have hx := F.1
  have hb := F.2.1
  unfold j_X6_partOf_41 at hf
  refine lv_lload_n hx hb dX6_partOf_41 rfl (lv_at hl 0 rfl) ?_
  refine lv_lconst (v := 0) hx hb dX6_partOf_42 (by decide) ?_
  refine W.lcmp hx hb dX6_partOf_43 ?_
  refine lv_if_ge (tgt := 51) hx hb dX6_partOf_44 (by decide) (fun c9 => ?_) (fun c9 => ?_)
  · replace hf := itp c9 hf
    refine lv_iconst (v := 0) hx hb dX6_partOf_51 (by decide) ?_
    exact w_X6_partOf_52 F hr hlk hf  hh (lv_sub hl [] rfl)
  · replace hf := itn c9 hf
    refine lv_iconst (v := 1) hx hb dX6_partOf_47 (by decide) ?_
    refine lv_goto (tgt := 52) hx hb dX6_partOf_48 (by decide) ?_
    exact w_X6_partOf_52 F hr hlk hf  hh (lv_sub hl [] rfl)
set_option maxRecDepth 100000 in
set_option maxHeartbeats 4000000 in
theorem w_X6_partOf_86 {z : Sto}  {Z : Int64} (F : Fx rC p s m args cd cX6_partOf 7 RX6 G) (hr : meth.sig.returnType = (some .long)) (hlk : meth.locks = false)  {x5 : Int64} {k0 : Int64} {H : Heap} {locs : List Loc} {ls : Array Slot} (hf : j_X6_partOf_86 z x5 k0 = some Z) (hh : Hh rC G z s H locs) (hl : lv_has ls 7 [(5, .long x5)]) : W p l e rmX6_partOf s m args below meth cd H locs 0 0 (MQ below (QL rC G Z z) args s 0 0 (Am rC G)) (F0 m 86 ls [.long k0]) := by
  have hx := F.1
  have hb := F.2.1
  unfold j_X6_partOf_86 at hf
  refine h_X6_373 F hl (Nat.le_of_ble_eq_true rfl) (Nat.le_of_ble_eq_true rfl) dX6_partOf_86 ?_
  refine lv_lload hx hb dX6_partOf_89 (lv_at hl 0 rfl) ?_
  obtain ⟨t8, ht8, hf⟩ := ob hf
  refine g_ldiv hx hb ht8 dX6_partOf_91 ?_
  exact g_lret F hr hlk hh (Option.some.inj hf) rfl dX6_partOf_92
set_option maxRecDepth 100000 in
set_option maxHeartbeats 4000000 in
theorem w_X6_partOf {Z : Int64} (F : Fx rC p s m args cd cX6_partOf 7 RX6 G) (hr : meth.sig.returnType = (some .long)) (hlk : meth.locks = false) {x0 : Int64} {x2 : Int64} {x4 : Int32} {z : Sto} {H : Heap} {locs : List Loc} {ls : Array Slot} (hf : f_X6_partOf x0 x2 x4 z = some Z) (hh : Hh rC G z s H locs) (hl : lv_has ls 7 [(0, .long x0), (2, .long x2), (4, .int x4)]) : W p l e rmX6_partOf s m args below meth cd H locs 0 0 (MQ below (QL rC G Z z) args s 0 0 (Am rC G)) (F0 m 0 ls []) := by
  have hx := F.1
  have hb := F.2.1
  unfold f_X6_partOf at hf
  refine lv_lload_n hx hb dX6_partOf_0 rfl (lv_at hl 0 rfl) ?_
  refine lv_lconst (v := 0) hx hb dX6_partOf_1 (by decide) ?_
  refine W.lcmp hx hb dX6_partOf_2 ?_
  refine lv_if_eq (tgt := 12) hx hb dX6_partOf_3 (by decide) (fun c1 => ?_) (fun c1 => ?_)
  · replace hf := itp c1 hf
    exact w_X6_partOf_12 F hr hlk hf  hh (lv_sub hl [2] rfl)
  · replace hf := itn c1 hf
    refine lv_lload_n hx hb dX6_partOf_6 rfl (lv_at hl 1 rfl) ?_
    refine lv_lconst (v := 0) hx hb dX6_partOf_7 (by decide) ?_
    refine W.lcmp hx hb dX6_partOf_8 ?_
    refine lv_if_ne (tgt := 24) hx hb dX6_partOf_9 (by decide) (fun c2 => ?_) (fun c2 => ?_)
    · replace hf := itn c2 hf
      refine lv_iload hx hb dX6_partOf_24 (lv_at hl 2 rfl) ?_
      refine lv_iconst (v := 2) hx hb dX6_partOf_26 (by decide) ?_
      refine lv_icmp_ne (tgt := 63) hx hb dX6_partOf_27 (by decide) (fun c3 => ?_) (fun c3 => ?_)
      · replace hf := itn c3 hf
        refine lv_lload_n hx hb dX6_partOf_63 rfl (lv_at hl 0 rfl) ?_
        refine h_X6_373 F hl (Nat.le_of_ble_eq_true rfl) (Nat.le_of_ble_eq_true rfl) dX6_partOf_64 ?_
        refine lv_lload_n hx hb dX6_partOf_67 rfl (lv_at hl 1 rfl) ?_
        refine h_X6_373 F hl (Nat.le_of_ble_eq_true rfl) (Nat.le_of_ble_eq_true rfl) dX6_partOf_68 ?_
        obtain ⟨t4, ht4, hf⟩ := ob hf
        refine m_X6_376 F hh (c_X6_commonDivisor ht4) rfl hl (Nat.le_of_ble_eq_true rfl) dX6_partOf_71 (fun H locs hh => ?_)
        refine lv_lstore (lv' := [(5, .long t4), (0, .long x0), (2, .long x2), (4, .int x4)]) hx hb dX6_partOf_74 hl (by decide) rfl (fun ls hl => ?_)
        refine lv_iload hx hb dX6_partOf_76 (lv_at hl 3 rfl) ?_
        refine lv_if_ne (tgt := 85) hx hb dX6_partOf_78 (by decide) (fun c5 => ?_) (fun c5 => ?_)
        · replace hf := itn c5 hf
          refine lv_lload_n hx hb dX6_partOf_85 rfl (lv_at hl 2 rfl) ?_
          exact w_X6_partOf_86 F hr hlk hf  hh (lv_sub hl [0] rfl)
        · replace hf := itp c5 hf
          refine lv_lload_n hx hb dX6_partOf_81 rfl (lv_at hl 1 rfl) ?_
          refine lv_goto (tgt := 86) hx hb dX6_partOf_82 (by decide) ?_
          exact w_X6_partOf_86 F hr hlk hf  hh (lv_sub hl [0] rfl)
      · replace hf := itp c3 hf
        refine lv_lload_n hx hb dX6_partOf_30 rfl (lv_at hl 0 rfl) ?_
        refine lv_lconst (v := 0) hx hb dX6_partOf_31 (by decide) ?_
        refine W.lcmp hx hb dX6_partOf_32 ?_
        refine lv_if_ge (tgt := 40) hx hb dX6_partOf_33 (by decide) (fun c6 => ?_) (fun c6 => ?_)
        · replace hf := itp c6 hf
          refine lv_iconst (v := 0) hx hb dX6_partOf_40 (by decide) ?_
          exact w_X6_partOf_41 F hr hlk hf  hh (lv_sub hl [1] rfl)
        · replace hf := itn c6 hf
          refine lv_iconst (v := 1) hx hb dX6_partOf_36 (by decide) ?_
          refine lv_goto (tgt := 41) hx hb dX6_partOf_37 (by decide) ?_
          exact w_X6_partOf_41 F hr hlk hf  hh (lv_sub hl [1] rfl)
    · replace hf := itp c2 hf
      exact w_X6_partOf_12 F hr hlk hf  hh (lv_sub hl [2] rfl)
theorem c_X6_partOf {l : Launch} {G : Gm} {x0 : Int64} {x2 : Int64} {x4 : Int32} {z : Sto} {Z : Int64} (hf : f_X6_partOf x0 x2 x4 z = some Z) : Met l yX6_partOf (Cond.code yX6_partOf cX6_partOf 7 (some .long) :: TT) rmX6_partOf (va_Pc [.long x0, .long x2, .int x4] (GS rC G z)) (QL rC G Z z) 0 0 (Am rC G) := by
  refine g_met [(0, .long x0), (2, .long x2), (4, .int x4)] (by decide) (Nat.le_of_ble_eq_true rfl) rfl ?_
  intro p e s m below meth cd F hr hlk ls H locs hl hh
  exact w_X6_partOf F hr hlk hf hh hl
def f_X6_stress (x1 : Int32) (x2 : Int32) (x3 : Int32) (z : Sto) : Option (Int64 × Sto) := bd (f_X6_settle z) fun z2 => if x1 < 0 then (some ((-1 : Int64), z2)) else (if (z2.1 95 0) ≤ x1 then (some ((-1 : Int64), z2)) else (bd (f_X1_hasBar 1 x2 z2) fun t5 => if t5 = 0 then (some ((-1 : Int64), z2)) else (bd (f_X6_isPart x3 z2) fun t7 => if t7 = 0 then (some ((-1 : Int64), z2)) else (bd (rdL z2 96 81 ((x1 * (9 : Int32)) + x2)) fun t9 => bd (f_X6_partOf t9 ((z2.2 95 3)) x3 z2) fun t10 => some (t10, z2)))))
set_option maxRecDepth 100000 in
set_option maxHeartbeats 4000000 in
theorem w_X6_stress {Z : Int64 × Sto} (F : Fx rC p s m args cd cX6_stress 4 RX6 G) (hr : meth.sig.returnType = (some .long)) (hlk : meth.locks = false) {x1 : Int32} {x2 : Int32} {x3 : Int32} {z : Sto} {H : Heap} {locs : List Loc} {ls : Array Slot} (hf : f_X6_stress x1 x2 x3 z = some Z) (hh : Hh rC G z s H locs) (hl : lv_has ls 4 [(0, .ref (G.1 0)), (1, .int x1), (2, .int x2), (3, .int x3)]) : W p l e rmX6_stress s m args below meth cd H locs 0 0 (MQ below (QL rC G Z.1 Z.2) args s 0 0 (Am rC G)) (F0 m 0 ls []) := by
  have hx := F.1
  have hb := F.2.1
  unfold f_X6_stress at hf
  refine lv_aload_n hx hb dX6_stress_0 rfl (lv_at hl 0 rfl) ?_
  obtain ⟨z2, ht1, hf⟩ := ob hf
  refine m_X6_122 F hh (c_X6_settle ht1) in_0 sh_0 rfl hl (Nat.le_of_ble_eq_true rfl) dX6_stress_1 (fun H locs hh => ?_)
  refine lv_iload_n hx hb dX6_stress_4 rfl (lv_at hl 1 rfl) ?_
  refine lv_if_lt (tgt := 37) hx hb dX6_stress_5 (by decide) (fun c3 => ?_) (fun c3 => ?_)
  · replace hf := itp c3 hf
    refine lv_ldc2 hx hb F.2.2.2.1 (F.2.2.2.2.1 _ lk625) dX6_stress_37 ?_
    exact g_lretW F hr hlk hh hf dX6_stress_40
  · replace hf := itn c3 hf
    refine lv_iload_n hx hb dX6_stress_8 rfl (lv_at hl 1 rfl) ?_
    refine lv_aload_n hx hb dX6_stress_9 rfl (lv_at hl 0 rfl) ?_
    refine r_X6_35 (b' := 95) F hh in_0 sh_0 rfl dX6_stress_10 ?_
    refine r_X6_144 F hh in_95 sh_95 dX6_stress_13 ?_
    refine lv_icmp_ge (tgt := 37) hx hb dX6_stress_16 (by decide) (fun c4 => ?_) (fun c4 => ?_)
    · replace hf := itp c4 hf
      refine lv_ldc2 hx hb F.2.2.2.1 (F.2.2.2.2.1 _ lk625) dX6_stress_37 ?_
      exact g_lretW F hr hlk hh hf dX6_stress_40
    · replace hf := itn c4 hf
      refine lv_aload_n hx hb dX6_stress_19 rfl (lv_at hl 0 rfl) ?_
      refine r_X6_12 (b' := 1) F hh in_0 sh_0 rfl dX6_stress_20 ?_
      refine lv_iload_n hx hb dX6_stress_23 rfl (lv_at hl 2 rfl) ?_
      obtain ⟨t5, ht5, hf⟩ := ob hf
      refine m_X6_100 F hh (c_X1_hasBar fr_1 ht5) in_1 sh_1 rfl hl (Nat.le_of_ble_eq_true rfl) dX6_stress_24 (fun H locs hh => ?_)
      refine lv_if_eq (tgt := 37) hx hb dX6_stress_27 (by decide) (fun c6 => ?_) (fun c6 => ?_)
      · replace hf := itp c6 hf
        refine lv_ldc2 hx hb F.2.2.2.1 (F.2.2.2.2.1 _ lk625) dX6_stress_37 ?_
        exact g_lretW F hr hlk hh hf dX6_stress_40
      · replace hf := itn c6 hf
        refine lv_iload_n hx hb dX6_stress_30 rfl (lv_at hl 3 rfl) ?_
        obtain ⟨t7, ht7, hf⟩ := ob hf
        refine m_X6_167 F hh (c_X6_isPart ht7) rfl hl (Nat.le_of_ble_eq_true rfl) dX6_stress_31 (fun H locs hh => ?_)
        refine lv_if_ne (tgt := 41) hx hb dX6_stress_34 (by decide) (fun c8 => ?_) (fun c8 => ?_)
        · replace hf := itn c8 hf
          refine lv_aload_n hx hb dX6_stress_41 rfl (lv_at hl 0 rfl) ?_
          refine r_X6_35 (b' := 95) F hh in_0 sh_0 rfl dX6_stress_42 ?_
          refine r_X6_172 (b' := 96) F hh in_95 sh_95 rfl dX6_stress_45 ?_
          refine lv_iload_n hx hb dX6_stress_48 rfl (lv_at hl 1 rfl) ?_
          refine lv_bipush (v := 9) hx hb dX6_stress_49 (by decide) ?_
          refine lv_imul hx hb dX6_stress_51 ?_
          refine lv_iload_n hx hb dX6_stress_52 rfl (lv_at hl 2 rfl) ?_
          refine lv_iadd hx hb dX6_stress_53 ?_
          obtain ⟨t9, ht9, hf⟩ := ob hf
          refine g_lald F hh in_96 sh_96 ht9 dX6_stress_54 ?_
          refine lv_aload_n hx hb dX6_stress_55 rfl (lv_at hl 0 rfl) ?_
          refine r_X6_35 (b' := 95) F hh in_0 sh_0 rfl dX6_stress_56 ?_
          refine r_X6_176 F hh in_95 sh_95 dX6_stress_59 ?_
          refine lv_iload_n hx hb dX6_stress_62 rfl (lv_at hl 3 rfl) ?_
          obtain ⟨t10, ht10, hf⟩ := ob hf
          refine m_X6_180 F hh (c_X6_partOf ht10) rfl hl (Nat.le_of_ble_eq_true rfl) dX6_stress_63 (fun H locs hh => ?_)
          exact g_lretW F hr hlk hh hf dX6_stress_66
        · replace hf := itp c8 hf
          refine lv_ldc2 hx hb F.2.2.2.1 (F.2.2.2.2.1 _ lk625) dX6_stress_37 ?_
          exact g_lretW F hr hlk hh hf dX6_stress_40
theorem c_X6_stress {l : Launch} {G : Gm} {x1 : Int32} {x2 : Int32} {x3 : Int32} {z : Sto} {Z : Int64 × Sto} (hf : f_X6_stress x1 x2 x3 z = some Z) : Met l yX6_stress (Cond.code yX6_stress cX6_stress 4 (some .long) :: TT) rmX6_stress (va_Pc [.ref (G.1 0), .int x1, .int x2, .int x3] (GS rC G z)) (QL rC G Z.1 Z.2) 0 0 (Am rC G) := by
  refine g_met [(0, .ref (G.1 0)), (1, .int x1), (2, .int x2), (3, .int x3)] (by decide) (Nat.le_of_ble_eq_true rfl) rfl ?_
  intro p e s m below meth cd F hr hlk ls H locs hl hh
  exact w_X6_stress F hr hlk hf hh hl
def f_X6_pull (x1 : Int32) (x2 : Int32) (z : Sto) : Option (Int64 × Sto) := bd (f_X1_hasBar 1 x1 z) fun t1 => if t1 = 0 then (some ((-1 : Int64), z)) else (bd (f_X6_isPart x2 z) fun t3 => if t3 = 0 then (some ((-1 : Int64), z)) else (bd (f_X6_settle z) fun z6 => bd (rdL z6 97 9 x1) fun t7 => bd (f_X6_partOf t7 ((z6.2 95 3)) x2 z6) fun t8 => some (t8, z6)))
set_option maxRecDepth 100000 in
set_option maxHeartbeats 4000000 in
theorem w_X6_pull {Z : Int64 × Sto} (F : Fx rC p s m args cd cX6_pull 3 RX6 G) (hr : meth.sig.returnType = (some .long)) (hlk : meth.locks = false) {x1 : Int32} {x2 : Int32} {z : Sto} {H : Heap} {locs : List Loc} {ls : Array Slot} (hf : f_X6_pull x1 x2 z = some Z) (hh : Hh rC G z s H locs) (hl : lv_has ls 3 [(0, .ref (G.1 0)), (1, .int x1), (2, .int x2)]) : W p l e rmX6_pull s m args below meth cd H locs 0 0 (MQ below (QL rC G Z.1 Z.2) args s 0 0 (Am rC G)) (F0 m 0 ls []) := by
  have hx := F.1
  have hb := F.2.1
  unfold f_X6_pull at hf
  refine lv_aload_n hx hb dX6_pull_0 rfl (lv_at hl 0 rfl) ?_
  refine r_X6_12 (b' := 1) F hh in_0 sh_0 rfl dX6_pull_1 ?_
  refine lv_iload_n hx hb dX6_pull_4 rfl (lv_at hl 1 rfl) ?_
  obtain ⟨t1, ht1, hf⟩ := ob hf
  refine m_X6_100 F hh (c_X1_hasBar fr_1 ht1) in_1 sh_1 rfl hl (Nat.le_of_ble_eq_true rfl) dX6_pull_5 (fun H locs hh => ?_)
  refine lv_if_eq (tgt := 18) hx hb dX6_pull_8 (by decide) (fun c2 => ?_) (fun c2 => ?_)
  · replace hf := itp c2 hf
    refine lv_ldc2 hx hb F.2.2.2.1 (F.2.2.2.2.1 _ lk625) dX6_pull_18 ?_
    exact g_lretW F hr hlk hh hf dX6_pull_21
  · replace hf := itn c2 hf
    refine lv_iload_n hx hb dX6_pull_11 rfl (lv_at hl 2 rfl) ?_
    obtain ⟨t3, ht3, hf⟩ := ob hf
    refine m_X6_167 F hh (c_X6_isPart ht3) rfl hl (Nat.le_of_ble_eq_true rfl) dX6_pull_12 (fun H locs hh => ?_)
    refine lv_if_ne (tgt := 22) hx hb dX6_pull_15 (by decide) (fun c4 => ?_) (fun c4 => ?_)
    · replace hf := itn c4 hf
      refine lv_aload_n hx hb dX6_pull_22 rfl (lv_at hl 0 rfl) ?_
      obtain ⟨z6, ht5, hf⟩ := ob hf
      refine m_X6_122 F hh (c_X6_settle ht5) in_0 sh_0 rfl hl (Nat.le_of_ble_eq_true rfl) dX6_pull_23 (fun H locs hh => ?_)
      refine lv_aload_n hx hb dX6_pull_26 rfl (lv_at hl 0 rfl) ?_
      refine r_X6_35 (b' := 95) F hh in_0 sh_0 rfl dX6_pull_27 ?_
      refine r_X6_184 (b' := 97) F hh in_95 sh_95 rfl dX6_pull_30 ?_
      refine lv_iload_n hx hb dX6_pull_33 rfl (lv_at hl 1 rfl) ?_
      obtain ⟨t7, ht7, hf⟩ := ob hf
      refine g_lald F hh in_97 sh_97 ht7 dX6_pull_34 ?_
      refine lv_aload_n hx hb dX6_pull_35 rfl (lv_at hl 0 rfl) ?_
      refine r_X6_35 (b' := 95) F hh in_0 sh_0 rfl dX6_pull_36 ?_
      refine r_X6_176 F hh in_95 sh_95 dX6_pull_39 ?_
      refine lv_iload_n hx hb dX6_pull_42 rfl (lv_at hl 2 rfl) ?_
      obtain ⟨t8, ht8, hf⟩ := ob hf
      refine m_X6_180 F hh (c_X6_partOf ht8) rfl hl (Nat.le_of_ble_eq_true rfl) dX6_pull_43 (fun H locs hh => ?_)
      exact g_lretW F hr hlk hh hf dX6_pull_46
    · replace hf := itp c4 hf
      refine lv_ldc2 hx hb F.2.2.2.1 (F.2.2.2.2.1 _ lk625) dX6_pull_18 ?_
      exact g_lretW F hr hlk hh hf dX6_pull_21
theorem c_X6_pull {l : Launch} {G : Gm} {x1 : Int32} {x2 : Int32} {z : Sto} {Z : Int64 × Sto} (hf : f_X6_pull x1 x2 z = some Z) : Met l yX6_pull (Cond.code yX6_pull cX6_pull 3 (some .long) :: TT) rmX6_pull (va_Pc [.ref (G.1 0), .int x1, .int x2] (GS rC G z)) (QL rC G Z.1 Z.2) 0 0 (Am rC G) := by
  refine g_met [(0, .ref (G.1 0)), (1, .int x1), (2, .int x2)] (by decide) (Nat.le_of_ble_eq_true rfl) rfl ?_
  intro p e s m below meth cd F hr hlk ls H locs hl hh
  exact w_X6_pull F hr hlk hf hh hl
def b_X6_power_5 (z : Sto)  (ag5 : Int64 → Int32 → Int64 → Int32 → Option (Int64)) (x0 : Int64) (x2 : Int32) (x3 : Int64) (x5 : Int32) : Option (Int64) := if x2 ≤ x5 then (some x3) else (lt ((x3 * x0)) fun x3_2 => lt (x5 + (1 : Int32)) fun x5_3 => ag5 x0 x2 x3_2 x5_3)
def f_X6_power (x0 : Int64) (x2 : Int32) (z : Sto) : Option (Int64) := wl4 (b_X6_power_5 z) fu x0 x2 (1 : Int64) (0 : Int32)
set_option maxRecDepth 100000 in
set_option maxHeartbeats 4000000 in
theorem w_X6_power_5 {z : Sto}  {Z : Int64} (F : Fx rC p s m args cd cX6_power 6 RX6 G) (hr : meth.sig.returnType = (some .long)) (hlk : meth.locks = false)  : ∀ (n : Nat), ∀ (x0 : Int64) (x2 : Int32) (x3 : Int64) (x5 : Int32), wl4 (b_X6_power_5 z) n x0 x2 x3 x5 = some Z → ∀ {H : Heap} {locs : List Loc} {ls : Array Slot}, Hh rC G z s H locs → lv_has ls 6 [(0, .long x0), (2, .int x2), (3, .long x3), (5, .int x5)] → W p l e rmX6_power s m args below meth cd H locs 0 0 (MQ below (QL rC G Z z) args s 0 0 (Am rC G)) (F0 m 5 ls []) := by
  have hx := F.1
  have hb := F.2.1
  intro n
  induction n with
  | zero =>
    intro x0 x2 x3 x5 hf
    exact absurd hf (by intro h; cases h)
  | succ n ih =>
    intro x0 x2 x3 x5 hf  H locs ls hh hl
    replace hf : b_X6_power_5 z (wl4 (b_X6_power_5 z) n) x0 x2 x3 x5 = some Z := hf
    unfold b_X6_power_5 at hf
    refine lv_iload hx hb dX6_power_5 (lv_at hl 3 rfl) ?_
    refine lv_iload_n hx hb dX6_power_7 rfl (lv_at hl 1 rfl) ?_
    refine lv_icmp_ge (tgt := 21) hx hb dX6_power_8 (by decide) (fun c1 => ?_) (fun c1 => ?_)
    · replace hf := itp c1 hf
      refine lv_lload_n hx hb dX6_power_21 rfl (lv_at hl 2 rfl) ?_
      exact g_lret F hr hlk hh (Option.some.inj hf) rfl dX6_power_22
    · replace hf := itn c1 hf
      refine lv_lload_n hx hb dX6_power_11 rfl (lv_at hl 2 rfl) ?_
      refine lv_lload_n hx hb dX6_power_12 rfl (lv_at hl 0 rfl) ?_
      refine lv_lmul hx hb dX6_power_13 ?_
      refine lv_topl (fun x3_2 ex3_2 => ?_)
      replace hf := lt_e ex3_2 hf
      refine lv_lstore_n (lv' := [(3, .long x3_2), (0, .long x0), (2, .int x2), (5, .int x5)]) hx hb dX6_power_14 rfl hl (by decide) rfl (fun ls hl => ?_)
      obtain ⟨x5_3, ex5_3⟩ : ∃ y : Int32, y = x5 + (1 : Int32) := ⟨_, rfl⟩
      replace hf := lt_e ex5_3 hf
      refine lv_iinc (v := x5_3) (lv' := [(5, .int x5_3), (3, .long x3_2), (0, .long x0), (2, .int x2)]) hx hb dX6_power_15 hl (k := 3) rfl (by rw [ex5_3]; rfl) (by decide) rfl (fun ls hl => ?_)
      refine lv_goto (tgt := 5) hx hb dX6_power_18 (by decide) ?_
      exact ih _ _ _ _ hf  hh (lv_sub hl [2, 3, 1, 0] rfl)
set_option maxRecDepth 100000 in
set_option maxHeartbeats 4000000 in
theorem w_X6_power {Z : Int64} (F : Fx rC p s m args cd cX6_power 6 RX6 G) (hr : meth.sig.returnType = (some .long)) (hlk : meth.locks = false) {x0 : Int64} {x2 : Int32} {z : Sto} {H : Heap} {locs : List Loc} {ls : Array Slot} (hf : f_X6_power x0 x2 z = some Z) (hh : Hh rC G z s H locs) (hl : lv_has ls 6 [(0, .long x0), (2, .int x2)]) : W p l e rmX6_power s m args below meth cd H locs 0 0 (MQ below (QL rC G Z z) args s 0 0 (Am rC G)) (F0 m 0 ls []) := by
  have hx := F.1
  have hb := F.2.1
  unfold f_X6_power at hf
  refine lv_lconst (v := 1) hx hb dX6_power_0 (by decide) ?_
  refine lv_lstore_n (lv' := [(3, .long (1 : Int64)), (0, .long x0), (2, .int x2)]) hx hb dX6_power_1 rfl hl (by decide) rfl (fun ls hl => ?_)
  refine lv_iconst (v := 0) hx hb dX6_power_2 (by decide) ?_
  refine lv_istore (lv' := [(5, .int (0 : Int32)), (3, .long (1 : Int64)), (0, .long x0), (2, .int x2)]) hx hb dX6_power_3 hl (by decide) rfl (fun ls hl => ?_)
  exact w_X6_power_5 F hr hlk fu _ _ _ _ hf  hh (lv_sub hl [2, 3, 1, 0] rfl)
theorem c_X6_power {l : Launch} {G : Gm} {x0 : Int64} {x2 : Int32} {z : Sto} {Z : Int64} (hf : f_X6_power x0 x2 z = some Z) : Met l yX6_power (Cond.code yX6_power cX6_power 6 (some .long) :: TT) rmX6_power (va_Pc [.long x0, .int x2] (GS rC G z)) (QL rC G Z z) 0 0 (Am rC G) := by
  refine g_met [(0, .long x0), (2, .int x2)] (by decide) (Nat.le_of_ble_eq_true rfl) rfl ?_
  intro p e s m below meth cd F hr hlk ls H locs hl hh
  exact w_X6_power F hr hlk hf hh hl
def j_X6_stiffTenths_61 (z : Sto)  (x1 : Int32) (x2 : Int32) (x3 : Int32) (x4 : Int64) : Option (Int64) := if (z.1 95 0) < (2 : Int32) then (some x4) else (if x3 < (2 : Int32) then (some x4) else (bd (f_X4_freePairs z) fun t11 => bd (f_X6_power ((Int32.toInt64 x2)) ((x3 - (2 : Int32))) z) fun t12 => lt ((x4 + (((t11 * (Int32.toInt64 x1)) * (Int32.toInt64 x1)) * t12))) fun x4_13 => some x4_13))
def f_X6_stiffTenths (x1 : Int32) (z : Sto) : Option (Int64) := lt (((10 : Int32) - x1)) fun x2_1 => lt ((z.1 1 1)) fun x3_2 => bd (f_X6_power ((Int32.toInt64 x2_1)) x3_2 z) fun t3 => if (z.1 95 0) < (1 : Int32) then (j_X6_stiffTenths_61 z x1 x2_1 x3_2 t3) else (if x3_2 < (1 : Int32) then (j_X6_stiffTenths_61 z x1 x2_1 x3_2 t3) else (bd (f_X4_freeBars z) fun t6 => bd (f_X6_power ((Int32.toInt64 x2_1)) ((x3_2 - (1 : Int32))) z) fun t7 => lt ((t3 + ((t6 * (Int32.toInt64 x1)) * t7))) fun x4_8 => j_X6_stiffTenths_61 z x1 x2_1 x3_2 x4_8))
set_option maxRecDepth 100000 in
set_option maxHeartbeats 4000000 in
theorem w_X6_stiffTenths_61 {z : Sto}  {Z : Int64} (F : Fx rC p s m args cd cX6_stiffTenths 6 RX6 G) (hr : meth.sig.returnType = (some .long)) (hlk : meth.locks = false)  {x1 : Int32} {x2 : Int32} {x3 : Int32} {x4 : Int64} {H : Heap} {locs : List Loc} {ls : Array Slot} (hf : j_X6_stiffTenths_61 z x1 x2 x3 x4 = some Z) (hh : Hh rC G z s H locs) (hl : lv_has ls 6 [(0, .ref (G.1 0)), (1, .int x1), (2, .int x2), (3, .int x3), (4, .long x4)]) : W p l e rmX6_stiffTenths s m args below meth cd H locs 0 0 (MQ below (QL rC G Z z) args s 0 0 (Am rC G)) (F0 m 61 ls []) := by
  have hx := F.1
  have hb := F.2.1
  unfold j_X6_stiffTenths_61 at hf
  refine lv_aload_n hx hb dX6_stiffTenths_61 rfl (lv_at hl 0 rfl) ?_
  refine r_X6_35 (b' := 95) F hh in_0 sh_0 rfl dX6_stiffTenths_62 ?_
  refine r_X6_144 F hh in_95 sh_95 dX6_stiffTenths_65 ?_
  refine lv_iconst (v := 2) hx hb dX6_stiffTenths_68 (by decide) ?_
  refine lv_icmp_lt (tgt := 104) hx hb dX6_stiffTenths_69 (by decide) (fun c9 => ?_) (fun c9 => ?_)
  · replace hf := itp c9 hf
    refine lv_lload hx hb dX6_stiffTenths_104 (lv_at hl 4 rfl) ?_
    exact g_lret F hr hlk hh (Option.some.inj hf) rfl dX6_stiffTenths_106
  · replace hf := itn c9 hf
    refine lv_iload_n hx hb dX6_stiffTenths_72 rfl (lv_at hl 3 rfl) ?_
    refine lv_iconst (v := 2) hx hb dX6_stiffTenths_73 (by decide) ?_
    refine lv_icmp_lt (tgt := 104) hx hb dX6_stiffTenths_74 (by decide) (fun c10 => ?_) (fun c10 => ?_)
    · replace hf := itp c10 hf
      refine lv_lload hx hb dX6_stiffTenths_104 (lv_at hl 4 rfl) ?_
      exact g_lret F hr hlk hh (Option.some.inj hf) rfl dX6_stiffTenths_106
    · replace hf := itn c10 hf
      refine lv_lload hx hb dX6_stiffTenths_77 (lv_at hl 4 rfl) ?_
      refine lv_aload_n hx hb dX6_stiffTenths_79 rfl (lv_at hl 0 rfl) ?_
      refine r_X6_35 (b' := 95) F hh in_0 sh_0 rfl dX6_stiffTenths_80 ?_
      obtain ⟨t11, ht11, hf⟩ := ob hf
      refine m_X6_361 F hh (c_X4_freePairs ht11) in_95 sh_95 rfl hl (Nat.le_of_ble_eq_true rfl) dX6_stiffTenths_83 (fun H locs hh => ?_)
      refine lv_iload_n hx hb dX6_stiffTenths_86 rfl (lv_at hl 1 rfl) ?_
      refine lv_i2l hx hb dX6_stiffTenths_87 rfl ?_
      refine lv_lmul hx hb dX6_stiffTenths_88 ?_
      refine lv_iload_n hx hb dX6_stiffTenths_89 rfl (lv_at hl 1 rfl) ?_
      refine lv_i2l hx hb dX6_stiffTenths_90 rfl ?_
      refine lv_lmul hx hb dX6_stiffTenths_91 ?_
      refine lv_iload_n hx hb dX6_stiffTenths_92 rfl (lv_at hl 2 rfl) ?_
      refine lv_i2l hx hb dX6_stiffTenths_93 rfl ?_
      refine lv_iload_n hx hb dX6_stiffTenths_94 rfl (lv_at hl 3 rfl) ?_
      refine lv_iconst (v := 2) hx hb dX6_stiffTenths_95 (by decide) ?_
      refine lv_isub hx hb dX6_stiffTenths_96 ?_
      obtain ⟨t12, ht12, hf⟩ := ob hf
      refine m_X6_193 F hh (c_X6_power ht12) rfl hl (Nat.le_of_ble_eq_true rfl) dX6_stiffTenths_97 (fun H locs hh => ?_)
      refine lv_lmul hx hb dX6_stiffTenths_100 ?_
      refine lv_ladd hx hb dX6_stiffTenths_101 ?_
      refine lv_topl (fun x4_13 ex4_13 => ?_)
      replace hf := lt_e ex4_13 hf
      refine lv_lstore (lv' := [(4, .long x4_13), (0, .ref (G.1 0)), (1, .int x1), (2, .int x2), (3, .int x3)]) hx hb dX6_stiffTenths_102 hl (by decide) rfl (fun ls hl => ?_)
      refine lv_lload hx hb dX6_stiffTenths_104 (lv_at hl 0 rfl) ?_
      exact g_lret F hr hlk hh (Option.some.inj hf) rfl dX6_stiffTenths_106
set_option maxRecDepth 100000 in
set_option maxHeartbeats 4000000 in
theorem w_X6_stiffTenths {Z : Int64} (F : Fx rC p s m args cd cX6_stiffTenths 6 RX6 G) (hr : meth.sig.returnType = (some .long)) (hlk : meth.locks = false) {x1 : Int32} {z : Sto} {H : Heap} {locs : List Loc} {ls : Array Slot} (hf : f_X6_stiffTenths x1 z = some Z) (hh : Hh rC G z s H locs) (hl : lv_has ls 6 [(0, .ref (G.1 0)), (1, .int x1)]) : W p l e rmX6_stiffTenths s m args below meth cd H locs 0 0 (MQ below (QL rC G Z z) args s 0 0 (Am rC G)) (F0 m 0 ls []) := by
  have hx := F.1
  have hb := F.2.1
  unfold f_X6_stiffTenths at hf
  refine lv_bipush (v := 10) hx hb dX6_stiffTenths_0 (by decide) ?_
  refine lv_iload_n hx hb dX6_stiffTenths_2 rfl (lv_at hl 1 rfl) ?_
  refine lv_isub hx hb dX6_stiffTenths_3 ?_
  refine lv_topi (fun x2_1 ex2_1 => ?_)
  replace hf := lt_e ex2_1 hf
  refine lv_istore_n (lv' := [(2, .int x2_1), (0, .ref (G.1 0)), (1, .int x1)]) hx hb dX6_stiffTenths_4 rfl hl (by decide) rfl (fun ls hl => ?_)
  refine lv_aload_n hx hb dX6_stiffTenths_5 rfl (lv_at hl 1 rfl) ?_
  refine r_X6_12 (b' := 1) F hh in_0 sh_0 rfl dX6_stiffTenths_6 ?_
  refine r_X6_90 F hh in_1 sh_1 dX6_stiffTenths_9 ?_
  refine lv_topi (fun x3_2 ex3_2 => ?_)
  replace hf := lt_e ex3_2 hf
  refine lv_istore_n (lv' := [(3, .int x3_2), (2, .int x2_1), (0, .ref (G.1 0)), (1, .int x1)]) hx hb dX6_stiffTenths_12 rfl hl (by decide) rfl (fun ls hl => ?_)
  refine lv_iload_n hx hb dX6_stiffTenths_13 rfl (lv_at hl 1 rfl) ?_
  refine lv_i2l hx hb dX6_stiffTenths_14 rfl ?_
  refine lv_iload_n hx hb dX6_stiffTenths_15 rfl (lv_at hl 0 rfl) ?_
  obtain ⟨t3, ht3, hf⟩ := ob hf
  refine m_X6_193 F hh (c_X6_power ht3) rfl hl (Nat.le_of_ble_eq_true rfl) dX6_stiffTenths_16 (fun H locs hh => ?_)
  refine lv_lstore (lv' := [(4, .long t3), (3, .int x3_2), (2, .int x2_1), (0, .ref (G.1 0)), (1, .int x1)]) hx hb dX6_stiffTenths_19 hl (by decide) rfl (fun ls hl => ?_)
  refine lv_aload_n hx hb dX6_stiffTenths_21 rfl (lv_at hl 3 rfl) ?_
  refine r_X6_35 (b' := 95) F hh in_0 sh_0 rfl dX6_stiffTenths_22 ?_
  refine r_X6_144 F hh in_95 sh_95 dX6_stiffTenths_25 ?_
  refine lv_iconst (v := 1) hx hb dX6_stiffTenths_28 (by decide) ?_
  refine lv_icmp_lt (tgt := 61) hx hb dX6_stiffTenths_29 (by decide) (fun c4 => ?_) (fun c4 => ?_)
  · replace hf := itp c4 hf
    exact w_X6_stiffTenths_61 F hr hlk hf  hh (lv_sub hl [3, 4, 2, 1, 0] rfl)
  · replace hf := itn c4 hf
    refine lv_iload_n hx hb dX6_stiffTenths_32 rfl (lv_at hl 1 rfl) ?_
    refine lv_iconst (v := 1) hx hb dX6_stiffTenths_33 (by decide) ?_
    refine lv_icmp_lt (tgt := 61) hx hb dX6_stiffTenths_34 (by decide) (fun c5 => ?_) (fun c5 => ?_)
    · replace hf := itp c5 hf
      exact w_X6_stiffTenths_61 F hr hlk hf  hh (lv_sub hl [3, 4, 2, 1, 0] rfl)
    · replace hf := itn c5 hf
      refine lv_lload hx hb dX6_stiffTenths_37 (lv_at hl 0 rfl) ?_
      refine lv_aload_n hx hb dX6_stiffTenths_39 rfl (lv_at hl 3 rfl) ?_
      refine r_X6_35 (b' := 95) F hh in_0 sh_0 rfl dX6_stiffTenths_40 ?_
      obtain ⟨t6, ht6, hf⟩ := ob hf
      refine m_X6_357 F hh (c_X4_freeBars ht6) in_95 sh_95 rfl hl (Nat.le_of_ble_eq_true rfl) dX6_stiffTenths_43 (fun H locs hh => ?_)
      refine lv_iload_n hx hb dX6_stiffTenths_46 rfl (lv_at hl 4 rfl) ?_
      refine lv_i2l hx hb dX6_stiffTenths_47 rfl ?_
      refine lv_lmul hx hb dX6_stiffTenths_48 ?_
      refine lv_iload_n hx hb dX6_stiffTenths_49 rfl (lv_at hl 2 rfl) ?_
      refine lv_i2l hx hb dX6_stiffTenths_50 rfl ?_
      refine lv_iload_n hx hb dX6_stiffTenths_51 rfl (lv_at hl 1 rfl) ?_
      refine lv_iconst (v := 1) hx hb dX6_stiffTenths_52 (by decide) ?_
      refine lv_isub hx hb dX6_stiffTenths_53 ?_
      obtain ⟨t7, ht7, hf⟩ := ob hf
      refine m_X6_193 F hh (c_X6_power ht7) rfl hl (Nat.le_of_ble_eq_true rfl) dX6_stiffTenths_54 (fun H locs hh => ?_)
      refine lv_lmul hx hb dX6_stiffTenths_57 ?_
      refine lv_ladd hx hb dX6_stiffTenths_58 ?_
      refine lv_topl (fun x4_8 ex4_8 => ?_)
      replace hf := lt_e ex4_8 hf
      refine lv_lstore (lv' := [(4, .long x4_8), (3, .int x3_2), (2, .int x2_1), (0, .ref (G.1 0)), (1, .int x1)]) hx hb dX6_stiffTenths_59 hl (by decide) rfl (fun ls hl => ?_)
      exact w_X6_stiffTenths_61 F hr hlk hf  hh (lv_sub hl [3, 4, 2, 1, 0] rfl)
theorem c_X6_stiffTenths {l : Launch} {G : Gm} {x1 : Int32} {z : Sto} {Z : Int64} (hf : f_X6_stiffTenths x1 z = some Z) : Met l yX6_stiffTenths (Cond.code yX6_stiffTenths cX6_stiffTenths 6 (some .long) :: TT) rmX6_stiffTenths (va_Pc [.ref (G.1 0), .int x1] (GS rC G z)) (QL rC G Z z) 0 0 (Am rC G) := by
  refine g_met [(0, .ref (G.1 0)), (1, .int x1)] (by decide) (Nat.le_of_ble_eq_true rfl) rfl ?_
  intro p e s m below meth cd F hr hlk ls H locs hl hh
  exact w_X6_stiffTenths F hr hlk hf hh hl
def j_X6_fail_43  (x2 : Int32) (k0 : Int64) (z : Sto) : Option (Int64 × Sto) := bd (f_X6_power (10 : Int64) ((z.1 1 1)) z) fun t10 => bd (f_X6_partOf k0 t10 x2 z) fun t11 => some (t11, z)
def f_X6_fail (x1 : Int32) (x2 : Int32) (z : Sto) : Option (Int64 × Sto) := if x1 < 0 then (some ((-1 : Int64), z)) else (if (10 : Int32) < x1 then (some ((-1 : Int64), z)) else (if x2 < 0 then (some ((-1 : Int64), z)) else (if x2 ≤ (1 : Int32) then (bd (f_X6_settle z) fun z6 => bd (f_X6_isStiff z6) fun t7 => if t7 = 0 then (j_X6_fail_43 x2 (0 : Int64) z6) else (bd (f_X6_stiffTenths x1 z6) fun t9 => j_X6_fail_43 x2 t9 z6)) else (some ((-1 : Int64), z)))))
set_option maxRecDepth 100000 in
set_option maxHeartbeats 4000000 in
theorem w_X6_fail_43  {Z : Int64 × Sto} (F : Fx rC p s m args cd cX6_fail 5 RX6 G) (hr : meth.sig.returnType = (some .long)) (hlk : meth.locks = false)  {x2 : Int32} {k0 : Int64} {z : Sto} {H : Heap} {locs : List Loc} {ls : Array Slot} (hf : j_X6_fail_43 x2 k0 z = some Z) (hh : Hh rC G z s H locs) (hl : lv_has ls 5 [(0, .ref (G.1 0)), (2, .int x2)]) : W p l e rmX6_fail s m args below meth cd H locs 0 0 (MQ below (QL rC G Z.1 Z.2) args s 0 0 (Am rC G)) (F0 m 43 ls [.long k0]) := by
  have hx := F.1
  have hb := F.2.1
  unfold j_X6_fail_43 at hf
  refine lv_lstore_n (lv' := [(3, .long k0), (0, .ref (G.1 0)), (2, .int x2)]) hx hb dX6_fail_43 rfl hl (by decide) rfl (fun ls hl => ?_)
  refine lv_lload_n hx hb dX6_fail_44 rfl (lv_at hl 0 rfl) ?_
  refine lv_ldc2 hx hb F.2.2.2.1 (F.2.2.2.2.1 _ lk664) dX6_fail_45 ?_
  refine lv_aload_n hx hb dX6_fail_48 rfl (lv_at hl 1 rfl) ?_
  refine r_X6_12 (b' := 1) F hh in_0 sh_0 rfl dX6_fail_49 ?_
  refine r_X6_90 F hh in_1 sh_1 dX6_fail_52 ?_
  obtain ⟨t10, ht10, hf⟩ := ob hf
  refine m_X6_193 F hh (c_X6_power ht10) rfl hl (Nat.le_of_ble_eq_true rfl) dX6_fail_55 (fun H locs hh => ?_)
  refine lv_iload_n hx hb dX6_fail_58 rfl (lv_at hl 2 rfl) ?_
  obtain ⟨t11, ht11, hf⟩ := ob hf
  refine m_X6_180 F hh (c_X6_partOf ht11) rfl hl (Nat.le_of_ble_eq_true rfl) dX6_fail_59 (fun H locs hh => ?_)
  exact g_lretW F hr hlk hh hf dX6_fail_62
set_option maxRecDepth 100000 in
set_option maxHeartbeats 4000000 in
theorem w_X6_fail {Z : Int64 × Sto} (F : Fx rC p s m args cd cX6_fail 5 RX6 G) (hr : meth.sig.returnType = (some .long)) (hlk : meth.locks = false) {x1 : Int32} {x2 : Int32} {z : Sto} {H : Heap} {locs : List Loc} {ls : Array Slot} (hf : f_X6_fail x1 x2 z = some Z) (hh : Hh rC G z s H locs) (hl : lv_has ls 5 [(0, .ref (G.1 0)), (1, .int x1), (2, .int x2)]) : W p l e rmX6_fail s m args below meth cd H locs 0 0 (MQ below (QL rC G Z.1 Z.2) args s 0 0 (Am rC G)) (F0 m 0 ls []) := by
  have hx := F.1
  have hb := F.2.1
  unfold f_X6_fail at hf
  refine lv_iload_n hx hb dX6_fail_0 rfl (lv_at hl 1 rfl) ?_
  refine lv_if_lt (tgt := 19) hx hb dX6_fail_1 (by decide) (fun c1 => ?_) (fun c1 => ?_)
  · replace hf := itp c1 hf
    refine lv_ldc2 hx hb F.2.2.2.1 (F.2.2.2.2.1 _ lk625) dX6_fail_19 ?_
    exact g_lretW F hr hlk hh hf dX6_fail_22
  · replace hf := itn c1 hf
    refine lv_iload_n hx hb dX6_fail_4 rfl (lv_at hl 1 rfl) ?_
    refine lv_bipush (v := 10) hx hb dX6_fail_5 (by decide) ?_
    refine lv_icmp_gt (tgt := 19) hx hb dX6_fail_7 (by decide) (fun c2 => ?_) (fun c2 => ?_)
    · replace hf := itp c2 hf
      refine lv_ldc2 hx hb F.2.2.2.1 (F.2.2.2.2.1 _ lk625) dX6_fail_19 ?_
      exact g_lretW F hr hlk hh hf dX6_fail_22
    · replace hf := itn c2 hf
      refine lv_iload_n hx hb dX6_fail_10 rfl (lv_at hl 2 rfl) ?_
      refine lv_if_lt (tgt := 19) hx hb dX6_fail_11 (by decide) (fun c3 => ?_) (fun c3 => ?_)
      · replace hf := itp c3 hf
        refine lv_ldc2 hx hb F.2.2.2.1 (F.2.2.2.2.1 _ lk625) dX6_fail_19 ?_
        exact g_lretW F hr hlk hh hf dX6_fail_22
      · replace hf := itn c3 hf
        refine lv_iload_n hx hb dX6_fail_14 rfl (lv_at hl 2 rfl) ?_
        refine lv_iconst (v := 1) hx hb dX6_fail_15 (by decide) ?_
        refine lv_icmp_le (tgt := 23) hx hb dX6_fail_16 (by decide) (fun c4 => ?_) (fun c4 => ?_)
        · replace hf := itp c4 hf
          refine lv_aload_n hx hb dX6_fail_23 rfl (lv_at hl 0 rfl) ?_
          obtain ⟨z6, ht5, hf⟩ := ob hf
          refine m_X6_122 F hh (c_X6_settle ht5) in_0 sh_0 rfl hl (Nat.le_of_ble_eq_true rfl) dX6_fail_24 (fun H locs hh => ?_)
          refine lv_aload_n hx hb dX6_fail_27 rfl (lv_at hl 0 rfl) ?_
          obtain ⟨t7, ht7, hf⟩ := ob hf
          refine m_X6_147 F hh (c_X6_isStiff ht7) in_0 sh_0 rfl hl (Nat.le_of_ble_eq_true rfl) dX6_fail_28 (fun H locs hh => ?_)
          refine lv_if_eq (tgt := 42) hx hb dX6_fail_31 (by decide) (fun c8 => ?_) (fun c8 => ?_)
          · replace hf := itp c8 hf
            refine lv_lconst (v := 0) hx hb dX6_fail_42 (by decide) ?_
            exact w_X6_fail_43 F hr hlk hf  hh (lv_sub hl [0, 2] rfl)
          · replace hf := itn c8 hf
            refine lv_aload_n hx hb dX6_fail_34 rfl (lv_at hl 0 rfl) ?_
            refine lv_iload_n hx hb dX6_fail_35 rfl (lv_at hl 1 rfl) ?_
            obtain ⟨t9, ht9, hf⟩ := ob hf
            refine m_X6_187 F hh (c_X6_stiffTenths ht9) in_0 sh_0 rfl hl (Nat.le_of_ble_eq_true rfl) dX6_fail_36 (fun H locs hh => ?_)
            refine lv_goto (tgt := 43) hx hb dX6_fail_39 (by decide) ?_
            exact w_X6_fail_43 F hr hlk hf  hh (lv_sub hl [0, 2] rfl)
        · replace hf := itn c4 hf
          refine lv_ldc2 hx hb F.2.2.2.1 (F.2.2.2.2.1 _ lk625) dX6_fail_19 ?_
          exact g_lretW F hr hlk hh hf dX6_fail_22
theorem c_X6_fail {l : Launch} {G : Gm} {x1 : Int32} {x2 : Int32} {z : Sto} {Z : Int64 × Sto} (hf : f_X6_fail x1 x2 z = some Z) : Met l yX6_fail (Cond.code yX6_fail cX6_fail 5 (some .long) :: TT) rmX6_fail (va_Pc [.ref (G.1 0), .int x1, .int x2] (GS rC G z)) (QL rC G Z.1 Z.2) 0 0 (Am rC G) := by
  refine g_met [(0, .ref (G.1 0)), (1, .int x1), (2, .int x2)] (by decide) (Nat.le_of_ble_eq_true rfl) rfl ?_
  intro p e s m below meth cd F hr hlk ls H locs hl hh
  exact w_X6_fail F hr hlk hf hh hl
def f_X6_next (x1 : Int32) (z : Sto) : Option (Int32 × Sto) := bd (f_X1_hasHalf 1 x1 z) fun t1 => if t1 = 0 then (some ((-1 : Int32), z)) else (bd (f_X6_settle z) fun z4 => bd (rdI z4 102 18 x1) fun t5 => some (t5, z4))
set_option maxRecDepth 100000 in
set_option maxHeartbeats 4000000 in
theorem w_X6_next {Z : Int32 × Sto} (F : Fx rC p s m args cd cX6_next 2 RX6 G) (hr : meth.sig.returnType = (some .int)) (hlk : meth.locks = false) {x1 : Int32} {z : Sto} {H : Heap} {locs : List Loc} {ls : Array Slot} (hf : f_X6_next x1 z = some Z) (hh : Hh rC G z s H locs) (hl : lv_has ls 2 [(0, .ref (G.1 0)), (1, .int x1)]) : W p l e rmX6_next s m args below meth cd H locs 0 0 (MQ below (QI rC G Z.1 Z.2) args s 0 0 (Am rC G)) (F0 m 0 ls []) := by
  have hx := F.1
  have hb := F.2.1
  unfold f_X6_next at hf
  refine lv_aload_n hx hb dX6_next_0 rfl (lv_at hl 0 rfl) ?_
  refine r_X6_12 (b' := 1) F hh in_0 sh_0 rfl dX6_next_1 ?_
  refine lv_iload_n hx hb dX6_next_4 rfl (lv_at hl 1 rfl) ?_
  obtain ⟨t1, ht1, hf⟩ := ob hf
  refine m_X6_197 F hh (c_X1_hasHalf fr_1 ht1) in_1 sh_1 rfl hl (Nat.le_of_ble_eq_true rfl) dX6_next_5 (fun H locs hh => ?_)
  refine lv_if_ne (tgt := 13) hx hb dX6_next_8 (by decide) (fun c2 => ?_) (fun c2 => ?_)
  · replace hf := itn c2 hf
    refine lv_aload_n hx hb dX6_next_13 rfl (lv_at hl 0 rfl) ?_
    obtain ⟨z4, ht3, hf⟩ := ob hf
    refine m_X6_122 F hh (c_X6_settle ht3) in_0 sh_0 rfl hl (Nat.le_of_ble_eq_true rfl) dX6_next_14 (fun H locs hh => ?_)
    refine lv_aload_n hx hb dX6_next_17 rfl (lv_at hl 0 rfl) ?_
    refine r_X6_42 (b' := 100) F hh in_0 sh_0 rfl dX6_next_18 ?_
    refine r_X6_200 (b' := 102) F hh in_100 sh_100 rfl dX6_next_21 ?_
    refine lv_iload_n hx hb dX6_next_24 rfl (lv_at hl 1 rfl) ?_
    obtain ⟨t5, ht5, hf⟩ := ob hf
    refine g_iald F hh in_102 sh_102 ht5 dX6_next_25 ?_
    exact g_iretW F hr hlk hh hf dX6_next_26
  · replace hf := itp c2 hf
    refine lv_iconst (v := -1) hx hb dX6_next_11 (by decide) ?_
    exact g_iretW F hr hlk hh hf dX6_next_12
theorem c_X6_next {l : Launch} {G : Gm} {x1 : Int32} {z : Sto} {Z : Int32 × Sto} (hf : f_X6_next x1 z = some Z) : Met l yX6_next (Cond.code yX6_next cX6_next 2 (some .int) :: TT) rmX6_next (va_Pc [.ref (G.1 0), .int x1] (GS rC G z)) (QI rC G Z.1 Z.2) 0 0 (Am rC G) := by
  refine g_met [(0, .ref (G.1 0)), (1, .int x1)] (by decide) (Nat.le_of_ble_eq_true rfl) rfl ?_
  intro p e s m below meth cd F hr hlk ls H locs hl hh
  exact w_X6_next F hr hlk hf hh hl
def f_X6_face (x1 : Int32) (x2 : Int32) (z : Sto) : Option (Int32 × Sto) := bd (f_X6_settle z) fun z2 => bd (f_X0_has x1 z2) fun t3 => if t3 = 0 then (some ((-1 : Int32), z2)) else (if x2 = 0 then (bd (rdI z2 105 18 x1) fun t6 => some (t6, z2)) else (if x2 = 1 then (bd (rdI z2 106 18 x1) fun t8 => some ((abI t8), z2)) else (if x2 = 2 then (bd (rdI z2 104 18 x1) fun t10 => some (t10, z2)) else (some ((-1 : Int32), z2)))))
set_option maxRecDepth 100000 in
set_option maxHeartbeats 4000000 in
theorem w_X6_face {Z : Int32 × Sto} (F : Fx rC p s m args cd cX6_face 3 RX6 G) (hr : meth.sig.returnType = (some .int)) (hlk : meth.locks = false) {x1 : Int32} {x2 : Int32} {z : Sto} {H : Heap} {locs : List Loc} {ls : Array Slot} (hf : f_X6_face x1 x2 z = some Z) (hh : Hh rC G z s H locs) (hl : lv_has ls 3 [(0, .ref (G.1 0)), (1, .int x1), (2, .int x2)]) : W p l e rmX6_face s m args below meth cd H locs 0 0 (MQ below (QI rC G Z.1 Z.2) args s 0 0 (Am rC G)) (F0 m 0 ls []) := by
  have hx := F.1
  have hb := F.2.1
  unfold f_X6_face at hf
  refine lv_aload_n hx hb dX6_face_0 rfl (lv_at hl 0 rfl) ?_
  obtain ⟨z2, ht1, hf⟩ := ob hf
  refine m_X6_122 F hh (c_X6_settle ht1) in_0 sh_0 rfl hl (Nat.le_of_ble_eq_true rfl) dX6_face_1 (fun H locs hh => ?_)
  refine lv_aload_n hx hb dX6_face_4 rfl (lv_at hl 0 rfl) ?_
  refine r_X6_42 (b' := 100) F hh in_0 sh_0 rfl dX6_face_5 ?_
  refine lv_iload_n hx hb dX6_face_8 rfl (lv_at hl 1 rfl) ?_
  obtain ⟨t3, ht3, hf⟩ := ob hf
  refine m_X6_203 F hh (c_X0_has ht3) in_100 sh_100 rfl hl (Nat.le_of_ble_eq_true rfl) dX6_face_9 (fun H locs hh => ?_)
  refine lv_if_ne (tgt := 17) hx hb dX6_face_12 (by decide) (fun c4 => ?_) (fun c4 => ?_)
  · replace hf := itn c4 hf
    refine lv_iload_n hx hb dX6_face_17 rfl (lv_at hl 2 rfl) ?_
    by_cases c5 : x2 = 0
    · replace hf := itp c5 hf
      refine lv_tableIn (tgt := 44) (off := 26) hx hb dX6_face_18 (by rw [c5]; decide) (by rw [c5]; decide) (by rw [c5]; rfl) (by decide) ?_
      refine lv_aload_n hx hb dX6_face_44 rfl (lv_at hl 0 rfl) ?_
      refine r_X6_42 (b' := 100) F hh in_0 sh_0 rfl dX6_face_45 ?_
      refine r_X6_206 (b' := 105) F hh in_100 sh_100 rfl dX6_face_48 ?_
      refine lv_iload_n hx hb dX6_face_51 rfl (lv_at hl 1 rfl) ?_
      obtain ⟨t6, ht6, hf⟩ := ob hf
      refine g_iald F hh in_105 sh_105 ht6 dX6_face_52 ?_
      exact g_iretW F hr hlk hh hf dX6_face_53
    replace hf := itn c5 hf
    by_cases c7 : x2 = 1
    · replace hf := itp c7 hf
      refine lv_tableIn (tgt := 54) (off := 36) hx hb dX6_face_18 (by rw [c7]; decide) (by rw [c7]; decide) (by rw [c7]; rfl) (by decide) ?_
      refine lv_aload_n hx hb dX6_face_54 rfl (lv_at hl 0 rfl) ?_
      refine r_X6_42 (b' := 100) F hh in_0 sh_0 rfl dX6_face_55 ?_
      refine r_X6_209 (b' := 106) F hh in_100 sh_100 rfl dX6_face_58 ?_
      refine lv_iload_n hx hb dX6_face_61 rfl (lv_at hl 1 rfl) ?_
      obtain ⟨t8, ht8, hf⟩ := ob hf
      refine g_iald F hh in_106 sh_106 ht8 dX6_face_62 ?_
      refine h_X6_212 F hl (Nat.le_of_ble_eq_true rfl) (Nat.le_of_ble_eq_true rfl) dX6_face_63 ?_
      exact g_iretW F hr hlk hh hf dX6_face_66
    replace hf := itn c7 hf
    by_cases c9 : x2 = 2
    · replace hf := itp c9 hf
      refine lv_tableIn (tgt := 67) (off := 49) hx hb dX6_face_18 (by rw [c9]; decide) (by rw [c9]; decide) (by rw [c9]; rfl) (by decide) ?_
      refine lv_aload_n hx hb dX6_face_67 rfl (lv_at hl 0 rfl) ?_
      refine r_X6_42 (b' := 100) F hh in_0 sh_0 rfl dX6_face_68 ?_
      refine r_X6_217 (b' := 104) F hh in_100 sh_100 rfl dX6_face_71 ?_
      refine lv_iload_n hx hb dX6_face_74 rfl (lv_at hl 1 rfl) ?_
      obtain ⟨t10, ht10, hf⟩ := ob hf
      refine g_iald F hh in_104 sh_104 ht10 dX6_face_75 ?_
      exact g_iretW F hr hlk hh hf dX6_face_76
    replace hf := itn c9 hf
    refine lv_tableOut (tgt := 77) hx hb dX6_face_18 (tb_out3 c5 c7 c9) (by decide) ?_
    refine lv_iconst (v := -1) hx hb dX6_face_77 (by decide) ?_
    exact g_iretW F hr hlk hh hf dX6_face_78
  · replace hf := itp c4 hf
    refine lv_iconst (v := -1) hx hb dX6_face_15 (by decide) ?_
    exact g_iretW F hr hlk hh hf dX6_face_16
theorem c_X6_face {l : Launch} {G : Gm} {x1 : Int32} {x2 : Int32} {z : Sto} {Z : Int32 × Sto} (hf : f_X6_face x1 x2 z = some Z) : Met l yX6_face (Cond.code yX6_face cX6_face 3 (some .int) :: TT) rmX6_face (va_Pc [.ref (G.1 0), .int x1, .int x2] (GS rC G z)) (QI rC G Z.1 Z.2) 0 0 (Am rC G) := by
  refine g_met [(0, .ref (G.1 0)), (1, .int x1), (2, .int x2)] (by decide) (Nat.le_of_ble_eq_true rfl) rfl ?_
  intro p e s m below meth cd F hr hlk ls H locs hl hh
  exact w_X6_face F hr hlk hf hh hl
def b_X6_round_47  (ag47 : Int32 → Int32 → Int32 → Sto → Option (Int32 × Sto)) (x2 : Int32) (x3 : Int32) (x4 : Int32) (z : Sto) : Option (Int32 × Sto) := if x2 ≤ x4 then (some (x3, z)) else (bd (rdI z 102 18 x3) fun t10 => lt (x4 + (1 : Int32)) fun x4_11 => ag47 x2 t10 x4_11 z)
def f_X6_round (x1 : Int32) (x2 : Int32) (z : Sto) : Option (Int32 × Sto) := bd (f_X6_settle z) fun z2 => bd (f_X0_has x1 z2) fun t3 => if t3 = 0 then (some ((-1 : Int32), z2)) else (if x2 < 0 then (some ((-1 : Int32), z2)) else (bd (rdI z2 105 18 x1) fun t6 => if x2 < t6 then (bd (rdI z2 104 18 x1) fun t8 => wl4 (b_X6_round_47) fu x2 t8 (0 : Int32) z2) else (some ((-1 : Int32), z2))))
set_option maxRecDepth 100000 in
set_option maxHeartbeats 4000000 in
theorem w_X6_round_47  {Z : Int32 × Sto} (F : Fx rC p s m args cd cX6_round 5 RX6 G) (hr : meth.sig.returnType = (some .int)) (hlk : meth.locks = false)  : ∀ (n : Nat), ∀ (x2 : Int32) (x3 : Int32) (x4 : Int32) (z : Sto), wl4 (b_X6_round_47) n x2 x3 x4 z = some Z → ∀ {H : Heap} {locs : List Loc} {ls : Array Slot}, Hh rC G z s H locs → lv_has ls 5 [(0, .ref (G.1 0)), (2, .int x2), (3, .int x3), (4, .int x4)] → W p l e rmX6_round s m args below meth cd H locs 0 0 (MQ below (QI rC G Z.1 Z.2) args s 0 0 (Am rC G)) (F0 m 47 ls []) := by
  have hx := F.1
  have hb := F.2.1
  intro n
  induction n with
  | zero =>
    intro x2 x3 x4 z hf
    exact absurd hf (by intro h; cases h)
  | succ n ih =>
    intro x2 x3 x4 z hf  H locs ls hh hl
    replace hf : b_X6_round_47 (wl4 (b_X6_round_47) n) x2 x3 x4 z = some Z := hf
    unfold b_X6_round_47 at hf
    refine lv_iload hx hb dX6_round_47 (lv_at hl 3 rfl) ?_
    refine lv_iload_n hx hb dX6_round_49 rfl (lv_at hl 1 rfl) ?_
    refine lv_icmp_ge (tgt := 69) hx hb dX6_round_50 (by decide) (fun c9 => ?_) (fun c9 => ?_)
    · replace hf := itp c9 hf
      refine lv_iload_n hx hb dX6_round_69 rfl (lv_at hl 2 rfl) ?_
      exact g_iretW F hr hlk hh hf dX6_round_70
    · replace hf := itn c9 hf
      refine lv_aload_n hx hb dX6_round_53 rfl (lv_at hl 0 rfl) ?_
      refine r_X6_42 (b' := 100) F hh in_0 sh_0 rfl dX6_round_54 ?_
      refine r_X6_200 (b' := 102) F hh in_100 sh_100 rfl dX6_round_57 ?_
      refine lv_iload_n hx hb dX6_round_60 rfl (lv_at hl 2 rfl) ?_
      obtain ⟨t10, ht10, hf⟩ := ob hf
      refine g_iald F hh in_102 sh_102 ht10 dX6_round_61 ?_
      refine lv_istore_n (lv' := [(3, .int t10), (0, .ref (G.1 0)), (2, .int x2), (4, .int x4)]) hx hb dX6_round_62 rfl hl (by decide) rfl (fun ls hl => ?_)
      obtain ⟨x4_11, ex4_11⟩ : ∃ y : Int32, y = x4 + (1 : Int32) := ⟨_, rfl⟩
      replace hf := lt_e ex4_11 hf
      refine lv_iinc (v := x4_11) (lv' := [(4, .int x4_11), (3, .int t10), (0, .ref (G.1 0)), (2, .int x2)]) hx hb dX6_round_63 hl (k := 3) rfl (by rw [ex4_11]; rfl) (by decide) rfl (fun ls hl => ?_)
      refine lv_goto (tgt := 47) hx hb dX6_round_66 (by decide) ?_
      exact ih _ _ _ _ hf  hh (lv_sub hl [2, 3, 1, 0] rfl)
set_option maxRecDepth 100000 in
set_option maxHeartbeats 4000000 in
theorem w_X6_round {Z : Int32 × Sto} (F : Fx rC p s m args cd cX6_round 5 RX6 G) (hr : meth.sig.returnType = (some .int)) (hlk : meth.locks = false) {x1 : Int32} {x2 : Int32} {z : Sto} {H : Heap} {locs : List Loc} {ls : Array Slot} (hf : f_X6_round x1 x2 z = some Z) (hh : Hh rC G z s H locs) (hl : lv_has ls 5 [(0, .ref (G.1 0)), (1, .int x1), (2, .int x2)]) : W p l e rmX6_round s m args below meth cd H locs 0 0 (MQ below (QI rC G Z.1 Z.2) args s 0 0 (Am rC G)) (F0 m 0 ls []) := by
  have hx := F.1
  have hb := F.2.1
  unfold f_X6_round at hf
  refine lv_aload_n hx hb dX6_round_0 rfl (lv_at hl 0 rfl) ?_
  obtain ⟨z2, ht1, hf⟩ := ob hf
  refine m_X6_122 F hh (c_X6_settle ht1) in_0 sh_0 rfl hl (Nat.le_of_ble_eq_true rfl) dX6_round_1 (fun H locs hh => ?_)
  refine lv_aload_n hx hb dX6_round_4 rfl (lv_at hl 0 rfl) ?_
  refine r_X6_42 (b' := 100) F hh in_0 sh_0 rfl dX6_round_5 ?_
  refine lv_iload_n hx hb dX6_round_8 rfl (lv_at hl 1 rfl) ?_
  obtain ⟨t3, ht3, hf⟩ := ob hf
  refine m_X6_203 F hh (c_X0_has ht3) in_100 sh_100 rfl hl (Nat.le_of_ble_eq_true rfl) dX6_round_9 (fun H locs hh => ?_)
  refine lv_if_eq (tgt := 32) hx hb dX6_round_12 (by decide) (fun c4 => ?_) (fun c4 => ?_)
  · replace hf := itp c4 hf
    refine lv_iconst (v := -1) hx hb dX6_round_32 (by decide) ?_
    exact g_iretW F hr hlk hh hf dX6_round_33
  · replace hf := itn c4 hf
    refine lv_iload_n hx hb dX6_round_15 rfl (lv_at hl 2 rfl) ?_
    refine lv_if_lt (tgt := 32) hx hb dX6_round_16 (by decide) (fun c5 => ?_) (fun c5 => ?_)
    · replace hf := itp c5 hf
      refine lv_iconst (v := -1) hx hb dX6_round_32 (by decide) ?_
      exact g_iretW F hr hlk hh hf dX6_round_33
    · replace hf := itn c5 hf
      refine lv_iload_n hx hb dX6_round_19 rfl (lv_at hl 2 rfl) ?_
      refine lv_aload_n hx hb dX6_round_20 rfl (lv_at hl 0 rfl) ?_
      refine r_X6_42 (b' := 100) F hh in_0 sh_0 rfl dX6_round_21 ?_
      refine r_X6_206 (b' := 105) F hh in_100 sh_100 rfl dX6_round_24 ?_
      refine lv_iload_n hx hb dX6_round_27 rfl (lv_at hl 1 rfl) ?_
      obtain ⟨t6, ht6, hf⟩ := ob hf
      refine g_iald F hh in_105 sh_105 ht6 dX6_round_28 ?_
      refine lv_icmp_lt (tgt := 34) hx hb dX6_round_29 (by decide) (fun c7 => ?_) (fun c7 => ?_)
      · replace hf := itp c7 hf
        refine lv_aload_n hx hb dX6_round_34 rfl (lv_at hl 0 rfl) ?_
        refine r_X6_42 (b' := 100) F hh in_0 sh_0 rfl dX6_round_35 ?_
        refine r_X6_217 (b' := 104) F hh in_100 sh_100 rfl dX6_round_38 ?_
        refine lv_iload_n hx hb dX6_round_41 rfl (lv_at hl 1 rfl) ?_
        obtain ⟨t8, ht8, hf⟩ := ob hf
        refine g_iald F hh in_104 sh_104 ht8 dX6_round_42 ?_
        refine lv_istore_n (lv' := [(3, .int t8), (0, .ref (G.1 0)), (1, .int x1), (2, .int x2)]) hx hb dX6_round_43 rfl hl (by decide) rfl (fun ls hl => ?_)
        refine lv_iconst (v := 0) hx hb dX6_round_44 (by decide) ?_
        refine lv_istore (lv' := [(4, .int (0 : Int32)), (3, .int t8), (0, .ref (G.1 0)), (1, .int x1), (2, .int x2)]) hx hb dX6_round_45 hl (by decide) rfl (fun ls hl => ?_)
        exact w_X6_round_47 F hr hlk fu _ _ _ _ hf  hh (lv_sub hl [2, 4, 1, 0] rfl)
      · replace hf := itn c7 hf
        refine lv_iconst (v := -1) hx hb dX6_round_32 (by decide) ?_
        exact g_iretW F hr hlk hh hf dX6_round_33
theorem c_X6_round {l : Launch} {G : Gm} {x1 : Int32} {x2 : Int32} {z : Sto} {Z : Int32 × Sto} (hf : f_X6_round x1 x2 z = some Z) : Met l yX6_round (Cond.code yX6_round cX6_round 5 (some .int) :: TT) rmX6_round (va_Pc [.ref (G.1 0), .int x1, .int x2] (GS rC G z)) (QI rC G Z.1 Z.2) 0 0 (Am rC G) := by
  refine g_met [(0, .ref (G.1 0)), (1, .int x1), (2, .int x2)] (by decide) (Nat.le_of_ble_eq_true rfl) rfl ?_
  intro p e s m below meth cd F hr hlk ls H locs hl hh
  exact w_X6_round F hr hlk hf hh hl
def f_X6_beside (x1 : Int32) (z : Sto) : Option (Int32 × Sto) := bd (f_X1_hasHalf 1 x1 z) fun t1 => if t1 = 0 then (some ((-1 : Int32), z)) else (bd (f_X6_settle z) fun z4 => bd (rdI z4 103 18 x1) fun t5 => some (t5, z4))
set_option maxRecDepth 100000 in
set_option maxHeartbeats 4000000 in
theorem w_X6_beside {Z : Int32 × Sto} (F : Fx rC p s m args cd cX6_beside 2 RX6 G) (hr : meth.sig.returnType = (some .int)) (hlk : meth.locks = false) {x1 : Int32} {z : Sto} {H : Heap} {locs : List Loc} {ls : Array Slot} (hf : f_X6_beside x1 z = some Z) (hh : Hh rC G z s H locs) (hl : lv_has ls 2 [(0, .ref (G.1 0)), (1, .int x1)]) : W p l e rmX6_beside s m args below meth cd H locs 0 0 (MQ below (QI rC G Z.1 Z.2) args s 0 0 (Am rC G)) (F0 m 0 ls []) := by
  have hx := F.1
  have hb := F.2.1
  unfold f_X6_beside at hf
  refine lv_aload_n hx hb dX6_beside_0 rfl (lv_at hl 0 rfl) ?_
  refine r_X6_12 (b' := 1) F hh in_0 sh_0 rfl dX6_beside_1 ?_
  refine lv_iload_n hx hb dX6_beside_4 rfl (lv_at hl 1 rfl) ?_
  obtain ⟨t1, ht1, hf⟩ := ob hf
  refine m_X6_197 F hh (c_X1_hasHalf fr_1 ht1) in_1 sh_1 rfl hl (Nat.le_of_ble_eq_true rfl) dX6_beside_5 (fun H locs hh => ?_)
  refine lv_if_ne (tgt := 13) hx hb dX6_beside_8 (by decide) (fun c2 => ?_) (fun c2 => ?_)
  · replace hf := itn c2 hf
    refine lv_aload_n hx hb dX6_beside_13 rfl (lv_at hl 0 rfl) ?_
    obtain ⟨z4, ht3, hf⟩ := ob hf
    refine m_X6_122 F hh (c_X6_settle ht3) in_0 sh_0 rfl hl (Nat.le_of_ble_eq_true rfl) dX6_beside_14 (fun H locs hh => ?_)
    refine lv_aload_n hx hb dX6_beside_17 rfl (lv_at hl 0 rfl) ?_
    refine r_X6_42 (b' := 100) F hh in_0 sh_0 rfl dX6_beside_18 ?_
    refine r_X6_220 (b' := 103) F hh in_100 sh_100 rfl dX6_beside_21 ?_
    refine lv_iload_n hx hb dX6_beside_24 rfl (lv_at hl 1 rfl) ?_
    obtain ⟨t5, ht5, hf⟩ := ob hf
    refine g_iald F hh in_103 sh_103 ht5 dX6_beside_25 ?_
    exact g_iretW F hr hlk hh hf dX6_beside_26
  · replace hf := itp c2 hf
    refine lv_iconst (v := -1) hx hb dX6_beside_11 (by decide) ?_
    exact g_iretW F hr hlk hh hf dX6_beside_12
theorem c_X6_beside {l : Launch} {G : Gm} {x1 : Int32} {z : Sto} {Z : Int32 × Sto} (hf : f_X6_beside x1 z = some Z) : Met l yX6_beside (Cond.code yX6_beside cX6_beside 2 (some .int) :: TT) rmX6_beside (va_Pc [.ref (G.1 0), .int x1] (GS rC G z)) (QI rC G Z.1 Z.2) 0 0 (Am rC G) := by
  refine g_met [(0, .ref (G.1 0)), (1, .int x1)] (by decide) (Nat.le_of_ble_eq_true rfl) rfl ?_
  intro p e s m below meth cd F hr hlk ls H locs hl hh
  exact w_X6_beside F hr hlk hf hh hl
