variable {p : Program} {l : Launch} {e : Env} {s : State} {m : MethodId} {args : Array Value} {below : List Frame} {meth : Method} {cd : Code} {G : Gm}

def b_X4_fillGrid_10  (ag10 : Int32 → Sto → Option (Sto)) (x2 : Int32) (z : Sto) : Option (Sto) := if ((2 : Int32) * (z.1 95 1)) ≤ x2 then (some z) else (bd (f_X1_startOf 1 x2 z) fun t4 => lt (((2 : Int32) * t4)) fun x3_5 => bd (f_X1_stepX 1 x2 z) fun t6 => bd (wrL z 98 108 ((x3_5 * (9 : Int32)) + (x2 / (2 : Int32))) (Int32.toInt64 t6)) fun z7 => bd (f_X1_stepY 1 x2 z7) fun t8 => bd (wrL z7 98 108 (((x3_5 + (1 : Int32)) * (9 : Int32)) + (x2 / (2 : Int32))) (Int32.toInt64 t8)) fun z9 => lt (x2 + (1 : Int32)) fun x2_10 => ag10 x2_10 z9)
def f_X4_fillGrid  (z : Sto) : Option (Sto) := bd (f_J7_fill_d0a16 98 108 (0 : Int64) z) fun z2 => wl2 (b_X4_fillGrid_10) fu (0 : Int32) z2
set_option maxRecDepth 100000 in
set_option maxHeartbeats 4000000 in
theorem w_X4_fillGrid_10  {Z : Sto} (F : Fx rC p s m args cd cX4_fillGrid 4 RX4 G) (hr : meth.sig.returnType = none) (hlk : meth.locks = false)  : ∀ (n : Nat), ∀ (x2 : Int32) (z : Sto), wl2 (b_X4_fillGrid_10) n x2 z = some Z → ∀ {H : Heap} {locs : List Loc} {ls : Array Slot}, Hh rC G z s H locs → lv_has ls 4 [(0, .ref (G.1 95)), (1, .ref (G.1 1)), (2, .int x2)] → W p l e rmX4_fillGrid s m args below meth cd H locs 0 0 (MQ below (QV rC G Z) args s 0 0 (Am rC G)) (F0 m 10 ls []) := by
  have hx := F.1
  have hb := F.2.1
  intro n
  induction n with
  | zero =>
    intro x2 z hf
    exact absurd hf (by intro h; cases h)
  | succ n ih =>
    intro x2 z hf  H locs ls hh hl
    replace hf : b_X4_fillGrid_10 (wl2 (b_X4_fillGrid_10) n) x2 z = some Z := hf
    unfold b_X4_fillGrid_10 at hf
    refine lv_iload_n hx hb dX4_fillGrid_10 rfl (lv_at hl 2 rfl) ?_
    refine lv_iconst (v := 2) hx hb dX4_fillGrid_11 (by decide) ?_
    refine lv_aload_n hx hb dX4_fillGrid_12 rfl (lv_at hl 0 rfl) ?_
    refine r_X4_35 F hh in_95 sh_95 dX4_fillGrid_13 ?_
    refine lv_imul hx hb dX4_fillGrid_16 ?_
    refine lv_icmp_ge (tgt := 74) hx hb dX4_fillGrid_17 (by decide) (fun c3 => ?_) (fun c3 => ?_)
    · replace hf := itp c3 hf
      exact g_vret F hr hlk hh (Option.some.inj hf) dX4_fillGrid_74
    · replace hf := itn c3 hf
      refine lv_iconst (v := 2) hx hb dX4_fillGrid_20 (by decide) ?_
      refine lv_aload_n hx hb dX4_fillGrid_21 rfl (lv_at hl 1 rfl) ?_
      refine lv_iload_n hx hb dX4_fillGrid_22 rfl (lv_at hl 2 rfl) ?_
      obtain ⟨t4, ht4, hf⟩ := ob hf
      refine m_X4_76 F hh (c_X1_startOf fr_1 ht4) in_1 sh_1 rfl hl (Nat.le_of_ble_eq_true rfl) dX4_fillGrid_23 (fun H locs hh => ?_)
      refine lv_imul hx hb dX4_fillGrid_26 ?_
      refine lv_topi (fun x3_5 ex3_5 => ?_)
      replace hf := lt_e ex3_5 hf
      refine lv_istore_n (lv' := [(3, .int x3_5), (0, .ref (G.1 95)), (1, .ref (G.1 1)), (2, .int x2)]) hx hb dX4_fillGrid_27 rfl hl (by decide) rfl (fun ls hl => ?_)
      refine lv_aload_n hx hb dX4_fillGrid_28 rfl (lv_at hl 1 rfl) ?_
      refine r_X4_22 (b' := 98) F hh in_95 sh_95 rfl dX4_fillGrid_29 ?_
      refine lv_iload_n hx hb dX4_fillGrid_32 rfl (lv_at hl 0 rfl) ?_
      refine lv_bipush (v := 9) hx hb dX4_fillGrid_33 (by decide) ?_
      refine lv_imul hx hb dX4_fillGrid_35 ?_
      refine lv_iload_n hx hb dX4_fillGrid_36 rfl (lv_at hl 3 rfl) ?_
      refine lv_iconst (v := 2) hx hb dX4_fillGrid_37 (by decide) ?_
      refine lv_idiv hx hb dX4_fillGrid_38 (by decide) ?_
      refine lv_iadd hx hb dX4_fillGrid_39 ?_
      refine lv_aload_n hx hb dX4_fillGrid_40 rfl (lv_at hl 2 rfl) ?_
      refine lv_iload_n hx hb dX4_fillGrid_41 rfl (lv_at hl 3 rfl) ?_
      obtain ⟨t6, ht6, hf⟩ := ob hf
      refine m_X4_80 F hh (c_X1_stepX fr_1 ht6) in_1 sh_1 rfl hl (Nat.le_of_ble_eq_true rfl) dX4_fillGrid_42 (fun H locs hh => ?_)
      refine lv_i2l hx hb dX4_fillGrid_45 rfl ?_
      obtain ⟨z7, hz7, hf⟩ := ob hf
      refine g_last F hh in_98 sh_98 hz7 dX4_fillGrid_46 (fun H locs hh => ?_)
      refine lv_aload_n hx hb dX4_fillGrid_47 rfl (lv_at hl 1 rfl) ?_
      refine r_X4_22 (b' := 98) F hh in_95 sh_95 rfl dX4_fillGrid_48 ?_
      refine lv_iload_n hx hb dX4_fillGrid_51 rfl (lv_at hl 0 rfl) ?_
      refine lv_iconst (v := 1) hx hb dX4_fillGrid_52 (by decide) ?_
      refine lv_iadd hx hb dX4_fillGrid_53 ?_
      refine lv_bipush (v := 9) hx hb dX4_fillGrid_54 (by decide) ?_
      refine lv_imul hx hb dX4_fillGrid_56 ?_
      refine lv_iload_n hx hb dX4_fillGrid_57 rfl (lv_at hl 3 rfl) ?_
      refine lv_iconst (v := 2) hx hb dX4_fillGrid_58 (by decide) ?_
      refine lv_idiv hx hb dX4_fillGrid_59 (by decide) ?_
      refine lv_iadd hx hb dX4_fillGrid_60 ?_
      refine lv_aload_n hx hb dX4_fillGrid_61 rfl (lv_at hl 2 rfl) ?_
      refine lv_iload_n hx hb dX4_fillGrid_62 rfl (lv_at hl 3 rfl) ?_
      obtain ⟨t8, ht8, hf⟩ := ob hf
      refine m_X4_83 F hh (c_X1_stepY fr_1 ht8) in_1 sh_1 rfl hl (Nat.le_of_ble_eq_true rfl) dX4_fillGrid_63 (fun H locs hh => ?_)
      refine lv_i2l hx hb dX4_fillGrid_66 rfl ?_
      obtain ⟨z9, hz9, hf⟩ := ob hf
      refine g_last F hh in_98 sh_98 hz9 dX4_fillGrid_67 (fun H locs hh => ?_)
      obtain ⟨x2_10, ex2_10⟩ : ∃ y : Int32, y = x2 + (1 : Int32) := ⟨_, rfl⟩
      replace hf := lt_e ex2_10 hf
      refine lv_iinc (v := x2_10) (lv' := [(2, .int x2_10), (3, .int x3_5), (0, .ref (G.1 95)), (1, .ref (G.1 1))]) hx hb dX4_fillGrid_68 hl (k := 3) rfl (by rw [ex2_10]; rfl) (by decide) rfl (fun ls hl => ?_)
      refine lv_goto (tgt := 10) hx hb dX4_fillGrid_71 (by decide) ?_
      exact ih _ _ hf  hh (lv_sub hl [2, 3, 0] rfl)
set_option maxRecDepth 100000 in
set_option maxHeartbeats 4000000 in
theorem w_X4_fillGrid {Z : Sto} (F : Fx rC p s m args cd cX4_fillGrid 4 RX4 G) (hr : meth.sig.returnType = none) (hlk : meth.locks = false)  {z : Sto} {H : Heap} {locs : List Loc} {ls : Array Slot} (hf : f_X4_fillGrid  z = some Z) (hh : Hh rC G z s H locs) (hl : lv_has ls 4 [(0, .ref (G.1 95)), (1, .ref (G.1 1))]) : W p l e rmX4_fillGrid s m args below meth cd H locs 0 0 (MQ below (QV rC G Z) args s 0 0 (Am rC G)) (F0 m 0 ls []) := by
  have hx := F.1
  have hb := F.2.1
  unfold f_X4_fillGrid at hf
  refine lv_aload_n hx hb dX4_fillGrid_0 rfl (lv_at hl 0 rfl) ?_
  refine r_X4_22 (b' := 98) F hh in_95 sh_95 rfl dX4_fillGrid_1 ?_
  refine lv_lconst (v := 0) hx hb dX4_fillGrid_4 (by decide) ?_
  obtain ⟨z2, ht1, hf⟩ := ob hf
  refine m_X4_70 F hh (c_J7_fill_d0a16 lo_98 ht1) rfl hl (Nat.le_of_ble_eq_true rfl) dX4_fillGrid_5 (fun H locs hh => ?_)
  refine lv_iconst (v := 0) hx hb dX4_fillGrid_8 (by decide) ?_
  refine lv_istore_n (lv' := [(2, .int (0 : Int32)), (0, .ref (G.1 95)), (1, .ref (G.1 1))]) hx hb dX4_fillGrid_9 rfl hl (by decide) rfl (fun ls hl => ?_)
  exact w_X4_fillGrid_10 F hr hlk fu _ _ hf  hh (lv_sub hl [1, 2, 0] rfl)
theorem c_X4_fillGrid {l : Launch} {G : Gm}  {z : Sto} {Z : Sto} (hf : f_X4_fillGrid  z = some Z) : Met l yX4_fillGrid (Cond.code yX4_fillGrid cX4_fillGrid 4 none :: TT) rmX4_fillGrid (va_Pc [.ref (G.1 95), .ref (G.1 1)] (GS rC G z)) (QV rC G Z) 0 0 (Am rC G) := by
  refine g_met [(0, .ref (G.1 95)), (1, .ref (G.1 1))] (by decide) (Nat.le_of_ble_eq_true rfl) rfl ?_
  intro p e s m below meth cd F hr hlk ls H locs hl hh
  exact w_X4_fillGrid F hr hlk hf hh hl
def b_X4_rowWith_2 (z : Sto)  (ag2 : Int32 → Int32 → Option (Int32)) (x1 : Int32) (x3 : Int32) : Option (Int32) := if (z.1 95 2) ≤ x3 then (some (-1 : Int32)) else (bd (rdL z 98 108 ((x3 * (9 : Int32)) + x1)) fun t2 => if (lg_cmp t2 (0 : Int64)) = 0 then (lt (x3 + (1 : Int32)) fun x3_4 => ag2 x1 x3_4) else (some x3))
def f_X4_rowWith (x1 : Int32) (x2 : Int32) (z : Sto) : Option (Int32) := wl2 (b_X4_rowWith_2 z) fu x1 x2
set_option maxRecDepth 100000 in
set_option maxHeartbeats 4000000 in
theorem w_X4_rowWith_2 {z : Sto}  {Z : Int32} (F : Fx rC p s m args cd cX4_rowWith 4 RX4 G) (hr : meth.sig.returnType = (some .int)) (hlk : meth.locks = false)  : ∀ (n : Nat), ∀ (x1 : Int32) (x3 : Int32), wl2 (b_X4_rowWith_2 z) n x1 x3 = some Z → ∀ {H : Heap} {locs : List Loc} {ls : Array Slot}, Hh rC G z s H locs → lv_has ls 4 [(0, .ref (G.1 95)), (1, .int x1), (3, .int x3)] → W p l e rmX4_rowWith s m args below meth cd H locs 0 0 (MQ below (QI rC G Z z) args s 0 0 (Am rC G)) (F0 m 2 ls []) := by
  have hx := F.1
  have hb := F.2.1
  intro n
  induction n with
  | zero =>
    intro x1 x3 hf
    exact absurd hf (by intro h; cases h)
  | succ n ih =>
    intro x1 x3 hf  H locs ls hh hl
    replace hf : b_X4_rowWith_2 z (wl2 (b_X4_rowWith_2 z) n) x1 x3 = some Z := hf
    unfold b_X4_rowWith_2 at hf
    refine lv_iload_n hx hb dX4_rowWith_2 rfl (lv_at hl 2 rfl) ?_
    refine lv_aload_n hx hb dX4_rowWith_3 rfl (lv_at hl 0 rfl) ?_
    refine r_X4_39 F hh in_95 sh_95 dX4_rowWith_4 ?_
    refine lv_icmp_ge (tgt := 34) hx hb dX4_rowWith_7 (by decide) (fun c1 => ?_) (fun c1 => ?_)
    · replace hf := itp c1 hf
      refine lv_iconst (v := -1) hx hb dX4_rowWith_34 (by decide) ?_
      exact g_iret F hr hlk hh (Option.some.inj hf) rfl dX4_rowWith_35
    · replace hf := itn c1 hf
      refine lv_aload_n hx hb dX4_rowWith_10 rfl (lv_at hl 0 rfl) ?_
      refine r_X4_22 (b' := 98) F hh in_95 sh_95 rfl dX4_rowWith_11 ?_
      refine lv_iload_n hx hb dX4_rowWith_14 rfl (lv_at hl 2 rfl) ?_
      refine lv_bipush (v := 9) hx hb dX4_rowWith_15 (by decide) ?_
      refine lv_imul hx hb dX4_rowWith_17 ?_
      refine lv_iload_n hx hb dX4_rowWith_18 rfl (lv_at hl 1 rfl) ?_
      refine lv_iadd hx hb dX4_rowWith_19 ?_
      obtain ⟨t2, ht2, hf⟩ := ob hf
      refine g_lald F hh in_98 sh_98 ht2 dX4_rowWith_20 ?_
      refine lv_lconst (v := 0) hx hb dX4_rowWith_21 (by decide) ?_
      refine W.lcmp hx hb dX4_rowWith_22 ?_
      refine lv_if_eq (tgt := 28) hx hb dX4_rowWith_23 (by decide) (fun c3 => ?_) (fun c3 => ?_)
      · replace hf := itp c3 hf
        obtain ⟨x3_4, ex3_4⟩ : ∃ y : Int32, y = x3 + (1 : Int32) := ⟨_, rfl⟩
        replace hf := lt_e ex3_4 hf
        refine lv_iinc (v := x3_4) (lv' := [(3, .int x3_4), (0, .ref (G.1 95)), (1, .int x1)]) hx hb dX4_rowWith_28 hl (k := 2) rfl (by rw [ex3_4]; rfl) (by decide) rfl (fun ls hl => ?_)
        refine lv_goto (tgt := 2) hx hb dX4_rowWith_31 (by decide) ?_
        exact ih _ _ hf  hh (lv_sub hl [1, 2, 0] rfl)
      · replace hf := itn c3 hf
        refine lv_iload_n hx hb dX4_rowWith_26 rfl (lv_at hl 2 rfl) ?_
        exact g_iret F hr hlk hh (Option.some.inj hf) rfl dX4_rowWith_27
set_option maxRecDepth 100000 in
set_option maxHeartbeats 4000000 in
theorem w_X4_rowWith {Z : Int32} (F : Fx rC p s m args cd cX4_rowWith 4 RX4 G) (hr : meth.sig.returnType = (some .int)) (hlk : meth.locks = false) {x1 : Int32} {x2 : Int32} {z : Sto} {H : Heap} {locs : List Loc} {ls : Array Slot} (hf : f_X4_rowWith x1 x2 z = some Z) (hh : Hh rC G z s H locs) (hl : lv_has ls 4 [(0, .ref (G.1 95)), (1, .int x1), (2, .int x2)]) : W p l e rmX4_rowWith s m args below meth cd H locs 0 0 (MQ below (QI rC G Z z) args s 0 0 (Am rC G)) (F0 m 0 ls []) := by
  have hx := F.1
  have hb := F.2.1
  unfold f_X4_rowWith at hf
  refine lv_iload_n hx hb dX4_rowWith_0 rfl (lv_at hl 2 rfl) ?_
  refine lv_istore_n (lv' := [(3, .int x2), (0, .ref (G.1 95)), (1, .int x1), (2, .int x2)]) hx hb dX4_rowWith_1 rfl hl (by decide) rfl (fun ls hl => ?_)
  exact w_X4_rowWith_2 F hr hlk fu _ _ hf  hh (lv_sub hl [1, 2, 0] rfl)
theorem c_X4_rowWith {l : Launch} {G : Gm} {x1 : Int32} {x2 : Int32} {z : Sto} {Z : Int32} (hf : f_X4_rowWith x1 x2 z = some Z) : Met l yX4_rowWith (Cond.code yX4_rowWith cX4_rowWith 4 (some .int) :: TT) rmX4_rowWith (va_Pc [.ref (G.1 95), .int x1, .int x2] (GS rC G z)) (QI rC G Z z) 0 0 (Am rC G) := by
  refine g_met [(0, .ref (G.1 95)), (1, .int x1), (2, .int x2)] (by decide) (Nat.le_of_ble_eq_true rfl) rfl ?_
  intro p e s m below meth cd F hr hlk ls H locs hl hh
  exact w_X4_rowWith F hr hlk hf hh hl
def b_X4_swapRows_2  (ag2 : Int32 → Int32 → Int32 → Sto → Option (Sto)) (x1 : Int32) (x2 : Int32) (x3 : Int32) (z : Sto) : Option (Sto) := if (z.1 95 1) ≤ x3 then (some z) else (bd (rdL z 98 108 ((x1 * (9 : Int32)) + x3)) fun t2 => bd (rdL z 98 108 ((x2 * (9 : Int32)) + x3)) fun t3 => bd (wrL z 98 108 ((x1 * (9 : Int32)) + x3) t3) fun z4 => bd (wrL z4 98 108 ((x2 * (9 : Int32)) + x3) t2) fun z5 => lt (x3 + (1 : Int32)) fun x3_6 => ag2 x1 x2 x3_6 z5)
def f_X4_swapRows (x1 : Int32) (x2 : Int32) (z : Sto) : Option (Sto) := wl4 (b_X4_swapRows_2) fu x1 x2 (0 : Int32) z
set_option maxRecDepth 100000 in
set_option maxHeartbeats 4000000 in
theorem w_X4_swapRows_2  {Z : Sto} (F : Fx rC p s m args cd cX4_swapRows 6 RX4 G) (hr : meth.sig.returnType = none) (hlk : meth.locks = false)  : ∀ (n : Nat), ∀ (x1 : Int32) (x2 : Int32) (x3 : Int32) (z : Sto), wl4 (b_X4_swapRows_2) n x1 x2 x3 z = some Z → ∀ {H : Heap} {locs : List Loc} {ls : Array Slot}, Hh rC G z s H locs → lv_has ls 6 [(0, .ref (G.1 95)), (1, .int x1), (2, .int x2), (3, .int x3)] → W p l e rmX4_swapRows s m args below meth cd H locs 0 0 (MQ below (QV rC G Z) args s 0 0 (Am rC G)) (F0 m 2 ls []) := by
  have hx := F.1
  have hb := F.2.1
  intro n
  induction n with
  | zero =>
    intro x1 x2 x3 z hf
    exact absurd hf (by intro h; cases h)
  | succ n ih =>
    intro x1 x2 x3 z hf  H locs ls hh hl
    replace hf : b_X4_swapRows_2 (wl4 (b_X4_swapRows_2) n) x1 x2 x3 z = some Z := hf
    unfold b_X4_swapRows_2 at hf
    refine lv_iload_n hx hb dX4_swapRows_2 rfl (lv_at hl 3 rfl) ?_
    refine lv_aload_n hx hb dX4_swapRows_3 rfl (lv_at hl 0 rfl) ?_
    refine r_X4_35 F hh in_95 sh_95 dX4_swapRows_4 ?_
    refine lv_icmp_ge (tgt := 64) hx hb dX4_swapRows_7 (by decide) (fun c1 => ?_) (fun c1 => ?_)
    · replace hf := itp c1 hf
      exact g_vret F hr hlk hh (Option.some.inj hf) dX4_swapRows_64
    · replace hf := itn c1 hf
      refine lv_aload_n hx hb dX4_swapRows_10 rfl (lv_at hl 0 rfl) ?_
      refine r_X4_22 (b' := 98) F hh in_95 sh_95 rfl dX4_swapRows_11 ?_
      refine lv_iload_n hx hb dX4_swapRows_14 rfl (lv_at hl 1 rfl) ?_
      refine lv_bipush (v := 9) hx hb dX4_swapRows_15 (by decide) ?_
      refine lv_imul hx hb dX4_swapRows_17 ?_
      refine lv_iload_n hx hb dX4_swapRows_18 rfl (lv_at hl 3 rfl) ?_
      refine lv_iadd hx hb dX4_swapRows_19 ?_
      obtain ⟨t2, ht2, hf⟩ := ob hf
      refine g_lald F hh in_98 sh_98 ht2 dX4_swapRows_20 ?_
      refine lv_lstore (lv' := [(4, .long t2), (0, .ref (G.1 95)), (1, .int x1), (2, .int x2), (3, .int x3)]) hx hb dX4_swapRows_21 hl (by decide) rfl (fun ls hl => ?_)
      refine lv_aload_n hx hb dX4_swapRows_23 rfl (lv_at hl 1 rfl) ?_
      refine r_X4_22 (b' := 98) F hh in_95 sh_95 rfl dX4_swapRows_24 ?_
      refine lv_iload_n hx hb dX4_swapRows_27 rfl (lv_at hl 2 rfl) ?_
      refine lv_bipush (v := 9) hx hb dX4_swapRows_28 (by decide) ?_
      refine lv_imul hx hb dX4_swapRows_30 ?_
      refine lv_iload_n hx hb dX4_swapRows_31 rfl (lv_at hl 4 rfl) ?_
      refine lv_iadd hx hb dX4_swapRows_32 ?_
      refine lv_aload_n hx hb dX4_swapRows_33 rfl (lv_at hl 1 rfl) ?_
      refine r_X4_22 (b' := 98) F hh in_95 sh_95 rfl dX4_swapRows_34 ?_
      refine lv_iload_n hx hb dX4_swapRows_37 rfl (lv_at hl 3 rfl) ?_
      refine lv_bipush (v := 9) hx hb dX4_swapRows_38 (by decide) ?_
      refine lv_imul hx hb dX4_swapRows_40 ?_
      refine lv_iload_n hx hb dX4_swapRows_41 rfl (lv_at hl 4 rfl) ?_
      refine lv_iadd hx hb dX4_swapRows_42 ?_
      obtain ⟨t3, ht3, hf⟩ := ob hf
      refine g_lald F hh in_98 sh_98 ht3 dX4_swapRows_43 ?_
      obtain ⟨z4, hz4, hf⟩ := ob hf
      refine g_last F hh in_98 sh_98 hz4 dX4_swapRows_44 (fun H locs hh => ?_)
      refine lv_aload_n hx hb dX4_swapRows_45 rfl (lv_at hl 1 rfl) ?_
      refine r_X4_22 (b' := 98) F hh in_95 sh_95 rfl dX4_swapRows_46 ?_
      refine lv_iload_n hx hb dX4_swapRows_49 rfl (lv_at hl 3 rfl) ?_
      refine lv_bipush (v := 9) hx hb dX4_swapRows_50 (by decide) ?_
      refine lv_imul hx hb dX4_swapRows_52 ?_
      refine lv_iload_n hx hb dX4_swapRows_53 rfl (lv_at hl 4 rfl) ?_
      refine lv_iadd hx hb dX4_swapRows_54 ?_
      refine lv_lload hx hb dX4_swapRows_55 (lv_at hl 0 rfl) ?_
      obtain ⟨z5, hz5, hf⟩ := ob hf
      refine g_last F hh in_98 sh_98 hz5 dX4_swapRows_57 (fun H locs hh => ?_)
      obtain ⟨x3_6, ex3_6⟩ : ∃ y : Int32, y = x3 + (1 : Int32) := ⟨_, rfl⟩
      replace hf := lt_e ex3_6 hf
      refine lv_iinc (v := x3_6) (lv' := [(3, .int x3_6), (4, .long t2), (0, .ref (G.1 95)), (1, .int x1), (2, .int x2)]) hx hb dX4_swapRows_58 hl (k := 4) rfl (by rw [ex3_6]; rfl) (by decide) rfl (fun ls hl => ?_)
      refine lv_goto (tgt := 2) hx hb dX4_swapRows_61 (by decide) ?_
      exact ih _ _ _ _ hf  hh (lv_sub hl [2, 3, 4, 0] rfl)
set_option maxRecDepth 100000 in
set_option maxHeartbeats 4000000 in
theorem w_X4_swapRows {Z : Sto} (F : Fx rC p s m args cd cX4_swapRows 6 RX4 G) (hr : meth.sig.returnType = none) (hlk : meth.locks = false) {x1 : Int32} {x2 : Int32} {z : Sto} {H : Heap} {locs : List Loc} {ls : Array Slot} (hf : f_X4_swapRows x1 x2 z = some Z) (hh : Hh rC G z s H locs) (hl : lv_has ls 6 [(0, .ref (G.1 95)), (1, .int x1), (2, .int x2)]) : W p l e rmX4_swapRows s m args below meth cd H locs 0 0 (MQ below (QV rC G Z) args s 0 0 (Am rC G)) (F0 m 0 ls []) := by
  have hx := F.1
  have hb := F.2.1
  unfold f_X4_swapRows at hf
  refine lv_iconst (v := 0) hx hb dX4_swapRows_0 (by decide) ?_
  refine lv_istore_n (lv' := [(3, .int (0 : Int32)), (0, .ref (G.1 95)), (1, .int x1), (2, .int x2)]) hx hb dX4_swapRows_1 rfl hl (by decide) rfl (fun ls hl => ?_)
  exact w_X4_swapRows_2 F hr hlk fu _ _ _ _ hf  hh (lv_sub hl [1, 2, 3, 0] rfl)
theorem c_X4_swapRows {l : Launch} {G : Gm} {x1 : Int32} {x2 : Int32} {z : Sto} {Z : Sto} (hf : f_X4_swapRows x1 x2 z = some Z) : Met l yX4_swapRows (Cond.code yX4_swapRows cX4_swapRows 6 none :: TT) rmX4_swapRows (va_Pc [.ref (G.1 95), .int x1, .int x2] (GS rC G z)) (QV rC G Z) 0 0 (Am rC G) := by
  refine g_met [(0, .ref (G.1 95)), (1, .int x1), (2, .int x2)] (by decide) (Nat.le_of_ble_eq_true rfl) rfl ?_
  intro p e s m below meth cd F hr hlk ls H locs hl hh
  exact w_X4_swapRows F hr hlk hf hh hl
def b_X4_clearColumn_41 (ag15 : Int32 → Int32 → Int64 → Int32 → Sto → Option (Sto)) (ag41 : Int32 → Int32 → Int64 → Int32 → Int64 → Int32 → Sto → Option (Sto)) (x1 : Int32) (x2 : Int32) (x3 : Int64) (x5 : Int32) (x6 : Int64) (x8 : Int32) (z : Sto) : Option (Sto) := if (z.1 95 1) ≤ x8 then (lt (x5 + (1 : Int32)) fun x5_5 => ag15 x1 x2 x3 x5_5 z) else (if x5 = x2 then (lt (x5 + (1 : Int32)) fun x5_7 => ag15 x1 x2 x3 x5_7 z) else (if (lg_cmp (z.2 95 3) (0 : Int64)) = 0 then (lt (x5 + (1 : Int32)) fun x5_9 => ag15 x1 x2 x3 x5_9 z) else (lt (((x5 * (9 : Int32)) + x8)) fun x9_10 => bd (rdL z 98 108 x9_10) fun t11 => bd (rdL z 98 108 ((x2 * (9 : Int32)) + x8)) fun t12 => bd (dvL ((x3 * t11) - (x6 * t12)) (z.2 95 3)) fun t13 => bd (wrL z 98 108 x9_10 t13) fun z14 => lt (x8 + (1 : Int32)) fun x8_15 => ag41 x1 x2 x3 x5 x6 x8_15 z14)))
def b_X4_clearColumn_15  (ag15 : Int32 → Int32 → Int64 → Int32 → Sto → Option (Sto)) (x1 : Int32) (x2 : Int32) (x3 : Int64) (x5 : Int32) (z : Sto) : Option (Sto) := if (z.1 95 2) ≤ x5 then (some z) else (bd (rdL z 98 108 ((x5 * (9 : Int32)) + x1)) fun t3 => wl7 (b_X4_clearColumn_41 ag15) fu x1 x2 x3 x5 t3 (0 : Int32) z)
def f_X4_clearColumn (x1 : Int32) (x2 : Int32) (z : Sto) : Option (Sto) := bd (rdL z 98 108 ((x2 * (9 : Int32)) + x1)) fun t1 => wl5 (b_X4_clearColumn_15) fu x1 x2 t1 (0 : Int32) z
set_option maxRecDepth 100000 in
set_option maxHeartbeats 4000000 in
theorem w_X4_clearColumn_41 {ag15 : Int32 → Int32 → Int64 → Int32 → Sto → Option (Sto)} {Z : Sto} (F : Fx rC p s m args cd cX4_clearColumn 10 RX4 G) (hr : meth.sig.returnType = none) (hlk : meth.locks = false) (hag15 : ∀ (x1 : Int32) (x2 : Int32) (x3 : Int64) (x5 : Int32) (z : Sto), ag15 x1 x2 x3 x5 z = some Z → ∀ {H : Heap} {locs : List Loc} {ls : Array Slot}, Hh rC G z s H locs → lv_has ls 10 [(0, .ref (G.1 95)), (1, .int x1), (2, .int x2), (3, .long x3), (5, .int x5)] → W p l e rmX4_clearColumn s m args below meth cd H locs 0 0 (MQ below (QV rC G Z) args s 0 0 (Am rC G)) (F0 m 15 ls [])) : ∀ (n : Nat), ∀ (x1 : Int32) (x2 : Int32) (x3 : Int64) (x5 : Int32) (x6 : Int64) (x8 : Int32) (z : Sto), wl7 (b_X4_clearColumn_41 ag15) n x1 x2 x3 x5 x6 x8 z = some Z → ∀ {H : Heap} {locs : List Loc} {ls : Array Slot}, Hh rC G z s H locs → lv_has ls 10 [(0, .ref (G.1 95)), (1, .int x1), (2, .int x2), (3, .long x3), (5, .int x5), (6, .long x6), (8, .int x8)] → W p l e rmX4_clearColumn s m args below meth cd H locs 0 0 (MQ below (QV rC G Z) args s 0 0 (Am rC G)) (F0 m 41 ls []) := by
  have hx := F.1
  have hb := F.2.1
  intro n
  induction n with
  | zero =>
    intro x1 x2 x3 x5 x6 x8 z hf
    exact absurd hf (by intro h; cases h)
  | succ n ih =>
    intro x1 x2 x3 x5 x6 x8 z hf  H locs ls hh hl
    replace hf : b_X4_clearColumn_41 ag15 (wl7 (b_X4_clearColumn_41 ag15) n) x1 x2 x3 x5 x6 x8 z = some Z := hf
    unfold b_X4_clearColumn_41 at hf
    refine lv_iload hx hb dX4_clearColumn_41 (lv_at hl 6 rfl) ?_
    refine lv_aload_n hx hb dX4_clearColumn_43 rfl (lv_at hl 0 rfl) ?_
    refine r_X4_35 F hh in_95 sh_95 dX4_clearColumn_44 ?_
    refine lv_icmp_ge (tgt := 118) hx hb dX4_clearColumn_47 (by decide) (fun c4 => ?_) (fun c4 => ?_)
    · replace hf := itp c4 hf
      obtain ⟨x5_5, ex5_5⟩ : ∃ y : Int32, y = x5 + (1 : Int32) := ⟨_, rfl⟩
      replace hf := lt_e ex5_5 hf
      refine lv_iinc (v := x5_5) (lv' := [(5, .int x5_5), (0, .ref (G.1 95)), (1, .int x1), (2, .int x2), (3, .long x3), (6, .long x6), (8, .int x8)]) hx hb dX4_clearColumn_118 hl (k := 4) rfl (by rw [ex5_5]; rfl) (by decide) rfl (fun ls hl => ?_)
      refine lv_goto (tgt := 15) hx hb dX4_clearColumn_121 (by decide) ?_
      exact hag15 _ _ _ _ _ hf  hh (lv_sub hl [1, 2, 3, 4, 0] rfl)
    · replace hf := itn c4 hf
      refine lv_iload hx hb dX4_clearColumn_50 (lv_at hl 4 rfl) ?_
      refine lv_iload_n hx hb dX4_clearColumn_52 rfl (lv_at hl 2 rfl) ?_
      refine lv_icmp_eq (tgt := 118) hx hb dX4_clearColumn_53 (by decide) (fun c6 => ?_) (fun c6 => ?_)
      · replace hf := itp c6 hf
        obtain ⟨x5_7, ex5_7⟩ : ∃ y : Int32, y = x5 + (1 : Int32) := ⟨_, rfl⟩
        replace hf := lt_e ex5_7 hf
        refine lv_iinc (v := x5_7) (lv' := [(5, .int x5_7), (0, .ref (G.1 95)), (1, .int x1), (2, .int x2), (3, .long x3), (6, .long x6), (8, .int x8)]) hx hb dX4_clearColumn_118 hl (k := 4) rfl (by rw [ex5_7]; rfl) (by decide) rfl (fun ls hl => ?_)
        refine lv_goto (tgt := 15) hx hb dX4_clearColumn_121 (by decide) ?_
        exact hag15 _ _ _ _ _ hf  hh (lv_sub hl [1, 2, 3, 4, 0] rfl)
      · replace hf := itn c6 hf
        refine lv_aload_n hx hb dX4_clearColumn_56 rfl (lv_at hl 0 rfl) ?_
        refine r_X4_9 F hh in_95 sh_95 dX4_clearColumn_57 ?_
        refine lv_lconst (v := 0) hx hb dX4_clearColumn_60 (by decide) ?_
        refine W.lcmp hx hb dX4_clearColumn_61 ?_
        refine lv_if_eq (tgt := 118) hx hb dX4_clearColumn_62 (by decide) (fun c8 => ?_) (fun c8 => ?_)
        · replace hf := itp c8 hf
          obtain ⟨x5_9, ex5_9⟩ : ∃ y : Int32, y = x5 + (1 : Int32) := ⟨_, rfl⟩
          replace hf := lt_e ex5_9 hf
          refine lv_iinc (v := x5_9) (lv' := [(5, .int x5_9), (0, .ref (G.1 95)), (1, .int x1), (2, .int x2), (3, .long x3), (6, .long x6), (8, .int x8)]) hx hb dX4_clearColumn_118 hl (k := 4) rfl (by rw [ex5_9]; rfl) (by decide) rfl (fun ls hl => ?_)
          refine lv_goto (tgt := 15) hx hb dX4_clearColumn_121 (by decide) ?_
          exact hag15 _ _ _ _ _ hf  hh (lv_sub hl [1, 2, 3, 4, 0] rfl)
        · replace hf := itn c8 hf
          refine lv_iload hx hb dX4_clearColumn_65 (lv_at hl 4 rfl) ?_
          refine lv_bipush (v := 9) hx hb dX4_clearColumn_67 (by decide) ?_
          refine lv_imul hx hb dX4_clearColumn_69 ?_
          refine lv_iload hx hb dX4_clearColumn_70 (lv_at hl 6 rfl) ?_
          refine lv_iadd hx hb dX4_clearColumn_72 ?_
          refine lv_topi (fun x9_10 ex9_10 => ?_)
          replace hf := lt_e ex9_10 hf
          refine lv_istore (lv' := [(9, .int x9_10), (0, .ref (G.1 95)), (1, .int x1), (2, .int x2), (3, .long x3), (5, .int x5), (6, .long x6), (8, .int x8)]) hx hb dX4_clearColumn_73 hl (by decide) rfl (fun ls hl => ?_)
          refine lv_aload_n hx hb dX4_clearColumn_75 rfl (lv_at hl 1 rfl) ?_
          refine r_X4_22 (b' := 98) F hh in_95 sh_95 rfl dX4_clearColumn_76 ?_
          refine lv_iload hx hb dX4_clearColumn_79 (lv_at hl 0 rfl) ?_
          refine lv_lload_n hx hb dX4_clearColumn_81 rfl (lv_at hl 4 rfl) ?_
          refine lv_aload_n hx hb dX4_clearColumn_82 rfl (lv_at hl 1 rfl) ?_
          refine r_X4_22 (b' := 98) F hh in_95 sh_95 rfl dX4_clearColumn_83 ?_
          refine lv_iload hx hb dX4_clearColumn_86 (lv_at hl 0 rfl) ?_
          obtain ⟨t11, ht11, hf⟩ := ob hf
          refine g_lald F hh in_98 sh_98 ht11 dX4_clearColumn_88 ?_
          refine lv_lmul hx hb dX4_clearColumn_89 ?_
          refine lv_lload hx hb dX4_clearColumn_90 (lv_at hl 6 rfl) ?_
          refine lv_aload_n hx hb dX4_clearColumn_92 rfl (lv_at hl 1 rfl) ?_
          refine r_X4_22 (b' := 98) F hh in_95 sh_95 rfl dX4_clearColumn_93 ?_
          refine lv_iload_n hx hb dX4_clearColumn_96 rfl (lv_at hl 3 rfl) ?_
          refine lv_bipush (v := 9) hx hb dX4_clearColumn_97 (by decide) ?_
          refine lv_imul hx hb dX4_clearColumn_99 ?_
          refine lv_iload hx hb dX4_clearColumn_100 (lv_at hl 7 rfl) ?_
          refine lv_iadd hx hb dX4_clearColumn_102 ?_
          obtain ⟨t12, ht12, hf⟩ := ob hf
          refine g_lald F hh in_98 sh_98 ht12 dX4_clearColumn_103 ?_
          refine lv_lmul hx hb dX4_clearColumn_104 ?_
          refine lv_lsub hx hb dX4_clearColumn_105 ?_
          refine lv_aload_n hx hb dX4_clearColumn_106 rfl (lv_at hl 1 rfl) ?_
          refine r_X4_9 F hh in_95 sh_95 dX4_clearColumn_107 ?_
          obtain ⟨t13, ht13, hf⟩ := ob hf
          refine g_ldiv hx hb ht13 dX4_clearColumn_110 ?_
          obtain ⟨z14, hz14, hf⟩ := ob hf
          refine g_last F hh in_98 sh_98 hz14 dX4_clearColumn_111 (fun H locs hh => ?_)
          obtain ⟨x8_15, ex8_15⟩ : ∃ y : Int32, y = x8 + (1 : Int32) := ⟨_, rfl⟩
          replace hf := lt_e ex8_15 hf
          refine lv_iinc (v := x8_15) (lv' := [(8, .int x8_15), (9, .int x9_10), (0, .ref (G.1 95)), (1, .int x1), (2, .int x2), (3, .long x3), (5, .int x5), (6, .long x6)]) hx hb dX4_clearColumn_112 hl (k := 7) rfl (by rw [ex8_15]; rfl) (by decide) rfl (fun ls hl => ?_)
          refine lv_goto (tgt := 41) hx hb dX4_clearColumn_115 (by decide) ?_
          exact ih _ _ _ _ _ _ _ hf  hh (lv_sub hl [2, 3, 4, 5, 6, 7, 0] rfl)
set_option maxRecDepth 100000 in
set_option maxHeartbeats 4000000 in
theorem w_X4_clearColumn_15  {Z : Sto} (F : Fx rC p s m args cd cX4_clearColumn 10 RX4 G) (hr : meth.sig.returnType = none) (hlk : meth.locks = false)  : ∀ (n : Nat), ∀ (x1 : Int32) (x2 : Int32) (x3 : Int64) (x5 : Int32) (z : Sto), wl5 (b_X4_clearColumn_15) n x1 x2 x3 x5 z = some Z → ∀ {H : Heap} {locs : List Loc} {ls : Array Slot}, Hh rC G z s H locs → lv_has ls 10 [(0, .ref (G.1 95)), (1, .int x1), (2, .int x2), (3, .long x3), (5, .int x5)] → W p l e rmX4_clearColumn s m args below meth cd H locs 0 0 (MQ below (QV rC G Z) args s 0 0 (Am rC G)) (F0 m 15 ls []) := by
  have hx := F.1
  have hb := F.2.1
  intro n
  induction n with
  | zero =>
    intro x1 x2 x3 x5 z hf
    exact absurd hf (by intro h; cases h)
  | succ n ih =>
    intro x1 x2 x3 x5 z hf  H locs ls hh hl
    replace hf : b_X4_clearColumn_15 (wl5 (b_X4_clearColumn_15) n) x1 x2 x3 x5 z = some Z := hf
    unfold b_X4_clearColumn_15 at hf
    refine lv_iload hx hb dX4_clearColumn_15 (lv_at hl 4 rfl) ?_
    refine lv_aload_n hx hb dX4_clearColumn_17 rfl (lv_at hl 0 rfl) ?_
    refine r_X4_39 F hh in_95 sh_95 dX4_clearColumn_18 ?_
    refine lv_icmp_ge (tgt := 124) hx hb dX4_clearColumn_21 (by decide) (fun c2 => ?_) (fun c2 => ?_)
    · replace hf := itp c2 hf
      exact g_vret F hr hlk hh (Option.some.inj hf) dX4_clearColumn_124
    · replace hf := itn c2 hf
      refine lv_aload_n hx hb dX4_clearColumn_24 rfl (lv_at hl 0 rfl) ?_
      refine r_X4_22 (b' := 98) F hh in_95 sh_95 rfl dX4_clearColumn_25 ?_
      refine lv_iload hx hb dX4_clearColumn_28 (lv_at hl 4 rfl) ?_
      refine lv_bipush (v := 9) hx hb dX4_clearColumn_30 (by decide) ?_
      refine lv_imul hx hb dX4_clearColumn_32 ?_
      refine lv_iload_n hx hb dX4_clearColumn_33 rfl (lv_at hl 1 rfl) ?_
      refine lv_iadd hx hb dX4_clearColumn_34 ?_
      obtain ⟨t3, ht3, hf⟩ := ob hf
      refine g_lald F hh in_98 sh_98 ht3 dX4_clearColumn_35 ?_
      refine lv_lstore (lv' := [(6, .long t3), (0, .ref (G.1 95)), (1, .int x1), (2, .int x2), (3, .long x3), (5, .int x5)]) hx hb dX4_clearColumn_36 hl (by decide) rfl (fun ls hl => ?_)
      refine lv_iconst (v := 0) hx hb dX4_clearColumn_38 (by decide) ?_
      refine lv_istore (lv' := [(8, .int (0 : Int32)), (6, .long t3), (0, .ref (G.1 95)), (1, .int x1), (2, .int x2), (3, .long x3), (5, .int x5)]) hx hb dX4_clearColumn_39 hl (by decide) rfl (fun ls hl => ?_)
      exact w_X4_clearColumn_41 F hr hlk ih fu _ _ _ _ _ _ _ hf  hh (lv_sub hl [2, 3, 4, 5, 6, 1, 0] rfl)
set_option maxRecDepth 100000 in
set_option maxHeartbeats 4000000 in
theorem w_X4_clearColumn {Z : Sto} (F : Fx rC p s m args cd cX4_clearColumn 10 RX4 G) (hr : meth.sig.returnType = none) (hlk : meth.locks = false) {x1 : Int32} {x2 : Int32} {z : Sto} {H : Heap} {locs : List Loc} {ls : Array Slot} (hf : f_X4_clearColumn x1 x2 z = some Z) (hh : Hh rC G z s H locs) (hl : lv_has ls 10 [(0, .ref (G.1 95)), (1, .int x1), (2, .int x2)]) : W p l e rmX4_clearColumn s m args below meth cd H locs 0 0 (MQ below (QV rC G Z) args s 0 0 (Am rC G)) (F0 m 0 ls []) := by
  have hx := F.1
  have hb := F.2.1
  unfold f_X4_clearColumn at hf
  refine lv_aload_n hx hb dX4_clearColumn_0 rfl (lv_at hl 0 rfl) ?_
  refine r_X4_22 (b' := 98) F hh in_95 sh_95 rfl dX4_clearColumn_1 ?_
  refine lv_iload_n hx hb dX4_clearColumn_4 rfl (lv_at hl 2 rfl) ?_
  refine lv_bipush (v := 9) hx hb dX4_clearColumn_5 (by decide) ?_
  refine lv_imul hx hb dX4_clearColumn_7 ?_
  refine lv_iload_n hx hb dX4_clearColumn_8 rfl (lv_at hl 1 rfl) ?_
  refine lv_iadd hx hb dX4_clearColumn_9 ?_
  obtain ⟨t1, ht1, hf⟩ := ob hf
  refine g_lald F hh in_98 sh_98 ht1 dX4_clearColumn_10 ?_
  refine lv_lstore_n (lv' := [(3, .long t1), (0, .ref (G.1 95)), (1, .int x1), (2, .int x2)]) hx hb dX4_clearColumn_11 rfl hl (by decide) rfl (fun ls hl => ?_)
  refine lv_iconst (v := 0) hx hb dX4_clearColumn_12 (by decide) ?_
  refine lv_istore (lv' := [(5, .int (0 : Int32)), (3, .long t1), (0, .ref (G.1 95)), (1, .int x1), (2, .int x2)]) hx hb dX4_clearColumn_13 hl (by decide) rfl (fun ls hl => ?_)
  exact w_X4_clearColumn_15 F hr hlk fu _ _ _ _ _ hf  hh (lv_sub hl [2, 3, 4, 1, 0] rfl)
theorem c_X4_clearColumn {l : Launch} {G : Gm} {x1 : Int32} {x2 : Int32} {z : Sto} {Z : Sto} (hf : f_X4_clearColumn x1 x2 z = some Z) : Met l yX4_clearColumn (Cond.code yX4_clearColumn cX4_clearColumn 10 none :: TT) rmX4_clearColumn (va_Pc [.ref (G.1 95), .int x1, .int x2] (GS rC G z)) (QV rC G Z) 0 0 (Am rC G) := by
  refine g_met [(0, .ref (G.1 95)), (1, .int x1), (2, .int x2)] (by decide) (Nat.le_of_ble_eq_true rfl) rfl ?_
  intro p e s m below meth cd F hr hlk ls H locs hl hh
  exact w_X4_clearColumn F hr hlk hf hh hl
def b_X4_reduce_14  (ag14 : Int32 → Int32 → Sto → Option (Sto)) (x1 : Int32) (x2 : Int32) (z : Sto) : Option (Sto) := if x2 < 0 then (some z) else (bd (f_X4_rowWith x2 x1 z) fun t4 => bd (wrI z 99 9 x2 (-1 : Int32)) fun z5 => if t4 < 0 then (lt (x2 + (-1 : Int32)) fun x2_7 => ag14 x1 x2_7 z5) else (bd (f_X4_swapRows t4 x1 z5) fun z9 => bd (f_X4_clearColumn x2 x1 z9) fun z11 => bd (rdL z11 98 108 ((x1 * (9 : Int32)) + x2)) fun t12 => lt (upL z11 95 3 t12) fun z13 => bd (wrI z13 99 9 x2 x1) fun z14 => lt (x1 + (1 : Int32)) fun x1_15 => lt (x2 + (-1 : Int32)) fun x2_16 => ag14 x1_15 x2_16 z14))
def f_X4_reduce  (z : Sto) : Option (Sto) := lt (upL z 95 3 (1 : Int64)) fun z1 => lt (((z1.1 95 1) - (1 : Int32))) fun x2_2 => wl3 (b_X4_reduce_14) fu (0 : Int32) x2_2 z1
set_option maxRecDepth 100000 in
set_option maxHeartbeats 4000000 in
theorem w_X4_reduce_14  {Z : Sto} (F : Fx rC p s m args cd cX4_reduce 4 RX4 G) (hr : meth.sig.returnType = none) (hlk : meth.locks = false)  : ∀ (n : Nat), ∀ (x1 : Int32) (x2 : Int32) (z : Sto), wl3 (b_X4_reduce_14) n x1 x2 z = some Z → ∀ {H : Heap} {locs : List Loc} {ls : Array Slot}, Hh rC G z s H locs → lv_has ls 4 [(0, .ref (G.1 95)), (1, .int x1), (2, .int x2)] → W p l e rmX4_reduce s m args below meth cd H locs 0 0 (MQ below (QV rC G Z) args s 0 0 (Am rC G)) (F0 m 14 ls []) := by
  have hx := F.1
  have hb := F.2.1
  intro n
  induction n with
  | zero =>
    intro x1 x2 z hf
    exact absurd hf (by intro h; cases h)
  | succ n ih =>
    intro x1 x2 z hf  H locs ls hh hl
    replace hf : b_X4_reduce_14 (wl3 (b_X4_reduce_14) n) x1 x2 z = some Z := hf
    unfold b_X4_reduce_14 at hf
    refine lv_iload_n hx hb dX4_reduce_14 rfl (lv_at hl 2 rfl) ?_
    refine lv_if_lt (tgt := 79) hx hb dX4_reduce_15 (by decide) (fun c3 => ?_) (fun c3 => ?_)
    · replace hf := itp c3 hf
      exact g_vret F hr hlk hh (Option.some.inj hf) dX4_reduce_79
    · replace hf := itn c3 hf
      refine lv_aload_n hx hb dX4_reduce_18 rfl (lv_at hl 0 rfl) ?_
      refine lv_iload_n hx hb dX4_reduce_19 rfl (lv_at hl 2 rfl) ?_
      refine lv_iload_n hx hb dX4_reduce_20 rfl (lv_at hl 1 rfl) ?_
      obtain ⟨t4, ht4, hf⟩ := ob hf
      refine m_X4_86 F hh (c_X4_rowWith ht4) in_95 sh_95 rfl hl (Nat.le_of_ble_eq_true rfl) dX4_reduce_21 (fun H locs hh => ?_)
      refine lv_istore_n (lv' := [(3, .int t4), (0, .ref (G.1 95)), (1, .int x1), (2, .int x2)]) hx hb dX4_reduce_24 rfl hl (by decide) rfl (fun ls hl => ?_)
      refine lv_aload_n hx hb dX4_reduce_25 rfl (lv_at hl 1 rfl) ?_
      refine r_X4_25 (b' := 99) F hh in_95 sh_95 rfl dX4_reduce_26 ?_
      refine lv_iload_n hx hb dX4_reduce_29 rfl (lv_at hl 3 rfl) ?_
      refine lv_iconst (v := -1) hx hb dX4_reduce_30 (by decide) ?_
      obtain ⟨z5, hz5, hf⟩ := ob hf
      refine g_iast F hh in_99 sh_99 hz5 dX4_reduce_31 (fun H locs hh => ?_)
      refine lv_iload_n hx hb dX4_reduce_32 rfl (lv_at hl 0 rfl) ?_
      refine lv_if_lt (tgt := 73) hx hb dX4_reduce_33 (by decide) (fun c6 => ?_) (fun c6 => ?_)
      · replace hf := itp c6 hf
        obtain ⟨x2_7, ex2_7⟩ : ∃ y : Int32, y = x2 + (-1 : Int32) := ⟨_, rfl⟩
        replace hf := lt_e ex2_7 hf
        refine lv_iinc (v := x2_7) (lv' := [(2, .int x2_7), (3, .int t4), (0, .ref (G.1 95)), (1, .int x1)]) hx hb dX4_reduce_73 hl (k := 3) rfl (by rw [ex2_7]; rfl) (by decide) rfl (fun ls hl => ?_)
        refine lv_goto (tgt := 14) hx hb dX4_reduce_76 (by decide) ?_
        exact ih _ _ _ hf  hh (lv_sub hl [2, 3, 0] rfl)
      · replace hf := itn c6 hf
        refine lv_aload_n hx hb dX4_reduce_36 rfl (lv_at hl 1 rfl) ?_
        refine lv_iload_n hx hb dX4_reduce_37 rfl (lv_at hl 0 rfl) ?_
        refine lv_iload_n hx hb dX4_reduce_38 rfl (lv_at hl 2 rfl) ?_
        obtain ⟨z9, ht8, hf⟩ := ob hf
        refine m_X4_90 F hh (c_X4_swapRows ht8) in_95 sh_95 rfl hl (Nat.le_of_ble_eq_true rfl) dX4_reduce_39 (fun H locs hh => ?_)
        refine lv_aload_n hx hb dX4_reduce_42 rfl (lv_at hl 1 rfl) ?_
        refine lv_iload_n hx hb dX4_reduce_43 rfl (lv_at hl 3 rfl) ?_
        refine lv_iload_n hx hb dX4_reduce_44 rfl (lv_at hl 2 rfl) ?_
        obtain ⟨z11, ht10, hf⟩ := ob hf
        refine m_X4_94 F hh (c_X4_clearColumn ht10) in_95 sh_95 rfl hl (Nat.le_of_ble_eq_true rfl) dX4_reduce_45 (fun H locs hh => ?_)
        refine lv_aload_n hx hb dX4_reduce_48 rfl (lv_at hl 1 rfl) ?_
        refine lv_aload_n hx hb dX4_reduce_49 rfl (lv_at hl 1 rfl) ?_
        refine r_X4_22 (b' := 98) F hh in_95 sh_95 rfl dX4_reduce_50 ?_
        refine lv_iload_n hx hb dX4_reduce_53 rfl (lv_at hl 2 rfl) ?_
        refine lv_bipush (v := 9) hx hb dX4_reduce_54 (by decide) ?_
        refine lv_imul hx hb dX4_reduce_56 ?_
        refine lv_iload_n hx hb dX4_reduce_57 rfl (lv_at hl 3 rfl) ?_
        refine lv_iadd hx hb dX4_reduce_58 ?_
        obtain ⟨t12, ht12, hf⟩ := ob hf
        refine g_lald F hh in_98 sh_98 ht12 dX4_reduce_59 ?_
        refine s_X4_9 F hh in_95 sh_95 dX4_reduce_60 (fun z13 ez13 H locs hh => ?_)
        replace hf := lt_e ez13 hf
        refine lv_aload_n hx hb dX4_reduce_63 rfl (lv_at hl 1 rfl) ?_
        refine r_X4_25 (b' := 99) F hh in_95 sh_95 rfl dX4_reduce_64 ?_
        refine lv_iload_n hx hb dX4_reduce_67 rfl (lv_at hl 3 rfl) ?_
        refine lv_iload_n hx hb dX4_reduce_68 rfl (lv_at hl 2 rfl) ?_
        obtain ⟨z14, hz14, hf⟩ := ob hf
        refine g_iast F hh in_99 sh_99 hz14 dX4_reduce_69 (fun H locs hh => ?_)
        obtain ⟨x1_15, ex1_15⟩ : ∃ y : Int32, y = x1 + (1 : Int32) := ⟨_, rfl⟩
        replace hf := lt_e ex1_15 hf
        refine lv_iinc (v := x1_15) (lv' := [(1, .int x1_15), (3, .int t4), (0, .ref (G.1 95)), (2, .int x2)]) hx hb dX4_reduce_70 hl (k := 2) rfl (by rw [ex1_15]; rfl) (by decide) rfl (fun ls hl => ?_)
        obtain ⟨x2_16, ex2_16⟩ : ∃ y : Int32, y = x2 + (-1 : Int32) := ⟨_, rfl⟩
        replace hf := lt_e ex2_16 hf
        refine lv_iinc (v := x2_16) (lv' := [(2, .int x2_16), (1, .int x1_15), (3, .int t4), (0, .ref (G.1 95))]) hx hb dX4_reduce_73 hl (k := 3) rfl (by rw [ex2_16]; rfl) (by decide) rfl (fun ls hl => ?_)
        refine lv_goto (tgt := 14) hx hb dX4_reduce_76 (by decide) ?_
        exact ih _ _ _ hf  hh (lv_sub hl [3, 1, 0] rfl)
set_option maxRecDepth 100000 in
set_option maxHeartbeats 4000000 in
theorem w_X4_reduce {Z : Sto} (F : Fx rC p s m args cd cX4_reduce 4 RX4 G) (hr : meth.sig.returnType = none) (hlk : meth.locks = false)  {z : Sto} {H : Heap} {locs : List Loc} {ls : Array Slot} (hf : f_X4_reduce  z = some Z) (hh : Hh rC G z s H locs) (hl : lv_has ls 4 [(0, .ref (G.1 95))]) : W p l e rmX4_reduce s m args below meth cd H locs 0 0 (MQ below (QV rC G Z) args s 0 0 (Am rC G)) (F0 m 0 ls []) := by
  have hx := F.1
  have hb := F.2.1
  unfold f_X4_reduce at hf
  refine lv_iconst (v := 0) hx hb dX4_reduce_0 (by decide) ?_
  refine lv_istore_n (lv' := [(1, .int (0 : Int32)), (0, .ref (G.1 95))]) hx hb dX4_reduce_1 rfl hl (by decide) rfl (fun ls hl => ?_)
  refine lv_aload_n hx hb dX4_reduce_2 rfl (lv_at hl 1 rfl) ?_
  refine lv_lconst (v := 1) hx hb dX4_reduce_3 (by decide) ?_
  refine s_X4_9 F hh in_95 sh_95 dX4_reduce_4 (fun z1 ez1 H locs hh => ?_)
  replace hf := lt_e ez1 hf
  refine lv_aload_n hx hb dX4_reduce_7 rfl (lv_at hl 1 rfl) ?_
  refine r_X4_35 F hh in_95 sh_95 dX4_reduce_8 ?_
  refine lv_iconst (v := 1) hx hb dX4_reduce_11 (by decide) ?_
  refine lv_isub hx hb dX4_reduce_12 ?_
  refine lv_topi (fun x2_2 ex2_2 => ?_)
  replace hf := lt_e ex2_2 hf
  refine lv_istore_n (lv' := [(2, .int x2_2), (1, .int (0 : Int32)), (0, .ref (G.1 95))]) hx hb dX4_reduce_13 rfl hl (by decide) rfl (fun ls hl => ?_)
  exact w_X4_reduce_14 F hr hlk fu _ _ _ hf  hh (lv_sub hl [2, 1, 0] rfl)
theorem c_X4_reduce {l : Launch} {G : Gm}  {z : Sto} {Z : Sto} (hf : f_X4_reduce  z = some Z) : Met l yX4_reduce (Cond.code yX4_reduce cX4_reduce 4 none :: TT) rmX4_reduce (va_Pc [.ref (G.1 95)] (GS rC G z)) (QV rC G Z) 0 0 (Am rC G) := by
  refine g_met [(0, .ref (G.1 95))] (by decide) (Nat.le_of_ble_eq_true rfl) rfl ?_
  intro p e s m below meth cd F hr hlk ls H locs hl hh
  exact w_X4_reduce F hr hlk hf hh hl
def f_X4_isLeading (x1 : Int32) (z : Sto) : Option (Int32) := bd (rdI z 99 9 x1) fun t1 => if 0 ≤ t1 then (some (0 : Int32)) else (some (1 : Int32))
set_option maxRecDepth 100000 in
set_option maxHeartbeats 4000000 in
theorem w_X4_isLeading {Z : Int32} (F : Fx rC p s m args cd cX4_isLeading 2 RX4 G) (hr : meth.sig.returnType = (some .boolean)) (hlk : meth.locks = false) {x1 : Int32} {z : Sto} {H : Heap} {locs : List Loc} {ls : Array Slot} (hf : f_X4_isLeading x1 z = some Z) (hh : Hh rC G z s H locs) (hl : lv_has ls 2 [(0, .ref (G.1 95)), (1, .int x1)]) : W p l e rmX4_isLeading s m args below meth cd H locs 0 0 (MQ below (QI rC G Z z) args s 0 0 (Am rC G)) (F0 m 0 ls []) := by
  have hx := F.1
  have hb := F.2.1
  unfold f_X4_isLeading at hf
  refine lv_aload_n hx hb dX4_isLeading_0 rfl (lv_at hl 0 rfl) ?_
  refine r_X4_25 (b' := 99) F hh in_95 sh_95 rfl dX4_isLeading_1 ?_
  refine lv_iload_n hx hb dX4_isLeading_4 rfl (lv_at hl 1 rfl) ?_
  obtain ⟨t1, ht1, hf⟩ := ob hf
  refine g_iald F hh in_99 sh_99 ht1 dX4_isLeading_5 ?_
  refine lv_if_ge (tgt := 13) hx hb dX4_isLeading_6 (by decide) (fun c2 => ?_) (fun c2 => ?_)
  · replace hf := itp c2 hf
    refine lv_iconst (v := 0) hx hb dX4_isLeading_13 (by decide) ?_
    exact g_zret F hr hlk rfl hh (Option.some.inj hf) rfl dX4_isLeading_14
  · replace hf := itn c2 hf
    refine lv_iconst (v := 1) hx hb dX4_isLeading_9 (by decide) ?_
    refine lv_goto (tgt := 14) hx hb dX4_isLeading_10 (by decide) ?_
    exact g_zret F hr hlk rfl hh (Option.some.inj hf) rfl dX4_isLeading_14
theorem c_X4_isLeading {l : Launch} {G : Gm} {x1 : Int32} {z : Sto} {Z : Int32} (hf : f_X4_isLeading x1 z = some Z) : Met l yX4_isLeading (Cond.code yX4_isLeading cX4_isLeading 2 (some .boolean) :: TT) rmX4_isLeading (va_Pc [.ref (G.1 95), .int x1] (GS rC G z)) (QI rC G Z z) 0 0 (Am rC G) := by
  refine g_met [(0, .ref (G.1 95)), (1, .int x1)] (by decide) (Nat.le_of_ble_eq_true rfl) rfl ?_
  intro p e s m below meth cd F hr hlk ls H locs hl hh
  exact w_X4_isLeading F hr hlk hf hh hl
def f_X4_numberBeside (x1 : Int32) (x2 : Int32) (z : Sto) : Option (Int64) := bd (f_X4_isLeading x2 z) fun t1 => if t1 = 0 then (bd (rdI z 99 9 x2) fun t3 => bd (rdL z 98 108 ((t3 * (9 : Int32)) + x1)) fun t4 => some (-t4)) else (if x2 = x1 then (some (z.2 95 3)) else (some (0 : Int64)))
set_option maxRecDepth 100000 in
set_option maxHeartbeats 4000000 in
theorem w_X4_numberBeside {Z : Int64} (F : Fx rC p s m args cd cX4_numberBeside 3 RX4 G) (hr : meth.sig.returnType = (some .long)) (hlk : meth.locks = false) {x1 : Int32} {x2 : Int32} {z : Sto} {H : Heap} {locs : List Loc} {ls : Array Slot} (hf : f_X4_numberBeside x1 x2 z = some Z) (hh : Hh rC G z s H locs) (hl : lv_has ls 3 [(0, .ref (G.1 95)), (1, .int x1), (2, .int x2)]) : W p l e rmX4_numberBeside s m args below meth cd H locs 0 0 (MQ below (QL rC G Z z) args s 0 0 (Am rC G)) (F0 m 0 ls []) := by
  have hx := F.1
  have hb := F.2.1
  unfold f_X4_numberBeside at hf
  refine lv_aload_n hx hb dX4_numberBeside_0 rfl (lv_at hl 0 rfl) ?_
  refine lv_iload_n hx hb dX4_numberBeside_1 rfl (lv_at hl 2 rfl) ?_
  obtain ⟨t1, ht1, hf⟩ := ob hf
  refine m_X4_97 F hh (c_X4_isLeading ht1) in_95 sh_95 rfl hl (Nat.le_of_ble_eq_true rfl) dX4_numberBeside_2 (fun H locs hh => ?_)
  refine lv_if_eq (tgt := 22) hx hb dX4_numberBeside_5 (by decide) (fun c2 => ?_) (fun c2 => ?_)
  · replace hf := itp c2 hf
    refine lv_aload_n hx hb dX4_numberBeside_22 rfl (lv_at hl 0 rfl) ?_
    refine r_X4_22 (b' := 98) F hh in_95 sh_95 rfl dX4_numberBeside_23 ?_
    refine lv_aload_n hx hb dX4_numberBeside_26 rfl (lv_at hl 0 rfl) ?_
    refine r_X4_25 (b' := 99) F hh in_95 sh_95 rfl dX4_numberBeside_27 ?_
    refine lv_iload_n hx hb dX4_numberBeside_30 rfl (lv_at hl 2 rfl) ?_
    obtain ⟨t3, ht3, hf⟩ := ob hf
    refine g_iald F hh in_99 sh_99 ht3 dX4_numberBeside_31 ?_
    refine lv_bipush (v := 9) hx hb dX4_numberBeside_32 (by decide) ?_
    refine lv_imul hx hb dX4_numberBeside_34 ?_
    refine lv_iload_n hx hb dX4_numberBeside_35 rfl (lv_at hl 1 rfl) ?_
    refine lv_iadd hx hb dX4_numberBeside_36 ?_
    obtain ⟨t4, ht4, hf⟩ := ob hf
    refine g_lald F hh in_98 sh_98 ht4 dX4_numberBeside_37 ?_
    refine lv_lneg hx hb dX4_numberBeside_38 ?_
    exact g_lret F hr hlk hh (Option.some.inj hf) rfl dX4_numberBeside_39
  · replace hf := itn c2 hf
    refine lv_iload_n hx hb dX4_numberBeside_8 rfl (lv_at hl 2 rfl) ?_
    refine lv_iload_n hx hb dX4_numberBeside_9 rfl (lv_at hl 1 rfl) ?_
    refine lv_icmp_ne (tgt := 20) hx hb dX4_numberBeside_10 (by decide) (fun c5 => ?_) (fun c5 => ?_)
    · replace hf := itn c5 hf
      refine lv_lconst (v := 0) hx hb dX4_numberBeside_20 (by decide) ?_
      exact g_lret F hr hlk hh (Option.some.inj hf) rfl dX4_numberBeside_21
    · replace hf := itp c5 hf
      refine lv_aload_n hx hb dX4_numberBeside_13 rfl (lv_at hl 0 rfl) ?_
      refine r_X4_9 F hh in_95 sh_95 dX4_numberBeside_14 ?_
      refine lv_goto (tgt := 21) hx hb dX4_numberBeside_17 (by decide) ?_
      exact g_lret F hr hlk hh (Option.some.inj hf) rfl dX4_numberBeside_21
theorem c_X4_numberBeside {l : Launch} {G : Gm} {x1 : Int32} {x2 : Int32} {z : Sto} {Z : Int64} (hf : f_X4_numberBeside x1 x2 z = some Z) : Met l yX4_numberBeside (Cond.code yX4_numberBeside cX4_numberBeside 3 (some .long) :: TT) rmX4_numberBeside (va_Pc [.ref (G.1 95), .int x1, .int x2] (GS rC G z)) (QL rC G Z z) 0 0 (Am rC G) := by
  refine g_met [(0, .ref (G.1 95)), (1, .int x1), (2, .int x2)] (by decide) (Nat.le_of_ble_eq_true rfl) rfl ?_
  intro p e s m below meth cd F hr hlk ls H locs hl hh
  exact w_X4_numberBeside F hr hlk hf hh hl
def b_X4_listStresses_25 (ag7 : Int32 → Sto → Option (Sto)) (ag25 : Int32 → Int32 → Sto → Option (Sto)) (x1 : Int32) (x2 : Int32) (z : Sto) : Option (Sto) := if (z.1 95 1) ≤ x2 then (lt (upI z 95 0 ((z.1 95 0) + (1 : Int32))) fun z7 => lt (x1 + (1 : Int32)) fun x1_8 => ag7 x1_8 z7) else (bd (f_X4_numberBeside x1 x2 z) fun t9 => bd (wrL z 96 81 (((z.1 95 0) * (9 : Int32)) + x2) t9) fun z10 => lt (x2 + (1 : Int32)) fun x2_11 => ag25 x1 x2_11 z10)
def b_X4_listStresses_7  (ag7 : Int32 → Sto → Option (Sto)) (x1 : Int32) (z : Sto) : Option (Sto) := if (z.1 95 1) ≤ x1 then (some z) else (bd (f_X4_isLeading x1 z) fun t3 => if t3 = 0 then (lt (x1 + (1 : Int32)) fun x1_5 => ag7 x1_5 z) else (wl3 (b_X4_listStresses_25 ag7) fu x1 (0 : Int32) z))
def f_X4_listStresses  (z : Sto) : Option (Sto) := lt (upI z 95 0 (0 : Int32)) fun z1 => wl2 (b_X4_listStresses_7) fu (0 : Int32) z1
set_option maxRecDepth 100000 in
set_option maxHeartbeats 4000000 in
theorem w_X4_listStresses_25 {ag7 : Int32 → Sto → Option (Sto)} {Z : Sto} (F : Fx rC p s m args cd cX4_listStresses 3 RX4 G) (hr : meth.sig.returnType = none) (hlk : meth.locks = false) (hag7 : ∀ (x1 : Int32) (z : Sto), ag7 x1 z = some Z → ∀ {H : Heap} {locs : List Loc} {ls : Array Slot}, Hh rC G z s H locs → lv_has ls 3 [(0, .ref (G.1 95)), (1, .int x1)] → W p l e rmX4_listStresses s m args below meth cd H locs 0 0 (MQ below (QV rC G Z) args s 0 0 (Am rC G)) (F0 m 7 ls [])) : ∀ (n : Nat), ∀ (x1 : Int32) (x2 : Int32) (z : Sto), wl3 (b_X4_listStresses_25 ag7) n x1 x2 z = some Z → ∀ {H : Heap} {locs : List Loc} {ls : Array Slot}, Hh rC G z s H locs → lv_has ls 3 [(0, .ref (G.1 95)), (1, .int x1), (2, .int x2)] → W p l e rmX4_listStresses s m args below meth cd H locs 0 0 (MQ below (QV rC G Z) args s 0 0 (Am rC G)) (F0 m 25 ls []) := by
  have hx := F.1
  have hb := F.2.1
  intro n
  induction n with
  | zero =>
    intro x1 x2 z hf
    exact absurd hf (by intro h; cases h)
  | succ n ih =>
    intro x1 x2 z hf  H locs ls hh hl
    replace hf : b_X4_listStresses_25 ag7 (wl3 (b_X4_listStresses_25 ag7) n) x1 x2 z = some Z := hf
    unfold b_X4_listStresses_25 at hf
    refine lv_iload_n hx hb dX4_listStresses_25 rfl (lv_at hl 2 rfl) ?_
    refine lv_aload_n hx hb dX4_listStresses_26 rfl (lv_at hl 0 rfl) ?_
    refine r_X4_35 F hh in_95 sh_95 dX4_listStresses_27 ?_
    refine lv_icmp_ge (tgt := 59) hx hb dX4_listStresses_30 (by decide) (fun c6 => ?_) (fun c6 => ?_)
    · replace hf := itp c6 hf
      refine lv_aload_n hx hb dX4_listStresses_59 rfl (lv_at hl 0 rfl) ?_
      refine lv_dup hx hb dX4_listStresses_60 rfl ?_
      refine r_X4_59 F hh in_95 sh_95 dX4_listStresses_61 ?_
      refine lv_iconst (v := 1) hx hb dX4_listStresses_64 (by decide) ?_
      refine lv_iadd hx hb dX4_listStresses_65 ?_
      refine s_X4_59 F hh in_95 sh_95 dX4_listStresses_66 (fun z7 ez7 H locs hh => ?_)
      replace hf := lt_e ez7 hf
      obtain ⟨x1_8, ex1_8⟩ : ∃ y : Int32, y = x1 + (1 : Int32) := ⟨_, rfl⟩
      replace hf := lt_e ex1_8 hf
      refine lv_iinc (v := x1_8) (lv' := [(1, .int x1_8), (0, .ref (G.1 95)), (2, .int x2)]) hx hb dX4_listStresses_69 hl (k := 1) rfl (by rw [ex1_8]; rfl) (by decide) rfl (fun ls hl => ?_)
      refine lv_goto (tgt := 7) hx hb dX4_listStresses_72 (by decide) ?_
      exact hag7 _ _ hf  hh (lv_sub hl [1, 0] rfl)
    · replace hf := itn c6 hf
      refine lv_aload_n hx hb dX4_listStresses_33 rfl (lv_at hl 0 rfl) ?_
      refine r_X4_15 (b' := 96) F hh in_95 sh_95 rfl dX4_listStresses_34 ?_
      refine lv_aload_n hx hb dX4_listStresses_37 rfl (lv_at hl 0 rfl) ?_
      refine r_X4_59 F hh in_95 sh_95 dX4_listStresses_38 ?_
      refine lv_bipush (v := 9) hx hb dX4_listStresses_41 (by decide) ?_
      refine lv_imul hx hb dX4_listStresses_43 ?_
      refine lv_iload_n hx hb dX4_listStresses_44 rfl (lv_at hl 2 rfl) ?_
      refine lv_iadd hx hb dX4_listStresses_45 ?_
      refine lv_aload_n hx hb dX4_listStresses_46 rfl (lv_at hl 0 rfl) ?_
      refine lv_iload_n hx hb dX4_listStresses_47 rfl (lv_at hl 1 rfl) ?_
      refine lv_iload_n hx hb dX4_listStresses_48 rfl (lv_at hl 2 rfl) ?_
      obtain ⟨t9, ht9, hf⟩ := ob hf
      refine m_X4_100 F hh (c_X4_numberBeside ht9) in_95 sh_95 rfl hl (Nat.le_of_ble_eq_true rfl) dX4_listStresses_49 (fun H locs hh => ?_)
      obtain ⟨z10, hz10, hf⟩ := ob hf
      refine g_last F hh in_96 sh_96 hz10 dX4_listStresses_52 (fun H locs hh => ?_)
      obtain ⟨x2_11, ex2_11⟩ : ∃ y : Int32, y = x2 + (1 : Int32) := ⟨_, rfl⟩
      replace hf := lt_e ex2_11 hf
      refine lv_iinc (v := x2_11) (lv' := [(2, .int x2_11), (0, .ref (G.1 95)), (1, .int x1)]) hx hb dX4_listStresses_53 hl (k := 2) rfl (by rw [ex2_11]; rfl) (by decide) rfl (fun ls hl => ?_)
      refine lv_goto (tgt := 25) hx hb dX4_listStresses_56 (by decide) ?_
      exact ih _ _ _ hf  hh (lv_sub hl [1, 2, 0] rfl)
set_option maxRecDepth 100000 in
set_option maxHeartbeats 4000000 in
theorem w_X4_listStresses_7  {Z : Sto} (F : Fx rC p s m args cd cX4_listStresses 3 RX4 G) (hr : meth.sig.returnType = none) (hlk : meth.locks = false)  : ∀ (n : Nat), ∀ (x1 : Int32) (z : Sto), wl2 (b_X4_listStresses_7) n x1 z = some Z → ∀ {H : Heap} {locs : List Loc} {ls : Array Slot}, Hh rC G z s H locs → lv_has ls 3 [(0, .ref (G.1 95)), (1, .int x1)] → W p l e rmX4_listStresses s m args below meth cd H locs 0 0 (MQ below (QV rC G Z) args s 0 0 (Am rC G)) (F0 m 7 ls []) := by
  have hx := F.1
  have hb := F.2.1
  intro n
  induction n with
  | zero =>
    intro x1 z hf
    exact absurd hf (by intro h; cases h)
  | succ n ih =>
    intro x1 z hf  H locs ls hh hl
    replace hf : b_X4_listStresses_7 (wl2 (b_X4_listStresses_7) n) x1 z = some Z := hf
    unfold b_X4_listStresses_7 at hf
    refine lv_iload_n hx hb dX4_listStresses_7 rfl (lv_at hl 1 rfl) ?_
    refine lv_aload_n hx hb dX4_listStresses_8 rfl (lv_at hl 0 rfl) ?_
    refine r_X4_35 F hh in_95 sh_95 dX4_listStresses_9 ?_
    refine lv_icmp_ge (tgt := 75) hx hb dX4_listStresses_12 (by decide) (fun c2 => ?_) (fun c2 => ?_)
    · replace hf := itp c2 hf
      exact g_vret F hr hlk hh (Option.some.inj hf) dX4_listStresses_75
    · replace hf := itn c2 hf
      refine lv_aload_n hx hb dX4_listStresses_15 rfl (lv_at hl 0 rfl) ?_
      refine lv_iload_n hx hb dX4_listStresses_16 rfl (lv_at hl 1 rfl) ?_
      obtain ⟨t3, ht3, hf⟩ := ob hf
      refine m_X4_97 F hh (c_X4_isLeading ht3) in_95 sh_95 rfl hl (Nat.le_of_ble_eq_true rfl) dX4_listStresses_17 (fun H locs hh => ?_)
      refine lv_if_eq (tgt := 69) hx hb dX4_listStresses_20 (by decide) (fun c4 => ?_) (fun c4 => ?_)
      · replace hf := itp c4 hf
        obtain ⟨x1_5, ex1_5⟩ : ∃ y : Int32, y = x1 + (1 : Int32) := ⟨_, rfl⟩
        replace hf := lt_e ex1_5 hf
        refine lv_iinc (v := x1_5) (lv' := [(1, .int x1_5), (0, .ref (G.1 95))]) hx hb dX4_listStresses_69 hl (k := 1) rfl (by rw [ex1_5]; rfl) (by decide) rfl (fun ls hl => ?_)
        refine lv_goto (tgt := 7) hx hb dX4_listStresses_72 (by decide) ?_
        exact ih _ _ hf  hh (lv_sub hl [1, 0] rfl)
      · replace hf := itn c4 hf
        refine lv_iconst (v := 0) hx hb dX4_listStresses_23 (by decide) ?_
        refine lv_istore_n (lv' := [(2, .int (0 : Int32)), (0, .ref (G.1 95)), (1, .int x1)]) hx hb dX4_listStresses_24 rfl hl (by decide) rfl (fun ls hl => ?_)
        exact w_X4_listStresses_25 F hr hlk ih fu _ _ _ hf  hh (lv_sub hl [1, 2, 0] rfl)
set_option maxRecDepth 100000 in
set_option maxHeartbeats 4000000 in
theorem w_X4_listStresses {Z : Sto} (F : Fx rC p s m args cd cX4_listStresses 3 RX4 G) (hr : meth.sig.returnType = none) (hlk : meth.locks = false)  {z : Sto} {H : Heap} {locs : List Loc} {ls : Array Slot} (hf : f_X4_listStresses  z = some Z) (hh : Hh rC G z s H locs) (hl : lv_has ls 3 [(0, .ref (G.1 95))]) : W p l e rmX4_listStresses s m args below meth cd H locs 0 0 (MQ below (QV rC G Z) args s 0 0 (Am rC G)) (F0 m 0 ls []) := by
  have hx := F.1
  have hb := F.2.1
  unfold f_X4_listStresses at hf
  refine lv_aload_n hx hb dX4_listStresses_0 rfl (lv_at hl 0 rfl) ?_
  refine lv_iconst (v := 0) hx hb dX4_listStresses_1 (by decide) ?_
  refine s_X4_59 F hh in_95 sh_95 dX4_listStresses_2 (fun z1 ez1 H locs hh => ?_)
  replace hf := lt_e ez1 hf
  refine lv_iconst (v := 0) hx hb dX4_listStresses_5 (by decide) ?_
  refine lv_istore_n (lv' := [(1, .int (0 : Int32)), (0, .ref (G.1 95))]) hx hb dX4_listStresses_6 rfl hl (by decide) rfl (fun ls hl => ?_)
  exact w_X4_listStresses_7 F hr hlk fu _ _ hf  hh (lv_sub hl [1, 0] rfl)
theorem c_X4_listStresses {l : Launch} {G : Gm}  {z : Sto} {Z : Sto} (hf : f_X4_listStresses  z = some Z) : Met l yX4_listStresses (Cond.code yX4_listStresses cX4_listStresses 3 none :: TT) rmX4_listStresses (va_Pc [.ref (G.1 95)] (GS rC G z)) (QV rC G Z) 0 0 (Am rC G) := by
  refine g_met [(0, .ref (G.1 95))] (by decide) (Nat.le_of_ble_eq_true rfl) rfl ?_
  intro p e s m below meth cd F hr hlk ls H locs hl hh
  exact w_X4_listStresses F hr hlk hf hh hl
def b_X4_addUp_19 (ag2 : Int32 → Sto → Option (Sto)) (ag19 : Int32 → Int32 → Sto → Option (Sto)) (x2 : Int32) (x3 : Int32) (z : Sto) : Option (Sto) := if (z.1 95 0) ≤ x3 then (lt (x2 + (1 : Int32)) fun x2_4 => ag2 x2_4 z) else (bd (rdL z 97 9 x2) fun t5 => bd (rdI z 6 9 x3) fun t6 => bd (rdL z 96 81 ((x3 * (9 : Int32)) + x2)) fun t7 => bd (wrL z 97 9 x2 (t5 + ((Int32.toInt64 t6) * t7))) fun z8 => lt (x3 + (1 : Int32)) fun x3_9 => ag19 x2 x3_9 z8)
def b_X4_addUp_2  (ag2 : Int32 → Sto → Option (Sto)) (x2 : Int32) (z : Sto) : Option (Sto) := if (z.1 95 1) ≤ x2 then (some z) else (bd (wrL z 97 9 x2 (0 : Int64)) fun z2 => wl3 (b_X4_addUp_19 ag2) fu x2 (0 : Int32) z2)
def f_X4_addUp  (z : Sto) : Option (Sto) := wl2 (b_X4_addUp_2) fu (0 : Int32) z
set_option maxRecDepth 100000 in
set_option maxHeartbeats 4000000 in
theorem w_X4_addUp_19 {ag2 : Int32 → Sto → Option (Sto)} {Z : Sto} (F : Fx rC p s m args cd cX4_addUp 4 RX4 G) (hr : meth.sig.returnType = none) (hlk : meth.locks = false) (hag2 : ∀ (x2 : Int32) (z : Sto), ag2 x2 z = some Z → ∀ {H : Heap} {locs : List Loc} {ls : Array Slot}, Hh rC G z s H locs → lv_has ls 4 [(0, .ref (G.1 95)), (1, .ref (G.1 6)), (2, .int x2)] → W p l e rmX4_addUp s m args below meth cd H locs 0 0 (MQ below (QV rC G Z) args s 0 0 (Am rC G)) (F0 m 2 ls [])) : ∀ (n : Nat), ∀ (x2 : Int32) (x3 : Int32) (z : Sto), wl3 (b_X4_addUp_19 ag2) n x2 x3 z = some Z → ∀ {H : Heap} {locs : List Loc} {ls : Array Slot}, Hh rC G z s H locs → lv_has ls 4 [(0, .ref (G.1 95)), (1, .ref (G.1 6)), (2, .int x2), (3, .int x3)] → W p l e rmX4_addUp s m args below meth cd H locs 0 0 (MQ below (QV rC G Z) args s 0 0 (Am rC G)) (F0 m 19 ls []) := by
  have hx := F.1
  have hb := F.2.1
  intro n
  induction n with
  | zero =>
    intro x2 x3 z hf
    exact absurd hf (by intro h; cases h)
  | succ n ih =>
    intro x2 x3 z hf  H locs ls hh hl
    replace hf : b_X4_addUp_19 ag2 (wl3 (b_X4_addUp_19 ag2) n) x2 x3 z = some Z := hf
    unfold b_X4_addUp_19 at hf
    refine lv_iload_n hx hb dX4_addUp_19 rfl (lv_at hl 3 rfl) ?_
    refine lv_aload_n hx hb dX4_addUp_20 rfl (lv_at hl 0 rfl) ?_
    refine r_X4_59 F hh in_95 sh_95 dX4_addUp_21 ?_
    refine lv_icmp_ge (tgt := 58) hx hb dX4_addUp_24 (by decide) (fun c3 => ?_) (fun c3 => ?_)
    · replace hf := itp c3 hf
      obtain ⟨x2_4, ex2_4⟩ : ∃ y : Int32, y = x2 + (1 : Int32) := ⟨_, rfl⟩
      replace hf := lt_e ex2_4 hf
      refine lv_iinc (v := x2_4) (lv' := [(2, .int x2_4), (0, .ref (G.1 95)), (1, .ref (G.1 6)), (3, .int x3)]) hx hb dX4_addUp_58 hl (k := 2) rfl (by rw [ex2_4]; rfl) (by decide) rfl (fun ls hl => ?_)
      refine lv_goto (tgt := 2) hx hb dX4_addUp_61 (by decide) ?_
      exact hag2 _ _ hf  hh (lv_sub hl [1, 2, 0] rfl)
    · replace hf := itn c3 hf
      refine lv_aload_n hx hb dX4_addUp_27 rfl (lv_at hl 0 rfl) ?_
      refine r_X4_19 (b' := 97) F hh in_95 sh_95 rfl dX4_addUp_28 ?_
      refine lv_iload_n hx hb dX4_addUp_31 rfl (lv_at hl 2 rfl) ?_
      refine lv_dup2_11 hx hb dX4_addUp_32 rfl rfl ?_
      obtain ⟨t5, ht5, hf⟩ := ob hf
      refine g_lald F hh in_97 sh_97 ht5 dX4_addUp_33 ?_
      refine lv_aload_n hx hb dX4_addUp_34 rfl (lv_at hl 1 rfl) ?_
      refine lv_iload_n hx hb dX4_addUp_35 rfl (lv_at hl 3 rfl) ?_
      obtain ⟨t6, ht6, hf⟩ := ob hf
      refine g_iald F hh in_6 sh_6 ht6 dX4_addUp_36 ?_
      refine lv_i2l hx hb dX4_addUp_37 rfl ?_
      refine lv_aload_n hx hb dX4_addUp_38 rfl (lv_at hl 0 rfl) ?_
      refine r_X4_15 (b' := 96) F hh in_95 sh_95 rfl dX4_addUp_39 ?_
      refine lv_iload_n hx hb dX4_addUp_42 rfl (lv_at hl 3 rfl) ?_
      refine lv_bipush (v := 9) hx hb dX4_addUp_43 (by decide) ?_
      refine lv_imul hx hb dX4_addUp_45 ?_
      refine lv_iload_n hx hb dX4_addUp_46 rfl (lv_at hl 2 rfl) ?_
      refine lv_iadd hx hb dX4_addUp_47 ?_
      obtain ⟨t7, ht7, hf⟩ := ob hf
      refine g_lald F hh in_96 sh_96 ht7 dX4_addUp_48 ?_
      refine lv_lmul hx hb dX4_addUp_49 ?_
      refine lv_ladd hx hb dX4_addUp_50 ?_
      obtain ⟨z8, hz8, hf⟩ := ob hf
      refine g_last F hh in_97 sh_97 hz8 dX4_addUp_51 (fun H locs hh => ?_)
      obtain ⟨x3_9, ex3_9⟩ : ∃ y : Int32, y = x3 + (1 : Int32) := ⟨_, rfl⟩
      replace hf := lt_e ex3_9 hf
      refine lv_iinc (v := x3_9) (lv' := [(3, .int x3_9), (0, .ref (G.1 95)), (1, .ref (G.1 6)), (2, .int x2)]) hx hb dX4_addUp_52 hl (k := 3) rfl (by rw [ex3_9]; rfl) (by decide) rfl (fun ls hl => ?_)
      refine lv_goto (tgt := 19) hx hb dX4_addUp_55 (by decide) ?_
      exact ih _ _ _ hf  hh (lv_sub hl [1, 2, 3, 0] rfl)
set_option maxRecDepth 100000 in
set_option maxHeartbeats 4000000 in
theorem w_X4_addUp_2  {Z : Sto} (F : Fx rC p s m args cd cX4_addUp 4 RX4 G) (hr : meth.sig.returnType = none) (hlk : meth.locks = false)  : ∀ (n : Nat), ∀ (x2 : Int32) (z : Sto), wl2 (b_X4_addUp_2) n x2 z = some Z → ∀ {H : Heap} {locs : List Loc} {ls : Array Slot}, Hh rC G z s H locs → lv_has ls 4 [(0, .ref (G.1 95)), (1, .ref (G.1 6)), (2, .int x2)] → W p l e rmX4_addUp s m args below meth cd H locs 0 0 (MQ below (QV rC G Z) args s 0 0 (Am rC G)) (F0 m 2 ls []) := by
  have hx := F.1
  have hb := F.2.1
  intro n
  induction n with
  | zero =>
    intro x2 z hf
    exact absurd hf (by intro h; cases h)
  | succ n ih =>
    intro x2 z hf  H locs ls hh hl
    replace hf : b_X4_addUp_2 (wl2 (b_X4_addUp_2) n) x2 z = some Z := hf
    unfold b_X4_addUp_2 at hf
    refine lv_iload_n hx hb dX4_addUp_2 rfl (lv_at hl 2 rfl) ?_
    refine lv_aload_n hx hb dX4_addUp_3 rfl (lv_at hl 0 rfl) ?_
    refine r_X4_35 F hh in_95 sh_95 dX4_addUp_4 ?_
    refine lv_icmp_ge (tgt := 64) hx hb dX4_addUp_7 (by decide) (fun c1 => ?_) (fun c1 => ?_)
    · replace hf := itp c1 hf
      exact g_vret F hr hlk hh (Option.some.inj hf) dX4_addUp_64
    · replace hf := itn c1 hf
      refine lv_aload_n hx hb dX4_addUp_10 rfl (lv_at hl 0 rfl) ?_
      refine r_X4_19 (b' := 97) F hh in_95 sh_95 rfl dX4_addUp_11 ?_
      refine lv_iload_n hx hb dX4_addUp_14 rfl (lv_at hl 2 rfl) ?_
      refine lv_lconst (v := 0) hx hb dX4_addUp_15 (by decide) ?_
      obtain ⟨z2, hz2, hf⟩ := ob hf
      refine g_last F hh in_97 sh_97 hz2 dX4_addUp_16 (fun H locs hh => ?_)
      refine lv_iconst (v := 0) hx hb dX4_addUp_17 (by decide) ?_
      refine lv_istore_n (lv' := [(3, .int (0 : Int32)), (0, .ref (G.1 95)), (1, .ref (G.1 6)), (2, .int x2)]) hx hb dX4_addUp_18 rfl hl (by decide) rfl (fun ls hl => ?_)
      exact w_X4_addUp_19 F hr hlk ih fu _ _ _ hf  hh (lv_sub hl [1, 2, 3, 0] rfl)
set_option maxRecDepth 100000 in
set_option maxHeartbeats 4000000 in
theorem w_X4_addUp {Z : Sto} (F : Fx rC p s m args cd cX4_addUp 4 RX4 G) (hr : meth.sig.returnType = none) (hlk : meth.locks = false)  {z : Sto} {H : Heap} {locs : List Loc} {ls : Array Slot} (hf : f_X4_addUp  z = some Z) (hh : Hh rC G z s H locs) (hl : lv_has ls 4 [(0, .ref (G.1 95)), (1, .ref (G.1 6))]) : W p l e rmX4_addUp s m args below meth cd H locs 0 0 (MQ below (QV rC G Z) args s 0 0 (Am rC G)) (F0 m 0 ls []) := by
  have hx := F.1
  have hb := F.2.1
  unfold f_X4_addUp at hf
  refine lv_iconst (v := 0) hx hb dX4_addUp_0 (by decide) ?_
  refine lv_istore_n (lv' := [(2, .int (0 : Int32)), (0, .ref (G.1 95)), (1, .ref (G.1 6))]) hx hb dX4_addUp_1 rfl hl (by decide) rfl (fun ls hl => ?_)
  exact w_X4_addUp_2 F hr hlk fu _ _ hf  hh (lv_sub hl [1, 2, 0] rfl)
theorem c_X4_addUp {l : Launch} {G : Gm}  {z : Sto} {Z : Sto} (hf : f_X4_addUp  z = some Z) : Met l yX4_addUp (Cond.code yX4_addUp cX4_addUp 4 none :: TT) rmX4_addUp (va_Pc [.ref (G.1 95), .ref (G.1 6)] (GS rC G z)) (QV rC G Z) 0 0 (Am rC G) := by
  refine g_met [(0, .ref (G.1 95)), (1, .ref (G.1 6))] (by decide) (Nat.le_of_ble_eq_true rfl) rfl ?_
  intro p e s m below meth cd F hr hlk ls H locs hl hh
  exact w_X4_addUp F hr hlk hf hh hl
def f_X4_solve  (z : Sto) : Option (Sto) := lt (upI z 95 1 (z.1 1 1)) fun z1 => lt (upI z1 95 2 ((2 : Int32) * (z1.1 1 0))) fun z2 => bd (f_X4_fillGrid z2) fun z4 => bd (f_X4_reduce z4) fun z6 => bd (f_X4_listStresses z6) fun z8 => bd (f_X4_addUp z8) fun z10 => some z10
set_option maxRecDepth 100000 in
set_option maxHeartbeats 4000000 in
theorem w_X4_solve {Z : Sto} (F : Fx rC p s m args cd cX4_solve 2 RX4 G) (hr : meth.sig.returnType = none) (hlk : meth.locks = false)  {z : Sto} {H : Heap} {locs : List Loc} {ls : Array Slot} (hf : f_X4_solve  z = some Z) (hh : Hh rC G z s H locs) (hl : lv_has ls 2 [(0, .ref (G.1 95)), (1, .ref (G.1 1))]) : W p l e rmX4_solve s m args below meth cd H locs 0 0 (MQ below (QV rC G Z) args s 0 0 (Am rC G)) (F0 m 0 ls []) := by
  have hx := F.1
  have hb := F.2.1
  unfold f_X4_solve at hf
  refine lv_aload_n hx hb dX4_solve_0 rfl (lv_at hl 0 rfl) ?_
  refine lv_aload_n hx hb dX4_solve_1 rfl (lv_at hl 1 rfl) ?_
  refine r_X4_29 F hh in_1 sh_1 dX4_solve_2 ?_
  refine s_X4_35 F hh in_95 sh_95 dX4_solve_5 (fun z1 ez1 H locs hh => ?_)
  replace hf := lt_e ez1 hf
  refine lv_aload_n hx hb dX4_solve_8 rfl (lv_at hl 0 rfl) ?_
  refine lv_iconst (v := 2) hx hb dX4_solve_9 (by decide) ?_
  refine lv_aload_n hx hb dX4_solve_10 rfl (lv_at hl 1 rfl) ?_
  refine r_X4_36 F hh in_1 sh_1 dX4_solve_11 ?_
  refine lv_imul hx hb dX4_solve_14 ?_
  refine s_X4_39 F hh in_95 sh_95 dX4_solve_15 (fun z2 ez2 H locs hh => ?_)
  replace hf := lt_e ez2 hf
  refine lv_aload_n hx hb dX4_solve_18 rfl (lv_at hl 0 rfl) ?_
  refine lv_aload_n hx hb dX4_solve_19 rfl (lv_at hl 1 rfl) ?_
  obtain ⟨z4, ht3, hf⟩ := ob hf
  refine m_X4_42 F hh (c_X4_fillGrid ht3) in_95 sh_95 rfl hl (Nat.le_of_ble_eq_true rfl) dX4_solve_20 (fun H locs hh => ?_)
  refine lv_aload_n hx hb dX4_solve_23 rfl (lv_at hl 0 rfl) ?_
  obtain ⟨z6, ht5, hf⟩ := ob hf
  refine m_X4_46 F hh (c_X4_reduce ht5) in_95 sh_95 rfl hl (Nat.le_of_ble_eq_true rfl) dX4_solve_24 (fun H locs hh => ?_)
  refine lv_aload_n hx hb dX4_solve_27 rfl (lv_at hl 0 rfl) ?_
  obtain ⟨z8, ht7, hf⟩ := ob hf
  refine m_X4_49 F hh (c_X4_listStresses ht7) in_95 sh_95 rfl hl (Nat.le_of_ble_eq_true rfl) dX4_solve_28 (fun H locs hh => ?_)
  refine lv_aload_n hx hb dX4_solve_31 rfl (lv_at hl 0 rfl) ?_
  refine lv_aload_n hx hb dX4_solve_32 rfl (lv_at hl 1 rfl) ?_
  refine r_X4_52 (b' := 6) F hh in_1 sh_1 rfl dX4_solve_33 ?_
  obtain ⟨z10, ht9, hf⟩ := ob hf
  refine m_X4_55 F hh (c_X4_addUp ht9) in_95 sh_95 rfl hl (Nat.le_of_ble_eq_true rfl) dX4_solve_36 (fun H locs hh => ?_)
  exact g_vret F hr hlk hh (Option.some.inj hf) dX4_solve_39
theorem c_X4_solve {l : Launch} {G : Gm}  {z : Sto} {Z : Sto} (hf : f_X4_solve  z = some Z) : Met l yX4_solve (Cond.code yX4_solve cX4_solve 2 none :: TT) rmX4_solve (va_Pc [.ref (G.1 95), .ref (G.1 1)] (GS rC G z)) (QV rC G Z) 0 0 (Am rC G) := by
  refine g_met [(0, .ref (G.1 95)), (1, .ref (G.1 1))] (by decide) (Nat.le_of_ble_eq_true rfl) rfl ?_
  intro p e s m below meth cd F hr hlk ls H locs hl hh
  exact w_X4_solve F hr hlk hf hh hl
def b_X4_isNeeded_2 (z : Sto)  (ag2 : Int32 → Int32 → Option (Int32)) (x1 : Int32) (x2 : Int32) : Option (Int32) := if (z.1 95 0) ≤ x2 then (some (1 : Int32)) else (bd (rdL z 96 81 ((x2 * (9 : Int32)) + x1)) fun t2 => if (lg_cmp t2 (0 : Int64)) = 0 then (lt (x2 + (1 : Int32)) fun x2_4 => ag2 x1 x2_4) else (some (0 : Int32)))
def f_X4_isNeeded (x1 : Int32) (z : Sto) : Option (Int32) := wl2 (b_X4_isNeeded_2 z) fu x1 (0 : Int32)
set_option maxRecDepth 100000 in
set_option maxHeartbeats 4000000 in
theorem w_X4_isNeeded_2 {z : Sto}  {Z : Int32} (F : Fx rC p s m args cd cX4_isNeeded 3 RX4 G) (hr : meth.sig.returnType = (some .boolean)) (hlk : meth.locks = false)  : ∀ (n : Nat), ∀ (x1 : Int32) (x2 : Int32), wl2 (b_X4_isNeeded_2 z) n x1 x2 = some Z → ∀ {H : Heap} {locs : List Loc} {ls : Array Slot}, Hh rC G z s H locs → lv_has ls 3 [(0, .ref (G.1 95)), (1, .int x1), (2, .int x2)] → W p l e rmX4_isNeeded s m args below meth cd H locs 0 0 (MQ below (QI rC G Z z) args s 0 0 (Am rC G)) (F0 m 2 ls []) := by
  have hx := F.1
  have hb := F.2.1
  intro n
  induction n with
  | zero =>
    intro x1 x2 hf
    exact absurd hf (by intro h; cases h)
  | succ n ih =>
    intro x1 x2 hf  H locs ls hh hl
    replace hf : b_X4_isNeeded_2 z (wl2 (b_X4_isNeeded_2 z) n) x1 x2 = some Z := hf
    unfold b_X4_isNeeded_2 at hf
    refine lv_iload_n hx hb dX4_isNeeded_2 rfl (lv_at hl 2 rfl) ?_
    refine lv_aload_n hx hb dX4_isNeeded_3 rfl (lv_at hl 0 rfl) ?_
    refine r_X4_59 F hh in_95 sh_95 dX4_isNeeded_4 ?_
    refine lv_icmp_ge (tgt := 34) hx hb dX4_isNeeded_7 (by decide) (fun c1 => ?_) (fun c1 => ?_)
    · replace hf := itp c1 hf
      refine lv_iconst (v := 1) hx hb dX4_isNeeded_34 (by decide) ?_
      exact g_zret F hr hlk rfl hh (Option.some.inj hf) rfl dX4_isNeeded_35
    · replace hf := itn c1 hf
      refine lv_aload_n hx hb dX4_isNeeded_10 rfl (lv_at hl 0 rfl) ?_
      refine r_X4_15 (b' := 96) F hh in_95 sh_95 rfl dX4_isNeeded_11 ?_
      refine lv_iload_n hx hb dX4_isNeeded_14 rfl (lv_at hl 2 rfl) ?_
      refine lv_bipush (v := 9) hx hb dX4_isNeeded_15 (by decide) ?_
      refine lv_imul hx hb dX4_isNeeded_17 ?_
      refine lv_iload_n hx hb dX4_isNeeded_18 rfl (lv_at hl 1 rfl) ?_
      refine lv_iadd hx hb dX4_isNeeded_19 ?_
      obtain ⟨t2, ht2, hf⟩ := ob hf
      refine g_lald F hh in_96 sh_96 ht2 dX4_isNeeded_20 ?_
      refine lv_lconst (v := 0) hx hb dX4_isNeeded_21 (by decide) ?_
      refine W.lcmp hx hb dX4_isNeeded_22 ?_
      refine lv_if_eq (tgt := 28) hx hb dX4_isNeeded_23 (by decide) (fun c3 => ?_) (fun c3 => ?_)
      · replace hf := itp c3 hf
        obtain ⟨x2_4, ex2_4⟩ : ∃ y : Int32, y = x2 + (1 : Int32) := ⟨_, rfl⟩
        replace hf := lt_e ex2_4 hf
        refine lv_iinc (v := x2_4) (lv' := [(2, .int x2_4), (0, .ref (G.1 95)), (1, .int x1)]) hx hb dX4_isNeeded_28 hl (k := 2) rfl (by rw [ex2_4]; rfl) (by decide) rfl (fun ls hl => ?_)
        refine lv_goto (tgt := 2) hx hb dX4_isNeeded_31 (by decide) ?_
        exact ih _ _ hf  hh (lv_sub hl [1, 2, 0] rfl)
      · replace hf := itn c3 hf
        refine lv_iconst (v := 0) hx hb dX4_isNeeded_26 (by decide) ?_
        exact g_zret F hr hlk rfl hh (Option.some.inj hf) rfl dX4_isNeeded_27
set_option maxRecDepth 100000 in
set_option maxHeartbeats 4000000 in
theorem w_X4_isNeeded {Z : Int32} (F : Fx rC p s m args cd cX4_isNeeded 3 RX4 G) (hr : meth.sig.returnType = (some .boolean)) (hlk : meth.locks = false) {x1 : Int32} {z : Sto} {H : Heap} {locs : List Loc} {ls : Array Slot} (hf : f_X4_isNeeded x1 z = some Z) (hh : Hh rC G z s H locs) (hl : lv_has ls 3 [(0, .ref (G.1 95)), (1, .int x1)]) : W p l e rmX4_isNeeded s m args below meth cd H locs 0 0 (MQ below (QI rC G Z z) args s 0 0 (Am rC G)) (F0 m 0 ls []) := by
  have hx := F.1
  have hb := F.2.1
  unfold f_X4_isNeeded at hf
  refine lv_iconst (v := 0) hx hb dX4_isNeeded_0 (by decide) ?_
  refine lv_istore_n (lv' := [(2, .int (0 : Int32)), (0, .ref (G.1 95)), (1, .int x1)]) hx hb dX4_isNeeded_1 rfl hl (by decide) rfl (fun ls hl => ?_)
  exact w_X4_isNeeded_2 F hr hlk fu _ _ hf  hh (lv_sub hl [1, 2, 0] rfl)
theorem c_X4_isNeeded {l : Launch} {G : Gm} {x1 : Int32} {z : Sto} {Z : Int32} (hf : f_X4_isNeeded x1 z = some Z) : Met l yX4_isNeeded (Cond.code yX4_isNeeded cX4_isNeeded 3 (some .boolean) :: TT) rmX4_isNeeded (va_Pc [.ref (G.1 95), .int x1] (GS rC G z)) (QI rC G Z z) 0 0 (Am rC G) := by
  refine g_met [(0, .ref (G.1 95)), (1, .int x1)] (by decide) (Nat.le_of_ble_eq_true rfl) rfl ?_
  intro p e s m below meth cd F hr hlk ls H locs hl hh
  exact w_X4_isNeeded F hr hlk hf hh hl
def j_X4_freeBars_26 (z : Sto) (ag4 : Int64 → Int32 → Option (Int64)) (x3 : Int32) (k0 : Int32) (k1 : Int64) : Option (Int64) := bd (f_X6_asBit k0 z) fun t4 => lt ((k1 + (Int32.toInt64 t4))) fun x1_5 => lt (x3 + (1 : Int32)) fun x3_6 => ag4 x1_5 x3_6
def b_X4_freeBars_4 (z : Sto)  (ag4 : Int64 → Int32 → Option (Int64)) (x1 : Int64) (x3 : Int32) : Option (Int64) := if (z.1 95 1) ≤ x3 then (some x1) else (bd (f_X4_isNeeded x3 z) fun t2 => if t2 = 0 then (j_X4_freeBars_26 z ag4 x3 (1 : Int32) x1) else (j_X4_freeBars_26 z ag4 x3 (0 : Int32) x1))
def f_X4_freeBars  (z : Sto) : Option (Int64) := wl2 (b_X4_freeBars_4 z) fu (0 : Int64) (0 : Int32)
set_option maxRecDepth 100000 in
set_option maxHeartbeats 4000000 in
theorem w_X4_freeBars_26 {z : Sto} {ag4 : Int64 → Int32 → Option (Int64)} {Z : Int64} (F : Fx rC p s m args cd cX4_freeBars 4 RX4 G) (hr : meth.sig.returnType = (some .long)) (hlk : meth.locks = false) (hag4 : ∀ (x1 : Int64) (x3 : Int32), ag4 x1 x3 = some Z → ∀ {H : Heap} {locs : List Loc} {ls : Array Slot}, Hh rC G z s H locs → lv_has ls 4 [(0, .ref (G.1 95)), (1, .long x1), (3, .int x3)] → W p l e rmX4_freeBars s m args below meth cd H locs 0 0 (MQ below (QL rC G Z z) args s 0 0 (Am rC G)) (F0 m 4 ls [])) {x3 : Int32} {k0 : Int32} {k1 : Int64} {H : Heap} {locs : List Loc} {ls : Array Slot} (hf : j_X4_freeBars_26 z ag4 x3 k0 k1 = some Z) (hh : Hh rC G z s H locs) (hl : lv_has ls 4 [(0, .ref (G.1 95)), (3, .int x3)]) : W p l e rmX4_freeBars s m args below meth cd H locs 0 0 (MQ below (QL rC G Z z) args s 0 0 (Am rC G)) (F0 m 26 ls [.int k0, .long k1]) := by
  have hx := F.1
  have hb := F.2.1
  unfold j_X4_freeBars_26 at hf
  obtain ⟨t4, ht4, hf⟩ := ob hf
  refine m_X4_66 F hh (c_X6_asBit ht4) rfl hl (Nat.le_of_ble_eq_true rfl) dX4_freeBars_26 (fun H locs hh => ?_)
  refine lv_i2l hx hb dX4_freeBars_29 rfl ?_
  refine lv_ladd hx hb dX4_freeBars_30 ?_
  refine lv_topl (fun x1_5 ex1_5 => ?_)
  replace hf := lt_e ex1_5 hf
  refine lv_lstore_n (lv' := [(1, .long x1_5), (0, .ref (G.1 95)), (3, .int x3)]) hx hb dX4_freeBars_31 rfl hl (by decide) rfl (fun ls hl => ?_)
  obtain ⟨x3_6, ex3_6⟩ : ∃ y : Int32, y = x3 + (1 : Int32) := ⟨_, rfl⟩
  replace hf := lt_e ex3_6 hf
  refine lv_iinc (v := x3_6) (lv' := [(3, .int x3_6), (1, .long x1_5), (0, .ref (G.1 95))]) hx hb dX4_freeBars_32 hl (k := 2) rfl (by rw [ex3_6]; rfl) (by decide) rfl (fun ls hl => ?_)
  refine lv_goto (tgt := 4) hx hb dX4_freeBars_35 (by decide) ?_
  exact hag4 _ _ hf  hh (lv_sub hl [2, 1, 0] rfl)
set_option maxRecDepth 100000 in
set_option maxHeartbeats 4000000 in
theorem w_X4_freeBars_4 {z : Sto}  {Z : Int64} (F : Fx rC p s m args cd cX4_freeBars 4 RX4 G) (hr : meth.sig.returnType = (some .long)) (hlk : meth.locks = false)  : ∀ (n : Nat), ∀ (x1 : Int64) (x3 : Int32), wl2 (b_X4_freeBars_4 z) n x1 x3 = some Z → ∀ {H : Heap} {locs : List Loc} {ls : Array Slot}, Hh rC G z s H locs → lv_has ls 4 [(0, .ref (G.1 95)), (1, .long x1), (3, .int x3)] → W p l e rmX4_freeBars s m args below meth cd H locs 0 0 (MQ below (QL rC G Z z) args s 0 0 (Am rC G)) (F0 m 4 ls []) := by
  have hx := F.1
  have hb := F.2.1
  intro n
  induction n with
  | zero =>
    intro x1 x3 hf
    exact absurd hf (by intro h; cases h)
  | succ n ih =>
    intro x1 x3 hf  H locs ls hh hl
    replace hf : b_X4_freeBars_4 z (wl2 (b_X4_freeBars_4 z) n) x1 x3 = some Z := hf
    unfold b_X4_freeBars_4 at hf
    refine lv_iload_n hx hb dX4_freeBars_4 rfl (lv_at hl 2 rfl) ?_
    refine lv_aload_n hx hb dX4_freeBars_5 rfl (lv_at hl 0 rfl) ?_
    refine r_X4_35 F hh in_95 sh_95 dX4_freeBars_6 ?_
    refine lv_icmp_ge (tgt := 38) hx hb dX4_freeBars_9 (by decide) (fun c1 => ?_) (fun c1 => ?_)
    · replace hf := itp c1 hf
      refine lv_lload_n hx hb dX4_freeBars_38 rfl (lv_at hl 1 rfl) ?_
      exact g_lret F hr hlk hh (Option.some.inj hf) rfl dX4_freeBars_39
    · replace hf := itn c1 hf
      refine lv_lload_n hx hb dX4_freeBars_12 rfl (lv_at hl 1 rfl) ?_
      refine lv_aload_n hx hb dX4_freeBars_13 rfl (lv_at hl 0 rfl) ?_
      refine lv_iload_n hx hb dX4_freeBars_14 rfl (lv_at hl 2 rfl) ?_
      obtain ⟨t2, ht2, hf⟩ := ob hf
      refine m_X4_62 F hh (c_X4_isNeeded ht2) in_95 sh_95 rfl hl (Nat.le_of_ble_eq_true rfl) dX4_freeBars_15 (fun H locs hh => ?_)
      refine lv_if_ne (tgt := 25) hx hb dX4_freeBars_18 (by decide) (fun c3 => ?_) (fun c3 => ?_)
      · replace hf := itn c3 hf
        refine lv_iconst (v := 0) hx hb dX4_freeBars_25 (by decide) ?_
        exact w_X4_freeBars_26 F hr hlk ih hf  hh (lv_sub hl [0, 2] rfl)
      · replace hf := itp c3 hf
        refine lv_iconst (v := 1) hx hb dX4_freeBars_21 (by decide) ?_
        refine lv_goto (tgt := 26) hx hb dX4_freeBars_22 (by decide) ?_
        exact w_X4_freeBars_26 F hr hlk ih hf  hh (lv_sub hl [0, 2] rfl)
set_option maxRecDepth 100000 in
set_option maxHeartbeats 4000000 in
theorem w_X4_freeBars {Z : Int64} (F : Fx rC p s m args cd cX4_freeBars 4 RX4 G) (hr : meth.sig.returnType = (some .long)) (hlk : meth.locks = false)  {z : Sto} {H : Heap} {locs : List Loc} {ls : Array Slot} (hf : f_X4_freeBars  z = some Z) (hh : Hh rC G z s H locs) (hl : lv_has ls 4 [(0, .ref (G.1 95))]) : W p l e rmX4_freeBars s m args below meth cd H locs 0 0 (MQ below (QL rC G Z z) args s 0 0 (Am rC G)) (F0 m 0 ls []) := by
  have hx := F.1
  have hb := F.2.1
  unfold f_X4_freeBars at hf
  refine lv_lconst (v := 0) hx hb dX4_freeBars_0 (by decide) ?_
  refine lv_lstore_n (lv' := [(1, .long (0 : Int64)), (0, .ref (G.1 95))]) hx hb dX4_freeBars_1 rfl hl (by decide) rfl (fun ls hl => ?_)
  refine lv_iconst (v := 0) hx hb dX4_freeBars_2 (by decide) ?_
  refine lv_istore_n (lv' := [(3, .int (0 : Int32)), (1, .long (0 : Int64)), (0, .ref (G.1 95))]) hx hb dX4_freeBars_3 rfl hl (by decide) rfl (fun ls hl => ?_)
  exact w_X4_freeBars_4 F hr hlk fu _ _ hf  hh (lv_sub hl [2, 1, 0] rfl)
theorem c_X4_freeBars {l : Launch} {G : Gm}  {z : Sto} {Z : Int64} (hf : f_X4_freeBars  z = some Z) : Met l yX4_freeBars (Cond.code yX4_freeBars cX4_freeBars 4 (some .long) :: TT) rmX4_freeBars (va_Pc [.ref (G.1 95)] (GS rC G z)) (QL rC G Z z) 0 0 (Am rC G) := by
  refine g_met [(0, .ref (G.1 95))] (by decide) (Nat.le_of_ble_eq_true rfl) rfl ?_
  intro p e s m below meth cd F hr hlk ls H locs hl hh
  exact w_X4_freeBars F hr hlk hf hh hl
def j_X4_freePairs_73 (z : Sto) (ag4 : Int64 → Int32 → Option (Int64)) (ag15 : Int64 → Int32 → Int32 → Option (Int64)) (x3 : Int32) (x4 : Int32) (k0 : Int32) (k1 : Int64) : Option (Int64) := bd (f_X6_asBit k0 z) fun t11 => lt ((k1 + (Int32.toInt64 t11))) fun x1_12 => lt (x4 + (1 : Int32)) fun x4_13 => ag15 x1_12 x3 x4_13
def b_X4_freePairs_15 (z : Sto) (ag4 : Int64 → Int32 → Option (Int64)) (ag15 : Int64 → Int32 → Int32 → Option (Int64)) (x1 : Int64) (x3 : Int32) (x4 : Int32) : Option (Int64) := if x3 ≤ x4 then (lt (x3 + (1 : Int32)) fun x3_3 => ag4 x1 x3_3) else (bd (rdL z 96 81 x4) fun t4 => bd (rdL z 96 81 ((9 : Int32) + x3)) fun t5 => lt ((t4 * t5)) fun x5_6 => bd (rdL z 96 81 x3) fun t7 => bd (rdL z 96 81 ((9 : Int32) + x4)) fun t8 => lt ((t7 * t8)) fun x7_9 => if (lg_cmp x5_6 x7_9) = 0 then (j_X4_freePairs_73 z ag4 ag15 x3 x4 (0 : Int32) x1) else (j_X4_freePairs_73 z ag4 ag15 x3 x4 (1 : Int32) x1))
def b_X4_freePairs_4 (z : Sto)  (ag4 : Int64 → Int32 → Option (Int64)) (x1 : Int64) (x3 : Int32) : Option (Int64) := if (z.1 95 1) ≤ x3 then (some x1) else (wl3 (b_X4_freePairs_15 z ag4) fu x1 x3 (0 : Int32))
def f_X4_freePairs  (z : Sto) : Option (Int64) := wl2 (b_X4_freePairs_4 z) fu (0 : Int64) (0 : Int32)
set_option maxRecDepth 100000 in
set_option maxHeartbeats 4000000 in
theorem w_X4_freePairs_73 {z : Sto} {ag4 : Int64 → Int32 → Option (Int64)} {ag15 : Int64 → Int32 → Int32 → Option (Int64)} {Z : Int64} (F : Fx rC p s m args cd cX4_freePairs 9 RX4 G) (hr : meth.sig.returnType = (some .long)) (hlk : meth.locks = false) (hag4 : ∀ (x1 : Int64) (x3 : Int32), ag4 x1 x3 = some Z → ∀ {H : Heap} {locs : List Loc} {ls : Array Slot}, Hh rC G z s H locs → lv_has ls 9 [(0, .ref (G.1 95)), (1, .long x1), (3, .int x3)] → W p l e rmX4_freePairs s m args below meth cd H locs 0 0 (MQ below (QL rC G Z z) args s 0 0 (Am rC G)) (F0 m 4 ls [])) (hag15 : ∀ (x1 : Int64) (x3 : Int32) (x4 : Int32), ag15 x1 x3 x4 = some Z → ∀ {H : Heap} {locs : List Loc} {ls : Array Slot}, Hh rC G z s H locs → lv_has ls 9 [(0, .ref (G.1 95)), (1, .long x1), (3, .int x3), (4, .int x4)] → W p l e rmX4_freePairs s m args below meth cd H locs 0 0 (MQ below (QL rC G Z z) args s 0 0 (Am rC G)) (F0 m 15 ls [])) {x3 : Int32} {x4 : Int32} {k0 : Int32} {k1 : Int64} {H : Heap} {locs : List Loc} {ls : Array Slot} (hf : j_X4_freePairs_73 z ag4 ag15 x3 x4 k0 k1 = some Z) (hh : Hh rC G z s H locs) (hl : lv_has ls 9 [(0, .ref (G.1 95)), (3, .int x3), (4, .int x4)]) : W p l e rmX4_freePairs s m args below meth cd H locs 0 0 (MQ below (QL rC G Z z) args s 0 0 (Am rC G)) (F0 m 73 ls [.int k0, .long k1]) := by
  have hx := F.1
  have hb := F.2.1
  unfold j_X4_freePairs_73 at hf
  obtain ⟨t11, ht11, hf⟩ := ob hf
  refine m_X4_66 F hh (c_X6_asBit ht11) rfl hl (Nat.le_of_ble_eq_true rfl) dX4_freePairs_73 (fun H locs hh => ?_)
  refine lv_i2l hx hb dX4_freePairs_76 rfl ?_
  refine lv_ladd hx hb dX4_freePairs_77 ?_
  refine lv_topl (fun x1_12 ex1_12 => ?_)
  replace hf := lt_e ex1_12 hf
  refine lv_lstore_n (lv' := [(1, .long x1_12), (0, .ref (G.1 95)), (3, .int x3), (4, .int x4)]) hx hb dX4_freePairs_78 rfl hl (by decide) rfl (fun ls hl => ?_)
  obtain ⟨x4_13, ex4_13⟩ : ∃ y : Int32, y = x4 + (1 : Int32) := ⟨_, rfl⟩
  replace hf := lt_e ex4_13 hf
  refine lv_iinc (v := x4_13) (lv' := [(4, .int x4_13), (1, .long x1_12), (0, .ref (G.1 95)), (3, .int x3)]) hx hb dX4_freePairs_79 hl (k := 3) rfl (by rw [ex4_13]; rfl) (by decide) rfl (fun ls hl => ?_)
  refine lv_goto (tgt := 15) hx hb dX4_freePairs_82 (by decide) ?_
  exact hag15 _ _ _ hf  hh (lv_sub hl [2, 1, 3, 0] rfl)
set_option maxRecDepth 100000 in
set_option maxHeartbeats 4000000 in
theorem w_X4_freePairs_15 {z : Sto} {ag4 : Int64 → Int32 → Option (Int64)} {Z : Int64} (F : Fx rC p s m args cd cX4_freePairs 9 RX4 G) (hr : meth.sig.returnType = (some .long)) (hlk : meth.locks = false) (hag4 : ∀ (x1 : Int64) (x3 : Int32), ag4 x1 x3 = some Z → ∀ {H : Heap} {locs : List Loc} {ls : Array Slot}, Hh rC G z s H locs → lv_has ls 9 [(0, .ref (G.1 95)), (1, .long x1), (3, .int x3)] → W p l e rmX4_freePairs s m args below meth cd H locs 0 0 (MQ below (QL rC G Z z) args s 0 0 (Am rC G)) (F0 m 4 ls [])) : ∀ (n : Nat), ∀ (x1 : Int64) (x3 : Int32) (x4 : Int32), wl3 (b_X4_freePairs_15 z ag4) n x1 x3 x4 = some Z → ∀ {H : Heap} {locs : List Loc} {ls : Array Slot}, Hh rC G z s H locs → lv_has ls 9 [(0, .ref (G.1 95)), (1, .long x1), (3, .int x3), (4, .int x4)] → W p l e rmX4_freePairs s m args below meth cd H locs 0 0 (MQ below (QL rC G Z z) args s 0 0 (Am rC G)) (F0 m 15 ls []) := by
  have hx := F.1
  have hb := F.2.1
  intro n
  induction n with
  | zero =>
    intro x1 x3 x4 hf
    exact absurd hf (by intro h; cases h)
  | succ n ih =>
    intro x1 x3 x4 hf  H locs ls hh hl
    replace hf : b_X4_freePairs_15 z ag4 (wl3 (b_X4_freePairs_15 z ag4) n) x1 x3 x4 = some Z := hf
    unfold b_X4_freePairs_15 at hf
    refine lv_iload hx hb dX4_freePairs_15 (lv_at hl 3 rfl) ?_
    refine lv_iload_n hx hb dX4_freePairs_17 rfl (lv_at hl 2 rfl) ?_
    refine lv_icmp_ge (tgt := 85) hx hb dX4_freePairs_18 (by decide) (fun c2 => ?_) (fun c2 => ?_)
    · replace hf := itp c2 hf
      obtain ⟨x3_3, ex3_3⟩ : ∃ y : Int32, y = x3 + (1 : Int32) := ⟨_, rfl⟩
      replace hf := lt_e ex3_3 hf
      refine lv_iinc (v := x3_3) (lv' := [(3, .int x3_3), (0, .ref (G.1 95)), (1, .long x1), (4, .int x4)]) hx hb dX4_freePairs_85 hl (k := 2) rfl (by rw [ex3_3]; rfl) (by decide) rfl (fun ls hl => ?_)
      refine lv_goto (tgt := 4) hx hb dX4_freePairs_88 (by decide) ?_
      exact hag4 _ _ hf  hh (lv_sub hl [1, 2, 0] rfl)
    · replace hf := itn c2 hf
      refine lv_aload_n hx hb dX4_freePairs_21 rfl (lv_at hl 0 rfl) ?_
      refine r_X4_15 (b' := 96) F hh in_95 sh_95 rfl dX4_freePairs_22 ?_
      refine lv_iload hx hb dX4_freePairs_25 (lv_at hl 3 rfl) ?_
      obtain ⟨t4, ht4, hf⟩ := ob hf
      refine g_lald F hh in_96 sh_96 ht4 dX4_freePairs_27 ?_
      refine lv_aload_n hx hb dX4_freePairs_28 rfl (lv_at hl 0 rfl) ?_
      refine r_X4_15 (b' := 96) F hh in_95 sh_95 rfl dX4_freePairs_29 ?_
      refine lv_bipush (v := 9) hx hb dX4_freePairs_32 (by decide) ?_
      refine lv_iload_n hx hb dX4_freePairs_34 rfl (lv_at hl 2 rfl) ?_
      refine lv_iadd hx hb dX4_freePairs_35 ?_
      obtain ⟨t5, ht5, hf⟩ := ob hf
      refine g_lald F hh in_96 sh_96 ht5 dX4_freePairs_36 ?_
      refine lv_lmul hx hb dX4_freePairs_37 ?_
      refine lv_topl (fun x5_6 ex5_6 => ?_)
      replace hf := lt_e ex5_6 hf
      refine lv_lstore (lv' := [(5, .long x5_6), (0, .ref (G.1 95)), (1, .long x1), (3, .int x3), (4, .int x4)]) hx hb dX4_freePairs_38 hl (by decide) rfl (fun ls hl => ?_)
      refine lv_aload_n hx hb dX4_freePairs_40 rfl (lv_at hl 1 rfl) ?_
      refine r_X4_15 (b' := 96) F hh in_95 sh_95 rfl dX4_freePairs_41 ?_
      refine lv_iload_n hx hb dX4_freePairs_44 rfl (lv_at hl 3 rfl) ?_
      obtain ⟨t7, ht7, hf⟩ := ob hf
      refine g_lald F hh in_96 sh_96 ht7 dX4_freePairs_45 ?_
      refine lv_aload_n hx hb dX4_freePairs_46 rfl (lv_at hl 1 rfl) ?_
      refine r_X4_15 (b' := 96) F hh in_95 sh_95 rfl dX4_freePairs_47 ?_
      refine lv_bipush (v := 9) hx hb dX4_freePairs_50 (by decide) ?_
      refine lv_iload hx hb dX4_freePairs_52 (lv_at hl 4 rfl) ?_
      refine lv_iadd hx hb dX4_freePairs_54 ?_
      obtain ⟨t8, ht8, hf⟩ := ob hf
      refine g_lald F hh in_96 sh_96 ht8 dX4_freePairs_55 ?_
      refine lv_lmul hx hb dX4_freePairs_56 ?_
      refine lv_topl (fun x7_9 ex7_9 => ?_)
      replace hf := lt_e ex7_9 hf
      refine lv_lstore (lv' := [(7, .long x7_9), (5, .long x5_6), (0, .ref (G.1 95)), (1, .long x1), (3, .int x3), (4, .int x4)]) hx hb dX4_freePairs_57 hl (by decide) rfl (fun ls hl => ?_)
      refine lv_lload_n hx hb dX4_freePairs_59 rfl (lv_at hl 3 rfl) ?_
      refine lv_lload hx hb dX4_freePairs_60 (lv_at hl 1 rfl) ?_
      refine lv_lload hx hb dX4_freePairs_62 (lv_at hl 0 rfl) ?_
      refine W.lcmp hx hb dX4_freePairs_64 ?_
      refine lv_if_eq (tgt := 72) hx hb dX4_freePairs_65 (by decide) (fun c10 => ?_) (fun c10 => ?_)
      · replace hf := itp c10 hf
        refine lv_iconst (v := 0) hx hb dX4_freePairs_72 (by decide) ?_
        exact w_X4_freePairs_73 F hr hlk hag4 ih hf  hh (lv_sub hl [2, 4, 5] rfl)
      · replace hf := itn c10 hf
        refine lv_iconst (v := 1) hx hb dX4_freePairs_68 (by decide) ?_
        refine lv_goto (tgt := 73) hx hb dX4_freePairs_69 (by decide) ?_
        exact w_X4_freePairs_73 F hr hlk hag4 ih hf  hh (lv_sub hl [2, 4, 5] rfl)
set_option maxRecDepth 100000 in
set_option maxHeartbeats 4000000 in
theorem w_X4_freePairs_4 {z : Sto}  {Z : Int64} (F : Fx rC p s m args cd cX4_freePairs 9 RX4 G) (hr : meth.sig.returnType = (some .long)) (hlk : meth.locks = false)  : ∀ (n : Nat), ∀ (x1 : Int64) (x3 : Int32), wl2 (b_X4_freePairs_4 z) n x1 x3 = some Z → ∀ {H : Heap} {locs : List Loc} {ls : Array Slot}, Hh rC G z s H locs → lv_has ls 9 [(0, .ref (G.1 95)), (1, .long x1), (3, .int x3)] → W p l e rmX4_freePairs s m args below meth cd H locs 0 0 (MQ below (QL rC G Z z) args s 0 0 (Am rC G)) (F0 m 4 ls []) := by
  have hx := F.1
  have hb := F.2.1
  intro n
  induction n with
  | zero =>
    intro x1 x3 hf
    exact absurd hf (by intro h; cases h)
  | succ n ih =>
    intro x1 x3 hf  H locs ls hh hl
    replace hf : b_X4_freePairs_4 z (wl2 (b_X4_freePairs_4 z) n) x1 x3 = some Z := hf
    unfold b_X4_freePairs_4 at hf
    refine lv_iload_n hx hb dX4_freePairs_4 rfl (lv_at hl 2 rfl) ?_
    refine lv_aload_n hx hb dX4_freePairs_5 rfl (lv_at hl 0 rfl) ?_
    refine r_X4_35 F hh in_95 sh_95 dX4_freePairs_6 ?_
    refine lv_icmp_ge (tgt := 91) hx hb dX4_freePairs_9 (by decide) (fun c1 => ?_) (fun c1 => ?_)
    · replace hf := itp c1 hf
      refine lv_lload_n hx hb dX4_freePairs_91 rfl (lv_at hl 1 rfl) ?_
      exact g_lret F hr hlk hh (Option.some.inj hf) rfl dX4_freePairs_92
    · replace hf := itn c1 hf
      refine lv_iconst (v := 0) hx hb dX4_freePairs_12 (by decide) ?_
      refine lv_istore (lv' := [(4, .int (0 : Int32)), (0, .ref (G.1 95)), (1, .long x1), (3, .int x3)]) hx hb dX4_freePairs_13 hl (by decide) rfl (fun ls hl => ?_)
      exact w_X4_freePairs_15 F hr hlk ih fu _ _ _ hf  hh (lv_sub hl [1, 2, 3, 0] rfl)
set_option maxRecDepth 100000 in
set_option maxHeartbeats 4000000 in
theorem w_X4_freePairs {Z : Int64} (F : Fx rC p s m args cd cX4_freePairs 9 RX4 G) (hr : meth.sig.returnType = (some .long)) (hlk : meth.locks = false)  {z : Sto} {H : Heap} {locs : List Loc} {ls : Array Slot} (hf : f_X4_freePairs  z = some Z) (hh : Hh rC G z s H locs) (hl : lv_has ls 9 [(0, .ref (G.1 95))]) : W p l e rmX4_freePairs s m args below meth cd H locs 0 0 (MQ below (QL rC G Z z) args s 0 0 (Am rC G)) (F0 m 0 ls []) := by
  have hx := F.1
  have hb := F.2.1
  unfold f_X4_freePairs at hf
  refine lv_lconst (v := 0) hx hb dX4_freePairs_0 (by decide) ?_
  refine lv_lstore_n (lv' := [(1, .long (0 : Int64)), (0, .ref (G.1 95))]) hx hb dX4_freePairs_1 rfl hl (by decide) rfl (fun ls hl => ?_)
  refine lv_iconst (v := 0) hx hb dX4_freePairs_2 (by decide) ?_
  refine lv_istore_n (lv' := [(3, .int (0 : Int32)), (1, .long (0 : Int64)), (0, .ref (G.1 95))]) hx hb dX4_freePairs_3 rfl hl (by decide) rfl (fun ls hl => ?_)
  exact w_X4_freePairs_4 F hr hlk fu _ _ hf  hh (lv_sub hl [2, 1, 0] rfl)
theorem c_X4_freePairs {l : Launch} {G : Gm}  {z : Sto} {Z : Int64} (hf : f_X4_freePairs  z = some Z) : Met l yX4_freePairs (Cond.code yX4_freePairs cX4_freePairs 9 (some .long) :: TT) rmX4_freePairs (va_Pc [.ref (G.1 95)] (GS rC G z)) (QL rC G Z z) 0 0 (Am rC G) := by
  refine g_met [(0, .ref (G.1 95))] (by decide) (Nat.le_of_ble_eq_true rfl) rfl ?_
  intro p e s m below meth cd F hr hlk ls H locs hl hh
  exact w_X4_freePairs F hr hlk hf hh hl
def j_X4_signOf_43 (z : Sto)  (k0 : Int32) (k1 : Int32) : Option (Int32) := if k1 = k0 then (some (1 : Int32)) else (some (-1 : Int32))
def j_X4_signOf_29 (z : Sto)  (k0 : Int32) : Option (Int32) := if 0 ≤ (lg_cmp (z.2 95 3) (0 : Int64)) then (j_X4_signOf_43 z (0 : Int32) k0) else (j_X4_signOf_43 z (1 : Int32) k0)
def f_X4_signOf (x1 : Int32) (z : Sto) : Option (Int32) := bd (rdL z 97 9 x1) fun t1 => if (lg_cmp t1 (0 : Int64)) = 0 then (some (0 : Int32)) else (bd (rdL z 97 9 x1) fun t3 => if 0 ≤ (lg_cmp t3 (0 : Int64)) then (j_X4_signOf_29 z (0 : Int32)) else (j_X4_signOf_29 z (1 : Int32)))
set_option maxRecDepth 100000 in
set_option maxHeartbeats 4000000 in
theorem w_X4_signOf_43 {z : Sto}  {Z : Int32} (F : Fx rC p s m args cd cX4_signOf 2 RX4 G) (hr : meth.sig.returnType = (some .int)) (hlk : meth.locks = false)  {k0 : Int32} {k1 : Int32} {H : Heap} {locs : List Loc} {ls : Array Slot} (hf : j_X4_signOf_43 z k0 k1 = some Z) (hh : Hh rC G z s H locs) (hl : lv_has ls 2 []) : W p l e rmX4_signOf s m args below meth cd H locs 0 0 (MQ below (QI rC G Z z) args s 0 0 (Am rC G)) (F0 m 43 ls [.int k0, .int k1]) := by
  have hx := F.1
  have hb := F.2.1
  unfold j_X4_signOf_43 at hf
  refine lv_icmp_ne (tgt := 50) hx hb dX4_signOf_43 (by decide) (fun c6 => ?_) (fun c6 => ?_)
  · replace hf := itn c6 hf
    refine lv_iconst (v := -1) hx hb dX4_signOf_50 (by decide) ?_
    exact g_iret F hr hlk hh (Option.some.inj hf) rfl dX4_signOf_51
  · replace hf := itp c6 hf
    refine lv_iconst (v := 1) hx hb dX4_signOf_46 (by decide) ?_
    refine lv_goto (tgt := 51) hx hb dX4_signOf_47 (by decide) ?_
    exact g_iret F hr hlk hh (Option.some.inj hf) rfl dX4_signOf_51
set_option maxRecDepth 100000 in
set_option maxHeartbeats 4000000 in
theorem w_X4_signOf_29 {z : Sto}  {Z : Int32} (F : Fx rC p s m args cd cX4_signOf 2 RX4 G) (hr : meth.sig.returnType = (some .int)) (hlk : meth.locks = false)  {k0 : Int32} {H : Heap} {locs : List Loc} {ls : Array Slot} (hf : j_X4_signOf_29 z k0 = some Z) (hh : Hh rC G z s H locs) (hl : lv_has ls 2 [(0, .ref (G.1 95))]) : W p l e rmX4_signOf s m args below meth cd H locs 0 0 (MQ below (QI rC G Z z) args s 0 0 (Am rC G)) (F0 m 29 ls [.int k0]) := by
  have hx := F.1
  have hb := F.2.1
  unfold j_X4_signOf_29 at hf
  refine lv_aload_n hx hb dX4_signOf_29 rfl (lv_at hl 0 rfl) ?_
  refine r_X4_9 F hh in_95 sh_95 dX4_signOf_30 ?_
  refine lv_lconst (v := 0) hx hb dX4_signOf_33 (by decide) ?_
  refine W.lcmp hx hb dX4_signOf_34 ?_
  refine lv_if_ge (tgt := 42) hx hb dX4_signOf_35 (by decide) (fun c5 => ?_) (fun c5 => ?_)
  · replace hf := itp c5 hf
    refine lv_iconst (v := 0) hx hb dX4_signOf_42 (by decide) ?_
    exact w_X4_signOf_43 F hr hlk hf  hh (lv_sub hl [] rfl)
  · replace hf := itn c5 hf
    refine lv_iconst (v := 1) hx hb dX4_signOf_38 (by decide) ?_
    refine lv_goto (tgt := 43) hx hb dX4_signOf_39 (by decide) ?_
    exact w_X4_signOf_43 F hr hlk hf  hh (lv_sub hl [] rfl)
set_option maxRecDepth 100000 in
set_option maxHeartbeats 4000000 in
theorem w_X4_signOf {Z : Int32} (F : Fx rC p s m args cd cX4_signOf 2 RX4 G) (hr : meth.sig.returnType = (some .int)) (hlk : meth.locks = false) {x1 : Int32} {z : Sto} {H : Heap} {locs : List Loc} {ls : Array Slot} (hf : f_X4_signOf x1 z = some Z) (hh : Hh rC G z s H locs) (hl : lv_has ls 2 [(0, .ref (G.1 95)), (1, .int x1)]) : W p l e rmX4_signOf s m args below meth cd H locs 0 0 (MQ below (QI rC G Z z) args s 0 0 (Am rC G)) (F0 m 0 ls []) := by
  have hx := F.1
  have hb := F.2.1
  unfold f_X4_signOf at hf
  refine lv_aload_n hx hb dX4_signOf_0 rfl (lv_at hl 0 rfl) ?_
  refine r_X4_19 (b' := 97) F hh in_95 sh_95 rfl dX4_signOf_1 ?_
  refine lv_iload_n hx hb dX4_signOf_4 rfl (lv_at hl 1 rfl) ?_
  obtain ⟨t1, ht1, hf⟩ := ob hf
  refine g_lald F hh in_97 sh_97 ht1 dX4_signOf_5 ?_
  refine lv_lconst (v := 0) hx hb dX4_signOf_6 (by decide) ?_
  refine W.lcmp hx hb dX4_signOf_7 ?_
  refine lv_if_ne (tgt := 13) hx hb dX4_signOf_8 (by decide) (fun c2 => ?_) (fun c2 => ?_)
  · replace hf := itn c2 hf
    refine lv_aload_n hx hb dX4_signOf_13 rfl (lv_at hl 0 rfl) ?_
    refine r_X4_19 (b' := 97) F hh in_95 sh_95 rfl dX4_signOf_14 ?_
    refine lv_iload_n hx hb dX4_signOf_17 rfl (lv_at hl 1 rfl) ?_
    obtain ⟨t3, ht3, hf⟩ := ob hf
    refine g_lald F hh in_97 sh_97 ht3 dX4_signOf_18 ?_
    refine lv_lconst (v := 0) hx hb dX4_signOf_19 (by decide) ?_
    refine W.lcmp hx hb dX4_signOf_20 ?_
    refine lv_if_ge (tgt := 28) hx hb dX4_signOf_21 (by decide) (fun c4 => ?_) (fun c4 => ?_)
    · replace hf := itp c4 hf
      refine lv_iconst (v := 0) hx hb dX4_signOf_28 (by decide) ?_
      exact w_X4_signOf_29 F hr hlk hf  hh (lv_sub hl [0] rfl)
    · replace hf := itn c4 hf
      refine lv_iconst (v := 1) hx hb dX4_signOf_24 (by decide) ?_
      refine lv_goto (tgt := 29) hx hb dX4_signOf_25 (by decide) ?_
      exact w_X4_signOf_29 F hr hlk hf  hh (lv_sub hl [0] rfl)
  · replace hf := itp c2 hf
    refine lv_iconst (v := 0) hx hb dX4_signOf_11 (by decide) ?_
    exact g_iret F hr hlk hh (Option.some.inj hf) rfl dX4_signOf_12
theorem c_X4_signOf {l : Launch} {G : Gm} {x1 : Int32} {z : Sto} {Z : Int32} (hf : f_X4_signOf x1 z = some Z) : Met l yX4_signOf (Cond.code yX4_signOf cX4_signOf 2 (some .int) :: TT) rmX4_signOf (va_Pc [.ref (G.1 95), .int x1] (GS rC G z)) (QI rC G Z z) 0 0 (Am rC G) := by
  refine g_met [(0, .ref (G.1 95)), (1, .int x1)] (by decide) (Nat.le_of_ble_eq_true rfl) rfl ?_
  intro p e s m below meth cd F hr hlk ls H locs hl hh
  exact w_X4_signOf F hr hlk hf hh hl
def b_X4_isMultiple_38 (q1 : Nat) (z : Sto)  (ag38 : Int32 → Int32 → Int32 → Option (Int32)) (x2 : Int32) (x3 : Int32) (x4 : Int32) : Option (Int32) := if (z.1 95 1) ≤ x4 then (some (1 : Int32)) else (bd (rdL z (q1) 24 (x2 + x4)) fun t7 => bd (rdL z 97 9 x3) fun t8 => bd (rdL z (q1) 24 (x2 + x3)) fun t9 => bd (rdL z 97 9 x4) fun t10 => if (lg_cmp (t7 * t8) (t9 * t10)) = 0 then (bd (rdL z 97 9 x4) fun t12 => if (lg_cmp t12 (0 : Int64)) = 0 then (bd (rdL z (q1) 24 (x2 + x4)) fun t15 => if (lg_cmp t15 (0 : Int64)) = 0 then (lt (x4 + (1 : Int32)) fun x4_17 => ag38 x2 x3 x4_17) else (some (0 : Int32))) else (lt (x4 + (1 : Int32)) fun x4_14 => ag38 x2 x3 x4_14)) else (some (0 : Int32)))
def b_X4_isMultiple_5 (q1 : Nat) (z : Sto)  (ag5 : Int32 → Int32 → Int32 → Option (Int32)) (x2 : Int32) (x3 : Int32) (x4 : Int32) : Option (Int32) := if (z.1 95 1) ≤ x4 then (wl3 (b_X4_isMultiple_38 q1 z) fu x2 x3 (0 : Int32)) else (bd (rdL z 97 9 x4) fun t2 => if (lg_cmp t2 (0 : Int64)) = 0 then (lt (x4 + (1 : Int32)) fun x4_4 => ag5 x2 x3 x4_4) else (lt (x4 + (1 : Int32)) fun x4_5 => ag5 x2 x4 x4_5))
def f_X4_isMultiple (q1 : Nat) (x2 : Int32) (z : Sto) : Option (Int32) := wl3 (b_X4_isMultiple_5 q1 z) fu x2 (0 : Int32) (0 : Int32)
set_option maxRecDepth 100000 in
set_option maxHeartbeats 4000000 in
theorem w_X4_isMultiple_38 {q1 : Nat} {z : Sto}  {Z : Int32} (F : Fx rC p s m args cd cX4_isMultiple 5 RX4 G) (hr : meth.sig.returnType = (some .boolean)) (hlk : meth.locks = false) (hq1 : LoC q1 24)  : ∀ (n : Nat), ∀ (x2 : Int32) (x3 : Int32) (x4 : Int32), wl3 (b_X4_isMultiple_38 q1 z) n x2 x3 x4 = some Z → ∀ {H : Heap} {locs : List Loc} {ls : Array Slot}, Hh rC G z s H locs → lv_has ls 5 [(0, .ref (G.1 95)), (1, .ref (G.1 (q1))), (2, .int x2), (3, .int x3), (4, .int x4)] → W p l e rmX4_isMultiple s m args below meth cd H locs 0 0 (MQ below (QI rC G Z z) args s 0 0 (Am rC G)) (F0 m 38 ls []) := by
  have hx := F.1
  have hb := F.2.1
  intro n
  induction n with
  | zero =>
    intro x2 x3 x4 hf
    exact absurd hf (by intro h; cases h)
  | succ n ih =>
    intro x2 x3 x4 hf  H locs ls hh hl
    replace hf : b_X4_isMultiple_38 q1 z (wl3 (b_X4_isMultiple_38 q1 z) n) x2 x3 x4 = some Z := hf
    unfold b_X4_isMultiple_38 at hf
    refine lv_iload hx hb dX4_isMultiple_38 (lv_at hl 4 rfl) ?_
    refine lv_aload_n hx hb dX4_isMultiple_40 rfl (lv_at hl 0 rfl) ?_
    refine r_X4_35 F hh in_95 sh_95 dX4_isMultiple_41 ?_
    refine lv_icmp_ge (tgt := 110) hx hb dX4_isMultiple_44 (by decide) (fun c6 => ?_) (fun c6 => ?_)
    · replace hf := itp c6 hf
      refine lv_iconst (v := 1) hx hb dX4_isMultiple_110 (by decide) ?_
      exact g_zret F hr hlk rfl hh (Option.some.inj hf) rfl dX4_isMultiple_111
    · replace hf := itn c6 hf
      refine lv_aload_n hx hb dX4_isMultiple_47 rfl (lv_at hl 1 rfl) ?_
      refine lv_iload_n hx hb dX4_isMultiple_48 rfl (lv_at hl 2 rfl) ?_
      refine lv_iload hx hb dX4_isMultiple_49 (lv_at hl 4 rfl) ?_
      refine lv_iadd hx hb dX4_isMultiple_51 ?_
      obtain ⟨t7, ht7, hf⟩ := ob hf
      refine g_lald F hh (loi hq1) (los hq1) ht7 dX4_isMultiple_52 ?_
      refine lv_aload_n hx hb dX4_isMultiple_53 rfl (lv_at hl 0 rfl) ?_
      refine r_X4_19 (b' := 97) F hh in_95 sh_95 rfl dX4_isMultiple_54 ?_
      refine lv_iload_n hx hb dX4_isMultiple_57 rfl (lv_at hl 3 rfl) ?_
      obtain ⟨t8, ht8, hf⟩ := ob hf
      refine g_lald F hh in_97 sh_97 ht8 dX4_isMultiple_58 ?_
      refine lv_lmul hx hb dX4_isMultiple_59 ?_
      refine lv_aload_n hx hb dX4_isMultiple_60 rfl (lv_at hl 1 rfl) ?_
      refine lv_iload_n hx hb dX4_isMultiple_61 rfl (lv_at hl 2 rfl) ?_
      refine lv_iload_n hx hb dX4_isMultiple_62 rfl (lv_at hl 3 rfl) ?_
      refine lv_iadd hx hb dX4_isMultiple_63 ?_
      obtain ⟨t9, ht9, hf⟩ := ob hf
      refine g_lald F hh (loi hq1) (los hq1) ht9 dX4_isMultiple_64 ?_
      refine lv_aload_n hx hb dX4_isMultiple_65 rfl (lv_at hl 0 rfl) ?_
      refine r_X4_19 (b' := 97) F hh in_95 sh_95 rfl dX4_isMultiple_66 ?_
      refine lv_iload hx hb dX4_isMultiple_69 (lv_at hl 4 rfl) ?_
      obtain ⟨t10, ht10, hf⟩ := ob hf
      refine g_lald F hh in_97 sh_97 ht10 dX4_isMultiple_71 ?_
      refine lv_lmul hx hb dX4_isMultiple_72 ?_
      refine W.lcmp hx hb dX4_isMultiple_73 ?_
      refine lv_if_eq (tgt := 79) hx hb dX4_isMultiple_74 (by decide) (fun c11 => ?_) (fun c11 => ?_)
      · replace hf := itp c11 hf
        refine lv_aload_n hx hb dX4_isMultiple_79 rfl (lv_at hl 0 rfl) ?_
        refine r_X4_19 (b' := 97) F hh in_95 sh_95 rfl dX4_isMultiple_80 ?_
        refine lv_iload hx hb dX4_isMultiple_83 (lv_at hl 4 rfl) ?_
        obtain ⟨t12, ht12, hf⟩ := ob hf
        refine g_lald F hh in_97 sh_97 ht12 dX4_isMultiple_85 ?_
        refine lv_lconst (v := 0) hx hb dX4_isMultiple_86 (by decide) ?_
        refine W.lcmp hx hb dX4_isMultiple_87 ?_
        refine lv_if_ne (tgt := 104) hx hb dX4_isMultiple_88 (by decide) (fun c13 => ?_) (fun c13 => ?_)
        · replace hf := itn c13 hf
          obtain ⟨x4_14, ex4_14⟩ : ∃ y : Int32, y = x4 + (1 : Int32) := ⟨_, rfl⟩
          replace hf := lt_e ex4_14 hf
          refine lv_iinc (v := x4_14) (lv' := [(4, .int x4_14), (0, .ref (G.1 95)), (1, .ref (G.1 (q1))), (2, .int x2), (3, .int x3)]) hx hb dX4_isMultiple_104 hl (k := 4) rfl (by rw [ex4_14]; rfl) (by decide) rfl (fun ls hl => ?_)
          refine lv_goto (tgt := 38) hx hb dX4_isMultiple_107 (by decide) ?_
          exact ih _ _ _ hf  hh (lv_sub hl [1, 2, 3, 4, 0] rfl)
        · replace hf := itp c13 hf
          refine lv_aload_n hx hb dX4_isMultiple_91 rfl (lv_at hl 1 rfl) ?_
          refine lv_iload_n hx hb dX4_isMultiple_92 rfl (lv_at hl 2 rfl) ?_
          refine lv_iload hx hb dX4_isMultiple_93 (lv_at hl 4 rfl) ?_
          refine lv_iadd hx hb dX4_isMultiple_95 ?_
          obtain ⟨t15, ht15, hf⟩ := ob hf
          refine g_lald F hh (loi hq1) (los hq1) ht15 dX4_isMultiple_96 ?_
          refine lv_lconst (v := 0) hx hb dX4_isMultiple_97 (by decide) ?_
          refine W.lcmp hx hb dX4_isMultiple_98 ?_
          refine lv_if_eq (tgt := 104) hx hb dX4_isMultiple_99 (by decide) (fun c16 => ?_) (fun c16 => ?_)
          · replace hf := itp c16 hf
            obtain ⟨x4_17, ex4_17⟩ : ∃ y : Int32, y = x4 + (1 : Int32) := ⟨_, rfl⟩
            replace hf := lt_e ex4_17 hf
            refine lv_iinc (v := x4_17) (lv' := [(4, .int x4_17), (0, .ref (G.1 95)), (1, .ref (G.1 (q1))), (2, .int x2), (3, .int x3)]) hx hb dX4_isMultiple_104 hl (k := 4) rfl (by rw [ex4_17]; rfl) (by decide) rfl (fun ls hl => ?_)
            refine lv_goto (tgt := 38) hx hb dX4_isMultiple_107 (by decide) ?_
            exact ih _ _ _ hf  hh (lv_sub hl [1, 2, 3, 4, 0] rfl)
          · replace hf := itn c16 hf
            refine lv_iconst (v := 0) hx hb dX4_isMultiple_102 (by decide) ?_
            exact g_zret F hr hlk rfl hh (Option.some.inj hf) rfl dX4_isMultiple_103
      · replace hf := itn c11 hf
        refine lv_iconst (v := 0) hx hb dX4_isMultiple_77 (by decide) ?_
        exact g_zret F hr hlk rfl hh (Option.some.inj hf) rfl dX4_isMultiple_78
set_option maxRecDepth 100000 in
set_option maxHeartbeats 4000000 in
theorem w_X4_isMultiple_5 {q1 : Nat} {z : Sto}  {Z : Int32} (F : Fx rC p s m args cd cX4_isMultiple 5 RX4 G) (hr : meth.sig.returnType = (some .boolean)) (hlk : meth.locks = false) (hq1 : LoC q1 24)  : ∀ (n : Nat), ∀ (x2 : Int32) (x3 : Int32) (x4 : Int32), wl3 (b_X4_isMultiple_5 q1 z) n x2 x3 x4 = some Z → ∀ {H : Heap} {locs : List Loc} {ls : Array Slot}, Hh rC G z s H locs → lv_has ls 5 [(0, .ref (G.1 95)), (1, .ref (G.1 (q1))), (2, .int x2), (3, .int x3), (4, .int x4)] → W p l e rmX4_isMultiple s m args below meth cd H locs 0 0 (MQ below (QI rC G Z z) args s 0 0 (Am rC G)) (F0 m 5 ls []) := by
  have hx := F.1
  have hb := F.2.1
  intro n
  induction n with
  | zero =>
    intro x2 x3 x4 hf
    exact absurd hf (by intro h; cases h)
  | succ n ih =>
    intro x2 x3 x4 hf  H locs ls hh hl
    replace hf : b_X4_isMultiple_5 q1 z (wl3 (b_X4_isMultiple_5 q1 z) n) x2 x3 x4 = some Z := hf
    unfold b_X4_isMultiple_5 at hf
    refine lv_iload hx hb dX4_isMultiple_5 (lv_at hl 4 rfl) ?_
    refine lv_aload_n hx hb dX4_isMultiple_7 rfl (lv_at hl 0 rfl) ?_
    refine r_X4_35 F hh in_95 sh_95 dX4_isMultiple_8 ?_
    refine lv_icmp_ge (tgt := 35) hx hb dX4_isMultiple_11 (by decide) (fun c1 => ?_) (fun c1 => ?_)
    · replace hf := itp c1 hf
      refine lv_iconst (v := 0) hx hb dX4_isMultiple_35 (by decide) ?_
      refine lv_istore (lv' := [(4, .int (0 : Int32)), (0, .ref (G.1 95)), (1, .ref (G.1 (q1))), (2, .int x2), (3, .int x3)]) hx hb dX4_isMultiple_36 hl (by decide) rfl (fun ls hl => ?_)
      exact w_X4_isMultiple_38 F hr hlk hq1 fu _ _ _ hf  hh (lv_sub hl [1, 2, 3, 4, 0] rfl)
    · replace hf := itn c1 hf
      refine lv_aload_n hx hb dX4_isMultiple_14 rfl (lv_at hl 0 rfl) ?_
      refine r_X4_19 (b' := 97) F hh in_95 sh_95 rfl dX4_isMultiple_15 ?_
      refine lv_iload hx hb dX4_isMultiple_18 (lv_at hl 4 rfl) ?_
      obtain ⟨t2, ht2, hf⟩ := ob hf
      refine g_lald F hh in_97 sh_97 ht2 dX4_isMultiple_20 ?_
      refine lv_lconst (v := 0) hx hb dX4_isMultiple_21 (by decide) ?_
      refine W.lcmp hx hb dX4_isMultiple_22 ?_
      refine lv_if_eq (tgt := 29) hx hb dX4_isMultiple_23 (by decide) (fun c3 => ?_) (fun c3 => ?_)
      · replace hf := itp c3 hf
        obtain ⟨x4_4, ex4_4⟩ : ∃ y : Int32, y = x4 + (1 : Int32) := ⟨_, rfl⟩
        replace hf := lt_e ex4_4 hf
        refine lv_iinc (v := x4_4) (lv' := [(4, .int x4_4), (0, .ref (G.1 95)), (1, .ref (G.1 (q1))), (2, .int x2), (3, .int x3)]) hx hb dX4_isMultiple_29 hl (k := 4) rfl (by rw [ex4_4]; rfl) (by decide) rfl (fun ls hl => ?_)
        refine lv_goto (tgt := 5) hx hb dX4_isMultiple_32 (by decide) ?_
        exact ih _ _ _ hf  hh (lv_sub hl [1, 2, 3, 4, 0] rfl)
      · replace hf := itn c3 hf
        refine lv_iload hx hb dX4_isMultiple_26 (lv_at hl 4 rfl) ?_
        refine lv_istore_n (lv' := [(3, .int x4), (0, .ref (G.1 95)), (1, .ref (G.1 (q1))), (2, .int x2), (4, .int x4)]) hx hb dX4_isMultiple_28 rfl hl (by decide) rfl (fun ls hl => ?_)
        obtain ⟨x4_5, ex4_5⟩ : ∃ y : Int32, y = x4 + (1 : Int32) := ⟨_, rfl⟩
        replace hf := lt_e ex4_5 hf
        refine lv_iinc (v := x4_5) (lv' := [(4, .int x4_5), (3, .int x4), (0, .ref (G.1 95)), (1, .ref (G.1 (q1))), (2, .int x2)]) hx hb dX4_isMultiple_29 hl (k := 4) rfl (by rw [ex4_5]; rfl) (by decide) rfl (fun ls hl => ?_)
        refine lv_goto (tgt := 5) hx hb dX4_isMultiple_32 (by decide) ?_
        exact ih _ _ _ hf  hh (lv_sub hl [2, 3, 4, 1, 0] rfl)
set_option maxRecDepth 100000 in
set_option maxHeartbeats 4000000 in
theorem w_X4_isMultiple {q1 : Nat} {Z : Int32} (F : Fx rC p s m args cd cX4_isMultiple 5 RX4 G) (hr : meth.sig.returnType = (some .boolean)) (hlk : meth.locks = false) (hq1 : LoC q1 24) {x2 : Int32} {z : Sto} {H : Heap} {locs : List Loc} {ls : Array Slot} (hf : f_X4_isMultiple q1 x2 z = some Z) (hh : Hh rC G z s H locs) (hl : lv_has ls 5 [(0, .ref (G.1 95)), (1, .ref (G.1 (q1))), (2, .int x2)]) : W p l e rmX4_isMultiple s m args below meth cd H locs 0 0 (MQ below (QI rC G Z z) args s 0 0 (Am rC G)) (F0 m 0 ls []) := by
  have hx := F.1
  have hb := F.2.1
  unfold f_X4_isMultiple at hf
  refine lv_iconst (v := 0) hx hb dX4_isMultiple_0 (by decide) ?_
  refine lv_istore_n (lv' := [(3, .int (0 : Int32)), (0, .ref (G.1 95)), (1, .ref (G.1 (q1))), (2, .int x2)]) hx hb dX4_isMultiple_1 rfl hl (by decide) rfl (fun ls hl => ?_)
  refine lv_iconst (v := 0) hx hb dX4_isMultiple_2 (by decide) ?_
  refine lv_istore (lv' := [(4, .int (0 : Int32)), (3, .int (0 : Int32)), (0, .ref (G.1 95)), (1, .ref (G.1 (q1))), (2, .int x2)]) hx hb dX4_isMultiple_3 hl (by decide) rfl (fun ls hl => ?_)
  exact w_X4_isMultiple_5 F hr hlk hq1 fu _ _ _ hf  hh (lv_sub hl [2, 3, 4, 1, 0] rfl)
theorem c_X4_isMultiple {l : Launch} {G : Gm} {q1 : Nat} {x2 : Int32} {z : Sto} {Z : Int32} (hq1 : LoC q1 24) (hf : f_X4_isMultiple q1 x2 z = some Z) : Met l yX4_isMultiple (Cond.code yX4_isMultiple cX4_isMultiple 5 (some .boolean) :: TT) rmX4_isMultiple (va_Pc [.ref (G.1 95), .ref (G.1 (q1)), .int x2] (GS rC G z)) (QI rC G Z z) 0 0 (Am rC G) := by
  refine g_met [(0, .ref (G.1 95)), (1, .ref (G.1 (q1))), (2, .int x2)] (by decide) (Nat.le_of_ble_eq_true rfl) rfl ?_
  intro p e s m below meth cd F hr hlk ls H locs hl hh
  exact w_X4_isMultiple F hr hlk hq1 hf hh hl
