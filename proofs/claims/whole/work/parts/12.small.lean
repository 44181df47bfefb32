variable {p : Program} {l : Launch} {e : Env} {s : State} {m : MethodId} {args : Array Value} {below : List Frame} {meth : Method} {cd : Code} {G : Gm}

def f_X2_remember (q : Nat)  (z : Sto) : Option (Sto) := bd (rdR 6 (z.1 (q) 2)) fun t1 => bd (f_X1_takeAll (q + 1 + 1 + 6 * t1) 1 z) fun z3 => lt (upI z3 (q) 2 (((z3.1 (q) 2) + (1 : Int32)) - ((z3.1 (q) 2) + (1 : Int32)) / (6 : Int32) * (6 : Int32))) fun z4 => lt (upI z4 (q) 1 (mnI ((z4.1 (q) 1) + (1 : Int32)) (6 : Int32))) fun z5 => some z5
set_option maxRecDepth 100000 in
set_option maxHeartbeats 4000000 in
theorem w_X2_remember {q : Nat} {Z : Sto} (F : Fx rC p s m args cd cX2_remember 2 RX2 G) (hr : meth.sig.returnType = none) (hlk : meth.locks = false) (hq : HiC q)  {z : Sto} {H : Heap} {locs : List Loc} {ls : Array Slot} (hf : f_X2_remember q  z = some Z) (hh : Hh rC G z s H locs) (hl : lv_has ls 2 [(0, .ref (G.1 (q))), (1, .ref (G.1 1))]) : W p l e rmX2_remember s m args below meth cd H locs 0 0 (MQ below (QV rC G Z) args s 0 0 (Am rC G)) (F0 m 0 ls []) := by
  have hx := F.1
  have hb := F.2.1
  unfold f_X2_remember at hf
  refine lv_aload_n hx hb dX2_remember_0 rfl (lv_at hl 0 rfl) ?_
  refine r_X2_11 (b' := (q + 1)) F hh (hii0 hq) (his0 hq) rfl dX2_remember_1 ?_
  refine lv_aload_n hx hb dX2_remember_4 rfl (lv_at hl 0 rfl) ?_
  refine r_X2_18 F hh (hii0 hq) (his0 hq) dX2_remember_5 ?_
  obtain ⟨t1, ht1, hf⟩ := ob hf
  refine g_fald F hh (hii1 hq) (his1 hq) ht1 dX2_remember_8 ?_
  refine lv_aload_n hx hb dX2_remember_9 rfl (lv_at hl 1 rfl) ?_
  obtain ⟨z3, ht2, hf⟩ := ob hf
  refine m_X2_22 F hh (c_X1_takeAll (hif hq (rdR_e ht1).2.2) fr_1 ht2) (fri0 (hif hq (rdR_e ht1).2.2)) (frs0 (hif hq (rdR_e ht1).2.2)) rfl hl (Nat.le_of_ble_eq_true rfl) dX2_remember_10 (fun H locs hh => ?_)
  refine lv_aload_n hx hb dX2_remember_13 rfl (lv_at hl 0 rfl) ?_
  refine lv_aload_n hx hb dX2_remember_14 rfl (lv_at hl 0 rfl) ?_
  refine r_X2_18 F hh (hii0 hq) (his0 hq) dX2_remember_15 ?_
  refine lv_iconst (v := 1) hx hb dX2_remember_18 (by decide) ?_
  refine lv_iadd hx hb dX2_remember_19 ?_
  refine lv_bipush (v := 6) hx hb dX2_remember_20 (by decide) ?_
  refine lv_irem hx hb dX2_remember_22 (by decide) ?_
  refine s_X2_18 F hh (hii0 hq) (his0 hq) dX2_remember_23 (fun z4 ez4 H locs hh => ?_)
  replace hf := lt_e ez4 hf
  refine lv_aload_n hx hb dX2_remember_26 rfl (lv_at hl 0 rfl) ?_
  refine lv_aload_n hx hb dX2_remember_27 rfl (lv_at hl 0 rfl) ?_
  refine r_X2_26 F hh (hii0 hq) (his0 hq) dX2_remember_28 ?_
  refine lv_iconst (v := 1) hx hb dX2_remember_31 (by decide) ?_
  refine lv_iadd hx hb dX2_remember_32 ?_
  refine lv_bipush (v := 6) hx hb dX2_remember_33 (by decide) ?_
  refine h_X2_29 F hl (Nat.le_of_ble_eq_true rfl) (Nat.le_of_ble_eq_true rfl) dX2_remember_35 ?_
  refine s_X2_26 F hh (hii0 hq) (his0 hq) dX2_remember_38 (fun z5 ez5 H locs hh => ?_)
  replace hf := lt_e ez5 hf
  exact g_vret F hr hlk hh (Option.some.inj hf) dX2_remember_41
theorem c_X2_remember {l : Launch} {G : Gm} {q : Nat}  {z : Sto} {Z : Sto} (hq : HiC q) (hf : f_X2_remember q  z = some Z) : Met l yX2_remember (Cond.code yX2_remember cX2_remember 2 none :: TT) rmX2_remember (va_Pc [.ref (G.1 (q)), .ref (G.1 1)] (GS rC G z)) (QV rC G Z) 0 0 (Am rC G) := by
  refine g_met [(0, .ref (G.1 (q))), (1, .ref (G.1 1))] (by decide) (Nat.le_of_ble_eq_true rfl) rfl ?_
  intro p e s m below meth cd F hr hlk ls H locs hl hh
  exact w_X2_remember F hr hlk hq hf hh hl
def f_X2_takeBack (q : Nat)  (z : Sto) : Option (Sto) := lt (upI z (q) 2 ((((z.1 (q) 2) + (6 : Int32)) - (1 : Int32)) - (((z.1 (q) 2) + (6 : Int32)) - (1 : Int32)) / (6 : Int32) * (6 : Int32))) fun z1 => lt (upI z1 (q) 1 ((z1.1 (q) 1) - (1 : Int32))) fun z2 => bd (rdR 6 (z2.1 (q) 2)) fun t3 => bd (f_X1_takeAll 1 (q + 1 + 1 + 6 * t3) z2) fun z5 => some z5
set_option maxRecDepth 100000 in
set_option maxHeartbeats 4000000 in
theorem w_X2_takeBack {q : Nat} {Z : Sto} (F : Fx rC p s m args cd cX2_takeBack 2 RX2 G) (hr : meth.sig.returnType = none) (hlk : meth.locks = false) (hq : HiC q)  {z : Sto} {H : Heap} {locs : List Loc} {ls : Array Slot} (hf : f_X2_takeBack q  z = some Z) (hh : Hh rC G z s H locs) (hl : lv_has ls 2 [(0, .ref (G.1 (q))), (1, .ref (G.1 1))]) : W p l e rmX2_takeBack s m args below meth cd H locs 0 0 (MQ below (QV rC G Z) args s 0 0 (Am rC G)) (F0 m 0 ls []) := by
  have hx := F.1
  have hb := F.2.1
  unfold f_X2_takeBack at hf
  refine lv_aload_n hx hb dX2_takeBack_0 rfl (lv_at hl 0 rfl) ?_
  refine lv_aload_n hx hb dX2_takeBack_1 rfl (lv_at hl 0 rfl) ?_
  refine r_X2_18 F hh (hii0 hq) (his0 hq) dX2_takeBack_2 ?_
  refine lv_bipush (v := 6) hx hb dX2_takeBack_5 (by decide) ?_
  refine lv_iadd hx hb dX2_takeBack_7 ?_
  refine lv_iconst (v := 1) hx hb dX2_takeBack_8 (by decide) ?_
  refine lv_isub hx hb dX2_takeBack_9 ?_
  refine lv_bipush (v := 6) hx hb dX2_takeBack_10 (by decide) ?_
  refine lv_irem hx hb dX2_takeBack_12 (by decide) ?_
  refine s_X2_18 F hh (hii0 hq) (his0 hq) dX2_takeBack_13 (fun z1 ez1 H locs hh => ?_)
  replace hf := lt_e ez1 hf
  refine lv_aload_n hx hb dX2_takeBack_16 rfl (lv_at hl 0 rfl) ?_
  refine lv_dup hx hb dX2_takeBack_17 rfl ?_
  refine r_X2_26 F hh (hii0 hq) (his0 hq) dX2_takeBack_18 ?_
  refine lv_iconst (v := 1) hx hb dX2_takeBack_21 (by decide) ?_
  refine lv_isub hx hb dX2_takeBack_22 ?_
  refine s_X2_26 F hh (hii0 hq) (his0 hq) dX2_takeBack_23 (fun z2 ez2 H locs hh => ?_)
  replace hf := lt_e ez2 hf
  refine lv_aload_n hx hb dX2_takeBack_26 rfl (lv_at hl 1 rfl) ?_
  refine lv_aload_n hx hb dX2_takeBack_27 rfl (lv_at hl 0 rfl) ?_
  refine r_X2_11 (b' := (q + 1)) F hh (hii0 hq) (his0 hq) rfl dX2_takeBack_28 ?_
  refine lv_aload_n hx hb dX2_takeBack_31 rfl (lv_at hl 0 rfl) ?_
  refine r_X2_18 F hh (hii0 hq) (his0 hq) dX2_takeBack_32 ?_
  obtain ⟨t3, ht3, hf⟩ := ob hf
  refine g_fald F hh (hii1 hq) (his1 hq) ht3 dX2_takeBack_35 ?_
  obtain ⟨z5, ht4, hf⟩ := ob hf
  refine m_X2_22 F hh (c_X1_takeAll fr_1 (hif hq (rdR_e ht3).2.2) ht4) in_1 sh_1 rfl hl (Nat.le_of_ble_eq_true rfl) dX2_takeBack_36 (fun H locs hh => ?_)
  exact g_vret F hr hlk hh (Option.some.inj hf) dX2_takeBack_39
theorem c_X2_takeBack {l : Launch} {G : Gm} {q : Nat}  {z : Sto} {Z : Sto} (hq : HiC q) (hf : f_X2_takeBack q  z = some Z) : Met l yX2_takeBack (Cond.code yX2_takeBack cX2_takeBack 2 none :: TT) rmX2_takeBack (va_Pc [.ref (G.1 (q)), .ref (G.1 1)] (GS rC G z)) (QV rC G Z) 0 0 (Am rC G) := by
  refine g_met [(0, .ref (G.1 (q))), (1, .ref (G.1 1))] (by decide) (Nat.le_of_ble_eq_true rfl) rfl ?_
  intro p e s m below meth cd F hr hlk ls H locs hl hh
  exact w_X2_takeBack F hr hlk hq hf hh hl
def b_X2_takeAll_18 (q : Nat) (q1 : Nat)  (ag18 : Int32 → Sto → Option (Sto)) (x2 : Int32) (z : Sto) : Option (Sto) := if (6 : Int32) ≤ x2 then (some z) else (bd (rdR 6 x2) fun t4 => bd (rdR 6 x2) fun t5 => bd (f_X1_takeAll (q + 1 + 1 + 6 * t4) (q1 + 1 + 1 + 6 * t5) z) fun z7 => lt (x2 + (1 : Int32)) fun x2_8 => ag18 x2_8 z7)
def f_X2_takeAll (q : Nat) (q1 : Nat)  (z : Sto) : Option (Sto) := lt (upI z (q) 1 (z.1 (q1) 1)) fun z1 => lt (upI z1 (q) 2 (z1.1 (q1) 2)) fun z2 => wl2 (b_X2_takeAll_18 q q1) fu (0 : Int32) z2
set_option maxRecDepth 100000 in
set_option maxHeartbeats 4000000 in
theorem w_X2_takeAll_18 {q : Nat} {q1 : Nat}  {Z : Sto} (F : Fx rC p s m args cd cX2_takeAll 3 RX2 G) (hr : meth.sig.returnType = none) (hlk : meth.locks = false) (hq : HiC q) (hq1 : HiC q1)  : ∀ (n : Nat), ∀ (x2 : Int32) (z : Sto), wl2 (b_X2_takeAll_18 q q1) n x2 z = some Z → ∀ {H : Heap} {locs : List Loc} {ls : Array Slot}, Hh rC G z s H locs → lv_has ls 3 [(0, .ref (G.1 (q))), (1, .ref (G.1 (q1))), (2, .int x2)] → W p l e rmX2_takeAll s m args below meth cd H locs 0 0 (MQ below (QV rC G Z) args s 0 0 (Am rC G)) (F0 m 18 ls []) := by
  have hx := F.1
  have hb := F.2.1
  intro n
  induction n with
  | zero =>
    intro x2 z hf
    exact absurd hf (by intro h; cases h)
  | succ n ih =>
    intro x2 z hf  H locs ls hh hl
    replace hf : b_X2_takeAll_18 q q1 (wl2 (b_X2_takeAll_18 q q1) n) x2 z = some Z := hf
    unfold b_X2_takeAll_18 at hf
    refine lv_iload_n hx hb dX2_takeAll_18 rfl (lv_at hl 2 rfl) ?_
    refine lv_bipush (v := 6) hx hb dX2_takeAll_19 (by decide) ?_
    refine lv_icmp_ge (tgt := 45) hx hb dX2_takeAll_21 (by decide) (fun c3 => ?_) (fun c3 => ?_)
    · replace hf := itp c3 hf
      exact g_vret F hr hlk hh (Option.some.inj hf) dX2_takeAll_45
    · replace hf := itn c3 hf
      refine lv_aload_n hx hb dX2_takeAll_24 rfl (lv_at hl 0 rfl) ?_
      refine r_X2_11 (b' := (q + 1)) F hh (hii0 hq) (his0 hq) rfl dX2_takeAll_25 ?_
      refine lv_iload_n hx hb dX2_takeAll_28 rfl (lv_at hl 2 rfl) ?_
      obtain ⟨t4, ht4, hf⟩ := ob hf
      refine g_fald F hh (hii1 hq) (his1 hq) ht4 dX2_takeAll_29 ?_
      refine lv_aload_n hx hb dX2_takeAll_30 rfl (lv_at hl 1 rfl) ?_
      refine r_X2_11 (b' := (q1 + 1)) F hh (hii0 hq1) (his0 hq1) rfl dX2_takeAll_31 ?_
      refine lv_iload_n hx hb dX2_takeAll_34 rfl (lv_at hl 2 rfl) ?_
      obtain ⟨t5, ht5, hf⟩ := ob hf
      refine g_fald F hh (hii1 hq1) (his1 hq1) ht5 dX2_takeAll_35 ?_
      obtain ⟨z7, ht6, hf⟩ := ob hf
      refine m_X2_22 F hh (c_X1_takeAll (hif hq (rdR_e ht4).2.2) (hif hq1 (rdR_e ht5).2.2) ht6) (fri0 (hif hq (rdR_e ht4).2.2)) (frs0 (hif hq (rdR_e ht4).2.2)) rfl hl (Nat.le_of_ble_eq_true rfl) dX2_takeAll_36 (fun H locs hh => ?_)
      obtain ⟨x2_8, ex2_8⟩ : ∃ y : Int32, y = x2 + (1 : Int32) := ⟨_, rfl⟩
      replace hf := lt_e ex2_8 hf
      refine lv_iinc (v := x2_8) (lv' := [(2, .int x2_8), (0, .ref (G.1 (q))), (1, .ref (G.1 (q1)))]) hx hb dX2_takeAll_39 hl (k := 2) rfl (by rw [ex2_8]; rfl) (by decide) rfl (fun ls hl => ?_)
      refine lv_goto (tgt := 18) hx hb dX2_takeAll_42 (by decide) ?_
      exact ih _ _ hf  hh (lv_sub hl [1, 2, 0] rfl)
set_option maxRecDepth 100000 in
set_option maxHeartbeats 4000000 in
theorem w_X2_takeAll {q : Nat} {q1 : Nat} {Z : Sto} (F : Fx rC p s m args cd cX2_takeAll 3 RX2 G) (hr : meth.sig.returnType = none) (hlk : meth.locks = false) (hq : HiC q) (hq1 : HiC q1)  {z : Sto} {H : Heap} {locs : List Loc} {ls : Array Slot} (hf : f_X2_takeAll q q1  z = some Z) (hh : Hh rC G z s H locs) (hl : lv_has ls 3 [(0, .ref (G.1 (q))), (1, .ref (G.1 (q1)))]) : W p l e rmX2_takeAll s m args below meth cd H locs 0 0 (MQ below (QV rC G Z) args s 0 0 (Am rC G)) (F0 m 0 ls []) := by
  have hx := F.1
  have hb := F.2.1
  unfold f_X2_takeAll at hf
  refine lv_aload_n hx hb dX2_takeAll_0 rfl (lv_at hl 0 rfl) ?_
  refine lv_aload_n hx hb dX2_takeAll_1 rfl (lv_at hl 1 rfl) ?_
  refine r_X2_26 F hh (hii0 hq1) (his0 hq1) dX2_takeAll_2 ?_
  refine s_X2_26 F hh (hii0 hq) (his0 hq) dX2_takeAll_5 (fun z1 ez1 H locs hh => ?_)
  replace hf := lt_e ez1 hf
  refine lv_aload_n hx hb dX2_takeAll_8 rfl (lv_at hl 0 rfl) ?_
  refine lv_aload_n hx hb dX2_takeAll_9 rfl (lv_at hl 1 rfl) ?_
  refine r_X2_18 F hh (hii0 hq1) (his0 hq1) dX2_takeAll_10 ?_
  refine s_X2_18 F hh (hii0 hq) (his0 hq) dX2_takeAll_13 (fun z2 ez2 H locs hh => ?_)
  replace hf := lt_e ez2 hf
  refine lv_iconst (v := 0) hx hb dX2_takeAll_16 (by decide) ?_
  refine lv_istore_n (lv' := [(2, .int (0 : Int32)), (0, .ref (G.1 (q))), (1, .ref (G.1 (q1)))]) hx hb dX2_takeAll_17 rfl hl (by decide) rfl (fun ls hl => ?_)
  exact w_X2_takeAll_18 F hr hlk hq hq1 fu _ _ hf  hh (lv_sub hl [1, 2, 0] rfl)
theorem c_X2_takeAll {l : Launch} {G : Gm} {q : Nat} {q1 : Nat}  {z : Sto} {Z : Sto} (hq : HiC q) (hq1 : HiC q1) (hf : f_X2_takeAll q q1  z = some Z) : Met l yX2_takeAll (Cond.code yX2_takeAll cX2_takeAll 3 none :: TT) rmX2_takeAll (va_Pc [.ref (G.1 (q)), .ref (G.1 (q1))] (GS rC G z)) (QV rC G Z) 0 0 (Am rC G) := by
  refine g_met [(0, .ref (G.1 (q))), (1, .ref (G.1 (q1)))] (by decide) (Nat.le_of_ble_eq_true rfl) rfl ?_
  intro p e s m below meth cd F hr hlk ls H locs hl hh
  exact w_X2_takeAll F hr hlk hq hq1 hf hh hl
def f_X3_begin (q : Nat) (x1 : Int32) (x2 : Int32) (z : Sto) : Option (Sto) := lt (upI z (q) 0 (1 : Int32)) fun z1 => lt (upI z1 (q) 1 x1) fun z2 => lt (upI z2 (q) 2 x2) fun z3 => bd (f_J7_fill_d0a16 (q + 1) 24 (0 : Int64) z3) fun z5 => some z5
set_option maxRecDepth 100000 in
set_option maxHeartbeats 4000000 in
theorem w_X3_begin {q : Nat} {Z : Sto} (F : Fx rC p s m args cd cX3_begin 3 RX3 G) (hr : meth.sig.returnType = none) (hlk : meth.locks = false) (hq : RoC q) {x1 : Int32} {x2 : Int32} {z : Sto} {H : Heap} {locs : List Loc} {ls : Array Slot} (hf : f_X3_begin q x1 x2 z = some Z) (hh : Hh rC G z s H locs) (hl : lv_has ls 3 [(0, .ref (G.1 (q))), (1, .int x1), (2, .int x2)]) : W p l e rmX3_begin s m args below meth cd H locs 0 0 (MQ below (QV rC G Z) args s 0 0 (Am rC G)) (F0 m 0 ls []) := by
  have hx := F.1
  have hb := F.2.1
  unfold f_X3_begin at hf
  refine lv_aload_n hx hb dX3_begin_0 rfl (lv_at hl 0 rfl) ?_
  refine lv_iconst (v := 1) hx hb dX3_begin_1 (by decide) ?_
  refine s_X3_15 F hh (roi0 hq) (ros0 hq) rfl rfl dX3_begin_2 (fun z1 ez1 H locs hh => ?_)
  replace hf := lt_e ez1 hf
  refine lv_aload_n hx hb dX3_begin_5 rfl (lv_at hl 0 rfl) ?_
  refine lv_iload_n hx hb dX3_begin_6 rfl (lv_at hl 1 rfl) ?_
  refine s_X3_19 F hh (roi0 hq) (ros0 hq) dX3_begin_7 (fun z2 ez2 H locs hh => ?_)
  replace hf := lt_e ez2 hf
  refine lv_aload_n hx hb dX3_begin_10 rfl (lv_at hl 0 rfl) ?_
  refine lv_iload_n hx hb dX3_begin_11 rfl (lv_at hl 2 rfl) ?_
  refine s_X3_23 F hh (roi0 hq) (ros0 hq) dX3_begin_12 (fun z3 ez3 H locs hh => ?_)
  replace hf := lt_e ez3 hf
  refine lv_aload_n hx hb dX3_begin_15 rfl (lv_at hl 0 rfl) ?_
  refine r_X3_9 (b' := (q + 1)) F hh (roi0 hq) (ros0 hq) rfl dX3_begin_16 ?_
  refine lv_lconst (v := 0) hx hb dX3_begin_19 (by decide) ?_
  obtain ⟨z5, ht4, hf⟩ := ob hf
  refine m_X3_26 F hh (c_J7_fill_d0a16 (rol hq) ht4) rfl hl (Nat.le_of_ble_eq_true rfl) dX3_begin_20 (fun H locs hh => ?_)
  exact g_vret F hr hlk hh (Option.some.inj hf) dX3_begin_23
theorem c_X3_begin {l : Launch} {G : Gm} {q : Nat} {x1 : Int32} {x2 : Int32} {z : Sto} {Z : Sto} (hq : RoC q) (hf : f_X3_begin q x1 x2 z = some Z) : Met l yX3_begin (Cond.code yX3_begin cX3_begin 3 none :: TT) rmX3_begin (va_Pc [.ref (G.1 (q)), .int x1, .int x2] (GS rC G z)) (QV rC G Z) 0 0 (Am rC G) := by
  refine g_met [(0, .ref (G.1 (q))), (1, .int x1), (2, .int x2)] (by decide) (Nat.le_of_ble_eq_true rfl) rfl ?_
  intro p e s m below meth cd F hr hlk ls H locs hl hh
  exact w_X3_begin F hr hlk hq hf hh hl
def f_X3_holds (q : Nat) (x1 : Int32) (x2 : Int32) (z : Sto) : Option (Int32) := if x2 < 0 then (some (0 : Int32)) else (if x1 < 0 then (some (0 : Int32)) else (if ((z.1 (q) 2) - x2) < x1 then (some (0 : Int32)) else (some (1 : Int32))))
set_option maxRecDepth 100000 in
set_option maxHeartbeats 4000000 in
theorem w_X3_holds {q : Nat} {Z : Int32} (F : Fx rC p s m args cd cX3_holds 3 RX3 G) (hr : meth.sig.returnType = (some .boolean)) (hlk : meth.locks = false) (hq : RoC q) {x1 : Int32} {x2 : Int32} {z : Sto} {H : Heap} {locs : List Loc} {ls : Array Slot} (hf : f_X3_holds q x1 x2 z = some Z) (hh : Hh rC G z s H locs) (hl : lv_has ls 3 [(0, .ref (G.1 (q))), (1, .int x1), (2, .int x2)]) : W p l e rmX3_holds s m args below meth cd H locs 0 0 (MQ below (QI rC G Z z) args s 0 0 (Am rC G)) (F0 m 0 ls []) := by
  have hx := F.1
  have hb := F.2.1
  unfold f_X3_holds at hf
  refine lv_iload_n hx hb dX3_holds_0 rfl (lv_at hl 2 rfl) ?_
  refine lv_if_lt (tgt := 22) hx hb dX3_holds_1 (by decide) (fun c1 => ?_) (fun c1 => ?_)
  · replace hf := itp c1 hf
    refine lv_iconst (v := 0) hx hb dX3_holds_22 (by decide) ?_
    exact g_zret F hr hlk rfl hh (Option.some.inj hf) rfl dX3_holds_23
  · replace hf := itn c1 hf
    refine lv_iload_n hx hb dX3_holds_4 rfl (lv_at hl 1 rfl) ?_
    refine lv_if_lt (tgt := 22) hx hb dX3_holds_5 (by decide) (fun c2 => ?_) (fun c2 => ?_)
    · replace hf := itp c2 hf
      refine lv_iconst (v := 0) hx hb dX3_holds_22 (by decide) ?_
      exact g_zret F hr hlk rfl hh (Option.some.inj hf) rfl dX3_holds_23
    · replace hf := itn c2 hf
      refine lv_iload_n hx hb dX3_holds_8 rfl (lv_at hl 1 rfl) ?_
      refine lv_aload_n hx hb dX3_holds_9 rfl (lv_at hl 0 rfl) ?_
      refine r_X3_23 F hh (roi0 hq) (ros0 hq) dX3_holds_10 ?_
      refine lv_iload_n hx hb dX3_holds_13 rfl (lv_at hl 2 rfl) ?_
      refine lv_isub hx hb dX3_holds_14 ?_
      refine lv_icmp_gt (tgt := 22) hx hb dX3_holds_15 (by decide) (fun c3 => ?_) (fun c3 => ?_)
      · replace hf := itp c3 hf
        refine lv_iconst (v := 0) hx hb dX3_holds_22 (by decide) ?_
        exact g_zret F hr hlk rfl hh (Option.some.inj hf) rfl dX3_holds_23
      · replace hf := itn c3 hf
        refine lv_iconst (v := 1) hx hb dX3_holds_18 (by decide) ?_
        refine lv_goto (tgt := 23) hx hb dX3_holds_19 (by decide) ?_
        exact g_zret F hr hlk rfl hh (Option.some.inj hf) rfl dX3_holds_23
theorem c_X3_holds {l : Launch} {G : Gm} {q : Nat} {x1 : Int32} {x2 : Int32} {z : Sto} {Z : Int32} (hq : RoC q) (hf : f_X3_holds q x1 x2 z = some Z) : Met l yX3_holds (Cond.code yX3_holds cX3_holds 3 (some .boolean) :: TT) rmX3_holds (va_Pc [.ref (G.1 (q)), .int x1, .int x2] (GS rC G z)) (QI rC G Z z) 0 0 (Am rC G) := by
  refine g_met [(0, .ref (G.1 (q))), (1, .int x1), (2, .int x2)] (by decide) (Nat.le_of_ble_eq_true rfl) rfl ?_
  intro p e s m below meth cd F hr hlk ls H locs hl hh
  exact w_X3_holds F hr hlk hq hf hh hl
def b_X3_isSmall_2 (q : Nat) (z : Sto)  (ag2 : Int32 → Int32 → Int32 → Option (Int32)) (x1 : Int32) (x2 : Int32) (x3 : Int32) : Option (Int32) := if x2 ≤ x3 then (some (1 : Int32)) else (bd (rdL z (q + 1) 24 (x1 + x3)) fun t2 => if (lg_cmp t2 (-99 : Int64)) < 0 then (some (0 : Int32)) else (bd (rdL z (q + 1) 24 (x1 + x3)) fun t4 => if (lg_cmp t4 (99 : Int64)) ≤ 0 then (lt (x3 + (1 : Int32)) fun x3_6 => ag2 x1 x2 x3_6) else (some (0 : Int32))))
def f_X3_isSmall (q : Nat) (x1 : Int32) (x2 : Int32) (z : Sto) : Option (Int32) := wl3 (b_X3_isSmall_2 q z) fu x1 x2 (0 : Int32)
set_option maxRecDepth 100000 in
set_option maxHeartbeats 4000000 in
theorem w_X3_isSmall_2 {q : Nat} {z : Sto}  {Z : Int32} (F : Fx rC p s m args cd cX3_isSmall 4 RX3 G) (hr : meth.sig.returnType = (some .boolean)) (hlk : meth.locks = false) (hq : RoC q)  : ∀ (n : Nat), ∀ (x1 : Int32) (x2 : Int32) (x3 : Int32), wl3 (b_X3_isSmall_2 q z) n x1 x2 x3 = some Z → ∀ {H : Heap} {locs : List Loc} {ls : Array Slot}, Hh rC G z s H locs → lv_has ls 4 [(0, .ref (G.1 (q))), (1, .int x1), (2, .int x2), (3, .int x3)] → W p l e rmX3_isSmall s m args below meth cd H locs 0 0 (MQ below (QI rC G Z z) args s 0 0 (Am rC G)) (F0 m 2 ls []) := by
  have hx := F.1
  have hb := F.2.1
  intro n
  induction n with
  | zero =>
    intro x1 x2 x3 hf
    exact absurd hf (by intro h; cases h)
  | succ n ih =>
    intro x1 x2 x3 hf  H locs ls hh hl
    replace hf : b_X3_isSmall_2 q z (wl3 (b_X3_isSmall_2 q z) n) x1 x2 x3 = some Z := hf
    unfold b_X3_isSmall_2 at hf
    refine lv_iload_n hx hb dX3_isSmall_2 rfl (lv_at hl 3 rfl) ?_
    refine lv_iload_n hx hb dX3_isSmall_3 rfl (lv_at hl 2 rfl) ?_
    refine lv_icmp_ge (tgt := 45) hx hb dX3_isSmall_4 (by decide) (fun c1 => ?_) (fun c1 => ?_)
    · replace hf := itp c1 hf
      refine lv_iconst (v := 1) hx hb dX3_isSmall_45 (by decide) ?_
      exact g_zret F hr hlk rfl hh (Option.some.inj hf) rfl dX3_isSmall_46
    · replace hf := itn c1 hf
      refine lv_aload_n hx hb dX3_isSmall_7 rfl (lv_at hl 0 rfl) ?_
      refine r_X3_9 (b' := (q + 1)) F hh (roi0 hq) (ros0 hq) rfl dX3_isSmall_8 ?_
      refine lv_iload_n hx hb dX3_isSmall_11 rfl (lv_at hl 1 rfl) ?_
      refine lv_iload_n hx hb dX3_isSmall_12 rfl (lv_at hl 3 rfl) ?_
      refine lv_iadd hx hb dX3_isSmall_13 ?_
      obtain ⟨t2, ht2, hf⟩ := ob hf
      refine g_lald F hh (roi1 hq) (ros1 hq) ht2 dX3_isSmall_14 ?_
      refine lv_ldc2 hx hb F.2.2.2.1 (F.2.2.2.2.1 _ lk824) dX3_isSmall_15 ?_
      refine W.lcmp hx hb dX3_isSmall_18 ?_
      refine lv_if_lt (tgt := 37) hx hb dX3_isSmall_19 (by decide) (fun c3 => ?_) (fun c3 => ?_)
      · replace hf := itp c3 hf
        refine lv_iconst (v := 0) hx hb dX3_isSmall_37 (by decide) ?_
        exact g_zret F hr hlk rfl hh (Option.some.inj hf) rfl dX3_isSmall_38
      · replace hf := itn c3 hf
        refine lv_aload_n hx hb dX3_isSmall_22 rfl (lv_at hl 0 rfl) ?_
        refine r_X3_9 (b' := (q + 1)) F hh (roi0 hq) (ros0 hq) rfl dX3_isSmall_23 ?_
        refine lv_iload_n hx hb dX3_isSmall_26 rfl (lv_at hl 1 rfl) ?_
        refine lv_iload_n hx hb dX3_isSmall_27 rfl (lv_at hl 3 rfl) ?_
        refine lv_iadd hx hb dX3_isSmall_28 ?_
        obtain ⟨t4, ht4, hf⟩ := ob hf
        refine g_lald F hh (roi1 hq) (ros1 hq) ht4 dX3_isSmall_29 ?_
        refine lv_ldc2 hx hb F.2.2.2.1 (F.2.2.2.2.1 _ lk825) dX3_isSmall_30 ?_
        refine W.lcmp hx hb dX3_isSmall_33 ?_
        refine lv_if_le (tgt := 39) hx hb dX3_isSmall_34 (by decide) (fun c5 => ?_) (fun c5 => ?_)
        · replace hf := itp c5 hf
          obtain ⟨x3_6, ex3_6⟩ : ∃ y : Int32, y = x3 + (1 : Int32) := ⟨_, rfl⟩
          replace hf := lt_e ex3_6 hf
          refine lv_iinc (v := x3_6) (lv' := [(3, .int x3_6), (0, .ref (G.1 (q))), (1, .int x1), (2, .int x2)]) hx hb dX3_isSmall_39 hl (k := 3) rfl (by rw [ex3_6]; rfl) (by decide) rfl (fun ls hl => ?_)
          refine lv_goto (tgt := 2) hx hb dX3_isSmall_42 (by decide) ?_
          exact ih _ _ _ hf  hh (lv_sub hl [1, 2, 3, 0] rfl)
        · replace hf := itn c5 hf
          refine lv_iconst (v := 0) hx hb dX3_isSmall_37 (by decide) ?_
          exact g_zret F hr hlk rfl hh (Option.some.inj hf) rfl dX3_isSmall_38
set_option maxRecDepth 100000 in
set_option maxHeartbeats 4000000 in
theorem w_X3_isSmall {q : Nat} {Z : Int32} (F : Fx rC p s m args cd cX3_isSmall 4 RX3 G) (hr : meth.sig.returnType = (some .boolean)) (hlk : meth.locks = false) (hq : RoC q) {x1 : Int32} {x2 : Int32} {z : Sto} {H : Heap} {locs : List Loc} {ls : Array Slot} (hf : f_X3_isSmall q x1 x2 z = some Z) (hh : Hh rC G z s H locs) (hl : lv_has ls 4 [(0, .ref (G.1 (q))), (1, .int x1), (2, .int x2)]) : W p l e rmX3_isSmall s m args below meth cd H locs 0 0 (MQ below (QI rC G Z z) args s 0 0 (Am rC G)) (F0 m 0 ls []) := by
  have hx := F.1
  have hb := F.2.1
  unfold f_X3_isSmall at hf
  refine lv_iconst (v := 0) hx hb dX3_isSmall_0 (by decide) ?_
  refine lv_istore_n (lv' := [(3, .int (0 : Int32)), (0, .ref (G.1 (q))), (1, .int x1), (2, .int x2)]) hx hb dX3_isSmall_1 rfl hl (by decide) rfl (fun ls hl => ?_)
  exact w_X3_isSmall_2 F hr hlk hq fu _ _ _ hf  hh (lv_sub hl [1, 2, 3, 0] rfl)
theorem c_X3_isSmall {l : Launch} {G : Gm} {q : Nat} {x1 : Int32} {x2 : Int32} {z : Sto} {Z : Int32} (hq : RoC q) (hf : f_X3_isSmall q x1 x2 z = some Z) : Met l yX3_isSmall (Cond.code yX3_isSmall cX3_isSmall 4 (some .boolean) :: TT) rmX3_isSmall (va_Pc [.ref (G.1 (q)), .int x1, .int x2] (GS rC G z)) (QI rC G Z z) 0 0 (Am rC G) := by
  refine g_met [(0, .ref (G.1 (q))), (1, .int x1), (2, .int x2)] (by decide) (Nat.le_of_ble_eq_true rfl) rfl ?_
  intro p e s m below meth cd F hr hlk ls H locs hl hh
  exact w_X3_isSmall F hr hlk hq hf hh hl
def f_X5_put (x1 : Int32) (z : Sto) : Option (Int32 × Sto) := if (z.1 111 1) < (60 : Int32) then (bd (wrI z 112 60 (z.1 111 1) (vp_nar .char ((Int32.toUInt32 x1) % 65536).toInt32)) fun z2 => lt (upI z2 111 1 ((z2.1 111 1) + (1 : Int32))) fun z3 => some ((1 : Int32), z3)) else (some ((0 : Int32), z))
set_option maxRecDepth 100000 in
set_option maxHeartbeats 4000000 in
theorem w_X5_put {Z : Int32 × Sto} (F : Fx rC p s m args cd cX5_put 2 RX5 G) (hr : meth.sig.returnType = (some .boolean)) (hlk : meth.locks = false) {x1 : Int32} {z : Sto} {H : Heap} {locs : List Loc} {ls : Array Slot} (hf : f_X5_put x1 z = some Z) (hh : Hh rC G z s H locs) (hl : lv_has ls 2 [(0, .ref (G.1 111)), (1, .int x1)]) : W p l e rmX5_put s m args below meth cd H locs 0 0 (MQ below (QI rC G Z.1 Z.2) args s 0 0 (Am rC G)) (F0 m 0 ls []) := by
  have hx := F.1
  have hb := F.2.1
  unfold f_X5_put at hf
  refine lv_aload_n hx hb dX5_put_0 rfl (lv_at hl 0 rfl) ?_
  refine r_X5_15 F hh in_111 sh_111 dX5_put_1 ?_
  refine lv_bipush (v := 60) hx hb dX5_put_4 (by decide) ?_
  refine lv_icmp_lt (tgt := 11) hx hb dX5_put_6 (by decide) (fun c1 => ?_) (fun c1 => ?_)
  · replace hf := itp c1 hf
    refine lv_aload_n hx hb dX5_put_11 rfl (lv_at hl 0 rfl) ?_
    refine r_X5_9 (b' := 112) F hh in_111 sh_111 rfl dX5_put_12 ?_
    refine lv_aload_n hx hb dX5_put_15 rfl (lv_at hl 0 rfl) ?_
    refine r_X5_15 F hh in_111 sh_111 dX5_put_16 ?_
    refine lv_iload_n hx hb dX5_put_19 rfl (lv_at hl 1 rfl) ?_
    refine lv_i2c hx hb dX5_put_20 rfl ?_
    obtain ⟨z2, hz2, hf⟩ := ob hf
    refine g_cast F hh in_112 sh_112 hz2 dX5_put_21 (fun H locs hh => ?_)
    refine lv_aload_n hx hb dX5_put_22 rfl (lv_at hl 0 rfl) ?_
    refine lv_dup hx hb dX5_put_23 rfl ?_
    refine r_X5_15 F hh in_111 sh_111 dX5_put_24 ?_
    refine lv_iconst (v := 1) hx hb dX5_put_27 (by decide) ?_
    refine lv_iadd hx hb dX5_put_28 ?_
    refine s_X5_15 F hh in_111 sh_111 dX5_put_29 (fun z3 ez3 H locs hh => ?_)
    replace hf := lt_e ez3 hf
    refine lv_iconst (v := 1) hx hb dX5_put_32 (by decide) ?_
    exact g_zretW F hr hlk rfl hh hf dX5_put_33
  · replace hf := itn c1 hf
    refine lv_iconst (v := 0) hx hb dX5_put_9 (by decide) ?_
    exact g_zretW F hr hlk rfl hh hf dX5_put_10
theorem c_X5_put {l : Launch} {G : Gm} {x1 : Int32} {z : Sto} {Z : Int32 × Sto} (hf : f_X5_put x1 z = some Z) : Met l yX5_put (Cond.code yX5_put cX5_put 2 (some .boolean) :: TT) rmX5_put (va_Pc [.ref (G.1 111), .int x1] (GS rC G z)) (QI rC G Z.1 Z.2) 0 0 (Am rC G) := by
  refine g_met [(0, .ref (G.1 111)), (1, .int x1)] (by decide) (Nat.le_of_ble_eq_true rfl) rfl ?_
  intro p e s m below meth cd F hr hlk ls H locs hl hh
  exact w_X5_put F hr hlk hf hh hl
def j_X5_letterHere_38  (z : Sto) : Option (Int32 × Sto) := if (z.1 111 1) ≤ (z.1 111 2) then (some ((0 : Int32), z)) else (bd (rdI z 112 60 (z.1 111 2)) fun t6 => some (t6, z))
def b_X5_letterHere_0  (ag0 : Sto → Option (Int32 × Sto)) (z : Sto) : Option (Int32 × Sto) := if (z.1 111 1) ≤ (z.1 111 2) then (j_X5_letterHere_38 z) else (bd (rdI z 112 60 (z.1 111 2)) fun t2 => if t2 = (32 : Int32) then (lt (upI z 111 2 ((z.1 111 2) + (1 : Int32))) fun z4 => ag0 z4) else (j_X5_letterHere_38 z))
def f_X5_letterHere  (z : Sto) : Option (Int32 × Sto) := wl1 (b_X5_letterHere_0) fu z
set_option maxRecDepth 100000 in
set_option maxHeartbeats 4000000 in
theorem w_X5_letterHere_38  {Z : Int32 × Sto} (F : Fx rC p s m args cd cX5_letterHere 1 RX5 G) (hr : meth.sig.returnType = (some .int)) (hlk : meth.locks = false)  {z : Sto} {H : Heap} {locs : List Loc} {ls : Array Slot} (hf : j_X5_letterHere_38 z = some Z) (hh : Hh rC G z s H locs) (hl : lv_has ls 1 [(0, .ref (G.1 111))]) : W p l e rmX5_letterHere s m args below meth cd H locs 0 0 (MQ below (QI rC G Z.1 Z.2) args s 0 0 (Am rC G)) (F0 m 38 ls []) := by
  have hx := F.1
  have hb := F.2.1
  unfold j_X5_letterHere_38 at hf
  refine lv_aload_n hx hb dX5_letterHere_38 rfl (lv_at hl 0 rfl) ?_
  refine r_X5_19 F hh in_111 sh_111 dX5_letterHere_39 ?_
  refine lv_aload_n hx hb dX5_letterHere_42 rfl (lv_at hl 0 rfl) ?_
  refine r_X5_15 F hh in_111 sh_111 dX5_letterHere_43 ?_
  refine lv_icmp_ge (tgt := 61) hx hb dX5_letterHere_46 (by decide) (fun c5 => ?_) (fun c5 => ?_)
  · replace hf := itp c5 hf
    refine lv_iconst (v := 0) hx hb dX5_letterHere_61 (by decide) ?_
    exact g_iretW F hr hlk hh hf dX5_letterHere_62
  · replace hf := itn c5 hf
    refine lv_aload_n hx hb dX5_letterHere_49 rfl (lv_at hl 0 rfl) ?_
    refine r_X5_9 (b' := 112) F hh in_111 sh_111 rfl dX5_letterHere_50 ?_
    refine lv_aload_n hx hb dX5_letterHere_53 rfl (lv_at hl 0 rfl) ?_
    refine r_X5_19 F hh in_111 sh_111 dX5_letterHere_54 ?_
    obtain ⟨t6, ht6, hf⟩ := ob hf
    refine g_cald F hh in_112 sh_112 ht6 dX5_letterHere_57 ?_
    refine lv_goto (tgt := 62) hx hb dX5_letterHere_58 (by decide) ?_
    exact g_iretW F hr hlk hh hf dX5_letterHere_62
set_option maxRecDepth 100000 in
set_option maxHeartbeats 4000000 in
theorem w_X5_letterHere_0  {Z : Int32 × Sto} (F : Fx rC p s m args cd cX5_letterHere 1 RX5 G) (hr : meth.sig.returnType = (some .int)) (hlk : meth.locks = false)  : ∀ (n : Nat), ∀ (z : Sto), wl1 (b_X5_letterHere_0) n z = some Z → ∀ {H : Heap} {locs : List Loc} {ls : Array Slot}, Hh rC G z s H locs → lv_has ls 1 [(0, .ref (G.1 111))] → W p l e rmX5_letterHere s m args below meth cd H locs 0 0 (MQ below (QI rC G Z.1 Z.2) args s 0 0 (Am rC G)) (F0 m 0 ls []) := by
  have hx := F.1
  have hb := F.2.1
  intro n
  induction n with
  | zero =>
    intro z hf
    exact absurd hf (by intro h; cases h)
  | succ n ih =>
    intro z hf  H locs ls hh hl
    replace hf : b_X5_letterHere_0 (wl1 (b_X5_letterHere_0) n) z = some Z := hf
    unfold b_X5_letterHere_0 at hf
    refine lv_aload_n hx hb dX5_letterHere_0 rfl (lv_at hl 0 rfl) ?_
    refine r_X5_19 F hh in_111 sh_111 dX5_letterHere_1 ?_
    refine lv_aload_n hx hb dX5_letterHere_4 rfl (lv_at hl 0 rfl) ?_
    refine r_X5_15 F hh in_111 sh_111 dX5_letterHere_5 ?_
    refine lv_icmp_ge (tgt := 38) hx hb dX5_letterHere_8 (by decide) (fun c1 => ?_) (fun c1 => ?_)
    · replace hf := itp c1 hf
      exact w_X5_letterHere_38 F hr hlk hf  hh (lv_sub hl [0] rfl)
    · replace hf := itn c1 hf
      refine lv_aload_n hx hb dX5_letterHere_11 rfl (lv_at hl 0 rfl) ?_
      refine r_X5_9 (b' := 112) F hh in_111 sh_111 rfl dX5_letterHere_12 ?_
      refine lv_aload_n hx hb dX5_letterHere_15 rfl (lv_at hl 0 rfl) ?_
      refine r_X5_19 F hh in_111 sh_111 dX5_letterHere_16 ?_
      obtain ⟨t2, ht2, hf⟩ := ob hf
      refine g_cald F hh in_112 sh_112 ht2 dX5_letterHere_19 ?_
      refine lv_bipush (v := 32) hx hb dX5_letterHere_20 (by decide) ?_
      refine lv_icmp_ne (tgt := 38) hx hb dX5_letterHere_22 (by decide) (fun c3 => ?_) (fun c3 => ?_)
      · replace hf := itn c3 hf
        exact w_X5_letterHere_38 F hr hlk hf  hh (lv_sub hl [0] rfl)
      · replace hf := itp c3 hf
        refine lv_aload_n hx hb dX5_letterHere_25 rfl (lv_at hl 0 rfl) ?_
        refine lv_dup hx hb dX5_letterHere_26 rfl ?_
        refine r_X5_19 F hh in_111 sh_111 dX5_letterHere_27 ?_
        refine lv_iconst (v := 1) hx hb dX5_letterHere_30 (by decide) ?_
        refine lv_iadd hx hb dX5_letterHere_31 ?_
        refine s_X5_19 F hh in_111 sh_111 dX5_letterHere_32 (fun z4 ez4 H locs hh => ?_)
        replace hf := lt_e ez4 hf
        refine lv_goto (tgt := 0) hx hb dX5_letterHere_35 (by decide) ?_
        exact ih _ hf  hh (lv_sub hl [0] rfl)
set_option maxRecDepth 100000 in
set_option maxHeartbeats 4000000 in
theorem w_X5_letterHere {Z : Int32 × Sto} (F : Fx rC p s m args cd cX5_letterHere 1 RX5 G) (hr : meth.sig.returnType = (some .int)) (hlk : meth.locks = false)  {z : Sto} {H : Heap} {locs : List Loc} {ls : Array Slot} (hf : f_X5_letterHere  z = some Z) (hh : Hh rC G z s H locs) (hl : lv_has ls 1 [(0, .ref (G.1 111))]) : W p l e rmX5_letterHere s m args below meth cd H locs 0 0 (MQ below (QI rC G Z.1 Z.2) args s 0 0 (Am rC G)) (F0 m 0 ls []) := by
  have hx := F.1
  have hb := F.2.1
  unfold f_X5_letterHere at hf
  exact w_X5_letterHere_0 F hr hlk fu _ hf  hh (lv_sub hl [0] rfl)
theorem c_X5_letterHere {l : Launch} {G : Gm}  {z : Sto} {Z : Int32 × Sto} (hf : f_X5_letterHere  z = some Z) : Met l yX5_letterHere (Cond.code yX5_letterHere cX5_letterHere 1 (some .int) :: TT) rmX5_letterHere (va_Pc [.ref (G.1 111)] (GS rC G z)) (QI rC G Z.1 Z.2) 0 0 (Am rC G) := by
  refine g_met [(0, .ref (G.1 111))] (by decide) (Nat.le_of_ble_eq_true rfl) rfl ?_
  intro p e s m below meth cd F hr hlk ls H locs hl hh
  exact w_X5_letterHere F hr hlk hf hh hl
def f_X5_figureHere (x1 : Int32) (z : Sto) : Option (Int32 × Sto) := bd2 (f_X5_letterHere z) fun t1 z2 => lt ((t1 - (48 : Int32))) fun x2_3 => if x2_3 < 0 then (some ((-1 : Int32), z2)) else (if x1 < x2_3 then (some ((-1 : Int32), z2)) else (some (x2_3, z2)))
set_option maxRecDepth 100000 in
set_option maxHeartbeats 4000000 in
theorem w_X5_figureHere {Z : Int32 × Sto} (F : Fx rC p s m args cd cX5_figureHere 3 RX5 G) (hr : meth.sig.returnType = (some .int)) (hlk : meth.locks = false) {x1 : Int32} {z : Sto} {H : Heap} {locs : List Loc} {ls : Array Slot} (hf : f_X5_figureHere x1 z = some Z) (hh : Hh rC G z s H locs) (hl : lv_has ls 3 [(0, .ref (G.1 111)), (1, .int x1)]) : W p l e rmX5_figureHere s m args below meth cd H locs 0 0 (MQ below (QI rC G Z.1 Z.2) args s 0 0 (Am rC G)) (F0 m 0 ls []) := by
  have hx := F.1
  have hb := F.2.1
  unfold f_X5_figureHere at hf
  refine lv_aload_n hx hb dX5_figureHere_0 rfl (lv_at hl 0 rfl) ?_
  obtain ⟨t1, z2, ht1, hf⟩ := ob2 hf
  refine m_X5_34 (r := t1) (σ' := z2) F hh (c_X5_letterHere ht1) in_111 sh_111 rfl hl (Nat.le_of_ble_eq_true rfl) dX5_figureHere_1 (fun H locs hh => ?_)
  refine lv_bipush (v := 48) hx hb dX5_figureHere_4 (by decide) ?_
  refine lv_isub hx hb dX5_figureHere_6 ?_
  refine lv_topi (fun x2_3 ex2_3 => ?_)
  replace hf := lt_e ex2_3 hf
  refine lv_istore_n (lv' := [(2, .int x2_3), (0, .ref (G.1 111)), (1, .int x1)]) hx hb dX5_figureHere_7 rfl hl (by decide) rfl (fun ls hl => ?_)
  refine lv_iload_n hx hb dX5_figureHere_8 rfl (lv_at hl 0 rfl) ?_
  refine lv_if_lt (tgt := 21) hx hb dX5_figureHere_9 (by decide) (fun c4 => ?_) (fun c4 => ?_)
  · replace hf := itp c4 hf
    refine lv_iconst (v := -1) hx hb dX5_figureHere_21 (by decide) ?_
    exact g_iretW F hr hlk hh hf dX5_figureHere_22
  · replace hf := itn c4 hf
    refine lv_iload_n hx hb dX5_figureHere_12 rfl (lv_at hl 0 rfl) ?_
    refine lv_iload_n hx hb dX5_figureHere_13 rfl (lv_at hl 2 rfl) ?_
    refine lv_icmp_gt (tgt := 21) hx hb dX5_figureHere_14 (by decide) (fun c5 => ?_) (fun c5 => ?_)
    · replace hf := itp c5 hf
      refine lv_iconst (v := -1) hx hb dX5_figureHere_21 (by decide) ?_
      exact g_iretW F hr hlk hh hf dX5_figureHere_22
    · replace hf := itn c5 hf
      refine lv_iload_n hx hb dX5_figureHere_17 rfl (lv_at hl 0 rfl) ?_
      refine lv_goto (tgt := 22) hx hb dX5_figureHere_18 (by decide) ?_
      exact g_iretW F hr hlk hh hf dX5_figureHere_22
theorem c_X5_figureHere {l : Launch} {G : Gm} {x1 : Int32} {z : Sto} {Z : Int32 × Sto} (hf : f_X5_figureHere x1 z = some Z) : Met l yX5_figureHere (Cond.code yX5_figureHere cX5_figureHere 3 (some .int) :: TT) rmX5_figureHere (va_Pc [.ref (G.1 111), .int x1] (GS rC G z)) (QI rC G Z.1 Z.2) 0 0 (Am rC G) := by
  refine g_met [(0, .ref (G.1 111)), (1, .int x1)] (by decide) (Nat.le_of_ble_eq_true rfl) rfl ?_
  intro p e s m below meth cd F hr hlk ls H locs hl hh
  exact w_X5_figureHere F hr hlk hf hh hl
def f_X5_tellsJoint  (z : Sto) : Option (Int32 × Sto) := bd2 (f_X5_figureHere (5 : Int32) z) fun t1 z2 => if t1 < 0 then (some ((0 : Int32), z2)) else (if (z2.1 7 0) < (6 : Int32) then (lt (upI z2 111 2 ((z2.1 111 2) + (1 : Int32))) fun z5 => bd2 (f_X5_figureHere (5 : Int32) z5) fun t6 z7 => if t6 < 0 then (some ((0 : Int32), z7)) else (bd (f_X1_isTaken 7 t1 t6 z7) fun t9 => if t9 = 0 then (lt (upI z7 111 2 ((z7.1 111 2) + (1 : Int32))) fun z11 => bd2 (f_X1_putJoint 7 t1 t6 z11) fun t12 z13 => some ((1 : Int32), z13)) else (some ((0 : Int32), z7)))) else (some ((0 : Int32), z2)))
set_option maxRecDepth 100000 in
set_option maxHeartbeats 4000000 in
theorem w_X5_tellsJoint {Z : Int32 × Sto} (F : Fx rC p s m args cd cX5_tellsJoint 4 RX5 G) (hr : meth.sig.returnType = (some .boolean)) (hlk : meth.locks = false)  {z : Sto} {H : Heap} {locs : List Loc} {ls : Array Slot} (hf : f_X5_tellsJoint  z = some Z) (hh : Hh rC G z s H locs) (hl : lv_has ls 4 [(0, .ref (G.1 111)), (1, .ref (G.1 7))]) : W p l e rmX5_tellsJoint s m args below meth cd H locs 0 0 (MQ below (QI rC G Z.1 Z.2) args s 0 0 (Am rC G)) (F0 m 0 ls []) := by
  have hx := F.1
  have hb := F.2.1
  unfold f_X5_tellsJoint at hf
  refine lv_aload_n hx hb dX5_tellsJoint_0 rfl (lv_at hl 0 rfl) ?_
  refine lv_iconst (v := 5) hx hb dX5_tellsJoint_1 (by decide) ?_
  obtain ⟨t1, z2, ht1, hf⟩ := ob2 hf
  refine m_X5_44 (r := t1) (σ' := z2) F hh (c_X5_figureHere ht1) in_111 sh_111 rfl hl (Nat.le_of_ble_eq_true rfl) dX5_tellsJoint_2 (fun H locs hh => ?_)
  refine lv_istore_n (lv' := [(2, .int t1), (0, .ref (G.1 111)), (1, .ref (G.1 7))]) hx hb dX5_tellsJoint_5 rfl hl (by decide) rfl (fun ls hl => ?_)
  refine lv_iload_n hx hb dX5_tellsJoint_6 rfl (lv_at hl 0 rfl) ?_
  refine lv_if_lt (tgt := 19) hx hb dX5_tellsJoint_7 (by decide) (fun c3 => ?_) (fun c3 => ?_)
  · replace hf := itp c3 hf
    refine lv_iconst (v := 0) hx hb dX5_tellsJoint_19 (by decide) ?_
    exact g_zretW F hr hlk rfl hh hf dX5_tellsJoint_20
  · replace hf := itn c3 hf
    refine lv_aload_n hx hb dX5_tellsJoint_10 rfl (lv_at hl 2 rfl) ?_
    refine r_X5_22 F hh in_7 sh_7 dX5_tellsJoint_11 ?_
    refine lv_bipush (v := 6) hx hb dX5_tellsJoint_14 (by decide) ?_
    refine lv_icmp_lt (tgt := 21) hx hb dX5_tellsJoint_16 (by decide) (fun c4 => ?_) (fun c4 => ?_)
    · replace hf := itp c4 hf
      refine lv_aload_n hx hb dX5_tellsJoint_21 rfl (lv_at hl 1 rfl) ?_
      refine lv_dup hx hb dX5_tellsJoint_22 rfl ?_
      refine r_X5_19 F hh in_111 sh_111 dX5_tellsJoint_23 ?_
      refine lv_iconst (v := 1) hx hb dX5_tellsJoint_26 (by decide) ?_
      refine lv_iadd hx hb dX5_tellsJoint_27 ?_
      refine s_X5_19 F hh in_111 sh_111 dX5_tellsJoint_28 (fun z5 ez5 H locs hh => ?_)
      replace hf := lt_e ez5 hf
      refine lv_aload_n hx hb dX5_tellsJoint_31 rfl (lv_at hl 1 rfl) ?_
      refine lv_iconst (v := 5) hx hb dX5_tellsJoint_32 (by decide) ?_
      obtain ⟨t6, z7, ht6, hf⟩ := ob2 hf
      refine m_X5_44 (r := t6) (σ' := z7) F hh (c_X5_figureHere ht6) in_111 sh_111 rfl hl (Nat.le_of_ble_eq_true rfl) dX5_tellsJoint_33 (fun H locs hh => ?_)
      refine lv_istore_n (lv' := [(3, .int t6), (2, .int t1), (0, .ref (G.1 111)), (1, .ref (G.1 7))]) hx hb dX5_tellsJoint_36 rfl hl (by decide) rfl (fun ls hl => ?_)
      refine lv_iload_n hx hb dX5_tellsJoint_37 rfl (lv_at hl 0 rfl) ?_
      refine lv_if_lt (tgt := 50) hx hb dX5_tellsJoint_38 (by decide) (fun c8 => ?_) (fun c8 => ?_)
      · replace hf := itp c8 hf
        refine lv_iconst (v := 0) hx hb dX5_tellsJoint_50 (by decide) ?_
        exact g_zretW F hr hlk rfl hh hf dX5_tellsJoint_51
      · replace hf := itn c8 hf
        refine lv_aload_n hx hb dX5_tellsJoint_41 rfl (lv_at hl 3 rfl) ?_
        refine lv_iload_n hx hb dX5_tellsJoint_42 rfl (lv_at hl 1 rfl) ?_
        refine lv_iload_n hx hb dX5_tellsJoint_43 rfl (lv_at hl 0 rfl) ?_
        obtain ⟨t9, ht9, hf⟩ := ob hf
        refine m_X5_48 F hh (c_X1_isTaken fr_7 ht9) in_7 sh_7 rfl hl (Nat.le_of_ble_eq_true rfl) dX5_tellsJoint_44 (fun H locs hh => ?_)
        refine lv_if_eq (tgt := 52) hx hb dX5_tellsJoint_47 (by decide) (fun c10 => ?_) (fun c10 => ?_)
        · replace hf := itp c10 hf
          refine lv_aload_n hx hb dX5_tellsJoint_52 rfl (lv_at hl 2 rfl) ?_
          refine lv_dup hx hb dX5_tellsJoint_53 rfl ?_
          refine r_X5_19 F hh in_111 sh_111 dX5_tellsJoint_54 ?_
          refine lv_iconst (v := 1) hx hb dX5_tellsJoint_57 (by decide) ?_
          refine lv_iadd hx hb dX5_tellsJoint_58 ?_
          refine s_X5_19 F hh in_111 sh_111 dX5_tellsJoint_59 (fun z11 ez11 H locs hh => ?_)
          replace hf := lt_e ez11 hf
          refine lv_aload_n hx hb dX5_tellsJoint_62 rfl (lv_at hl 3 rfl) ?_
          refine lv_iload_n hx hb dX5_tellsJoint_63 rfl (lv_at hl 1 rfl) ?_
          refine lv_iload_n hx hb dX5_tellsJoint_64 rfl (lv_at hl 0 rfl) ?_
          obtain ⟨t12, z13, ht12, hf⟩ := ob2 hf
          refine m_X5_52 (r := t12) (σ' := z13) F hh (c_X1_putJoint fr_7 ht12) in_7 sh_7 rfl hl (Nat.le_of_ble_eq_true rfl) dX5_tellsJoint_65 (fun H locs hh => ?_)
          refine lv_pop hx hb dX5_tellsJoint_68 rfl ?_
          refine lv_iconst (v := 1) hx hb dX5_tellsJoint_69 (by decide) ?_
          exact g_zretW F hr hlk rfl hh hf dX5_tellsJoint_70
        · replace hf := itn c10 hf
          refine lv_iconst (v := 0) hx hb dX5_tellsJoint_50 (by decide) ?_
          exact g_zretW F hr hlk rfl hh hf dX5_tellsJoint_51
    · replace hf := itn c4 hf
      refine lv_iconst (v := 0) hx hb dX5_tellsJoint_19 (by decide) ?_
      exact g_zretW F hr hlk rfl hh hf dX5_tellsJoint_20
theorem c_X5_tellsJoint {l : Launch} {G : Gm}  {z : Sto} {Z : Int32 × Sto} (hf : f_X5_tellsJoint  z = some Z) : Met l yX5_tellsJoint (Cond.code yX5_tellsJoint cX5_tellsJoint 4 (some .boolean) :: TT) rmX5_tellsJoint (va_Pc [.ref (G.1 111), .ref (G.1 7)] (GS rC G z)) (QI rC G Z.1 Z.2) 0 0 (Am rC G) := by
  refine g_met [(0, .ref (G.1 111)), (1, .ref (G.1 7))] (by decide) (Nat.le_of_ble_eq_true rfl) rfl ?_
  intro p e s m below meth cd F hr hlk ls H locs hl hh
  exact w_X5_tellsJoint F hr hlk hf hh hl
def b_X5_tellsJoints_2  (ag2 : Int32 → Sto → Option (Int32 × Sto)) (x2 : Int32) (z : Sto) : Option (Int32 × Sto) := if (6 : Int32) < x2 then (some ((0 : Int32), z)) else (bd2 (f_X5_tellsJoint z) fun t2 z3 => if t2 = 0 then (some ((0 : Int32), z3)) else (bd2 (f_X5_letterHere z3) fun t5 z6 => if t5 = (44 : Int32) then (lt (upI z6 111 2 ((z6.1 111 2) + (1 : Int32))) fun z8 => lt (x2 + (1 : Int32)) fun x2_9 => ag2 x2_9 z8) else (some ((1 : Int32), z6))))
def f_X5_tellsJoints  (z : Sto) : Option (Int32 × Sto) := wl2 (b_X5_tellsJoints_2) fu (0 : Int32) z
set_option maxRecDepth 100000 in
set_option maxHeartbeats 4000000 in
theorem w_X5_tellsJoints_2  {Z : Int32 × Sto} (F : Fx rC p s m args cd cX5_tellsJoints 3 RX5 G) (hr : meth.sig.returnType = (some .boolean)) (hlk : meth.locks = false)  : ∀ (n : Nat), ∀ (x2 : Int32) (z : Sto), wl2 (b_X5_tellsJoints_2) n x2 z = some Z → ∀ {H : Heap} {locs : List Loc} {ls : Array Slot}, Hh rC G z s H locs → lv_has ls 3 [(0, .ref (G.1 111)), (1, .ref (G.1 7)), (2, .int x2)] → W p l e rmX5_tellsJoints s m args below meth cd H locs 0 0 (MQ below (QI rC G Z.1 Z.2) args s 0 0 (Am rC G)) (F0 m 2 ls []) := by
  have hx := F.1
  have hb := F.2.1
  intro n
  induction n with
  | zero =>
    intro x2 z hf
    exact absurd hf (by intro h; cases h)
  | succ n ih =>
    intro x2 z hf  H locs ls hh hl
    replace hf : b_X5_tellsJoints_2 (wl2 (b_X5_tellsJoints_2) n) x2 z = some Z := hf
    unfold b_X5_tellsJoints_2 at hf
    refine lv_iload_n hx hb dX5_tellsJoints_2 rfl (lv_at hl 2 rfl) ?_
    refine lv_bipush (v := 6) hx hb dX5_tellsJoints_3 (by decide) ?_
    refine lv_icmp_gt (tgt := 45) hx hb dX5_tellsJoints_5 (by decide) (fun c1 => ?_) (fun c1 => ?_)
    · replace hf := itp c1 hf
      refine lv_iconst (v := 0) hx hb dX5_tellsJoints_45 (by decide) ?_
      exact g_zretW F hr hlk rfl hh hf dX5_tellsJoints_46
    · replace hf := itn c1 hf
      refine lv_aload_n hx hb dX5_tellsJoints_8 rfl (lv_at hl 0 rfl) ?_
      refine lv_aload_n hx hb dX5_tellsJoints_9 rfl (lv_at hl 1 rfl) ?_
      obtain ⟨t2, z3, ht2, hf⟩ := ob2 hf
      refine m_X5_41 (r := t2) (σ' := z3) F hh (c_X5_tellsJoint ht2) in_111 sh_111 rfl hl (Nat.le_of_ble_eq_true rfl) dX5_tellsJoints_10 (fun H locs hh => ?_)
      refine lv_if_ne (tgt := 18) hx hb dX5_tellsJoints_13 (by decide) (fun c4 => ?_) (fun c4 => ?_)
      · replace hf := itn c4 hf
        refine lv_aload_n hx hb dX5_tellsJoints_18 rfl (lv_at hl 0 rfl) ?_
        obtain ⟨t5, z6, ht5, hf⟩ := ob2 hf
        refine m_X5_34 (r := t5) (σ' := z6) F hh (c_X5_letterHere ht5) in_111 sh_111 rfl hl (Nat.le_of_ble_eq_true rfl) dX5_tellsJoints_19 (fun H locs hh => ?_)
        refine lv_bipush (v := 44) hx hb dX5_tellsJoints_22 (by decide) ?_
        refine lv_icmp_eq (tgt := 29) hx hb dX5_tellsJoints_24 (by decide) (fun c7 => ?_) (fun c7 => ?_)
        · replace hf := itp c7 hf
          refine lv_aload_n hx hb dX5_tellsJoints_29 rfl (lv_at hl 0 rfl) ?_
          refine lv_dup hx hb dX5_tellsJoints_30 rfl ?_
          refine r_X5_19 F hh in_111 sh_111 dX5_tellsJoints_31 ?_
          refine lv_iconst (v := 1) hx hb dX5_tellsJoints_34 (by decide) ?_
          refine lv_iadd hx hb dX5_tellsJoints_35 ?_
          refine s_X5_19 F hh in_111 sh_111 dX5_tellsJoints_36 (fun z8 ez8 H locs hh => ?_)
          replace hf := lt_e ez8 hf
          obtain ⟨x2_9, ex2_9⟩ : ∃ y : Int32, y = x2 + (1 : Int32) := ⟨_, rfl⟩
          replace hf := lt_e ex2_9 hf
          refine lv_iinc (v := x2_9) (lv' := [(2, .int x2_9), (0, .ref (G.1 111)), (1, .ref (G.1 7))]) hx hb dX5_tellsJoints_39 hl (k := 2) rfl (by rw [ex2_9]; rfl) (by decide) rfl (fun ls hl => ?_)
          refine lv_goto (tgt := 2) hx hb dX5_tellsJoints_42 (by decide) ?_
          exact ih _ _ hf  hh (lv_sub hl [1, 2, 0] rfl)
        · replace hf := itn c7 hf
          refine lv_iconst (v := 1) hx hb dX5_tellsJoints_27 (by decide) ?_
          exact g_zretW F hr hlk rfl hh hf dX5_tellsJoints_28
      · replace hf := itp c4 hf
        refine lv_iconst (v := 0) hx hb dX5_tellsJoints_16 (by decide) ?_
        exact g_zretW F hr hlk rfl hh hf dX5_tellsJoints_17
set_option maxRecDepth 100000 in
set_option maxHeartbeats 4000000 in
theorem w_X5_tellsJoints {Z : Int32 × Sto} (F : Fx rC p s m args cd cX5_tellsJoints 3 RX5 G) (hr : meth.sig.returnType = (some .boolean)) (hlk : meth.locks = false)  {z : Sto} {H : Heap} {locs : List Loc} {ls : Array Slot} (hf : f_X5_tellsJoints  z = some Z) (hh : Hh rC G z s H locs) (hl : lv_has ls 3 [(0, .ref (G.1 111)), (1, .ref (G.1 7))]) : W p l e rmX5_tellsJoints s m args below meth cd H locs 0 0 (MQ below (QI rC G Z.1 Z.2) args s 0 0 (Am rC G)) (F0 m 0 ls []) := by
  have hx := F.1
  have hb := F.2.1
  unfold f_X5_tellsJoints at hf
  refine lv_iconst (v := 0) hx hb dX5_tellsJoints_0 (by decide) ?_
  refine lv_istore_n (lv' := [(2, .int (0 : Int32)), (0, .ref (G.1 111)), (1, .ref (G.1 7))]) hx hb dX5_tellsJoints_1 rfl hl (by decide) rfl (fun ls hl => ?_)
  exact w_X5_tellsJoints_2 F hr hlk fu _ _ hf  hh (lv_sub hl [1, 2, 0] rfl)
theorem c_X5_tellsJoints {l : Launch} {G : Gm}  {z : Sto} {Z : Int32 × Sto} (hf : f_X5_tellsJoints  z = some Z) : Met l yX5_tellsJoints (Cond.code yX5_tellsJoints cX5_tellsJoints 3 (some .boolean) :: TT) rmX5_tellsJoints (va_Pc [.ref (G.1 111), .ref (G.1 7)] (GS rC G z)) (QI rC G Z.1 Z.2) 0 0 (Am rC G) := by
  refine g_met [(0, .ref (G.1 111)), (1, .ref (G.1 7))] (by decide) (Nat.le_of_ble_eq_true rfl) rfl ?_
  intro p e s m below meth cd F hr hlk ls H locs hl hh
  exact w_X5_tellsJoints F hr hlk hf hh hl
def f_X5_tellsBar  (z : Sto) : Option (Int32 × Sto) := bd2 (f_X5_figureHere (((z.1 7 0) - (1 : Int32))) z) fun t1 z2 => if t1 < 0 then (some ((0 : Int32), z2)) else (if (z2.1 7 1) < (9 : Int32) then (lt (upI z2 111 2 ((z2.1 111 2) + (1 : Int32))) fun z5 => bd2 (f_X5_figureHere (((z5.1 7 0) - (1 : Int32))) z5) fun t6 z7 => if t6 < 0 then (some ((0 : Int32), z7)) else (bd (f_X1_refuseBar 7 t1 t6 z7) fun t9 => if t9 = 0 then (lt (upI z7 111 2 ((z7.1 111 2) + (1 : Int32))) fun z11 => bd2 (f_X1_putBar 7 t1 t6 z11) fun t12 z13 => some ((1 : Int32), z13)) else (some ((0 : Int32), z7)))) else (some ((0 : Int32), z2)))
set_option maxRecDepth 100000 in
set_option maxHeartbeats 4000000 in
theorem w_X5_tellsBar {Z : Int32 × Sto} (F : Fx rC p s m args cd cX5_tellsBar 4 RX5 G) (hr : meth.sig.returnType = (some .boolean)) (hlk : meth.locks = false)  {z : Sto} {H : Heap} {locs : List Loc} {ls : Array Slot} (hf : f_X5_tellsBar  z = some Z) (hh : Hh rC G z s H locs) (hl : lv_has ls 4 [(0, .ref (G.1 111)), (1, .ref (G.1 7))]) : W p l e rmX5_tellsBar s m args below meth cd H locs 0 0 (MQ below (QI rC G Z.1 Z.2) args s 0 0 (Am rC G)) (F0 m 0 ls []) := by
  have hx := F.1
  have hb := F.2.1
  unfold f_X5_tellsBar at hf
  refine lv_aload_n hx hb dX5_tellsBar_0 rfl (lv_at hl 0 rfl) ?_
  refine lv_aload_n hx hb dX5_tellsBar_1 rfl (lv_at hl 1 rfl) ?_
  refine r_X5_22 F hh in_7 sh_7 dX5_tellsBar_2 ?_
  refine lv_iconst (v := 1) hx hb dX5_tellsBar_5 (by decide) ?_
  refine lv_isub hx hb dX5_tellsBar_6 ?_
  obtain ⟨t1, z2, ht1, hf⟩ := ob2 hf
  refine m_X5_44 (r := t1) (σ' := z2) F hh (c_X5_figureHere ht1) in_111 sh_111 rfl hl (Nat.le_of_ble_eq_true rfl) dX5_tellsBar_7 (fun H locs hh => ?_)
  refine lv_istore_n (lv' := [(2, .int t1), (0, .ref (G.1 111)), (1, .ref (G.1 7))]) hx hb dX5_tellsBar_10 rfl hl (by decide) rfl (fun ls hl => ?_)
  refine lv_iload_n hx hb dX5_tellsBar_11 rfl (lv_at hl 0 rfl) ?_
  refine lv_if_lt (tgt := 24) hx hb dX5_tellsBar_12 (by decide) (fun c3 => ?_) (fun c3 => ?_)
  · replace hf := itp c3 hf
    refine lv_iconst (v := 0) hx hb dX5_tellsBar_24 (by decide) ?_
    exact g_zretW F hr hlk rfl hh hf dX5_tellsBar_25
  · replace hf := itn c3 hf
    refine lv_aload_n hx hb dX5_tellsBar_15 rfl (lv_at hl 2 rfl) ?_
    refine r_X5_27 F hh in_7 sh_7 dX5_tellsBar_16 ?_
    refine lv_bipush (v := 9) hx hb dX5_tellsBar_19 (by decide) ?_
    refine lv_icmp_lt (tgt := 26) hx hb dX5_tellsBar_21 (by decide) (fun c4 => ?_) (fun c4 => ?_)
    · replace hf := itp c4 hf
      refine lv_aload_n hx hb dX5_tellsBar_26 rfl (lv_at hl 1 rfl) ?_
      refine lv_dup hx hb dX5_tellsBar_27 rfl ?_
      refine r_X5_19 F hh in_111 sh_111 dX5_tellsBar_28 ?_
      refine lv_iconst (v := 1) hx hb dX5_tellsBar_31 (by decide) ?_
      refine lv_iadd hx hb dX5_tellsBar_32 ?_
      refine s_X5_19 F hh in_111 sh_111 dX5_tellsBar_33 (fun z5 ez5 H locs hh => ?_)
      replace hf := lt_e ez5 hf
      refine lv_aload_n hx hb dX5_tellsBar_36 rfl (lv_at hl 1 rfl) ?_
      refine lv_aload_n hx hb dX5_tellsBar_37 rfl (lv_at hl 2 rfl) ?_
      refine r_X5_22 F hh in_7 sh_7 dX5_tellsBar_38 ?_
      refine lv_iconst (v := 1) hx hb dX5_tellsBar_41 (by decide) ?_
      refine lv_isub hx hb dX5_tellsBar_42 ?_
      obtain ⟨t6, z7, ht6, hf⟩ := ob2 hf
      refine m_X5_44 (r := t6) (σ' := z7) F hh (c_X5_figureHere ht6) in_111 sh_111 rfl hl (Nat.le_of_ble_eq_true rfl) dX5_tellsBar_43 (fun H locs hh => ?_)
      refine lv_istore_n (lv' := [(3, .int t6), (2, .int t1), (0, .ref (G.1 111)), (1, .ref (G.1 7))]) hx hb dX5_tellsBar_46 rfl hl (by decide) rfl (fun ls hl => ?_)
      refine lv_iload_n hx hb dX5_tellsBar_47 rfl (lv_at hl 0 rfl) ?_
      refine lv_if_lt (tgt := 60) hx hb dX5_tellsBar_48 (by decide) (fun c8 => ?_) (fun c8 => ?_)
      · replace hf := itp c8 hf
        refine lv_iconst (v := 0) hx hb dX5_tellsBar_60 (by decide) ?_
        exact g_zretW F hr hlk rfl hh hf dX5_tellsBar_61
      · replace hf := itn c8 hf
        refine lv_aload_n hx hb dX5_tellsBar_51 rfl (lv_at hl 3 rfl) ?_
        refine lv_iload_n hx hb dX5_tellsBar_52 rfl (lv_at hl 1 rfl) ?_
        refine lv_iload_n hx hb dX5_tellsBar_53 rfl (lv_at hl 0 rfl) ?_
        obtain ⟨t9, ht9, hf⟩ := ob hf
        refine m_X5_59 F hh (c_X1_refuseBar fr_7 ht9) in_7 sh_7 rfl hl (Nat.le_of_ble_eq_true rfl) dX5_tellsBar_54 (fun H locs hh => ?_)
        refine lv_if_eq (tgt := 62) hx hb dX5_tellsBar_57 (by decide) (fun c10 => ?_) (fun c10 => ?_)
        · replace hf := itp c10 hf
          refine lv_aload_n hx hb dX5_tellsBar_62 rfl (lv_at hl 2 rfl) ?_
          refine lv_dup hx hb dX5_tellsBar_63 rfl ?_
          refine r_X5_19 F hh in_111 sh_111 dX5_tellsBar_64 ?_
          refine lv_iconst (v := 1) hx hb dX5_tellsBar_67 (by decide) ?_
          refine lv_iadd hx hb dX5_tellsBar_68 ?_
          refine s_X5_19 F hh in_111 sh_111 dX5_tellsBar_69 (fun z11 ez11 H locs hh => ?_)
          replace hf := lt_e ez11 hf
          refine lv_aload_n hx hb dX5_tellsBar_72 rfl (lv_at hl 3 rfl) ?_
          refine lv_iload_n hx hb dX5_tellsBar_73 rfl (lv_at hl 1 rfl) ?_
          refine lv_iload_n hx hb dX5_tellsBar_74 rfl (lv_at hl 0 rfl) ?_
          obtain ⟨t12, z13, ht12, hf⟩ := ob2 hf
          refine m_X5_62 (r := t12) (σ' := z13) F hh (c_X1_putBar fr_7 ht12) in_7 sh_7 rfl hl (Nat.le_of_ble_eq_true rfl) dX5_tellsBar_75 (fun H locs hh => ?_)
          refine lv_pop hx hb dX5_tellsBar_78 rfl ?_
          refine lv_iconst (v := 1) hx hb dX5_tellsBar_79 (by decide) ?_
          exact g_zretW F hr hlk rfl hh hf dX5_tellsBar_80
        · replace hf := itn c10 hf
          refine lv_iconst (v := 0) hx hb dX5_tellsBar_60 (by decide) ?_
          exact g_zretW F hr hlk rfl hh hf dX5_tellsBar_61
    · replace hf := itn c4 hf
      refine lv_iconst (v := 0) hx hb dX5_tellsBar_24 (by decide) ?_
      exact g_zretW F hr hlk rfl hh hf dX5_tellsBar_25
theorem c_X5_tellsBar {l : Launch} {G : Gm}  {z : Sto} {Z : Int32 × Sto} (hf : f_X5_tellsBar  z = some Z) : Met l yX5_tellsBar (Cond.code yX5_tellsBar cX5_tellsBar 4 (some .boolean) :: TT) rmX5_tellsBar (va_Pc [.ref (G.1 111), .ref (G.1 7)] (GS rC G z)) (QI rC G Z.1 Z.2) 0 0 (Am rC G) := by
  refine g_met [(0, .ref (G.1 111)), (1, .ref (G.1 7))] (by decide) (Nat.le_of_ble_eq_true rfl) rfl ?_
  intro p e s m below meth cd F hr hlk ls H locs hl hh
  exact w_X5_tellsBar F hr hlk hf hh hl
def b_X5_tellsBars_2  (ag2 : Int32 → Sto → Option (Int32 × Sto)) (x2 : Int32) (z : Sto) : Option (Int32 × Sto) := if (9 : Int32) < x2 then (some ((0 : Int32), z)) else (bd2 (f_X5_tellsBar z) fun t2 z3 => if t2 = 0 then (some ((0 : Int32), z3)) else (bd2 (f_X5_letterHere z3) fun t5 z6 => if t5 = (44 : Int32) then (lt (upI z6 111 2 ((z6.1 111 2) + (1 : Int32))) fun z8 => lt (x2 + (1 : Int32)) fun x2_9 => ag2 x2_9 z8) else (some ((1 : Int32), z6))))
def f_X5_tellsBars  (z : Sto) : Option (Int32 × Sto) := wl2 (b_X5_tellsBars_2) fu (0 : Int32) z
set_option maxRecDepth 100000 in
set_option maxHeartbeats 4000000 in
theorem w_X5_tellsBars_2  {Z : Int32 × Sto} (F : Fx rC p s m args cd cX5_tellsBars 3 RX5 G) (hr : meth.sig.returnType = (some .boolean)) (hlk : meth.locks = false)  : ∀ (n : Nat), ∀ (x2 : Int32) (z : Sto), wl2 (b_X5_tellsBars_2) n x2 z = some Z → ∀ {H : Heap} {locs : List Loc} {ls : Array Slot}, Hh rC G z s H locs → lv_has ls 3 [(0, .ref (G.1 111)), (1, .ref (G.1 7)), (2, .int x2)] → W p l e rmX5_tellsBars s m args below meth cd H locs 0 0 (MQ below (QI rC G Z.1 Z.2) args s 0 0 (Am rC G)) (F0 m 2 ls []) := by
  have hx := F.1
  have hb := F.2.1
  intro n
  induction n with
  | zero =>
    intro x2 z hf
    exact absurd hf (by intro h; cases h)
  | succ n ih =>
    intro x2 z hf  H locs ls hh hl
    replace hf : b_X5_tellsBars_2 (wl2 (b_X5_tellsBars_2) n) x2 z = some Z := hf
    unfold b_X5_tellsBars_2 at hf
    refine lv_iload_n hx hb dX5_tellsBars_2 rfl (lv_at hl 2 rfl) ?_
    refine lv_bipush (v := 9) hx hb dX5_tellsBars_3 (by decide) ?_
    refine lv_icmp_gt (tgt := 45) hx hb dX5_tellsBars_5 (by decide) (fun c1 => ?_) (fun c1 => ?_)
    · replace hf := itp c1 hf
      refine lv_iconst (v := 0) hx hb dX5_tellsBars_45 (by decide) ?_
      exact g_zretW F hr hlk rfl hh hf dX5_tellsBars_46
    · replace hf := itn c1 hf
      refine lv_aload_n hx hb dX5_tellsBars_8 rfl (lv_at hl 0 rfl) ?_
      refine lv_aload_n hx hb dX5_tellsBars_9 rfl (lv_at hl 1 rfl) ?_
      obtain ⟨t2, z3, ht2, hf⟩ := ob2 hf
      refine m_X5_56 (r := t2) (σ' := z3) F hh (c_X5_tellsBar ht2) in_111 sh_111 rfl hl (Nat.le_of_ble_eq_true rfl) dX5_tellsBars_10 (fun H locs hh => ?_)
      refine lv_if_ne (tgt := 18) hx hb dX5_tellsBars_13 (by decide) (fun c4 => ?_) (fun c4 => ?_)
      · replace hf := itn c4 hf
        refine lv_aload_n hx hb dX5_tellsBars_18 rfl (lv_at hl 0 rfl) ?_
        obtain ⟨t5, z6, ht5, hf⟩ := ob2 hf
        refine m_X5_34 (r := t5) (σ' := z6) F hh (c_X5_letterHere ht5) in_111 sh_111 rfl hl (Nat.le_of_ble_eq_true rfl) dX5_tellsBars_19 (fun H locs hh => ?_)
        refine lv_bipush (v := 44) hx hb dX5_tellsBars_22 (by decide) ?_
        refine lv_icmp_eq (tgt := 29) hx hb dX5_tellsBars_24 (by decide) (fun c7 => ?_) (fun c7 => ?_)
        · replace hf := itp c7 hf
          refine lv_aload_n hx hb dX5_tellsBars_29 rfl (lv_at hl 0 rfl) ?_
          refine lv_dup hx hb dX5_tellsBars_30 rfl ?_
          refine r_X5_19 F hh in_111 sh_111 dX5_tellsBars_31 ?_
          refine lv_iconst (v := 1) hx hb dX5_tellsBars_34 (by decide) ?_
          refine lv_iadd hx hb dX5_tellsBars_35 ?_
          refine s_X5_19 F hh in_111 sh_111 dX5_tellsBars_36 (fun z8 ez8 H locs hh => ?_)
          replace hf := lt_e ez8 hf
          obtain ⟨x2_9, ex2_9⟩ : ∃ y : Int32, y = x2 + (1 : Int32) := ⟨_, rfl⟩
          replace hf := lt_e ex2_9 hf
          refine lv_iinc (v := x2_9) (lv' := [(2, .int x2_9), (0, .ref (G.1 111)), (1, .ref (G.1 7))]) hx hb dX5_tellsBars_39 hl (k := 2) rfl (by rw [ex2_9]; rfl) (by decide) rfl (fun ls hl => ?_)
          refine lv_goto (tgt := 2) hx hb dX5_tellsBars_42 (by decide) ?_
          exact ih _ _ hf  hh (lv_sub hl [1, 2, 0] rfl)
        · replace hf := itn c7 hf
          refine lv_iconst (v := 1) hx hb dX5_tellsBars_27 (by decide) ?_
          exact g_zretW F hr hlk rfl hh hf dX5_tellsBars_28
      · replace hf := itp c4 hf
        refine lv_iconst (v := 0) hx hb dX5_tellsBars_16 (by decide) ?_
        exact g_zretW F hr hlk rfl hh hf dX5_tellsBars_17
set_option maxRecDepth 100000 in
set_option maxHeartbeats 4000000 in
theorem w_X5_tellsBars {Z : Int32 × Sto} (F : Fx rC p s m args cd cX5_tellsBars 3 RX5 G) (hr : meth.sig.returnType = (some .boolean)) (hlk : meth.locks = false)  {z : Sto} {H : Heap} {locs : List Loc} {ls : Array Slot} (hf : f_X5_tellsBars  z = some Z) (hh : Hh rC G z s H locs) (hl : lv_has ls 3 [(0, .ref (G.1 111)), (1, .ref (G.1 7))]) : W p l e rmX5_tellsBars s m args below meth cd H locs 0 0 (MQ below (QI rC G Z.1 Z.2) args s 0 0 (Am rC G)) (F0 m 0 ls []) := by
  have hx := F.1
  have hb := F.2.1
  unfold f_X5_tellsBars at hf
  refine lv_iconst (v := 0) hx hb dX5_tellsBars_0 (by decide) ?_
  refine lv_istore_n (lv' := [(2, .int (0 : Int32)), (0, .ref (G.1 111)), (1, .ref (G.1 7))]) hx hb dX5_tellsBars_1 rfl hl (by decide) rfl (fun ls hl => ?_)
  exact w_X5_tellsBars_2 F hr hlk fu _ _ hf  hh (lv_sub hl [1, 2, 0] rfl)
theorem c_X5_tellsBars {l : Launch} {G : Gm}  {z : Sto} {Z : Int32 × Sto} (hf : f_X5_tellsBars  z = some Z) : Met l yX5_tellsBars (Cond.code yX5_tellsBars cX5_tellsBars 3 (some .boolean) :: TT) rmX5_tellsBars (va_Pc [.ref (G.1 111), .ref (G.1 7)] (GS rC G z)) (QI rC G Z.1 Z.2) 0 0 (Am rC G) := by
  refine g_met [(0, .ref (G.1 111)), (1, .ref (G.1 7))] (by decide) (Nat.le_of_ble_eq_true rfl) rfl ?_
  intro p e s m below meth cd F hr hlk ls H locs hl hh
  exact w_X5_tellsBars F hr hlk hf hh hl
def j_X5_tells_54  (z : Sto) : Option (Int32 × Sto) := bd2 (f_X5_letterHere z) fun t14 z15 => if t14 = 0 then (some ((1 : Int32), z15)) else (some ((0 : Int32), z15))
def f_X5_tells  (z : Sto) : Option (Int32 × Sto) := lt (upI z 111 2 (0 : Int32)) fun z1 => lt (upI z1 7 0 (0 : Int32)) fun z2 => lt (upI z2 7 1 (0 : Int32)) fun z3 => bd2 (f_X5_tellsJoints z3) fun t4 z5 => if t4 = 0 then (some ((0 : Int32), z5)) else (bd2 (f_X5_letterHere z5) fun t7 z8 => if t7 = (59 : Int32) then (lt (upI z8 111 2 ((z8.1 111 2) + (1 : Int32))) fun z10 => bd2 (f_X5_tellsBars z10) fun t11 z12 => if t11 = 0 then (some ((0 : Int32), z12)) else (j_X5_tells_54 z12)) else (j_X5_tells_54 z8))
set_option maxRecDepth 100000 in
set_option maxHeartbeats 4000000 in
theorem w_X5_tells_54  {Z : Int32 × Sto} (F : Fx rC p s m args cd cX5_tells 2 RX5 G) (hr : meth.sig.returnType = (some .boolean)) (hlk : meth.locks = false)  {z : Sto} {H : Heap} {locs : List Loc} {ls : Array Slot} (hf : j_X5_tells_54 z = some Z) (hh : Hh rC G z s H locs) (hl : lv_has ls 2 [(0, .ref (G.1 111))]) : W p l e rmX5_tells s m args below meth cd H locs 0 0 (MQ below (QI rC G Z.1 Z.2) args s 0 0 (Am rC G)) (F0 m 54 ls []) := by
  have hx := F.1
  have hb := F.2.1
  unfold j_X5_tells_54 at hf
  refine lv_aload_n hx hb dX5_tells_54 rfl (lv_at hl 0 rfl) ?_
  obtain ⟨t14, z15, ht14, hf⟩ := ob2 hf
  refine m_X5_34 (r := t14) (σ' := z15) F hh (c_X5_letterHere ht14) in_111 sh_111 rfl hl (Nat.le_of_ble_eq_true rfl) dX5_tells_55 (fun H locs hh => ?_)
  refine lv_if_ne (tgt := 65) hx hb dX5_tells_58 (by decide) (fun c16 => ?_) (fun c16 => ?_)
  · replace hf := itn c16 hf
    refine lv_iconst (v := 0) hx hb dX5_tells_65 (by decide) ?_
    exact g_zretW F hr hlk rfl hh hf dX5_tells_66
  · replace hf := itp c16 hf
    refine lv_iconst (v := 1) hx hb dX5_tells_61 (by decide) ?_
    refine lv_goto (tgt := 66) hx hb dX5_tells_62 (by decide) ?_
    exact g_zretW F hr hlk rfl hh hf dX5_tells_66
set_option maxRecDepth 100000 in
set_option maxHeartbeats 4000000 in
theorem w_X5_tells {Z : Int32 × Sto} (F : Fx rC p s m args cd cX5_tells 2 RX5 G) (hr : meth.sig.returnType = (some .boolean)) (hlk : meth.locks = false)  {z : Sto} {H : Heap} {locs : List Loc} {ls : Array Slot} (hf : f_X5_tells  z = some Z) (hh : Hh rC G z s H locs) (hl : lv_has ls 2 [(0, .ref (G.1 111)), (1, .ref (G.1 7))]) : W p l e rmX5_tells s m args below meth cd H locs 0 0 (MQ below (QI rC G Z.1 Z.2) args s 0 0 (Am rC G)) (F0 m 0 ls []) := by
  have hx := F.1
  have hb := F.2.1
  unfold f_X5_tells at hf
  refine lv_aload_n hx hb dX5_tells_0 rfl (lv_at hl 0 rfl) ?_
  refine lv_iconst (v := 0) hx hb dX5_tells_1 (by decide) ?_
  refine s_X5_19 F hh in_111 sh_111 dX5_tells_2 (fun z1 ez1 H locs hh => ?_)
  replace hf := lt_e ez1 hf
  refine lv_aload_n hx hb dX5_tells_5 rfl (lv_at hl 1 rfl) ?_
  refine lv_iconst (v := 0) hx hb dX5_tells_6 (by decide) ?_
  refine s_X5_22 F hh in_7 sh_7 dX5_tells_7 (fun z2 ez2 H locs hh => ?_)
  replace hf := lt_e ez2 hf
  refine lv_aload_n hx hb dX5_tells_10 rfl (lv_at hl 1 rfl) ?_
  refine lv_iconst (v := 0) hx hb dX5_tells_11 (by decide) ?_
  refine s_X5_27 F hh in_7 sh_7 dX5_tells_12 (fun z3 ez3 H locs hh => ?_)
  replace hf := lt_e ez3 hf
  refine lv_aload_n hx hb dX5_tells_15 rfl (lv_at hl 0 rfl) ?_
  refine lv_aload_n hx hb dX5_tells_16 rfl (lv_at hl 1 rfl) ?_
  obtain ⟨t4, z5, ht4, hf⟩ := ob2 hf
  refine m_X5_30 (r := t4) (σ' := z5) F hh (c_X5_tellsJoints ht4) in_111 sh_111 rfl hl (Nat.le_of_ble_eq_true rfl) dX5_tells_17 (fun H locs hh => ?_)
  refine lv_if_ne (tgt := 25) hx hb dX5_tells_20 (by decide) (fun c6 => ?_) (fun c6 => ?_)
  · replace hf := itn c6 hf
    refine lv_aload_n hx hb dX5_tells_25 rfl (lv_at hl 0 rfl) ?_
    obtain ⟨t7, z8, ht7, hf⟩ := ob2 hf
    refine m_X5_34 (r := t7) (σ' := z8) F hh (c_X5_letterHere ht7) in_111 sh_111 rfl hl (Nat.le_of_ble_eq_true rfl) dX5_tells_26 (fun H locs hh => ?_)
    refine lv_bipush (v := 59) hx hb dX5_tells_29 (by decide) ?_
    refine lv_icmp_ne (tgt := 54) hx hb dX5_tells_31 (by decide) (fun c9 => ?_) (fun c9 => ?_)
    · replace hf := itn c9 hf
      exact w_X5_tells_54 F hr hlk hf  hh (lv_sub hl [0] rfl)
    · replace hf := itp c9 hf
      refine lv_aload_n hx hb dX5_tells_34 rfl (lv_at hl 0 rfl) ?_
      refine lv_dup hx hb dX5_tells_35 rfl ?_
      refine r_X5_19 F hh in_111 sh_111 dX5_tells_36 ?_
      refine lv_iconst (v := 1) hx hb dX5_tells_39 (by decide) ?_
      refine lv_iadd hx hb dX5_tells_40 ?_
      refine s_X5_19 F hh in_111 sh_111 dX5_tells_41 (fun z10 ez10 H locs hh => ?_)
      replace hf := lt_e ez10 hf
      refine lv_aload_n hx hb dX5_tells_44 rfl (lv_at hl 0 rfl) ?_
      refine lv_aload_n hx hb dX5_tells_45 rfl (lv_at hl 1 rfl) ?_
      obtain ⟨t11, z12, ht11, hf⟩ := ob2 hf
      refine m_X5_38 (r := t11) (σ' := z12) F hh (c_X5_tellsBars ht11) in_111 sh_111 rfl hl (Nat.le_of_ble_eq_true rfl) dX5_tells_46 (fun H locs hh => ?_)
      refine lv_if_ne (tgt := 54) hx hb dX5_tells_49 (by decide) (fun c13 => ?_) (fun c13 => ?_)
      · replace hf := itn c13 hf
        exact w_X5_tells_54 F hr hlk hf  hh (lv_sub hl [0] rfl)
      · replace hf := itp c13 hf
        refine lv_iconst (v := 0) hx hb dX5_tells_52 (by decide) ?_
        exact g_zretW F hr hlk rfl hh hf dX5_tells_53
  · replace hf := itp c6 hf
    refine lv_iconst (v := 0) hx hb dX5_tells_23 (by decide) ?_
    exact g_zretW F hr hlk rfl hh hf dX5_tells_24
theorem c_X5_tells {l : Launch} {G : Gm}  {z : Sto} {Z : Int32 × Sto} (hf : f_X5_tells  z = some Z) : Met l yX5_tells (Cond.code yX5_tells cX5_tells 2 (some .boolean) :: TT) rmX5_tells (va_Pc [.ref (G.1 111), .ref (G.1 7)] (GS rC G z)) (QI rC G Z.1 Z.2) 0 0 (Am rC G) := by
  refine g_met [(0, .ref (G.1 111)), (1, .ref (G.1 7))] (by decide) (Nat.le_of_ble_eq_true rfl) rfl ?_
  intro p e s m below meth cd F hr hlk ls H locs hl hh
  exact w_X5_tells F hr hlk hf hh hl
