variable {p : Program} {l : Launch} {e : Env} {s : State} {m : MethodId} {args : Array Value} {below : List Frame} {meth : Method} {cd : Code} {G : Gm}

def f_X7_nextOf (x1 : Int32) (z : Sto) : Option (Int32) := bd (f_X7_to x1 z) fun t1 => bd (f_X7_barsOf t1 z) fun t2 => bd (f_X7_to x1 z) fun t3 => bd (f_X7_back x1 z) fun t4 => bd (f_X7_orderOf t4 z) fun t5 => bd (rmI ((t5 + t2) - (1 : Int32)) t2) fun t6 => bd (f_X7_half t3 t6 z) fun t7 => some t7
set_option maxRecDepth 100000 in
set_option maxHeartbeats 4000000 in
theorem w_X7_nextOf {Z : Int32} (F : Fx rM p s m args cd cX7_nextOf 3 RX7 G) (hr : meth.sig.returnType = (some .int)) (hlk : meth.locks = false) {x1 : Int32} {z : Sto} {H : Heap} {locs : List Loc} {ls : Array Slot} (hf : f_X7_nextOf x1 z = some Z) (hh : Hh rM G z s H locs) (hl : lv_has ls 3 [(0, .ref (G.1 122)), (1, .int x1)]) : W p l e rmX7_nextOf s m args below meth cd H locs 0 0 (MQ below (QI rM G Z z) args s 0 0 (Am rM G)) (F0 m 0 ls []) := by
  have hx := F.1
  have hb := F.2.1
  unfold f_X7_nextOf at hf
  refine lv_aload_n hx hb dX7_nextOf_0 rfl (lv_at hl 0 rfl) ?_
  refine lv_aload_n hx hb dX7_nextOf_1 rfl (lv_at hl 0 rfl) ?_
  refine lv_iload_n hx hb dX7_nextOf_2 rfl (lv_at hl 1 rfl) ?_
  obtain ⟨t1, ht1, hf⟩ := ob hf
  refine m_X7_101 F hh (c_X7_to ht1) in_122 sh_122 rfl hl (Nat.le_of_ble_eq_true rfl) dX7_nextOf_3 (fun H locs hh => ?_)
  obtain ⟨t2, ht2, hf⟩ := ob hf
  refine m_X7_142 F hh (c_X7_barsOf ht2) in_122 sh_122 rfl hl (Nat.le_of_ble_eq_true rfl) dX7_nextOf_6 (fun H locs hh => ?_)
  refine lv_istore_n (lv' := [(2, .int t2), (0, .ref (G.1 122)), (1, .int x1)]) hx hb dX7_nextOf_9 rfl hl (by decide) rfl (fun ls hl => ?_)
  refine lv_aload_n hx hb dX7_nextOf_10 rfl (lv_at hl 1 rfl) ?_
  refine lv_aload_n hx hb dX7_nextOf_11 rfl (lv_at hl 1 rfl) ?_
  refine lv_iload_n hx hb dX7_nextOf_12 rfl (lv_at hl 2 rfl) ?_
  obtain ⟨t3, ht3, hf⟩ := ob hf
  refine m_X7_101 F hh (c_X7_to ht3) in_122 sh_122 rfl hl (Nat.le_of_ble_eq_true rfl) dX7_nextOf_13 (fun H locs hh => ?_)
  refine lv_aload_n hx hb dX7_nextOf_16 rfl (lv_at hl 1 rfl) ?_
  refine lv_iload_n hx hb dX7_nextOf_17 rfl (lv_at hl 2 rfl) ?_
  obtain ⟨t4, ht4, hf⟩ := ob hf
  refine m_X7_259 F hh (c_X7_back ht4) rfl hl (Nat.le_of_ble_eq_true rfl) dX7_nextOf_18 (fun H locs hh => ?_)
  obtain ⟨t5, ht5, hf⟩ := ob hf
  refine m_X7_256 F hh (c_X7_orderOf ht5) in_122 sh_122 rfl hl (Nat.le_of_ble_eq_true rfl) dX7_nextOf_21 (fun H locs hh => ?_)
  refine lv_iload_n hx hb dX7_nextOf_24 rfl (lv_at hl 0 rfl) ?_
  refine lv_iadd hx hb dX7_nextOf_25 ?_
  refine lv_iconst (v := 1) hx hb dX7_nextOf_26 (by decide) ?_
  refine lv_isub hx hb dX7_nextOf_27 ?_
  refine lv_iload_n hx hb dX7_nextOf_28 rfl (lv_at hl 0 rfl) ?_
  obtain ⟨t6, ht6, hf⟩ := ob hf
  refine g_irem hx hb ht6 dX7_nextOf_29 ?_
  obtain ⟨t7, ht7, hf⟩ := ob hf
  refine m_X7_262 F hh (c_X7_half ht7) in_122 sh_122 rfl hl (Nat.le_of_ble_eq_true rfl) dX7_nextOf_30 (fun H locs hh => ?_)
  exact g_iret F hr hlk hh (Option.some.inj hf) rfl dX7_nextOf_33
theorem c_X7_nextOf {l : Launch} {G : Gm} {x1 : Int32} {z : Sto} {Z : Int32} (hf : f_X7_nextOf x1 z = some Z) : Met l yX7_nextOf (Cond.code yX7_nextOf cX7_nextOf 3 (some .int) :: TT) rmX7_nextOf (va_Pc [.ref (G.1 122), .int x1] (GS rM G z)) (QI rM G Z z) 0 0 (Am rM G) := by
  refine g_met [(0, .ref (G.1 122)), (1, .int x1)] (by decide) (Nat.le_of_ble_eq_true rfl) rfl ?_
  intro p e s m below meth cd F hr hlk ls H locs hl hh
  exact w_X7_nextOf F hr hlk hf hh hl
def b_X7_laysFaces_52 (ag29 : Int32 → Sto → Option (Sto)) (ag52 : Int32 → Int32 → Sto → Option (Sto)) (x1 : Int32) (x2 : Int32) (z : Sto) : Option (Sto) := bd (rdI z 136 18 x2) fun t10 => if 0 ≤ t10 then (lt (upI z 122 19 ((z.1 122 19) + (1 : Int32))) fun z12 => lt (x1 + (1 : Int32)) fun x1_13 => ag29 x1_13 z12) else (bd (wrI z 136 18 x2 (z.1 122 19)) fun z14 => bd (f_X7_nextOf x2 z14) fun t15 => ag52 x1 t15 z14)
def b_X7_laysFaces_29  (ag29 : Int32 → Sto → Option (Sto)) (x1 : Int32) (z : Sto) : Option (Sto) := bd (rdI z 123 42 (1 : Int32)) fun t5 => if ((2 : Int32) * t5) ≤ x1 then (some z) else (bd (rdI z 136 18 x1) fun t7 => if 0 ≤ t7 then (lt (x1 + (1 : Int32)) fun x1_9 => ag29 x1_9 z) else (wl3 (b_X7_laysFaces_52 ag29) fu x1 x1 z))
def b_X7_laysFaces_7  (ag7 : Int32 → Sto → Option (Sto)) (x1 : Int32) (z : Sto) : Option (Sto) := if (18 : Int32) ≤ x1 then (wl2 (b_X7_laysFaces_29) fu (0 : Int32) z) else (bd (wrI z 136 18 x1 (-4 : Int32)) fun z3 => lt (x1 + (1 : Int32)) fun x1_4 => ag7 x1_4 z3)
def f_X7_laysFaces  (z : Sto) : Option (Sto) := lt (upI z 122 19 (0 : Int32)) fun z1 => wl2 (b_X7_laysFaces_7) fu (0 : Int32) z1
set_option maxRecDepth 100000 in
set_option maxHeartbeats 4000000 in
theorem w_X7_laysFaces_52 {ag29 : Int32 → Sto → Option (Sto)} {Z : Sto} (F : Fx rM p s m args cd cX7_laysFaces 3 RX7 G) (hr : meth.sig.returnType = none) (hlk : meth.locks = false) (hag29 : ∀ (x1 : Int32) (z : Sto), ag29 x1 z = some Z → ∀ {H : Heap} {locs : List Loc} {ls : Array Slot}, Hh rM G z s H locs → lv_has ls 3 [(0, .ref (G.1 122)), (1, .int x1)] → W p l e rmX7_laysFaces s m args below meth cd H locs 0 0 (MQ below (QV rM G Z) args s 0 0 (Am rM G)) (F0 m 29 ls [])) : ∀ (n : Nat), ∀ (x1 : Int32) (x2 : Int32) (z : Sto), wl3 (b_X7_laysFaces_52 ag29) n x1 x2 z = some Z → ∀ {H : Heap} {locs : List Loc} {ls : Array Slot}, Hh rM G z s H locs → lv_has ls 3 [(0, .ref (G.1 122)), (1, .int x1), (2, .int x2)] → W p l e rmX7_laysFaces s m args below meth cd H locs 0 0 (MQ below (QV rM G Z) args s 0 0 (Am rM G)) (F0 m 52 ls []) := by
  have hx := F.1
  have hb := F.2.1
  intro n
  induction n with
  | zero =>
    intro x1 x2 z hf
    exact absurd hf (by intro h; cases h)
  | succ n ih =>
    intro x1 x2 z hf  H locs ls hh hl
    replace hf : b_X7_laysFaces_52 ag29 (wl3 (b_X7_laysFaces_52 ag29) n) x1 x2 z = some Z := hf
    unfold b_X7_laysFaces_52 at hf
    refine lv_aload_n hx hb dX7_laysFaces_52 rfl (lv_at hl 0 rfl) ?_
    refine r_X7_54 (b' := 136) F hh in_122 sh_122 rfl dX7_laysFaces_53 ?_
    refine lv_iload_n hx hb dX7_laysFaces_56 rfl (lv_at hl 2 rfl) ?_
    obtain ⟨t10, ht10, hf⟩ := ob hf
    refine g_iald F hh in_136 sh_136 ht10 dX7_laysFaces_57 ?_
    refine lv_if_ge (tgt := 80) hx hb dX7_laysFaces_58 (by decide) (fun c11 => ?_) (fun c11 => ?_)
    · replace hf := itp c11 hf
      refine lv_aload_n hx hb dX7_laysFaces_80 rfl (lv_at hl 0 rfl) ?_
      refine lv_dup hx hb dX7_laysFaces_81 rfl ?_
      refine r_X7_265 F hh in_122 sh_122 dX7_laysFaces_82 ?_
      refine lv_iconst (v := 1) hx hb dX7_laysFaces_85 (by decide) ?_
      refine lv_iadd hx hb dX7_laysFaces_86 ?_
      refine s_X7_265 F hh in_122 sh_122 dX7_laysFaces_87 (fun z12 ez12 H locs hh => ?_)
      replace hf := lt_e ez12 hf
      obtain ⟨x1_13, ex1_13⟩ : ∃ y : Int32, y = x1 + (1 : Int32) := ⟨_, rfl⟩
      replace hf := lt_e ex1_13 hf
      refine lv_iinc (v := x1_13) (lv' := [(1, .int x1_13), (0, .ref (G.1 122)), (2, .int x2)]) hx hb dX7_laysFaces_90 hl (k := 1) rfl (by rw [ex1_13]; rfl) (by decide) rfl (fun ls hl => ?_)
      refine lv_goto (tgt := 29) hx hb dX7_laysFaces_93 (by decide) ?_
      exact hag29 _ _ hf  hh (lv_sub hl [1, 0] rfl)
    · replace hf := itn c11 hf
      refine lv_aload_n hx hb dX7_laysFaces_61 rfl (lv_at hl 0 rfl) ?_
      refine r_X7_54 (b' := 136) F hh in_122 sh_122 rfl dX7_laysFaces_62 ?_
      refine lv_iload_n hx hb dX7_laysFaces_65 rfl (lv_at hl 2 rfl) ?_
      refine lv_aload_n hx hb dX7_laysFaces_66 rfl (lv_at hl 0 rfl) ?_
      refine r_X7_265 F hh in_122 sh_122 dX7_laysFaces_67 ?_
      obtain ⟨z14, hz14, hf⟩ := ob hf
      refine g_iast F hh in_136 sh_136 hz14 dX7_laysFaces_70 (fun H locs hh => ?_)
      refine lv_aload_n hx hb dX7_laysFaces_71 rfl (lv_at hl 0 rfl) ?_
      refine lv_iload_n hx hb dX7_laysFaces_72 rfl (lv_at hl 2 rfl) ?_
      obtain ⟨t15, ht15, hf⟩ := ob hf
      refine m_X7_268 F hh (c_X7_nextOf ht15) in_122 sh_122 rfl hl (Nat.le_of_ble_eq_true rfl) dX7_laysFaces_73 (fun H locs hh => ?_)
      refine lv_istore_n (lv' := [(2, .int t15), (0, .ref (G.1 122)), (1, .int x1)]) hx hb dX7_laysFaces_76 rfl hl (by decide) rfl (fun ls hl => ?_)
      refine lv_goto (tgt := 52) hx hb dX7_laysFaces_77 (by decide) ?_
      exact ih _ _ _ hf  hh (lv_sub hl [1, 2, 0] rfl)
set_option maxRecDepth 100000 in
set_option maxHeartbeats 4000000 in
theorem w_X7_laysFaces_29  {Z : Sto} (F : Fx rM p s m args cd cX7_laysFaces 3 RX7 G) (hr : meth.sig.returnType = none) (hlk : meth.locks = false)  : ∀ (n : Nat), ∀ (x1 : Int32) (z : Sto), wl2 (b_X7_laysFaces_29) n x1 z = some Z → ∀ {H : Heap} {locs : List Loc} {ls : Array Slot}, Hh rM G z s H locs → lv_has ls 3 [(0, .ref (G.1 122)), (1, .int x1)] → W p l e rmX7_laysFaces s m args below meth cd H locs 0 0 (MQ below (QV rM G Z) args s 0 0 (Am rM G)) (F0 m 29 ls []) := by
  have hx := F.1
  have hb := F.2.1
  intro n
  induction n with
  | zero =>
    intro x1 z hf
    exact absurd hf (by intro h; cases h)
  | succ n ih =>
    intro x1 z hf  H locs ls hh hl
    replace hf : b_X7_laysFaces_29 (wl2 (b_X7_laysFaces_29) n) x1 z = some Z := hf
    unfold b_X7_laysFaces_29 at hf
    refine lv_iload_n hx hb dX7_laysFaces_29 rfl (lv_at hl 1 rfl) ?_
    refine lv_iconst (v := 2) hx hb dX7_laysFaces_30 (by decide) ?_
    refine lv_aload_n hx hb dX7_laysFaces_31 rfl (lv_at hl 0 rfl) ?_
    refine r_X7_7 (b' := 123) F hh in_122 sh_122 rfl dX7_laysFaces_32 ?_
    refine lv_iconst (v := 1) hx hb dX7_laysFaces_35 (by decide) ?_
    obtain ⟨t5, ht5, hf⟩ := ob hf
    refine g_iald F hh in_123 sh_123 ht5 dX7_laysFaces_36 ?_
    refine lv_imul hx hb dX7_laysFaces_37 ?_
    refine lv_icmp_ge (tgt := 96) hx hb dX7_laysFaces_38 (by decide) (fun c6 => ?_) (fun c6 => ?_)
    · replace hf := itp c6 hf
      exact g_vret F hr hlk hh (Option.some.inj hf) dX7_laysFaces_96
    · replace hf := itn c6 hf
      refine lv_aload_n hx hb dX7_laysFaces_41 rfl (lv_at hl 0 rfl) ?_
      refine r_X7_54 (b' := 136) F hh in_122 sh_122 rfl dX7_laysFaces_42 ?_
      refine lv_iload_n hx hb dX7_laysFaces_45 rfl (lv_at hl 1 rfl) ?_
      obtain ⟨t7, ht7, hf⟩ := ob hf
      refine g_iald F hh in_136 sh_136 ht7 dX7_laysFaces_46 ?_
      refine lv_if_ge (tgt := 90) hx hb dX7_laysFaces_47 (by decide) (fun c8 => ?_) (fun c8 => ?_)
      · replace hf := itp c8 hf
        obtain ⟨x1_9, ex1_9⟩ : ∃ y : Int32, y = x1 + (1 : Int32) := ⟨_, rfl⟩
        replace hf := lt_e ex1_9 hf
        refine lv_iinc (v := x1_9) (lv' := [(1, .int x1_9), (0, .ref (G.1 122))]) hx hb dX7_laysFaces_90 hl (k := 1) rfl (by rw [ex1_9]; rfl) (by decide) rfl (fun ls hl => ?_)
        refine lv_goto (tgt := 29) hx hb dX7_laysFaces_93 (by decide) ?_
        exact ih _ _ hf  hh (lv_sub hl [1, 0] rfl)
      · replace hf := itn c8 hf
        refine lv_iload_n hx hb dX7_laysFaces_50 rfl (lv_at hl 1 rfl) ?_
        refine lv_istore_n (lv' := [(2, .int x1), (0, .ref (G.1 122)), (1, .int x1)]) hx hb dX7_laysFaces_51 rfl hl (by decide) rfl (fun ls hl => ?_)
        exact w_X7_laysFaces_52 F hr hlk ih fu _ _ _ hf  hh (lv_sub hl [1, 2, 0] rfl)
set_option maxRecDepth 100000 in
set_option maxHeartbeats 4000000 in
theorem w_X7_laysFaces_7  {Z : Sto} (F : Fx rM p s m args cd cX7_laysFaces 3 RX7 G) (hr : meth.sig.returnType = none) (hlk : meth.locks = false)  : ∀ (n : Nat), ∀ (x1 : Int32) (z : Sto), wl2 (b_X7_laysFaces_7) n x1 z = some Z → ∀ {H : Heap} {locs : List Loc} {ls : Array Slot}, Hh rM G z s H locs → lv_has ls 3 [(0, .ref (G.1 122)), (1, .int x1)] → W p l e rmX7_laysFaces s m args below meth cd H locs 0 0 (MQ below (QV rM G Z) args s 0 0 (Am rM G)) (F0 m 7 ls []) := by
  have hx := F.1
  have hb := F.2.1
  intro n
  induction n with
  | zero =>
    intro x1 z hf
    exact absurd hf (by intro h; cases h)
  | succ n ih =>
    intro x1 z hf  H locs ls hh hl
    replace hf : b_X7_laysFaces_7 (wl2 (b_X7_laysFaces_7) n) x1 z = some Z := hf
    unfold b_X7_laysFaces_7 at hf
    refine lv_iload_n hx hb dX7_laysFaces_7 rfl (lv_at hl 1 rfl) ?_
    refine lv_bipush (v := 18) hx hb dX7_laysFaces_8 (by decide) ?_
    refine lv_icmp_ge (tgt := 27) hx hb dX7_laysFaces_10 (by decide) (fun c2 => ?_) (fun c2 => ?_)
    · replace hf := itp c2 hf
      refine lv_iconst (v := 0) hx hb dX7_laysFaces_27 (by decide) ?_
      refine lv_istore_n (lv' := [(1, .int (0 : Int32)), (0, .ref (G.1 122))]) hx hb dX7_laysFaces_28 rfl hl (by decide) rfl (fun ls hl => ?_)
      exact w_X7_laysFaces_29 F hr hlk fu _ _ hf  hh (lv_sub hl [1, 0] rfl)
    · replace hf := itn c2 hf
      refine lv_aload_n hx hb dX7_laysFaces_13 rfl (lv_at hl 0 rfl) ?_
      refine r_X7_54 (b' := 136) F hh in_122 sh_122 rfl dX7_laysFaces_14 ?_
      refine lv_iload_n hx hb dX7_laysFaces_17 rfl (lv_at hl 1 rfl) ?_
      refine lv_bipush (v := -4) hx hb dX7_laysFaces_18 (by decide) ?_
      obtain ⟨z3, hz3, hf⟩ := ob hf
      refine g_iast F hh in_136 sh_136 hz3 dX7_laysFaces_20 (fun H locs hh => ?_)
      obtain ⟨x1_4, ex1_4⟩ : ∃ y : Int32, y = x1 + (1 : Int32) := ⟨_, rfl⟩
      replace hf := lt_e ex1_4 hf
      refine lv_iinc (v := x1_4) (lv' := [(1, .int x1_4), (0, .ref (G.1 122))]) hx hb dX7_laysFaces_21 hl (k := 1) rfl (by rw [ex1_4]; rfl) (by decide) rfl (fun ls hl => ?_)
      refine lv_goto (tgt := 7) hx hb dX7_laysFaces_24 (by decide) ?_
      exact ih _ _ hf  hh (lv_sub hl [1, 0] rfl)
set_option maxRecDepth 100000 in
set_option maxHeartbeats 4000000 in
theorem w_X7_laysFaces {Z : Sto} (F : Fx rM p s m args cd cX7_laysFaces 3 RX7 G) (hr : meth.sig.returnType = none) (hlk : meth.locks = false)  {z : Sto} {H : Heap} {locs : List Loc} {ls : Array Slot} (hf : f_X7_laysFaces  z = some Z) (hh : Hh rM G z s H locs) (hl : lv_has ls 3 [(0, .ref (G.1 122))]) : W p l e rmX7_laysFaces s m args below meth cd H locs 0 0 (MQ below (QV rM G Z) args s 0 0 (Am rM G)) (F0 m 0 ls []) := by
  have hx := F.1
  have hb := F.2.1
  unfold f_X7_laysFaces at hf
  refine lv_aload_n hx hb dX7_laysFaces_0 rfl (lv_at hl 0 rfl) ?_
  refine lv_iconst (v := 0) hx hb dX7_laysFaces_1 (by decide) ?_
  refine s_X7_265 F hh in_122 sh_122 dX7_laysFaces_2 (fun z1 ez1 H locs hh => ?_)
  replace hf := lt_e ez1 hf
  refine lv_iconst (v := 0) hx hb dX7_laysFaces_5 (by decide) ?_
  refine lv_istore_n (lv' := [(1, .int (0 : Int32)), (0, .ref (G.1 122))]) hx hb dX7_laysFaces_6 rfl hl (by decide) rfl (fun ls hl => ?_)
  exact w_X7_laysFaces_7 F hr hlk fu _ _ hf  hh (lv_sub hl [1, 0] rfl)
theorem c_X7_laysFaces {l : Launch} {G : Gm}  {z : Sto} {Z : Sto} (hf : f_X7_laysFaces  z = some Z) : Met l yX7_laysFaces (Cond.code yX7_laysFaces cX7_laysFaces 3 none :: TT) rmX7_laysFaces (va_Pc [.ref (G.1 122)] (GS rM G z)) (QV rM G Z) 0 0 (Am rM G) := by
  refine g_met [(0, .ref (G.1 122))] (by decide) (Nat.le_of_ble_eq_true rfl) rfl ?_
  intro p e s m below meth cd F hr hlk ls H locs hl hh
  exact w_X7_laysFaces F hr hlk hf hh hl
def b_X7_areaOf_4 (z : Sto)  (ag4 : Int32 → Int32 → Int32 → Option (Int32)) (x1 : Int32) (x2 : Int32) (x3 : Int32) : Option (Int32) := bd (rdI z 123 42 (1 : Int32)) fun t1 => if ((2 : Int32) * t1) ≤ x3 then (some x2) else (bd (rdI z 136 18 x3) fun t3 => if t3 = x1 then (bd (f_X7_from x3 z) fun t7 => bd (f_X7_x t7 z) fun t8 => bd (f_X7_to x3 z) fun t9 => bd (f_X7_y t9 z) fun t10 => bd (f_X7_to x3 z) fun t11 => bd (f_X7_x t11 z) fun t12 => bd (f_X7_from x3 z) fun t13 => bd (f_X7_y t13 z) fun t14 => lt ((x2 + ((t8 * t10) - (t12 * t14)))) fun x2_15 => lt (x3 + (1 : Int32)) fun x3_16 => ag4 x1 x2_15 x3_16) else (lt ((x2 + (0 : Int32))) fun x2_5 => lt (x3 + (1 : Int32)) fun x3_6 => ag4 x1 x2_5 x3_6))
def f_X7_areaOf (x1 : Int32) (z : Sto) : Option (Int32) := wl3 (b_X7_areaOf_4 z) fu x1 (0 : Int32) (0 : Int32)
set_option maxRecDepth 100000 in
set_option maxHeartbeats 4000000 in
theorem w_X7_areaOf_4 {z : Sto}  {Z : Int32} (F : Fx rM p s m args cd cX7_areaOf 4 RX7 G) (hr : meth.sig.returnType = (some .int)) (hlk : meth.locks = false)  : ∀ (n : Nat), ∀ (x1 : Int32) (x2 : Int32) (x3 : Int32), wl3 (b_X7_areaOf_4 z) n x1 x2 x3 = some Z → ∀ {H : Heap} {locs : List Loc} {ls : Array Slot}, Hh rM G z s H locs → lv_has ls 4 [(0, .ref (G.1 122)), (1, .int x1), (2, .int x2), (3, .int x3)] → W p l e rmX7_areaOf s m args below meth cd H locs 0 0 (MQ below (QI rM G Z z) args s 0 0 (Am rM G)) (F0 m 4 ls []) := by
  have hx := F.1
  have hb := F.2.1
  intro n
  induction n with
  | zero =>
    intro x1 x2 x3 hf
    exact absurd hf (by intro h; cases h)
  | succ n ih =>
    intro x1 x2 x3 hf  H locs ls hh hl
    replace hf : b_X7_areaOf_4 z (wl3 (b_X7_areaOf_4 z) n) x1 x2 x3 = some Z := hf
    unfold b_X7_areaOf_4 at hf
    refine lv_iload_n hx hb dX7_areaOf_4 rfl (lv_at hl 3 rfl) ?_
    refine lv_iconst (v := 2) hx hb dX7_areaOf_5 (by decide) ?_
    refine lv_aload_n hx hb dX7_areaOf_6 rfl (lv_at hl 0 rfl) ?_
    refine r_X7_7 (b' := 123) F hh in_122 sh_122 rfl dX7_areaOf_7 ?_
    refine lv_iconst (v := 1) hx hb dX7_areaOf_10 (by decide) ?_
    obtain ⟨t1, ht1, hf⟩ := ob hf
    refine g_iald F hh in_123 sh_123 ht1 dX7_areaOf_11 ?_
    refine lv_imul hx hb dX7_areaOf_12 ?_
    refine lv_icmp_ge (tgt := 78) hx hb dX7_areaOf_13 (by decide) (fun c2 => ?_) (fun c2 => ?_)
    · replace hf := itp c2 hf
      refine lv_iload_n hx hb dX7_areaOf_78 rfl (lv_at hl 2 rfl) ?_
      exact g_iret F hr hlk hh (Option.some.inj hf) rfl dX7_areaOf_79
    · replace hf := itn c2 hf
      refine lv_iload_n hx hb dX7_areaOf_16 rfl (lv_at hl 2 rfl) ?_
      refine lv_aload_n hx hb dX7_areaOf_17 rfl (lv_at hl 0 rfl) ?_
      refine r_X7_54 (b' := 136) F hh in_122 sh_122 rfl dX7_areaOf_18 ?_
      refine lv_iload_n hx hb dX7_areaOf_21 rfl (lv_at hl 3 rfl) ?_
      obtain ⟨t3, ht3, hf⟩ := ob hf
      refine g_iald F hh in_136 sh_136 ht3 dX7_areaOf_22 ?_
      refine lv_iload_n hx hb dX7_areaOf_23 rfl (lv_at hl 1 rfl) ?_
      refine lv_icmp_ne (tgt := 69) hx hb dX7_areaOf_24 (by decide) (fun c4 => ?_) (fun c4 => ?_)
      · replace hf := itn c4 hf
        refine lv_iconst (v := 0) hx hb dX7_areaOf_69 (by decide) ?_
        refine lv_iadd hx hb dX7_areaOf_70 ?_
        refine lv_topi (fun x2_5 ex2_5 => ?_)
        replace hf := lt_e ex2_5 hf
        refine lv_istore_n (lv' := [(2, .int x2_5), (0, .ref (G.1 122)), (1, .int x1), (3, .int x3)]) hx hb dX7_areaOf_71 rfl hl (by decide) rfl (fun ls hl => ?_)
        obtain ⟨x3_6, ex3_6⟩ : ∃ y : Int32, y = x3 + (1 : Int32) := ⟨_, rfl⟩
        replace hf := lt_e ex3_6 hf
        refine lv_iinc (v := x3_6) (lv' := [(3, .int x3_6), (2, .int x2_5), (0, .ref (G.1 122)), (1, .int x1)]) hx hb dX7_areaOf_72 hl (k := 3) rfl (by rw [ex3_6]; rfl) (by decide) rfl (fun ls hl => ?_)
        refine lv_goto (tgt := 4) hx hb dX7_areaOf_75 (by decide) ?_
        exact ih _ _ _ hf  hh (lv_sub hl [2, 3, 1, 0] rfl)
      · replace hf := itp c4 hf
        refine lv_aload_n hx hb dX7_areaOf_27 rfl (lv_at hl 0 rfl) ?_
        refine lv_aload_n hx hb dX7_areaOf_28 rfl (lv_at hl 0 rfl) ?_
        refine lv_iload_n hx hb dX7_areaOf_29 rfl (lv_at hl 3 rfl) ?_
        obtain ⟨t7, ht7, hf⟩ := ob hf
        refine m_X7_98 F hh (c_X7_from ht7) in_122 sh_122 rfl hl (Nat.le_of_ble_eq_true rfl) dX7_areaOf_30 (fun H locs hh => ?_)
        obtain ⟨t8, ht8, hf⟩ := ob hf
        refine m_X7_83 F hh (c_X7_x ht8) in_122 sh_122 rfl hl (Nat.le_of_ble_eq_true rfl) dX7_areaOf_33 (fun H locs hh => ?_)
        refine lv_aload_n hx hb dX7_areaOf_36 rfl (lv_at hl 0 rfl) ?_
        refine lv_aload_n hx hb dX7_areaOf_37 rfl (lv_at hl 0 rfl) ?_
        refine lv_iload_n hx hb dX7_areaOf_38 rfl (lv_at hl 3 rfl) ?_
        obtain ⟨t9, ht9, hf⟩ := ob hf
        refine m_X7_101 F hh (c_X7_to ht9) in_122 sh_122 rfl hl (Nat.le_of_ble_eq_true rfl) dX7_areaOf_39 (fun H locs hh => ?_)
        obtain ⟨t10, ht10, hf⟩ := ob hf
        refine m_X7_87 F hh (c_X7_y ht10) in_122 sh_122 rfl hl (Nat.le_of_ble_eq_true rfl) dX7_areaOf_42 (fun H locs hh => ?_)
        refine lv_imul hx hb dX7_areaOf_45 ?_
        refine lv_aload_n hx hb dX7_areaOf_46 rfl (lv_at hl 0 rfl) ?_
        refine lv_aload_n hx hb dX7_areaOf_47 rfl (lv_at hl 0 rfl) ?_
        refine lv_iload_n hx hb dX7_areaOf_48 rfl (lv_at hl 3 rfl) ?_
        obtain ⟨t11, ht11, hf⟩ := ob hf
        refine m_X7_101 F hh (c_X7_to ht11) in_122 sh_122 rfl hl (Nat.le_of_ble_eq_true rfl) dX7_areaOf_49 (fun H locs hh => ?_)
        obtain ⟨t12, ht12, hf⟩ := ob hf
        refine m_X7_83 F hh (c_X7_x ht12) in_122 sh_122 rfl hl (Nat.le_of_ble_eq_true rfl) dX7_areaOf_52 (fun H locs hh => ?_)
        refine lv_aload_n hx hb dX7_areaOf_55 rfl (lv_at hl 0 rfl) ?_
        refine lv_aload_n hx hb dX7_areaOf_56 rfl (lv_at hl 0 rfl) ?_
        refine lv_iload_n hx hb dX7_areaOf_57 rfl (lv_at hl 3 rfl) ?_
        obtain ⟨t13, ht13, hf⟩ := ob hf
        refine m_X7_98 F hh (c_X7_from ht13) in_122 sh_122 rfl hl (Nat.le_of_ble_eq_true rfl) dX7_areaOf_58 (fun H locs hh => ?_)
        obtain ⟨t14, ht14, hf⟩ := ob hf
        refine m_X7_87 F hh (c_X7_y ht14) in_122 sh_122 rfl hl (Nat.le_of_ble_eq_true rfl) dX7_areaOf_61 (fun H locs hh => ?_)
        refine lv_imul hx hb dX7_areaOf_64 ?_
        refine lv_isub hx hb dX7_areaOf_65 ?_
        refine lv_goto (tgt := 70) hx hb dX7_areaOf_66 (by decide) ?_
        refine lv_iadd hx hb dX7_areaOf_70 ?_
        refine lv_topi (fun x2_15 ex2_15 => ?_)
        replace hf := lt_e ex2_15 hf
        refine lv_istore_n (lv' := [(2, .int x2_15), (0, .ref (G.1 122)), (1, .int x1), (3, .int x3)]) hx hb dX7_areaOf_71 rfl hl (by decide) rfl (fun ls hl => ?_)
        obtain ⟨x3_16, ex3_16⟩ : ∃ y : Int32, y = x3 + (1 : Int32) := ⟨_, rfl⟩
        replace hf := lt_e ex3_16 hf
        refine lv_iinc (v := x3_16) (lv' := [(3, .int x3_16), (2, .int x2_15), (0, .ref (G.1 122)), (1, .int x1)]) hx hb dX7_areaOf_72 hl (k := 3) rfl (by rw [ex3_16]; rfl) (by decide) rfl (fun ls hl => ?_)
        refine lv_goto (tgt := 4) hx hb dX7_areaOf_75 (by decide) ?_
        exact ih _ _ _ hf  hh (lv_sub hl [2, 3, 1, 0] rfl)
set_option maxRecDepth 100000 in
set_option maxHeartbeats 4000000 in
theorem w_X7_areaOf {Z : Int32} (F : Fx rM p s m args cd cX7_areaOf 4 RX7 G) (hr : meth.sig.returnType = (some .int)) (hlk : meth.locks = false) {x1 : Int32} {z : Sto} {H : Heap} {locs : List Loc} {ls : Array Slot} (hf : f_X7_areaOf x1 z = some Z) (hh : Hh rM G z s H locs) (hl : lv_has ls 4 [(0, .ref (G.1 122)), (1, .int x1)]) : W p l e rmX7_areaOf s m args below meth cd H locs 0 0 (MQ below (QI rM G Z z) args s 0 0 (Am rM G)) (F0 m 0 ls []) := by
  have hx := F.1
  have hb := F.2.1
  unfold f_X7_areaOf at hf
  refine lv_iconst (v := 0) hx hb dX7_areaOf_0 (by decide) ?_
  refine lv_istore_n (lv' := [(2, .int (0 : Int32)), (0, .ref (G.1 122)), (1, .int x1)]) hx hb dX7_areaOf_1 rfl hl (by decide) rfl (fun ls hl => ?_)
  refine lv_iconst (v := 0) hx hb dX7_areaOf_2 (by decide) ?_
  refine lv_istore_n (lv' := [(3, .int (0 : Int32)), (2, .int (0 : Int32)), (0, .ref (G.1 122)), (1, .int x1)]) hx hb dX7_areaOf_3 rfl hl (by decide) rfl (fun ls hl => ?_)
  exact w_X7_areaOf_4 F hr hlk fu _ _ _ hf  hh (lv_sub hl [2, 3, 1, 0] rfl)
theorem c_X7_areaOf {l : Launch} {G : Gm} {x1 : Int32} {z : Sto} {Z : Int32} (hf : f_X7_areaOf x1 z = some Z) : Met l yX7_areaOf (Cond.code yX7_areaOf cX7_areaOf 4 (some .int) :: TT) rmX7_areaOf (va_Pc [.ref (G.1 122), .int x1] (GS rM G z)) (QI rM G Z z) 0 0 (Am rM G) := by
  refine g_met [(0, .ref (G.1 122)), (1, .int x1)] (by decide) (Nat.le_of_ble_eq_true rfl) rfl ?_
  intro p e s m below meth cd F hr hlk ls H locs hl hh
  exact w_X7_areaOf F hr hlk hf hh hl
def b_X7_leastOf_2 (z : Sto)  (ag2 : Int32 → Int32 → Option (Int32)) (x1 : Int32) (x2 : Int32) : Option (Int32) := bd (rdI z 136 18 x2) fun t1 => if t1 = x1 then (some x2) else (lt (x2 + (1 : Int32)) fun x2_3 => ag2 x1 x2_3)
def f_X7_leastOf (x1 : Int32) (z : Sto) : Option (Int32) := wl2 (b_X7_leastOf_2 z) fu x1 (0 : Int32)
set_option maxRecDepth 100000 in
set_option maxHeartbeats 4000000 in
theorem w_X7_leastOf_2 {z : Sto}  {Z : Int32} (F : Fx rM p s m args cd cX7_leastOf 3 RX7 G) (hr : meth.sig.returnType = (some .int)) (hlk : meth.locks = false)  : ∀ (n : Nat), ∀ (x1 : Int32) (x2 : Int32), wl2 (b_X7_leastOf_2 z) n x1 x2 = some Z → ∀ {H : Heap} {locs : List Loc} {ls : Array Slot}, Hh rM G z s H locs → lv_has ls 3 [(0, .ref (G.1 122)), (1, .int x1), (2, .int x2)] → W p l e rmX7_leastOf s m args below meth cd H locs 0 0 (MQ below (QI rM G Z z) args s 0 0 (Am rM G)) (F0 m 2 ls []) := by
  have hx := F.1
  have hb := F.2.1
  intro n
  induction n with
  | zero =>
    intro x1 x2 hf
    exact absurd hf (by intro h; cases h)
  | succ n ih =>
    intro x1 x2 hf  H locs ls hh hl
    replace hf : b_X7_leastOf_2 z (wl2 (b_X7_leastOf_2 z) n) x1 x2 = some Z := hf
    unfold b_X7_leastOf_2 at hf
    refine lv_aload_n hx hb dX7_leastOf_2 rfl (lv_at hl 0 rfl) ?_
    refine r_X7_54 (b' := 136) F hh in_122 sh_122 rfl dX7_leastOf_3 ?_
    refine lv_iload_n hx hb dX7_leastOf_6 rfl (lv_at hl 2 rfl) ?_
    obtain ⟨t1, ht1, hf⟩ := ob hf
    refine g_iald F hh in_136 sh_136 ht1 dX7_leastOf_7 ?_
    refine lv_iload_n hx hb dX7_leastOf_8 rfl (lv_at hl 1 rfl) ?_
    refine lv_icmp_eq (tgt := 18) hx hb dX7_leastOf_9 (by decide) (fun c2 => ?_) (fun c2 => ?_)
    · replace hf := itp c2 hf
      refine lv_iload_n hx hb dX7_leastOf_18 rfl (lv_at hl 2 rfl) ?_
      exact g_iret F hr hlk hh (Option.some.inj hf) rfl dX7_leastOf_19
    · replace hf := itn c2 hf
      obtain ⟨x2_3, ex2_3⟩ : ∃ y : Int32, y = x2 + (1 : Int32) := ⟨_, rfl⟩
      replace hf := lt_e ex2_3 hf
      refine lv_iinc (v := x2_3) (lv' := [(2, .int x2_3), (0, .ref (G.1 122)), (1, .int x1)]) hx hb dX7_leastOf_12 hl (k := 2) rfl (by rw [ex2_3]; rfl) (by decide) rfl (fun ls hl => ?_)
      refine lv_goto (tgt := 2) hx hb dX7_leastOf_15 (by decide) ?_
      exact ih _ _ hf  hh (lv_sub hl [1, 2, 0] rfl)
set_option maxRecDepth 100000 in
set_option maxHeartbeats 4000000 in
theorem w_X7_leastOf {Z : Int32} (F : Fx rM p s m args cd cX7_leastOf 3 RX7 G) (hr : meth.sig.returnType = (some .int)) (hlk : meth.locks = false) {x1 : Int32} {z : Sto} {H : Heap} {locs : List Loc} {ls : Array Slot} (hf : f_X7_leastOf x1 z = some Z) (hh : Hh rM G z s H locs) (hl : lv_has ls 3 [(0, .ref (G.1 122)), (1, .int x1)]) : W p l e rmX7_leastOf s m args below meth cd H locs 0 0 (MQ below (QI rM G Z z) args s 0 0 (Am rM G)) (F0 m 0 ls []) := by
  have hx := F.1
  have hb := F.2.1
  unfold f_X7_leastOf at hf
  refine lv_iconst (v := 0) hx hb dX7_leastOf_0 (by decide) ?_
  refine lv_istore_n (lv' := [(2, .int (0 : Int32)), (0, .ref (G.1 122)), (1, .int x1)]) hx hb dX7_leastOf_1 rfl hl (by decide) rfl (fun ls hl => ?_)
  exact w_X7_leastOf_2 F hr hlk fu _ _ hf  hh (lv_sub hl [1, 2, 0] rfl)
theorem c_X7_leastOf {l : Launch} {G : Gm} {x1 : Int32} {z : Sto} {Z : Int32} (hf : f_X7_leastOf x1 z = some Z) : Met l yX7_leastOf (Cond.code yX7_leastOf cX7_leastOf 3 (some .int) :: TT) rmX7_leastOf (va_Pc [.ref (G.1 122), .int x1] (GS rM G z)) (QI rM G Z z) 0 0 (Am rM G) := by
  refine g_met [(0, .ref (G.1 122)), (1, .int x1)] (by decide) (Nat.le_of_ble_eq_true rfl) rfl ?_
  intro p e s m below meth cd F hr hlk ls H locs hl hh
  exact w_X7_leastOf F hr hlk hf hh hl
def b_X7_manyOf_4 (z : Sto)  (ag4 : Int32 → Int32 → Int32 → Option (Int32)) (x1 : Int32) (x2 : Int32) (x3 : Int32) : Option (Int32) := bd (rdI z 123 42 (1 : Int32)) fun t1 => if ((2 : Int32) * t1) ≤ x3 then (some x2) else (bd (rdI z 136 18 x3) fun t3 => if t3 = x1 then (lt ((x2 + (1 : Int32))) fun x2_7 => lt (x3 + (1 : Int32)) fun x3_8 => ag4 x1 x2_7 x3_8) else (lt ((x2 + (0 : Int32))) fun x2_5 => lt (x3 + (1 : Int32)) fun x3_6 => ag4 x1 x2_5 x3_6))
def f_X7_manyOf (x1 : Int32) (z : Sto) : Option (Int32) := wl3 (b_X7_manyOf_4 z) fu x1 (0 : Int32) (0 : Int32)
set_option maxRecDepth 100000 in
set_option maxHeartbeats 4000000 in
theorem w_X7_manyOf_4 {z : Sto}  {Z : Int32} (F : Fx rM p s m args cd cX7_manyOf 4 RX7 G) (hr : meth.sig.returnType = (some .int)) (hlk : meth.locks = false)  : ∀ (n : Nat), ∀ (x1 : Int32) (x2 : Int32) (x3 : Int32), wl3 (b_X7_manyOf_4 z) n x1 x2 x3 = some Z → ∀ {H : Heap} {locs : List Loc} {ls : Array Slot}, Hh rM G z s H locs → lv_has ls 4 [(0, .ref (G.1 122)), (1, .int x1), (2, .int x2), (3, .int x3)] → W p l e rmX7_manyOf s m args below meth cd H locs 0 0 (MQ below (QI rM G Z z) args s 0 0 (Am rM G)) (F0 m 4 ls []) := by
  have hx := F.1
  have hb := F.2.1
  intro n
  induction n with
  | zero =>
    intro x1 x2 x3 hf
    exact absurd hf (by intro h; cases h)
  | succ n ih =>
    intro x1 x2 x3 hf  H locs ls hh hl
    replace hf : b_X7_manyOf_4 z (wl3 (b_X7_manyOf_4 z) n) x1 x2 x3 = some Z := hf
    unfold b_X7_manyOf_4 at hf
    refine lv_iload_n hx hb dX7_manyOf_4 rfl (lv_at hl 3 rfl) ?_
    refine lv_iconst (v := 2) hx hb dX7_manyOf_5 (by decide) ?_
    refine lv_aload_n hx hb dX7_manyOf_6 rfl (lv_at hl 0 rfl) ?_
    refine r_X7_7 (b' := 123) F hh in_122 sh_122 rfl dX7_manyOf_7 ?_
    refine lv_iconst (v := 1) hx hb dX7_manyOf_10 (by decide) ?_
    obtain ⟨t1, ht1, hf⟩ := ob hf
    refine g_iald F hh in_123 sh_123 ht1 dX7_manyOf_11 ?_
    refine lv_imul hx hb dX7_manyOf_12 ?_
    refine lv_icmp_ge (tgt := 40) hx hb dX7_manyOf_13 (by decide) (fun c2 => ?_) (fun c2 => ?_)
    · replace hf := itp c2 hf
      refine lv_iload_n hx hb dX7_manyOf_40 rfl (lv_at hl 2 rfl) ?_
      exact g_iret F hr hlk hh (Option.some.inj hf) rfl dX7_manyOf_41
    · replace hf := itn c2 hf
      refine lv_iload_n hx hb dX7_manyOf_16 rfl (lv_at hl 2 rfl) ?_
      refine lv_aload_n hx hb dX7_manyOf_17 rfl (lv_at hl 0 rfl) ?_
      refine r_X7_54 (b' := 136) F hh in_122 sh_122 rfl dX7_manyOf_18 ?_
      refine lv_iload_n hx hb dX7_manyOf_21 rfl (lv_at hl 3 rfl) ?_
      obtain ⟨t3, ht3, hf⟩ := ob hf
      refine g_iald F hh in_136 sh_136 ht3 dX7_manyOf_22 ?_
      refine lv_iload_n hx hb dX7_manyOf_23 rfl (lv_at hl 1 rfl) ?_
      refine lv_icmp_ne (tgt := 31) hx hb dX7_manyOf_24 (by decide) (fun c4 => ?_) (fun c4 => ?_)
      · replace hf := itn c4 hf
        refine lv_iconst (v := 0) hx hb dX7_manyOf_31 (by decide) ?_
        refine lv_iadd hx hb dX7_manyOf_32 ?_
        refine lv_topi (fun x2_5 ex2_5 => ?_)
        replace hf := lt_e ex2_5 hf
        refine lv_istore_n (lv' := [(2, .int x2_5), (0, .ref (G.1 122)), (1, .int x1), (3, .int x3)]) hx hb dX7_manyOf_33 rfl hl (by decide) rfl (fun ls hl => ?_)
        obtain ⟨x3_6, ex3_6⟩ : ∃ y : Int32, y = x3 + (1 : Int32) := ⟨_, rfl⟩
        replace hf := lt_e ex3_6 hf
        refine lv_iinc (v := x3_6) (lv' := [(3, .int x3_6), (2, .int x2_5), (0, .ref (G.1 122)), (1, .int x1)]) hx hb dX7_manyOf_34 hl (k := 3) rfl (by rw [ex3_6]; rfl) (by decide) rfl (fun ls hl => ?_)
        refine lv_goto (tgt := 4) hx hb dX7_manyOf_37 (by decide) ?_
        exact ih _ _ _ hf  hh (lv_sub hl [2, 3, 1, 0] rfl)
      · replace hf := itp c4 hf
        refine lv_iconst (v := 1) hx hb dX7_manyOf_27 (by decide) ?_
        refine lv_goto (tgt := 32) hx hb dX7_manyOf_28 (by decide) ?_
        refine lv_iadd hx hb dX7_manyOf_32 ?_
        refine lv_topi (fun x2_7 ex2_7 => ?_)
        replace hf := lt_e ex2_7 hf
        refine lv_istore_n (lv' := [(2, .int x2_7), (0, .ref (G.1 122)), (1, .int x1), (3, .int x3)]) hx hb dX7_manyOf_33 rfl hl (by decide) rfl (fun ls hl => ?_)
        obtain ⟨x3_8, ex3_8⟩ : ∃ y : Int32, y = x3 + (1 : Int32) := ⟨_, rfl⟩
        replace hf := lt_e ex3_8 hf
        refine lv_iinc (v := x3_8) (lv' := [(3, .int x3_8), (2, .int x2_7), (0, .ref (G.1 122)), (1, .int x1)]) hx hb dX7_manyOf_34 hl (k := 3) rfl (by rw [ex3_8]; rfl) (by decide) rfl (fun ls hl => ?_)
        refine lv_goto (tgt := 4) hx hb dX7_manyOf_37 (by decide) ?_
        exact ih _ _ _ hf  hh (lv_sub hl [2, 3, 1, 0] rfl)
set_option maxRecDepth 100000 in
set_option maxHeartbeats 4000000 in
theorem w_X7_manyOf {Z : Int32} (F : Fx rM p s m args cd cX7_manyOf 4 RX7 G) (hr : meth.sig.returnType = (some .int)) (hlk : meth.locks = false) {x1 : Int32} {z : Sto} {H : Heap} {locs : List Loc} {ls : Array Slot} (hf : f_X7_manyOf x1 z = some Z) (hh : Hh rM G z s H locs) (hl : lv_has ls 4 [(0, .ref (G.1 122)), (1, .int x1)]) : W p l e rmX7_manyOf s m args below meth cd H locs 0 0 (MQ below (QI rM G Z z) args s 0 0 (Am rM G)) (F0 m 0 ls []) := by
  have hx := F.1
  have hb := F.2.1
  unfold f_X7_manyOf at hf
  refine lv_iconst (v := 0) hx hb dX7_manyOf_0 (by decide) ?_
  refine lv_istore_n (lv' := [(2, .int (0 : Int32)), (0, .ref (G.1 122)), (1, .int x1)]) hx hb dX7_manyOf_1 rfl hl (by decide) rfl (fun ls hl => ?_)
  refine lv_iconst (v := 0) hx hb dX7_manyOf_2 (by decide) ?_
  refine lv_istore_n (lv' := [(3, .int (0 : Int32)), (2, .int (0 : Int32)), (0, .ref (G.1 122)), (1, .int x1)]) hx hb dX7_manyOf_3 rfl hl (by decide) rfl (fun ls hl => ?_)
  exact w_X7_manyOf_4 F hr hlk fu _ _ _ hf  hh (lv_sub hl [2, 3, 1, 0] rfl)
theorem c_X7_manyOf {l : Launch} {G : Gm} {x1 : Int32} {z : Sto} {Z : Int32} (hf : f_X7_manyOf x1 z = some Z) : Met l yX7_manyOf (Cond.code yX7_manyOf cX7_manyOf 4 (some .int) :: TT) rmX7_manyOf (va_Pc [.ref (G.1 122), .int x1] (GS rM G z)) (QI rM G Z z) 0 0 (Am rM G) := by
  refine g_met [(0, .ref (G.1 122)), (1, .int x1)] (by decide) (Nat.le_of_ble_eq_true rfl) rfl ?_
  intro p e s m below meth cd F hr hlk ls H locs hl hh
  exact w_X7_manyOf F hr hlk hf hh hl
def b_X7_isWhole_12 (z : Sto) (ag4 : Int32 → Int32 → Option (Int32)) (ag12 : Int32 → Int32 → Int32 → Option (Int32)) (x1 : Int32) (x2 : Int32) (x3 : Int32) : Option (Int32) := bd (rdI z 123 42 (1 : Int32)) fun t6 => if ((2 : Int32) * t6) ≤ x3 then (lt (x2 + (1 : Int32)) fun x2_8 => ag4 x1 x2_8) else (bd (f_X7_from x3 z) fun t9 => if ((x1 >>> (t9 &&& 31)) &&& (1 : Int32)) = (1 : Int32) then (bd (f_X7_to x3 z) fun t13 => lt ((x1 ||| ((1 : Int32) <<< (t13 &&& 31)))) fun x1_14 => lt (x3 + (1 : Int32)) fun x3_15 => ag12 x1_14 x2 x3_15) else (lt ((x1 ||| (0 : Int32))) fun x1_11 => lt (x3 + (1 : Int32)) fun x3_12 => ag12 x1_11 x2 x3_12))
def b_X7_isWhole_4 (z : Sto)  (ag4 : Int32 → Int32 → Option (Int32)) (x1 : Int32) (x2 : Int32) : Option (Int32) := if (6 : Int32) ≤ x2 then (bd (rdI z 123 42 (1 : Int32)) fun t2 => if t2 ≤ 0 then (some (0 : Int32)) else (bd (rdI z 123 42 (0 : Int32)) fun t4 => if x1 = (((1 : Int32) <<< (t4 &&& 31)) - (1 : Int32)) then (some (1 : Int32)) else (some (0 : Int32)))) else (wl3 (b_X7_isWhole_12 z ag4) fu x1 x2 (0 : Int32))
def f_X7_isWhole  (z : Sto) : Option (Int32) := wl2 (b_X7_isWhole_4 z) fu (1 : Int32) (0 : Int32)
set_option maxRecDepth 100000 in
set_option maxHeartbeats 4000000 in
theorem w_X7_isWhole_12 {z : Sto} {ag4 : Int32 → Int32 → Option (Int32)} {Z : Int32} (F : Fx rM p s m args cd cX7_isWhole 4 RX7 G) (hr : meth.sig.returnType = (some .boolean)) (hlk : meth.locks = false) (hag4 : ∀ (x1 : Int32) (x2 : Int32), ag4 x1 x2 = some Z → ∀ {H : Heap} {locs : List Loc} {ls : Array Slot}, Hh rM G z s H locs → lv_has ls 4 [(0, .ref (G.1 122)), (1, .int x1), (2, .int x2)] → W p l e rmX7_isWhole s m args below meth cd H locs 0 0 (MQ below (QI rM G Z z) args s 0 0 (Am rM G)) (F0 m 4 ls [])) : ∀ (n : Nat), ∀ (x1 : Int32) (x2 : Int32) (x3 : Int32), wl3 (b_X7_isWhole_12 z ag4) n x1 x2 x3 = some Z → ∀ {H : Heap} {locs : List Loc} {ls : Array Slot}, Hh rM G z s H locs → lv_has ls 4 [(0, .ref (G.1 122)), (1, .int x1), (2, .int x2), (3, .int x3)] → W p l e rmX7_isWhole s m args below meth cd H locs 0 0 (MQ below (QI rM G Z z) args s 0 0 (Am rM G)) (F0 m 12 ls []) := by
  have hx := F.1
  have hb := F.2.1
  intro n
  induction n with
  | zero =>
    intro x1 x2 x3 hf
    exact absurd hf (by intro h; cases h)
  | succ n ih =>
    intro x1 x2 x3 hf  H locs ls hh hl
    replace hf : b_X7_isWhole_12 z ag4 (wl3 (b_X7_isWhole_12 z ag4) n) x1 x2 x3 = some Z := hf
    unfold b_X7_isWhole_12 at hf
    refine lv_iload_n hx hb dX7_isWhole_12 rfl (lv_at hl 3 rfl) ?_
    refine lv_iconst (v := 2) hx hb dX7_isWhole_13 (by decide) ?_
    refine lv_aload_n hx hb dX7_isWhole_14 rfl (lv_at hl 0 rfl) ?_
    refine r_X7_7 (b' := 123) F hh in_122 sh_122 rfl dX7_isWhole_15 ?_
    refine lv_iconst (v := 1) hx hb dX7_isWhole_18 (by decide) ?_
    obtain ⟨t6, ht6, hf⟩ := ob hf
    refine g_iald F hh in_123 sh_123 ht6 dX7_isWhole_19 ?_
    refine lv_imul hx hb dX7_isWhole_20 ?_
    refine lv_icmp_ge (tgt := 57) hx hb dX7_isWhole_21 (by decide) (fun c7 => ?_) (fun c7 => ?_)
    · replace hf := itp c7 hf
      obtain ⟨x2_8, ex2_8⟩ : ∃ y : Int32, y = x2 + (1 : Int32) := ⟨_, rfl⟩
      replace hf := lt_e ex2_8 hf
      refine lv_iinc (v := x2_8) (lv' := [(2, .int x2_8), (0, .ref (G.1 122)), (1, .int x1), (3, .int x3)]) hx hb dX7_isWhole_57 hl (k := 2) rfl (by rw [ex2_8]; rfl) (by decide) rfl (fun ls hl => ?_)
      refine lv_goto (tgt := 4) hx hb dX7_isWhole_60 (by decide) ?_
      exact hag4 _ _ hf  hh (lv_sub hl [1, 2, 0] rfl)
    · replace hf := itn c7 hf
      refine lv_iload_n hx hb dX7_isWhole_24 rfl (lv_at hl 1 rfl) ?_
      refine lv_iload_n hx hb dX7_isWhole_25 rfl (lv_at hl 1 rfl) ?_
      refine lv_aload_n hx hb dX7_isWhole_26 rfl (lv_at hl 0 rfl) ?_
      refine lv_iload_n hx hb dX7_isWhole_27 rfl (lv_at hl 3 rfl) ?_
      obtain ⟨t9, ht9, hf⟩ := ob hf
      refine m_X7_98 F hh (c_X7_from ht9) in_122 sh_122 rfl hl (Nat.le_of_ble_eq_true rfl) dX7_isWhole_28 (fun H locs hh => ?_)
      refine lv_ishr hx hb dX7_isWhole_31 ?_
      refine lv_iconst (v := 1) hx hb dX7_isWhole_32 (by decide) ?_
      refine lv_iand hx hb dX7_isWhole_33 ?_
      refine lv_iconst (v := 1) hx hb dX7_isWhole_34 (by decide) ?_
      refine lv_icmp_ne (tgt := 48) hx hb dX7_isWhole_35 (by decide) (fun c10 => ?_) (fun c10 => ?_)
      · replace hf := itn c10 hf
        refine lv_iconst (v := 0) hx hb dX7_isWhole_48 (by decide) ?_
        refine lv_ior hx hb dX7_isWhole_49 ?_
        refine lv_topi (fun x1_11 ex1_11 => ?_)
        replace hf := lt_e ex1_11 hf
        refine lv_istore_n (lv' := [(1, .int x1_11), (0, .ref (G.1 122)), (2, .int x2), (3, .int x3)]) hx hb dX7_isWhole_50 rfl hl (by decide) rfl (fun ls hl => ?_)
        obtain ⟨x3_12, ex3_12⟩ : ∃ y : Int32, y = x3 + (1 : Int32) := ⟨_, rfl⟩
        replace hf := lt_e ex3_12 hf
        refine lv_iinc (v := x3_12) (lv' := [(3, .int x3_12), (1, .int x1_11), (0, .ref (G.1 122)), (2, .int x2)]) hx hb dX7_isWhole_51 hl (k := 3) rfl (by rw [ex3_12]; rfl) (by decide) rfl (fun ls hl => ?_)
        refine lv_goto (tgt := 12) hx hb dX7_isWhole_54 (by decide) ?_
        exact ih _ _ _ hf  hh (lv_sub hl [2, 1, 3, 0] rfl)
      · replace hf := itp c10 hf
        refine lv_iconst (v := 1) hx hb dX7_isWhole_38 (by decide) ?_
        refine lv_aload_n hx hb dX7_isWhole_39 rfl (lv_at hl 0 rfl) ?_
        refine lv_iload_n hx hb dX7_isWhole_40 rfl (lv_at hl 3 rfl) ?_
        obtain ⟨t13, ht13, hf⟩ := ob hf
        refine m_X7_101 F hh (c_X7_to ht13) in_122 sh_122 rfl hl (Nat.le_of_ble_eq_true rfl) dX7_isWhole_41 (fun H locs hh => ?_)
        refine lv_ishl hx hb dX7_isWhole_44 ?_
        refine lv_goto (tgt := 49) hx hb dX7_isWhole_45 (by decide) ?_
        refine lv_ior hx hb dX7_isWhole_49 ?_
        refine lv_topi (fun x1_14 ex1_14 => ?_)
        replace hf := lt_e ex1_14 hf
        refine lv_istore_n (lv' := [(1, .int x1_14), (0, .ref (G.1 122)), (2, .int x2), (3, .int x3)]) hx hb dX7_isWhole_50 rfl hl (by decide) rfl (fun ls hl => ?_)
        obtain ⟨x3_15, ex3_15⟩ : ∃ y : Int32, y = x3 + (1 : Int32) := ⟨_, rfl⟩
        replace hf := lt_e ex3_15 hf
        refine lv_iinc (v := x3_15) (lv' := [(3, .int x3_15), (1, .int x1_14), (0, .ref (G.1 122)), (2, .int x2)]) hx hb dX7_isWhole_51 hl (k := 3) rfl (by rw [ex3_15]; rfl) (by decide) rfl (fun ls hl => ?_)
        refine lv_goto (tgt := 12) hx hb dX7_isWhole_54 (by decide) ?_
        exact ih _ _ _ hf  hh (lv_sub hl [2, 1, 3, 0] rfl)
set_option maxRecDepth 100000 in
set_option maxHeartbeats 4000000 in
theorem w_X7_isWhole_4 {z : Sto}  {Z : Int32} (F : Fx rM p s m args cd cX7_isWhole 4 RX7 G) (hr : meth.sig.returnType = (some .boolean)) (hlk : meth.locks = false)  : ∀ (n : Nat), ∀ (x1 : Int32) (x2 : Int32), wl2 (b_X7_isWhole_4 z) n x1 x2 = some Z → ∀ {H : Heap} {locs : List Loc} {ls : Array Slot}, Hh rM G z s H locs → lv_has ls 4 [(0, .ref (G.1 122)), (1, .int x1), (2, .int x2)] → W p l e rmX7_isWhole s m args below meth cd H locs 0 0 (MQ below (QI rM G Z z) args s 0 0 (Am rM G)) (F0 m 4 ls []) := by
  have hx := F.1
  have hb := F.2.1
  intro n
  induction n with
  | zero =>
    intro x1 x2 hf
    exact absurd hf (by intro h; cases h)
  | succ n ih =>
    intro x1 x2 hf  H locs ls hh hl
    replace hf : b_X7_isWhole_4 z (wl2 (b_X7_isWhole_4 z) n) x1 x2 = some Z := hf
    unfold b_X7_isWhole_4 at hf
    refine lv_iload_n hx hb dX7_isWhole_4 rfl (lv_at hl 2 rfl) ?_
    refine lv_bipush (v := 6) hx hb dX7_isWhole_5 (by decide) ?_
    refine lv_icmp_ge (tgt := 63) hx hb dX7_isWhole_7 (by decide) (fun c1 => ?_) (fun c1 => ?_)
    · replace hf := itp c1 hf
      refine lv_aload_n hx hb dX7_isWhole_63 rfl (lv_at hl 0 rfl) ?_
      refine r_X7_7 (b' := 123) F hh in_122 sh_122 rfl dX7_isWhole_64 ?_
      refine lv_iconst (v := 1) hx hb dX7_isWhole_67 (by decide) ?_
      obtain ⟨t2, ht2, hf⟩ := ob hf
      refine g_iald F hh in_123 sh_123 ht2 dX7_isWhole_68 ?_
      refine lv_if_le (tgt := 90) hx hb dX7_isWhole_69 (by decide) (fun c3 => ?_) (fun c3 => ?_)
      · replace hf := itp c3 hf
        refine lv_iconst (v := 0) hx hb dX7_isWhole_90 (by decide) ?_
        exact g_zret F hr hlk rfl hh (Option.some.inj hf) rfl dX7_isWhole_91
      · replace hf := itn c3 hf
        refine lv_iload_n hx hb dX7_isWhole_72 rfl (lv_at hl 1 rfl) ?_
        refine lv_iconst (v := 1) hx hb dX7_isWhole_73 (by decide) ?_
        refine lv_aload_n hx hb dX7_isWhole_74 rfl (lv_at hl 0 rfl) ?_
        refine r_X7_7 (b' := 123) F hh in_122 sh_122 rfl dX7_isWhole_75 ?_
        refine lv_iconst (v := 0) hx hb dX7_isWhole_78 (by decide) ?_
        obtain ⟨t4, ht4, hf⟩ := ob hf
        refine g_iald F hh in_123 sh_123 ht4 dX7_isWhole_79 ?_
        refine lv_ishl hx hb dX7_isWhole_80 ?_
        refine lv_iconst (v := 1) hx hb dX7_isWhole_81 (by decide) ?_
        refine lv_isub hx hb dX7_isWhole_82 ?_
        refine lv_icmp_ne (tgt := 90) hx hb dX7_isWhole_83 (by decide) (fun c5 => ?_) (fun c5 => ?_)
        · replace hf := itn c5 hf
          refine lv_iconst (v := 0) hx hb dX7_isWhole_90 (by decide) ?_
          exact g_zret F hr hlk rfl hh (Option.some.inj hf) rfl dX7_isWhole_91
        · replace hf := itp c5 hf
          refine lv_iconst (v := 1) hx hb dX7_isWhole_86 (by decide) ?_
          refine lv_goto (tgt := 91) hx hb dX7_isWhole_87 (by decide) ?_
          exact g_zret F hr hlk rfl hh (Option.some.inj hf) rfl dX7_isWhole_91
    · replace hf := itn c1 hf
      refine lv_iconst (v := 0) hx hb dX7_isWhole_10 (by decide) ?_
      refine lv_istore_n (lv' := [(3, .int (0 : Int32)), (0, .ref (G.1 122)), (1, .int x1), (2, .int x2)]) hx hb dX7_isWhole_11 rfl hl (by decide) rfl (fun ls hl => ?_)
      exact w_X7_isWhole_12 F hr hlk ih fu _ _ _ hf  hh (lv_sub hl [1, 2, 3, 0] rfl)
set_option maxRecDepth 100000 in
set_option maxHeartbeats 4000000 in
theorem w_X7_isWhole {Z : Int32} (F : Fx rM p s m args cd cX7_isWhole 4 RX7 G) (hr : meth.sig.returnType = (some .boolean)) (hlk : meth.locks = false)  {z : Sto} {H : Heap} {locs : List Loc} {ls : Array Slot} (hf : f_X7_isWhole  z = some Z) (hh : Hh rM G z s H locs) (hl : lv_has ls 4 [(0, .ref (G.1 122))]) : W p l e rmX7_isWhole s m args below meth cd H locs 0 0 (MQ below (QI rM G Z z) args s 0 0 (Am rM G)) (F0 m 0 ls []) := by
  have hx := F.1
  have hb := F.2.1
  unfold f_X7_isWhole at hf
  refine lv_iconst (v := 1) hx hb dX7_isWhole_0 (by decide) ?_
  refine lv_istore_n (lv' := [(1, .int (1 : Int32)), (0, .ref (G.1 122))]) hx hb dX7_isWhole_1 rfl hl (by decide) rfl (fun ls hl => ?_)
  refine lv_iconst (v := 0) hx hb dX7_isWhole_2 (by decide) ?_
  refine lv_istore_n (lv' := [(2, .int (0 : Int32)), (1, .int (1 : Int32)), (0, .ref (G.1 122))]) hx hb dX7_isWhole_3 rfl hl (by decide) rfl (fun ls hl => ?_)
  exact w_X7_isWhole_4 F hr hlk fu _ _ hf  hh (lv_sub hl [2, 1, 0] rfl)
theorem c_X7_isWhole {l : Launch} {G : Gm}  {z : Sto} {Z : Int32} (hf : f_X7_isWhole  z = some Z) : Met l yX7_isWhole (Cond.code yX7_isWhole cX7_isWhole 4 (some .boolean) :: TT) rmX7_isWhole (va_Pc [.ref (G.1 122)] (GS rM G z)) (QI rM G Z z) 0 0 (Am rM G) := by
  refine g_met [(0, .ref (G.1 122))] (by decide) (Nat.le_of_ble_eq_true rfl) rfl ?_
  intro p e s m below meth cd F hr hlk ls H locs hl hh
  exact w_X7_isWhole F hr hlk hf hh hl
def b_X7_outer_10 (z : Sto)  (ag10 : Int32 → Int32 → Option (Int32)) (x1 : Int32) (x2 : Int32) : Option (Int32) := if x2 < 0 then (some x1) else (bd (f_X7_isWhole z) fun t3 => if t3 = 0 then (some x1) else (bd (f_X7_areaOf x2 z) fun t5 => if 0 < t5 then (lt (x2 + (-1 : Int32)) fun x2_7 => ag10 x1 x2_7) else (lt (x2 + (-1 : Int32)) fun x2_8 => ag10 x2 x2_8)))
def f_X7_outer  (z : Sto) : Option (Int32) := lt (((z.1 122 19) - (1 : Int32))) fun x2_1 => wl2 (b_X7_outer_10 z) fu (-4 : Int32) x2_1
set_option maxRecDepth 100000 in
set_option maxHeartbeats 4000000 in
theorem w_X7_outer_10 {z : Sto}  {Z : Int32} (F : Fx rM p s m args cd cX7_outer 3 RX7 G) (hr : meth.sig.returnType = (some .int)) (hlk : meth.locks = false)  : ∀ (n : Nat), ∀ (x1 : Int32) (x2 : Int32), wl2 (b_X7_outer_10 z) n x1 x2 = some Z → ∀ {H : Heap} {locs : List Loc} {ls : Array Slot}, Hh rM G z s H locs → lv_has ls 3 [(0, .ref (G.1 122)), (1, .int x1), (2, .int x2)] → W p l e rmX7_outer s m args below meth cd H locs 0 0 (MQ below (QI rM G Z z) args s 0 0 (Am rM G)) (F0 m 10 ls []) := by
  have hx := F.1
  have hb := F.2.1
  intro n
  induction n with
  | zero =>
    intro x1 x2 hf
    exact absurd hf (by intro h; cases h)
  | succ n ih =>
    intro x1 x2 hf  H locs ls hh hl
    replace hf : b_X7_outer_10 z (wl2 (b_X7_outer_10 z) n) x1 x2 = some Z := hf
    unfold b_X7_outer_10 at hf
    refine lv_iload_n hx hb dX7_outer_10 rfl (lv_at hl 2 rfl) ?_
    refine lv_if_lt (tgt := 41) hx hb dX7_outer_11 (by decide) (fun c2 => ?_) (fun c2 => ?_)
    · replace hf := itp c2 hf
      refine lv_iload_n hx hb dX7_outer_41 rfl (lv_at hl 1 rfl) ?_
      exact g_iret F hr hlk hh (Option.some.inj hf) rfl dX7_outer_42
    · replace hf := itn c2 hf
      refine lv_aload_n hx hb dX7_outer_14 rfl (lv_at hl 0 rfl) ?_
      obtain ⟨t3, ht3, hf⟩ := ob hf
      refine m_X7_271 F hh (c_X7_isWhole ht3) in_122 sh_122 rfl hl (Nat.le_of_ble_eq_true rfl) dX7_outer_15 (fun H locs hh => ?_)
      refine lv_if_eq (tgt := 41) hx hb dX7_outer_18 (by decide) (fun c4 => ?_) (fun c4 => ?_)
      · replace hf := itp c4 hf
        refine lv_iload_n hx hb dX7_outer_41 rfl (lv_at hl 1 rfl) ?_
        exact g_iret F hr hlk hh (Option.some.inj hf) rfl dX7_outer_42
      · replace hf := itn c4 hf
        refine lv_aload_n hx hb dX7_outer_21 rfl (lv_at hl 0 rfl) ?_
        refine lv_iload_n hx hb dX7_outer_22 rfl (lv_at hl 2 rfl) ?_
        obtain ⟨t5, ht5, hf⟩ := ob hf
        refine m_X7_274 F hh (c_X7_areaOf ht5) in_122 sh_122 rfl hl (Nat.le_of_ble_eq_true rfl) dX7_outer_23 (fun H locs hh => ?_)
        refine lv_if_gt (tgt := 33) hx hb dX7_outer_26 (by decide) (fun c6 => ?_) (fun c6 => ?_)
        · replace hf := itp c6 hf
          refine lv_iload_n hx hb dX7_outer_33 rfl (lv_at hl 1 rfl) ?_
          refine lv_istore_n (lv' := [(1, .int x1), (0, .ref (G.1 122)), (2, .int x2)]) hx hb dX7_outer_34 rfl hl (by decide) rfl (fun ls hl => ?_)
          obtain ⟨x2_7, ex2_7⟩ : ∃ y : Int32, y = x2 + (-1 : Int32) := ⟨_, rfl⟩
          replace hf := lt_e ex2_7 hf
          refine lv_iinc (v := x2_7) (lv' := [(2, .int x2_7), (1, .int x1), (0, .ref (G.1 122))]) hx hb dX7_outer_35 hl (k := 2) rfl (by rw [ex2_7]; rfl) (by decide) rfl (fun ls hl => ?_)
          refine lv_goto (tgt := 10) hx hb dX7_outer_38 (by decide) ?_
          exact ih _ _ hf  hh (lv_sub hl [2, 1, 0] rfl)
        · replace hf := itn c6 hf
          refine lv_iload_n hx hb dX7_outer_29 rfl (lv_at hl 2 rfl) ?_
          refine lv_goto (tgt := 34) hx hb dX7_outer_30 (by decide) ?_
          refine lv_istore_n (lv' := [(1, .int x2), (0, .ref (G.1 122)), (2, .int x2)]) hx hb dX7_outer_34 rfl hl (by decide) rfl (fun ls hl => ?_)
          obtain ⟨x2_8, ex2_8⟩ : ∃ y : Int32, y = x2 + (-1 : Int32) := ⟨_, rfl⟩
          replace hf := lt_e ex2_8 hf
          refine lv_iinc (v := x2_8) (lv' := [(2, .int x2_8), (1, .int x2), (0, .ref (G.1 122))]) hx hb dX7_outer_35 hl (k := 2) rfl (by rw [ex2_8]; rfl) (by decide) rfl (fun ls hl => ?_)
          refine lv_goto (tgt := 10) hx hb dX7_outer_38 (by decide) ?_
          exact ih _ _ hf  hh (lv_sub hl [2, 1, 0] rfl)
set_option maxRecDepth 100000 in
set_option maxHeartbeats 4000000 in
theorem w_X7_outer {Z : Int32} (F : Fx rM p s m args cd cX7_outer 3 RX7 G) (hr : meth.sig.returnType = (some .int)) (hlk : meth.locks = false)  {z : Sto} {H : Heap} {locs : List Loc} {ls : Array Slot} (hf : f_X7_outer  z = some Z) (hh : Hh rM G z s H locs) (hl : lv_has ls 3 [(0, .ref (G.1 122))]) : W p l e rmX7_outer s m args below meth cd H locs 0 0 (MQ below (QI rM G Z z) args s 0 0 (Am rM G)) (F0 m 0 ls []) := by
  have hx := F.1
  have hb := F.2.1
  unfold f_X7_outer at hf
  refine lv_bipush (v := -4) hx hb dX7_outer_0 (by decide) ?_
  refine lv_istore_n (lv' := [(1, .int (-4 : Int32)), (0, .ref (G.1 122))]) hx hb dX7_outer_2 rfl hl (by decide) rfl (fun ls hl => ?_)
  refine lv_aload_n hx hb dX7_outer_3 rfl (lv_at hl 1 rfl) ?_
  refine r_X7_265 F hh in_122 sh_122 dX7_outer_4 ?_
  refine lv_iconst (v := 1) hx hb dX7_outer_7 (by decide) ?_
  refine lv_isub hx hb dX7_outer_8 ?_
  refine lv_topi (fun x2_1 ex2_1 => ?_)
  replace hf := lt_e ex2_1 hf
  refine lv_istore_n (lv' := [(2, .int x2_1), (1, .int (-4 : Int32)), (0, .ref (G.1 122))]) hx hb dX7_outer_9 rfl hl (by decide) rfl (fun ls hl => ?_)
  exact w_X7_outer_10 F hr hlk fu _ _ hf  hh (lv_sub hl [2, 1, 0] rfl)
theorem c_X7_outer {l : Launch} {G : Gm}  {z : Sto} {Z : Int32} (hf : f_X7_outer  z = some Z) : Met l yX7_outer (Cond.code yX7_outer cX7_outer 3 (some .int) :: TT) rmX7_outer (va_Pc [.ref (G.1 122)] (GS rM G z)) (QI rM G Z z) 0 0 (Am rM G) := by
  refine g_met [(0, .ref (G.1 122))] (by decide) (Nat.le_of_ble_eq_true rfl) rfl ?_
  intro p e s m below meth cd F hr hlk ls H locs hl hh
  exact w_X7_outer F hr hlk hf hh hl
def b_X7_count_5  (ag5 : Int32 → Int32 → Int32 → Sto → Option (Int32 × Sto)) (x1 : Int32) (x2 : Int32) (x3 : Int32) (z : Sto) : Option (Int32 × Sto) := if (9 : Int32) ≤ x3 then (bd (f_X7_laysAll z) fun z3 => bd (f_X7_laysFaces z3) fun z5 => if x1 = 0 then (bd (rdI z5 123 42 (0 : Int32)) fun t7 => some (t7, z5)) else (if x1 = 1 then (bd (rdI z5 123 42 (1 : Int32)) fun t9 => some (t9, z5)) else (if x1 = 2 then (bd (rdI z5 123 42 (1 : Int32)) fun t11 => some ((t11 - (z5.1 122 17)), z5)) else (if x1 = 3 then (bd (f_X7_allBars z5) fun t13 => bd2 (f_X7_isStiff t13 z5) fun t14 z15 => if t14 = 0 then (some ((0 : Int32), z15)) else (some ((1 : Int32), z15))) else (if x1 = 4 then (bd (f_X7_isWhole z5) fun t18 => if t18 = 0 then (some ((0 : Int32), z5)) else (some ((1 : Int32), z5))) else (if x1 = 5 then (some ((z5.1 122 19), z5)) else (if x1 = 6 then (bd (f_X7_outer z5) fun t22 => some (t22, z5)) else (if x1 = 7 then (some (x2, z5)) else (if x1 = 8 then (some ((z5.1 122 2), z5)) else (some ((-1 : Int32), z5))))))))))) else (bd (rdI z 123 42 ((33 : Int32) + x3)) fun t25 => lt ((x2 + t25)) fun x2_26 => lt (x3 + (1 : Int32)) fun x3_27 => ag5 x1 x2_26 x3_27 z)
def f_X7_count (x1 : Int32) (z : Sto) : Option (Int32 × Sto) := wl4 (b_X7_count_5) fu x1 (81 : Int32) (0 : Int32) z
set_option maxRecDepth 100000 in
set_option maxHeartbeats 4000000 in
theorem w_X7_count_5  {Z : Int32 × Sto} (F : Fx rM p s m args cd cX7_count 4 RX7 G) (hr : meth.sig.returnType = (some .int)) (hlk : meth.locks = false)  : ∀ (n : Nat), ∀ (x1 : Int32) (x2 : Int32) (x3 : Int32) (z : Sto), wl4 (b_X7_count_5) n x1 x2 x3 z = some Z → ∀ {H : Heap} {locs : List Loc} {ls : Array Slot}, Hh rM G z s H locs → lv_has ls 4 [(0, .ref (G.1 122)), (1, .int x1), (2, .int x2), (3, .int x3)] → W p l e rmX7_count s m args below meth cd H locs 0 0 (MQ below (QI rM G Z.1 Z.2) args s 0 0 (Am rM G)) (F0 m 5 ls []) := by
  have hx := F.1
  have hb := F.2.1
  intro n
  induction n with
  | zero =>
    intro x1 x2 x3 z hf
    exact absurd hf (by intro h; cases h)
  | succ n ih =>
    intro x1 x2 x3 z hf  H locs ls hh hl
    replace hf : b_X7_count_5 (wl4 (b_X7_count_5) n) x1 x2 x3 z = some Z := hf
    unfold b_X7_count_5 at hf
    refine lv_iload_n hx hb dX7_count_5 rfl (lv_at hl 3 rfl) ?_
    refine lv_bipush (v := 9) hx hb dX7_count_6 (by decide) ?_
    refine lv_icmp_ge (tgt := 29) hx hb dX7_count_8 (by decide) (fun c1 => ?_) (fun c1 => ?_)
    · replace hf := itp c1 hf
      refine lv_aload_n hx hb dX7_count_29 rfl (lv_at hl 0 rfl) ?_
      obtain ⟨z3, ht2, hf⟩ := ob hf
      refine m_X7_232 F hh (c_X7_laysAll ht2) in_122 sh_122 rfl hl (Nat.le_of_ble_eq_true rfl) dX7_count_30 (fun H locs hh => ?_)
      refine lv_aload_n hx hb dX7_count_33 rfl (lv_at hl 0 rfl) ?_
      obtain ⟨z5, ht4, hf⟩ := ob hf
      refine m_X7_277 F hh (c_X7_laysFaces ht4) in_122 sh_122 rfl hl (Nat.le_of_ble_eq_true rfl) dX7_count_34 (fun H locs hh => ?_)
      refine lv_iload_n hx hb dX7_count_37 rfl (lv_at hl 1 rfl) ?_
      by_cases c6 : x1 = 0
      · replace hf := itp c6 hf
        refine lv_tableIn (tgt := 88) (off := 50) hx hb dX7_count_38 (by rw [c6]; decide) (by rw [c6]; decide) (by rw [c6]; rfl) (by decide) ?_
        refine lv_aload_n hx hb dX7_count_88 rfl (lv_at hl 0 rfl) ?_
        refine r_X7_7 (b' := 123) F hh in_122 sh_122 rfl dX7_count_89 ?_
        refine lv_iconst (v := 0) hx hb dX7_count_92 (by decide) ?_
        obtain ⟨t7, ht7, hf⟩ := ob hf
        refine g_iald F hh in_123 sh_123 ht7 dX7_count_93 ?_
        exact g_iretW F hr hlk hh hf dX7_count_94
      replace hf := itn c6 hf
      by_cases c8 : x1 = 1
      · replace hf := itp c8 hf
        refine lv_tableIn (tgt := 95) (off := 57) hx hb dX7_count_38 (by rw [c8]; decide) (by rw [c8]; decide) (by rw [c8]; rfl) (by decide) ?_
        refine lv_aload_n hx hb dX7_count_95 rfl (lv_at hl 0 rfl) ?_
        refine r_X7_7 (b' := 123) F hh in_122 sh_122 rfl dX7_count_96 ?_
        refine lv_iconst (v := 1) hx hb dX7_count_99 (by decide) ?_
        obtain ⟨t9, ht9, hf⟩ := ob hf
        refine g_iald F hh in_123 sh_123 ht9 dX7_count_100 ?_
        exact g_iretW F hr hlk hh hf dX7_count_101
      replace hf := itn c8 hf
      by_cases c10 : x1 = 2
      · replace hf := itp c10 hf
        refine lv_tableIn (tgt := 102) (off := 64) hx hb dX7_count_38 (by rw [c10]; decide) (by rw [c10]; decide) (by rw [c10]; rfl) (by decide) ?_
        refine lv_aload_n hx hb dX7_count_102 rfl (lv_at hl 0 rfl) ?_
        refine r_X7_7 (b' := 123) F hh in_122 sh_122 rfl dX7_count_103 ?_
        refine lv_iconst (v := 1) hx hb dX7_count_106 (by decide) ?_
        obtain ⟨t11, ht11, hf⟩ := ob hf
        refine g_iald F hh in_123 sh_123 ht11 dX7_count_107 ?_
        refine lv_aload_n hx hb dX7_count_108 rfl (lv_at hl 0 rfl) ?_
        refine r_X7_213 F hh in_122 sh_122 dX7_count_109 ?_
        refine lv_isub hx hb dX7_count_112 ?_
        exact g_iretW F hr hlk hh hf dX7_count_113
      replace hf := itn c10 hf
      by_cases c12 : x1 = 3
      · replace hf := itp c12 hf
        refine lv_tableIn (tgt := 114) (off := 76) hx hb dX7_count_38 (by rw [c12]; decide) (by rw [c12]; decide) (by rw [c12]; rfl) (by decide) ?_
        refine lv_aload_n hx hb dX7_count_114 rfl (lv_at hl 0 rfl) ?_
        refine lv_aload_n hx hb dX7_count_115 rfl (lv_at hl 0 rfl) ?_
        obtain ⟨t13, ht13, hf⟩ := ob hf
        refine m_X7_206 F hh (c_X7_allBars ht13) in_122 sh_122 rfl hl (Nat.le_of_ble_eq_true rfl) dX7_count_116 (fun H locs hh => ?_)
        obtain ⟨t14, z15, ht14, hf⟩ := ob2 hf
        refine m_X7_250 (r := t14) (σ' := z15) F hh (c_X7_isStiff ht14) in_122 sh_122 rfl hl (Nat.le_of_ble_eq_true rfl) dX7_count_119 (fun H locs hh => ?_)
        refine lv_if_eq (tgt := 129) hx hb dX7_count_122 (by decide) (fun c16 => ?_) (fun c16 => ?_)
        · replace hf := itp c16 hf
          refine lv_iconst (v := 0) hx hb dX7_count_129 (by decide) ?_
          exact g_iretW F hr hlk hh hf dX7_count_130
        · replace hf := itn c16 hf
          refine lv_iconst (v := 1) hx hb dX7_count_125 (by decide) ?_
          refine lv_goto (tgt := 130) hx hb dX7_count_126 (by decide) ?_
          exact g_iretW F hr hlk hh hf dX7_count_130
      replace hf := itn c12 hf
      by_cases c17 : x1 = 4
      · replace hf := itp c17 hf
        refine lv_tableIn (tgt := 131) (off := 93) hx hb dX7_count_38 (by rw [c17]; decide) (by rw [c17]; decide) (by rw [c17]; rfl) (by decide) ?_
        refine lv_aload_n hx hb dX7_count_131 rfl (lv_at hl 0 rfl) ?_
        obtain ⟨t18, ht18, hf⟩ := ob hf
        refine m_X7_271 F hh (c_X7_isWhole ht18) in_122 sh_122 rfl hl (Nat.le_of_ble_eq_true rfl) dX7_count_132 (fun H locs hh => ?_)
        refine lv_if_eq (tgt := 142) hx hb dX7_count_135 (by decide) (fun c19 => ?_) (fun c19 => ?_)
        · replace hf := itp c19 hf
          refine lv_iconst (v := 0) hx hb dX7_count_142 (by decide) ?_
          exact g_iretW F hr hlk hh hf dX7_count_143
        · replace hf := itn c19 hf
          refine lv_iconst (v := 1) hx hb dX7_count_138 (by decide) ?_
          refine lv_goto (tgt := 143) hx hb dX7_count_139 (by decide) ?_
          exact g_iretW F hr hlk hh hf dX7_count_143
      replace hf := itn c17 hf
      by_cases c20 : x1 = 5
      · replace hf := itp c20 hf
        refine lv_tableIn (tgt := 144) (off := 106) hx hb dX7_count_38 (by rw [c20]; decide) (by rw [c20]; decide) (by rw [c20]; rfl) (by decide) ?_
        refine lv_aload_n hx hb dX7_count_144 rfl (lv_at hl 0 rfl) ?_
        refine r_X7_265 F hh in_122 sh_122 dX7_count_145 ?_
        exact g_iretW F hr hlk hh hf dX7_count_148
      replace hf := itn c20 hf
      by_cases c21 : x1 = 6
      · replace hf := itp c21 hf
        refine lv_tableIn (tgt := 149) (off := 111) hx hb dX7_count_38 (by rw [c21]; decide) (by rw [c21]; decide) (by rw [c21]; rfl) (by decide) ?_
        refine lv_aload_n hx hb dX7_count_149 rfl (lv_at hl 0 rfl) ?_
        obtain ⟨t22, ht22, hf⟩ := ob hf
        refine m_X7_280 F hh (c_X7_outer ht22) in_122 sh_122 rfl hl (Nat.le_of_ble_eq_true rfl) dX7_count_150 (fun H locs hh => ?_)
        exact g_iretW F hr hlk hh hf dX7_count_153
      replace hf := itn c21 hf
      by_cases c23 : x1 = 7
      · replace hf := itp c23 hf
        refine lv_tableIn (tgt := 154) (off := 116) hx hb dX7_count_38 (by rw [c23]; decide) (by rw [c23]; decide) (by rw [c23]; rfl) (by decide) ?_
        refine lv_iload_n hx hb dX7_count_154 rfl (lv_at hl 2 rfl) ?_
        exact g_iretW F hr hlk hh hf dX7_count_155
      replace hf := itn c23 hf
      by_cases c24 : x1 = 8
      · replace hf := itp c24 hf
        refine lv_tableIn (tgt := 156) (off := 118) hx hb dX7_count_38 (by rw [c24]; decide) (by rw [c24]; decide) (by rw [c24]; rfl) (by decide) ?_
        refine lv_aload_n hx hb dX7_count_156 rfl (lv_at hl 0 rfl) ?_
        refine r_X7_112 F hh in_122 sh_122 dX7_count_157 ?_
        exact g_iretW F hr hlk hh hf dX7_count_160
      replace hf := itn c24 hf
      refine lv_tableOut (tgt := 161) hx hb dX7_count_38 (tb_out9 c6 c8 c10 c12 c17 c20 c21 c23 c24) (by decide) ?_
      refine lv_iconst (v := -1) hx hb dX7_count_161 (by decide) ?_
      exact g_iretW F hr hlk hh hf dX7_count_162
    · replace hf := itn c1 hf
      refine lv_iload_n hx hb dX7_count_11 rfl (lv_at hl 2 rfl) ?_
      refine lv_aload_n hx hb dX7_count_12 rfl (lv_at hl 0 rfl) ?_
      refine r_X7_7 (b' := 123) F hh in_122 sh_122 rfl dX7_count_13 ?_
      refine lv_bipush (v := 33) hx hb dX7_count_16 (by decide) ?_
      refine lv_iload_n hx hb dX7_count_18 rfl (lv_at hl 3 rfl) ?_
      refine lv_iadd hx hb dX7_count_19 ?_
      obtain ⟨t25, ht25, hf⟩ := ob hf
      refine g_iald F hh in_123 sh_123 ht25 dX7_count_20 ?_
      refine lv_iadd hx hb dX7_count_21 ?_
      refine lv_topi (fun x2_26 ex2_26 => ?_)
      replace hf := lt_e ex2_26 hf
      refine lv_istore_n (lv' := [(2, .int x2_26), (0, .ref (G.1 122)), (1, .int x1), (3, .int x3)]) hx hb dX7_count_22 rfl hl (by decide) rfl (fun ls hl => ?_)
      obtain ⟨x3_27, ex3_27⟩ : ∃ y : Int32, y = x3 + (1 : Int32) := ⟨_, rfl⟩
      replace hf := lt_e ex3_27 hf
      refine lv_iinc (v := x3_27) (lv' := [(3, .int x3_27), (2, .int x2_26), (0, .ref (G.1 122)), (1, .int x1)]) hx hb dX7_count_23 hl (k := 3) rfl (by rw [ex3_27]; rfl) (by decide) rfl (fun ls hl => ?_)
      refine lv_goto (tgt := 5) hx hb dX7_count_26 (by decide) ?_
      exact ih _ _ _ _ hf  hh (lv_sub hl [2, 3, 1, 0] rfl)
set_option maxRecDepth 100000 in
set_option maxHeartbeats 4000000 in
theorem w_X7_count {Z : Int32 × Sto} (F : Fx rM p s m args cd cX7_count 4 RX7 G) (hr : meth.sig.returnType = (some .int)) (hlk : meth.locks = false) {x1 : Int32} {z : Sto} {H : Heap} {locs : List Loc} {ls : Array Slot} (hf : f_X7_count x1 z = some Z) (hh : Hh rM G z s H locs) (hl : lv_has ls 4 [(0, .ref (G.1 122)), (1, .int x1)]) : W p l e rmX7_count s m args below meth cd H locs 0 0 (MQ below (QI rM G Z.1 Z.2) args s 0 0 (Am rM G)) (F0 m 0 ls []) := by
  have hx := F.1
  have hb := F.2.1
  unfold f_X7_count at hf
  refine lv_bipush (v := 81) hx hb dX7_count_0 (by decide) ?_
  refine lv_istore_n (lv' := [(2, .int (81 : Int32)), (0, .ref (G.1 122)), (1, .int x1)]) hx hb dX7_count_2 rfl hl (by decide) rfl (fun ls hl => ?_)
  refine lv_iconst (v := 0) hx hb dX7_count_3 (by decide) ?_
  refine lv_istore_n (lv' := [(3, .int (0 : Int32)), (2, .int (81 : Int32)), (0, .ref (G.1 122)), (1, .int x1)]) hx hb dX7_count_4 rfl hl (by decide) rfl (fun ls hl => ?_)
  exact w_X7_count_5 F hr hlk fu _ _ _ _ hf  hh (lv_sub hl [2, 3, 1, 0] rfl)
theorem c_X7_count {l : Launch} {G : Gm} {x1 : Int32} {z : Sto} {Z : Int32 × Sto} (hf : f_X7_count x1 z = some Z) : Met l yX7_count (Cond.code yX7_count cX7_count 4 (some .int) :: TT) rmX7_count (va_Pc [.ref (G.1 122), .int x1] (GS rM G z)) (QI rM G Z.1 Z.2) 0 0 (Am rM G) := by
  refine g_met [(0, .ref (G.1 122)), (1, .int x1)] (by decide) (Nat.le_of_ble_eq_true rfl) rfl ?_
  intro p e s m below meth cd F hr hlk ls H locs hl hh
  exact w_X7_count F hr hlk hf hh hl
def f_X7_isHalf (x1 : Int32) (z : Sto) : Option (Int32) := bd (rdI z 123 42 (1 : Int32)) fun t1 => bd (f_X7_in ((Int32.toInt64 x1)) (0 : Int64) ((Int32.toInt64 (((2 : Int32) * t1) - (1 : Int32)))) z) fun t2 => bd (bz t2) fun t3 => some t3
set_option maxRecDepth 100000 in
set_option maxHeartbeats 4000000 in
theorem w_X7_isHalf {Z : Int32} (F : Fx rM p s m args cd cX7_isHalf 2 RX7 G) (hr : meth.sig.returnType = (some .boolean)) (hlk : meth.locks = false) {x1 : Int32} {z : Sto} {H : Heap} {locs : List Loc} {ls : Array Slot} (hf : f_X7_isHalf x1 z = some Z) (hh : Hh rM G z s H locs) (hl : lv_has ls 2 [(0, .ref (G.1 122)), (1, .int x1)]) : W p l e rmX7_isHalf s m args below meth cd H locs 0 0 (MQ below (QI rM G Z z) args s 0 0 (Am rM G)) (F0 m 0 ls []) := by
  have hx := F.1
  have hb := F.2.1
  unfold f_X7_isHalf at hf
  refine lv_iload_n hx hb dX7_isHalf_0 rfl (lv_at hl 1 rfl) ?_
  refine lv_i2l hx hb dX7_isHalf_1 rfl ?_
  refine lv_lconst (v := 0) hx hb dX7_isHalf_2 (by decide) ?_
  refine lv_iconst (v := 2) hx hb dX7_isHalf_3 (by decide) ?_
  refine lv_aload_n hx hb dX7_isHalf_4 rfl (lv_at hl 0 rfl) ?_
  refine r_X7_7 (b' := 123) F hh in_122 sh_122 rfl dX7_isHalf_5 ?_
  refine lv_iconst (v := 1) hx hb dX7_isHalf_8 (by decide) ?_
  obtain ⟨t1, ht1, hf⟩ := ob hf
  refine g_iald F hh in_123 sh_123 ht1 dX7_isHalf_9 ?_
  refine lv_imul hx hb dX7_isHalf_10 ?_
  refine lv_iconst (v := 1) hx hb dX7_isHalf_11 (by decide) ?_
  refine lv_isub hx hb dX7_isHalf_12 ?_
  refine lv_i2l hx hb dX7_isHalf_13 rfl ?_
  obtain ⟨t2, ht2, hf⟩ := ob hf
  refine m_X7_79 F hh (c_X7_in ht2) rfl hl (Nat.le_of_ble_eq_true rfl) dX7_isHalf_14 (fun H locs hh => ?_)
  obtain ⟨t3, ht3, hf⟩ := ob hf
  exact g_zret F hr hlk (bz_e ht3).2 hh ((bz_e ht3).1.symm.trans (Option.some.inj hf)) rfl dX7_isHalf_17
theorem c_X7_isHalf {l : Launch} {G : Gm} {x1 : Int32} {z : Sto} {Z : Int32} (hf : f_X7_isHalf x1 z = some Z) : Met l yX7_isHalf (Cond.code yX7_isHalf cX7_isHalf 2 (some .boolean) :: TT) rmX7_isHalf (va_Pc [.ref (G.1 122), .int x1] (GS rM G z)) (QI rM G Z z) 0 0 (Am rM G) := by
  refine g_met [(0, .ref (G.1 122)), (1, .int x1)] (by decide) (Nat.le_of_ble_eq_true rfl) rfl ?_
  intro p e s m below meth cd F hr hlk ls H locs hl hh
  exact w_X7_isHalf F hr hlk hf hh hl
def f_X7_next (x1 : Int32) (z : Sto) : Option (Int32) := bd (f_X7_isHalf x1 z) fun t1 => if t1 = 0 then (some (-1 : Int32)) else (bd (f_X7_nextOf x1 z) fun t3 => some t3)
set_option maxRecDepth 100000 in
set_option maxHeartbeats 4000000 in
theorem w_X7_next {Z : Int32} (F : Fx rM p s m args cd cX7_next 2 RX7 G) (hr : meth.sig.returnType = (some .int)) (hlk : meth.locks = false) {x1 : Int32} {z : Sto} {H : Heap} {locs : List Loc} {ls : Array Slot} (hf : f_X7_next x1 z = some Z) (hh : Hh rM G z s H locs) (hl : lv_has ls 2 [(0, .ref (G.1 122)), (1, .int x1)]) : W p l e rmX7_next s m args below meth cd H locs 0 0 (MQ below (QI rM G Z z) args s 0 0 (Am rM G)) (F0 m 0 ls []) := by
  have hx := F.1
  have hb := F.2.1
  unfold f_X7_next at hf
  refine lv_aload_n hx hb dX7_next_0 rfl (lv_at hl 0 rfl) ?_
  refine lv_iload_n hx hb dX7_next_1 rfl (lv_at hl 1 rfl) ?_
  obtain ⟨t1, ht1, hf⟩ := ob hf
  refine m_X7_283 F hh (c_X7_isHalf ht1) in_122 sh_122 rfl hl (Nat.le_of_ble_eq_true rfl) dX7_next_2 (fun H locs hh => ?_)
  refine lv_if_eq (tgt := 16) hx hb dX7_next_5 (by decide) (fun c2 => ?_) (fun c2 => ?_)
  · replace hf := itp c2 hf
    refine lv_iconst (v := -1) hx hb dX7_next_16 (by decide) ?_
    exact g_iret F hr hlk hh (Option.some.inj hf) rfl dX7_next_17
  · replace hf := itn c2 hf
    refine lv_aload_n hx hb dX7_next_8 rfl (lv_at hl 0 rfl) ?_
    refine lv_iload_n hx hb dX7_next_9 rfl (lv_at hl 1 rfl) ?_
    obtain ⟨t3, ht3, hf⟩ := ob hf
    refine m_X7_268 F hh (c_X7_nextOf ht3) in_122 sh_122 rfl hl (Nat.le_of_ble_eq_true rfl) dX7_next_10 (fun H locs hh => ?_)
    refine lv_goto (tgt := 17) hx hb dX7_next_13 (by decide) ?_
    exact g_iret F hr hlk hh (Option.some.inj hf) rfl dX7_next_17
theorem c_X7_next {l : Launch} {G : Gm} {x1 : Int32} {z : Sto} {Z : Int32} (hf : f_X7_next x1 z = some Z) : Met l yX7_next (Cond.code yX7_next cX7_next 2 (some .int) :: TT) rmX7_next (va_Pc [.ref (G.1 122), .int x1] (GS rM G z)) (QI rM G Z z) 0 0 (Am rM G) := by
  refine g_met [(0, .ref (G.1 122)), (1, .int x1)] (by decide) (Nat.le_of_ble_eq_true rfl) rfl ?_
  intro p e s m below meth cd F hr hlk ls H locs hl hh
  exact w_X7_next F hr hlk hf hh hl
def f_X7_face (x1 : Int32) (x2 : Int32) (z : Sto) : Option (Int32 × Sto) := bd (f_X7_laysFaces z) fun z2 => bd (f_X7_in ((Int32.toInt64 x1)) (0 : Int64) ((Int32.toInt64 ((z2.1 122 19) - (1 : Int32)))) z2) fun t3 => if t3 = 0 then (some ((-1 : Int32), z2)) else (bd (f_X7_in ((Int32.toInt64 x2)) (0 : Int64) (2 : Int64) z2) fun t5 => if t5 = 0 then (some ((-1 : Int32), z2)) else (bd (f_X7_areaOf x1 z2) fun t7 => if x2 = 0 then (bd (f_X7_manyOf x1 z2) fun t12 => some (t12, z2)) else (if x2 = (1 : Int32) then (if 0 ≤ t7 then (some (t7, z2)) else (some ((-t7), z2))) else (bd (f_X7_leastOf x1 z2) fun t10 => some (t10, z2)))))
set_option maxRecDepth 100000 in
set_option maxHeartbeats 4000000 in
theorem w_X7_face {Z : Int32 × Sto} (F : Fx rM p s m args cd cX7_face 4 RX7 G) (hr : meth.sig.returnType = (some .int)) (hlk : meth.locks = false) {x1 : Int32} {x2 : Int32} {z : Sto} {H : Heap} {locs : List Loc} {ls : Array Slot} (hf : f_X7_face x1 x2 z = some Z) (hh : Hh rM G z s H locs) (hl : lv_has ls 4 [(0, .ref (G.1 122)), (1, .int x1), (2, .int x2)]) : W p l e rmX7_face s m args below meth cd H locs 0 0 (MQ below (QI rM G Z.1 Z.2) args s 0 0 (Am rM G)) (F0 m 0 ls []) := by
  have hx := F.1
  have hb := F.2.1
  unfold f_X7_face at hf
  refine lv_aload_n hx hb dX7_face_0 rfl (lv_at hl 0 rfl) ?_
  obtain ⟨z2, ht1, hf⟩ := ob hf
  refine m_X7_277 F hh (c_X7_laysFaces ht1) in_122 sh_122 rfl hl (Nat.le_of_ble_eq_true rfl) dX7_face_1 (fun H locs hh => ?_)
  refine lv_iload_n hx hb dX7_face_4 rfl (lv_at hl 1 rfl) ?_
  refine lv_i2l hx hb dX7_face_5 rfl ?_
  refine lv_lconst (v := 0) hx hb dX7_face_6 (by decide) ?_
  refine lv_aload_n hx hb dX7_face_7 rfl (lv_at hl 0 rfl) ?_
  refine r_X7_265 F hh in_122 sh_122 dX7_face_8 ?_
  refine lv_iconst (v := 1) hx hb dX7_face_11 (by decide) ?_
  refine lv_isub hx hb dX7_face_12 ?_
  refine lv_i2l hx hb dX7_face_13 rfl ?_
  obtain ⟨t3, ht3, hf⟩ := ob hf
  refine m_X7_79 F hh (c_X7_in ht3) rfl hl (Nat.le_of_ble_eq_true rfl) dX7_face_14 (fun H locs hh => ?_)
  refine lv_if_eq (tgt := 32) hx hb dX7_face_17 (by decide) (fun c4 => ?_) (fun c4 => ?_)
  · replace hf := itp c4 hf
    refine lv_iconst (v := -1) hx hb dX7_face_32 (by decide) ?_
    exact g_iretW F hr hlk hh hf dX7_face_33
  · replace hf := itn c4 hf
    refine lv_iload_n hx hb dX7_face_20 rfl (lv_at hl 2 rfl) ?_
    refine lv_i2l hx hb dX7_face_21 rfl ?_
    refine lv_lconst (v := 0) hx hb dX7_face_22 (by decide) ?_
    refine lv_ldc2 hx hb F.2.2.2.1 (F.2.2.2.2.1 _ lk1159) dX7_face_23 ?_
    obtain ⟨t5, ht5, hf⟩ := ob hf
    refine m_X7_79 F hh (c_X7_in ht5) rfl hl (Nat.le_of_ble_eq_true rfl) dX7_face_26 (fun H locs hh => ?_)
    refine lv_if_ne (tgt := 34) hx hb dX7_face_29 (by decide) (fun c6 => ?_) (fun c6 => ?_)
    · replace hf := itn c6 hf
      refine lv_aload_n hx hb dX7_face_34 rfl (lv_at hl 0 rfl) ?_
      refine lv_iload_n hx hb dX7_face_35 rfl (lv_at hl 1 rfl) ?_
      obtain ⟨t7, ht7, hf⟩ := ob hf
      refine m_X7_274 F hh (c_X7_areaOf ht7) in_122 sh_122 rfl hl (Nat.le_of_ble_eq_true rfl) dX7_face_36 (fun H locs hh => ?_)
      refine lv_istore_n (lv' := [(3, .int t7), (0, .ref (G.1 122)), (1, .int x1), (2, .int x2)]) hx hb dX7_face_39 rfl hl (by decide) rfl (fun ls hl => ?_)
      refine lv_iload_n hx hb dX7_face_40 rfl (lv_at hl 3 rfl) ?_
      refine lv_if_ne (tgt := 52) hx hb dX7_face_41 (by decide) (fun c8 => ?_) (fun c8 => ?_)
      · replace hf := itn c8 hf
        refine lv_iload_n hx hb dX7_face_52 rfl (lv_at hl 3 rfl) ?_
        refine lv_iconst (v := 1) hx hb dX7_face_53 (by decide) ?_
        refine lv_icmp_ne (tgt := 70) hx hb dX7_face_54 (by decide) (fun c9 => ?_) (fun c9 => ?_)
        · replace hf := itn c9 hf
          refine lv_aload_n hx hb dX7_face_70 rfl (lv_at hl 1 rfl) ?_
          refine lv_iload_n hx hb dX7_face_71 rfl (lv_at hl 2 rfl) ?_
          obtain ⟨t10, ht10, hf⟩ := ob hf
          refine m_X7_289 F hh (c_X7_leastOf ht10) in_122 sh_122 rfl hl (Nat.le_of_ble_eq_true rfl) dX7_face_72 (fun H locs hh => ?_)
          exact g_iretW F hr hlk hh hf dX7_face_75
        · replace hf := itp c9 hf
          refine lv_iload_n hx hb dX7_face_57 rfl (lv_at hl 0 rfl) ?_
          refine lv_if_ge (tgt := 66) hx hb dX7_face_58 (by decide) (fun c11 => ?_) (fun c11 => ?_)
          · replace hf := itp c11 hf
            refine lv_iload_n hx hb dX7_face_66 rfl (lv_at hl 0 rfl) ?_
            refine lv_goto (tgt := 75) hx hb dX7_face_67 (by decide) ?_
            exact g_iretW F hr hlk hh hf dX7_face_75
          · replace hf := itn c11 hf
            refine lv_iload_n hx hb dX7_face_61 rfl (lv_at hl 0 rfl) ?_
            refine lv_ineg hx hb dX7_face_62 ?_
            refine lv_goto (tgt := 75) hx hb dX7_face_63 (by decide) ?_
            exact g_iretW F hr hlk hh hf dX7_face_75
      · replace hf := itp c8 hf
        refine lv_aload_n hx hb dX7_face_44 rfl (lv_at hl 1 rfl) ?_
        refine lv_iload_n hx hb dX7_face_45 rfl (lv_at hl 2 rfl) ?_
        obtain ⟨t12, ht12, hf⟩ := ob hf
        refine m_X7_286 F hh (c_X7_manyOf ht12) in_122 sh_122 rfl hl (Nat.le_of_ble_eq_true rfl) dX7_face_46 (fun H locs hh => ?_)
        refine lv_goto (tgt := 75) hx hb dX7_face_49 (by decide) ?_
        exact g_iretW F hr hlk hh hf dX7_face_75
    · replace hf := itp c6 hf
      refine lv_iconst (v := -1) hx hb dX7_face_32 (by decide) ?_
      exact g_iretW F hr hlk hh hf dX7_face_33
theorem c_X7_face {l : Launch} {G : Gm} {x1 : Int32} {x2 : Int32} {z : Sto} {Z : Int32 × Sto} (hf : f_X7_face x1 x2 z = some Z) : Met l yX7_face (Cond.code yX7_face cX7_face 4 (some .int) :: TT) rmX7_face (va_Pc [.ref (G.1 122), .int x1, .int x2] (GS rM G z)) (QI rM G Z.1 Z.2) 0 0 (Am rM G) := by
  refine g_met [(0, .ref (G.1 122)), (1, .int x1), (2, .int x2)] (by decide) (Nat.le_of_ble_eq_true rfl) rfl ?_
  intro p e s m below meth cd F hr hlk ls H locs hl hh
  exact w_X7_face F hr hlk hf hh hl
def b_X7_round_48  (ag48 : Int32 → Int32 → Int32 → Sto → Option (Int32 × Sto)) (x2 : Int32) (x3 : Int32) (x4 : Int32) (z : Sto) : Option (Int32 × Sto) := if x2 ≤ x4 then (some (x3, z)) else (bd (f_X7_nextOf x3 z) fun t10 => lt (x4 + (1 : Int32)) fun x4_11 => ag48 x2 t10 x4_11 z)
def f_X7_round (x1 : Int32) (x2 : Int32) (z : Sto) : Option (Int32 × Sto) := bd (f_X7_laysFaces z) fun z2 => bd (f_X7_in ((Int32.toInt64 x1)) (0 : Int64) ((Int32.toInt64 ((z2.1 122 19) - (1 : Int32)))) z2) fun t3 => if t3 = 0 then (some ((-1 : Int32), z2)) else (bd (f_X7_manyOf x1 z2) fun t5 => bd (f_X7_in ((Int32.toInt64 x2)) (0 : Int64) ((Int32.toInt64 (t5 - (1 : Int32)))) z2) fun t6 => if t6 = 0 then (some ((-1 : Int32), z2)) else (bd (f_X7_leastOf x1 z2) fun t8 => wl4 (b_X7_round_48) fu x2 t8 (0 : Int32) z2))
set_option maxRecDepth 100000 in
set_option maxHeartbeats 4000000 in
theorem w_X7_round_48  {Z : Int32 × Sto} (F : Fx rM p s m args cd cX7_round 5 RX7 G) (hr : meth.sig.returnType = (some .int)) (hlk : meth.locks = false)  : ∀ (n : Nat), ∀ (x2 : Int32) (x3 : Int32) (x4 : Int32) (z : Sto), wl4 (b_X7_round_48) n x2 x3 x4 z = some Z → ∀ {H : Heap} {locs : List Loc} {ls : Array Slot}, Hh rM G z s H locs → lv_has ls 5 [(0, .ref (G.1 122)), (2, .int x2), (3, .int x3), (4, .int x4)] → W p l e rmX7_round s m args below meth cd H locs 0 0 (MQ below (QI rM G Z.1 Z.2) args s 0 0 (Am rM G)) (F0 m 48 ls []) := by
  have hx := F.1
  have hb := F.2.1
  intro n
  induction n with
  | zero =>
    intro x2 x3 x4 z hf
    exact absurd hf (by intro h; cases h)
  | succ n ih =>
    intro x2 x3 x4 z hf  H locs ls hh hl
    replace hf : b_X7_round_48 (wl4 (b_X7_round_48) n) x2 x3 x4 z = some Z := hf
    unfold b_X7_round_48 at hf
    refine lv_iload hx hb dX7_round_48 (lv_at hl 3 rfl) ?_
    refine lv_iload_n hx hb dX7_round_50 rfl (lv_at hl 1 rfl) ?_
    refine lv_icmp_ge (tgt := 66) hx hb dX7_round_51 (by decide) (fun c9 => ?_) (fun c9 => ?_)
    · replace hf := itp c9 hf
      refine lv_iload_n hx hb dX7_round_66 rfl (lv_at hl 2 rfl) ?_
      exact g_iretW F hr hlk hh hf dX7_round_67
    · replace hf := itn c9 hf
      refine lv_aload_n hx hb dX7_round_54 rfl (lv_at hl 0 rfl) ?_
      refine lv_iload_n hx hb dX7_round_55 rfl (lv_at hl 2 rfl) ?_
      obtain ⟨t10, ht10, hf⟩ := ob hf
      refine m_X7_268 F hh (c_X7_nextOf ht10) in_122 sh_122 rfl hl (Nat.le_of_ble_eq_true rfl) dX7_round_56 (fun H locs hh => ?_)
      refine lv_istore_n (lv' := [(3, .int t10), (0, .ref (G.1 122)), (2, .int x2), (4, .int x4)]) hx hb dX7_round_59 rfl hl (by decide) rfl (fun ls hl => ?_)
      obtain ⟨x4_11, ex4_11⟩ : ∃ y : Int32, y = x4 + (1 : Int32) := ⟨_, rfl⟩
      replace hf := lt_e ex4_11 hf
      refine lv_iinc (v := x4_11) (lv' := [(4, .int x4_11), (3, .int t10), (0, .ref (G.1 122)), (2, .int x2)]) hx hb dX7_round_60 hl (k := 3) rfl (by rw [ex4_11]; rfl) (by decide) rfl (fun ls hl => ?_)
      refine lv_goto (tgt := 48) hx hb dX7_round_63 (by decide) ?_
      exact ih _ _ _ _ hf  hh (lv_sub hl [2, 3, 1, 0] rfl)
set_option maxRecDepth 100000 in
set_option maxHeartbeats 4000000 in
theorem w_X7_round {Z : Int32 × Sto} (F : Fx rM p s m args cd cX7_round 5 RX7 G) (hr : meth.sig.returnType = (some .int)) (hlk : meth.locks = false) {x1 : Int32} {x2 : Int32} {z : Sto} {H : Heap} {locs : List Loc} {ls : Array Slot} (hf : f_X7_round x1 x2 z = some Z) (hh : Hh rM G z s H locs) (hl : lv_has ls 5 [(0, .ref (G.1 122)), (1, .int x1), (2, .int x2)]) : W p l e rmX7_round s m args below meth cd H locs 0 0 (MQ below (QI rM G Z.1 Z.2) args s 0 0 (Am rM G)) (F0 m 0 ls []) := by
  have hx := F.1
  have hb := F.2.1
  unfold f_X7_round at hf
  refine lv_aload_n hx hb dX7_round_0 rfl (lv_at hl 0 rfl) ?_
  obtain ⟨z2, ht1, hf⟩ := ob hf
  refine m_X7_277 F hh (c_X7_laysFaces ht1) in_122 sh_122 rfl hl (Nat.le_of_ble_eq_true rfl) dX7_round_1 (fun H locs hh => ?_)
  refine lv_iload_n hx hb dX7_round_4 rfl (lv_at hl 1 rfl) ?_
  refine lv_i2l hx hb dX7_round_5 rfl ?_
  refine lv_lconst (v := 0) hx hb dX7_round_6 (by decide) ?_
  refine lv_aload_n hx hb dX7_round_7 rfl (lv_at hl 0 rfl) ?_
  refine r_X7_265 F hh in_122 sh_122 dX7_round_8 ?_
  refine lv_iconst (v := 1) hx hb dX7_round_11 (by decide) ?_
  refine lv_isub hx hb dX7_round_12 ?_
  refine lv_i2l hx hb dX7_round_13 rfl ?_
  obtain ⟨t3, ht3, hf⟩ := ob hf
  refine m_X7_79 F hh (c_X7_in ht3) rfl hl (Nat.le_of_ble_eq_true rfl) dX7_round_14 (fun H locs hh => ?_)
  refine lv_if_eq (tgt := 37) hx hb dX7_round_17 (by decide) (fun c4 => ?_) (fun c4 => ?_)
  · replace hf := itp c4 hf
    refine lv_iconst (v := -1) hx hb dX7_round_37 (by decide) ?_
    exact g_iretW F hr hlk hh hf dX7_round_38
  · replace hf := itn c4 hf
    refine lv_iload_n hx hb dX7_round_20 rfl (lv_at hl 2 rfl) ?_
    refine lv_i2l hx hb dX7_round_21 rfl ?_
    refine lv_lconst (v := 0) hx hb dX7_round_22 (by decide) ?_
    refine lv_aload_n hx hb dX7_round_23 rfl (lv_at hl 0 rfl) ?_
    refine lv_iload_n hx hb dX7_round_24 rfl (lv_at hl 1 rfl) ?_
    obtain ⟨t5, ht5, hf⟩ := ob hf
    refine m_X7_286 F hh (c_X7_manyOf ht5) in_122 sh_122 rfl hl (Nat.le_of_ble_eq_true rfl) dX7_round_25 (fun H locs hh => ?_)
    refine lv_iconst (v := 1) hx hb dX7_round_28 (by decide) ?_
    refine lv_isub hx hb dX7_round_29 ?_
    refine lv_i2l hx hb dX7_round_30 rfl ?_
    obtain ⟨t6, ht6, hf⟩ := ob hf
    refine m_X7_79 F hh (c_X7_in ht6) rfl hl (Nat.le_of_ble_eq_true rfl) dX7_round_31 (fun H locs hh => ?_)
    refine lv_if_ne (tgt := 39) hx hb dX7_round_34 (by decide) (fun c7 => ?_) (fun c7 => ?_)
    · replace hf := itn c7 hf
      refine lv_aload_n hx hb dX7_round_39 rfl (lv_at hl 0 rfl) ?_
      refine lv_iload_n hx hb dX7_round_40 rfl (lv_at hl 1 rfl) ?_
      obtain ⟨t8, ht8, hf⟩ := ob hf
      refine m_X7_289 F hh (c_X7_leastOf ht8) in_122 sh_122 rfl hl (Nat.le_of_ble_eq_true rfl) dX7_round_41 (fun H locs hh => ?_)
      refine lv_istore_n (lv' := [(3, .int t8), (0, .ref (G.1 122)), (1, .int x1), (2, .int x2)]) hx hb dX7_round_44 rfl hl (by decide) rfl (fun ls hl => ?_)
      refine lv_iconst (v := 0) hx hb dX7_round_45 (by decide) ?_
      refine lv_istore (lv' := [(4, .int (0 : Int32)), (3, .int t8), (0, .ref (G.1 122)), (1, .int x1), (2, .int x2)]) hx hb dX7_round_46 hl (by decide) rfl (fun ls hl => ?_)
      exact w_X7_round_48 F hr hlk fu _ _ _ _ hf  hh (lv_sub hl [2, 4, 1, 0] rfl)
    · replace hf := itp c7 hf
      refine lv_iconst (v := -1) hx hb dX7_round_37 (by decide) ?_
      exact g_iretW F hr hlk hh hf dX7_round_38
theorem c_X7_round {l : Launch} {G : Gm} {x1 : Int32} {x2 : Int32} {z : Sto} {Z : Int32 × Sto} (hf : f_X7_round x1 x2 z = some Z) : Met l yX7_round (Cond.code yX7_round cX7_round 5 (some .int) :: TT) rmX7_round (va_Pc [.ref (G.1 122), .int x1, .int x2] (GS rM G z)) (QI rM G Z.1 Z.2) 0 0 (Am rM G) := by
  refine g_met [(0, .ref (G.1 122)), (1, .int x1), (2, .int x2)] (by decide) (Nat.le_of_ble_eq_true rfl) rfl ?_
  intro p e s m below meth cd F hr hlk ls H locs hl hh
  exact w_X7_round F hr hlk hf hh hl
def f_X7_beside (x1 : Int32) (z : Sto) : Option (Int32 × Sto) := bd (f_X7_isHalf x1 z) fun t1 => if t1 = 0 then (some ((-1 : Int32), z)) else (bd (f_X7_laysFaces z) fun z4 => bd (rdI z4 136 18 x1) fun t5 => some (t5, z4))
set_option maxRecDepth 100000 in
set_option maxHeartbeats 4000000 in
theorem w_X7_beside {Z : Int32 × Sto} (F : Fx rM p s m args cd cX7_beside 2 RX7 G) (hr : meth.sig.returnType = (some .int)) (hlk : meth.locks = false) {x1 : Int32} {z : Sto} {H : Heap} {locs : List Loc} {ls : Array Slot} (hf : f_X7_beside x1 z = some Z) (hh : Hh rM G z s H locs) (hl : lv_has ls 2 [(0, .ref (G.1 122)), (1, .int x1)]) : W p l e rmX7_beside s m args below meth cd H locs 0 0 (MQ below (QI rM G Z.1 Z.2) args s 0 0 (Am rM G)) (F0 m 0 ls []) := by
  have hx := F.1
  have hb := F.2.1
  unfold f_X7_beside at hf
  refine lv_aload_n hx hb dX7_beside_0 rfl (lv_at hl 0 rfl) ?_
  refine lv_iload_n hx hb dX7_beside_1 rfl (lv_at hl 1 rfl) ?_
  obtain ⟨t1, ht1, hf⟩ := ob hf
  refine m_X7_283 F hh (c_X7_isHalf ht1) in_122 sh_122 rfl hl (Nat.le_of_ble_eq_true rfl) dX7_beside_2 (fun H locs hh => ?_)
  refine lv_if_ne (tgt := 10) hx hb dX7_beside_5 (by decide) (fun c2 => ?_) (fun c2 => ?_)
  · replace hf := itn c2 hf
    refine lv_aload_n hx hb dX7_beside_10 rfl (lv_at hl 0 rfl) ?_
    obtain ⟨z4, ht3, hf⟩ := ob hf
    refine m_X7_277 F hh (c_X7_laysFaces ht3) in_122 sh_122 rfl hl (Nat.le_of_ble_eq_true rfl) dX7_beside_11 (fun H locs hh => ?_)
    refine lv_aload_n hx hb dX7_beside_14 rfl (lv_at hl 0 rfl) ?_
    refine r_X7_54 (b' := 136) F hh in_122 sh_122 rfl dX7_beside_15 ?_
    refine lv_iload_n hx hb dX7_beside_18 rfl (lv_at hl 1 rfl) ?_
    obtain ⟨t5, ht5, hf⟩ := ob hf
    refine g_iald F hh in_136 sh_136 ht5 dX7_beside_19 ?_
    exact g_iretW F hr hlk hh hf dX7_beside_20
  · replace hf := itp c2 hf
    refine lv_iconst (v := -1) hx hb dX7_beside_8 (by decide) ?_
    exact g_iretW F hr hlk hh hf dX7_beside_9
theorem c_X7_beside {l : Launch} {G : Gm} {x1 : Int32} {z : Sto} {Z : Int32 × Sto} (hf : f_X7_beside x1 z = some Z) : Met l yX7_beside (Cond.code yX7_beside cX7_beside 2 (some .int) :: TT) rmX7_beside (va_Pc [.ref (G.1 122), .int x1] (GS rM G z)) (QI rM G Z.1 Z.2) 0 0 (Am rM G) := by
  refine g_met [(0, .ref (G.1 122)), (1, .int x1)] (by decide) (Nat.le_of_ble_eq_true rfl) rfl ?_
  intro p e s m below meth cd F hr hlk ls H locs hl hh
  exact w_X7_beside F hr hlk hf hh hl
def f_X7_goesOver (x1 : Int32) (z : Sto) : Option (Sto) := bd (rdI z 136 18 x1) fun t1 => bd (f_X7_back x1 z) fun t2 => bd (rdI z 136 18 t2) fun t3 => bd (f_X7_stepX x1 z) fun t4 => bd (f_X7_pullOf ((x1 / (2 : Int32))) z) fun t5 => lt (((Int32.toInt64 t4) * t5)) fun x4_6 => bd (f_X7_stepY x1 z) fun t7 => bd (f_X7_pullOf ((x1 / (2 : Int32))) z) fun t8 => lt (((Int32.toInt64 t7) * t8)) fun x6_9 => bd (rdL z 137 18 t3) fun t10 => bd (wrL z 137 18 t1 (t10 + x4_6)) fun z11 => bd (rdL z11 138 18 t3) fun t12 => bd (wrL z11 138 18 t1 (t12 + x6_9)) fun z13 => bd (rdL z13 139 18 t3) fun t14 => bd (wrL z13 139 18 t1 (t14 - x6_9)) fun z15 => bd (rdL z15 140 18 t3) fun t16 => bd (wrL z15 140 18 t1 (t16 + x4_6)) fun z17 => bd (rdL z17 141 18 t3) fun t18 => bd (f_X7_from x1 z17) fun t19 => bd (f_X7_x t19 z17) fun t20 => bd (f_X7_from x1 z17) fun t21 => bd (f_X7_y t21 z17) fun t22 => bd (wrL z17 141 18 t1 ((t18 + (x6_9 * (Int32.toInt64 t20))) - (x4_6 * (Int32.toInt64 t22)))) fun z23 => bd (wrI z23 142 18 t1 (vp_nar .boolean (1 : Int32))) fun z24 => some z24
set_option maxRecDepth 100000 in
set_option maxHeartbeats 4000000 in
theorem w_X7_goesOver {Z : Sto} (F : Fx rM p s m args cd cX7_goesOver 8 RX7 G) (hr : meth.sig.returnType = none) (hlk : meth.locks = false) {x1 : Int32} {z : Sto} {H : Heap} {locs : List Loc} {ls : Array Slot} (hf : f_X7_goesOver x1 z = some Z) (hh : Hh rM G z s H locs) (hl : lv_has ls 8 [(0, .ref (G.1 122)), (1, .int x1)]) : W p l e rmX7_goesOver s m args below meth cd H locs 0 0 (MQ below (QV rM G Z) args s 0 0 (Am rM G)) (F0 m 0 ls []) := by
  have hx := F.1
  have hb := F.2.1
  unfold f_X7_goesOver at hf
  refine lv_aload_n hx hb dX7_goesOver_0 rfl (lv_at hl 0 rfl) ?_
  refine r_X7_54 (b' := 136) F hh in_122 sh_122 rfl dX7_goesOver_1 ?_
  refine lv_iload_n hx hb dX7_goesOver_4 rfl (lv_at hl 1 rfl) ?_
  obtain ⟨t1, ht1, hf⟩ := ob hf
  refine g_iald F hh in_136 sh_136 ht1 dX7_goesOver_5 ?_
  refine lv_istore_n (lv' := [(2, .int t1), (0, .ref (G.1 122)), (1, .int x1)]) hx hb dX7_goesOver_6 rfl hl (by decide) rfl (fun ls hl => ?_)
  refine lv_aload_n hx hb dX7_goesOver_7 rfl (lv_at hl 1 rfl) ?_
  refine r_X7_54 (b' := 136) F hh in_122 sh_122 rfl dX7_goesOver_8 ?_
  refine lv_iload_n hx hb dX7_goesOver_11 rfl (lv_at hl 2 rfl) ?_
  obtain ⟨t2, ht2, hf⟩ := ob hf
  refine m_X7_259 F hh (c_X7_back ht2) rfl hl (Nat.le_of_ble_eq_true rfl) dX7_goesOver_12 (fun H locs hh => ?_)
  obtain ⟨t3, ht3, hf⟩ := ob hf
  refine g_iald F hh in_136 sh_136 ht3 dX7_goesOver_15 ?_
  refine lv_istore_n (lv' := [(3, .int t3), (2, .int t1), (0, .ref (G.1 122)), (1, .int x1)]) hx hb dX7_goesOver_16 rfl hl (by decide) rfl (fun ls hl => ?_)
  refine lv_aload_n hx hb dX7_goesOver_17 rfl (lv_at hl 2 rfl) ?_
  refine lv_iload_n hx hb dX7_goesOver_18 rfl (lv_at hl 3 rfl) ?_
  obtain ⟨t4, ht4, hf⟩ := ob hf
  refine m_X7_189 F hh (c_X7_stepX ht4) in_122 sh_122 rfl hl (Nat.le_of_ble_eq_true rfl) dX7_goesOver_19 (fun H locs hh => ?_)
  refine lv_i2l hx hb dX7_goesOver_22 rfl ?_
  refine lv_aload_n hx hb dX7_goesOver_23 rfl (lv_at hl 2 rfl) ?_
  refine lv_iload_n hx hb dX7_goesOver_24 rfl (lv_at hl 3 rfl) ?_
  refine lv_iconst (v := 2) hx hb dX7_goesOver_25 (by decide) ?_
  refine lv_idiv hx hb dX7_goesOver_26 (by decide) ?_
  obtain ⟨t5, ht5, hf⟩ := ob hf
  refine m_X7_244 F hh (c_X7_pullOf ht5) in_122 sh_122 rfl hl (Nat.le_of_ble_eq_true rfl) dX7_goesOver_27 (fun H locs hh => ?_)
  refine lv_lmul hx hb dX7_goesOver_30 ?_
  refine lv_topl (fun x4_6 ex4_6 => ?_)
  replace hf := lt_e ex4_6 hf
  refine lv_lstore (lv' := [(4, .long x4_6), (3, .int t3), (2, .int t1), (0, .ref (G.1 122)), (1, .int x1)]) hx hb dX7_goesOver_31 hl (by decide) rfl (fun ls hl => ?_)
  refine lv_aload_n hx hb dX7_goesOver_33 rfl (lv_at hl 3 rfl) ?_
  refine lv_iload_n hx hb dX7_goesOver_34 rfl (lv_at hl 4 rfl) ?_
  obtain ⟨t7, ht7, hf⟩ := ob hf
  refine m_X7_192 F hh (c_X7_stepY ht7) in_122 sh_122 rfl hl (Nat.le_of_ble_eq_true rfl) dX7_goesOver_35 (fun H locs hh => ?_)
  refine lv_i2l hx hb dX7_goesOver_38 rfl ?_
  refine lv_aload_n hx hb dX7_goesOver_39 rfl (lv_at hl 3 rfl) ?_
  refine lv_iload_n hx hb dX7_goesOver_40 rfl (lv_at hl 4 rfl) ?_
  refine lv_iconst (v := 2) hx hb dX7_goesOver_41 (by decide) ?_
  refine lv_idiv hx hb dX7_goesOver_42 (by decide) ?_
  obtain ⟨t8, ht8, hf⟩ := ob hf
  refine m_X7_244 F hh (c_X7_pullOf ht8) in_122 sh_122 rfl hl (Nat.le_of_ble_eq_true rfl) dX7_goesOver_43 (fun H locs hh => ?_)
  refine lv_lmul hx hb dX7_goesOver_46 ?_
  refine lv_topl (fun x6_9 ex6_9 => ?_)
  replace hf := lt_e ex6_9 hf
  refine lv_lstore (lv' := [(6, .long x6_9), (4, .long x4_6), (3, .int t3), (2, .int t1), (0, .ref (G.1 122)), (1, .int x1)]) hx hb dX7_goesOver_47 hl (by decide) rfl (fun ls hl => ?_)
  refine lv_aload_n hx hb dX7_goesOver_49 rfl (lv_at hl 4 rfl) ?_
  refine r_X7_57 (b' := 137) F hh in_122 sh_122 rfl dX7_goesOver_50 ?_
  refine lv_iload_n hx hb dX7_goesOver_53 rfl (lv_at hl 3 rfl) ?_
  refine lv_aload_n hx hb dX7_goesOver_54 rfl (lv_at hl 4 rfl) ?_
  refine r_X7_57 (b' := 137) F hh in_122 sh_122 rfl dX7_goesOver_55 ?_
  refine lv_iload_n hx hb dX7_goesOver_58 rfl (lv_at hl 2 rfl) ?_
  obtain ⟨t10, ht10, hf⟩ := ob hf
  refine g_lald F hh in_137 sh_137 ht10 dX7_goesOver_59 ?_
  refine lv_lload hx hb dX7_goesOver_60 (lv_at hl 1 rfl) ?_
  refine lv_ladd hx hb dX7_goesOver_62 ?_
  obtain ⟨z11, hz11, hf⟩ := ob hf
  refine g_last F hh in_137 sh_137 hz11 dX7_goesOver_63 (fun H locs hh => ?_)
  refine lv_aload_n hx hb dX7_goesOver_64 rfl (lv_at hl 4 rfl) ?_
  refine r_X7_60 (b' := 138) F hh in_122 sh_122 rfl dX7_goesOver_65 ?_
  refine lv_iload_n hx hb dX7_goesOver_68 rfl (lv_at hl 3 rfl) ?_
  refine lv_aload_n hx hb dX7_goesOver_69 rfl (lv_at hl 4 rfl) ?_
  refine r_X7_60 (b' := 138) F hh in_122 sh_122 rfl dX7_goesOver_70 ?_
  refine lv_iload_n hx hb dX7_goesOver_73 rfl (lv_at hl 2 rfl) ?_
  obtain ⟨t12, ht12, hf⟩ := ob hf
  refine g_lald F hh in_138 sh_138 ht12 dX7_goesOver_74 ?_
  refine lv_lload hx hb dX7_goesOver_75 (lv_at hl 0 rfl) ?_
  refine lv_ladd hx hb dX7_goesOver_77 ?_
  obtain ⟨z13, hz13, hf⟩ := ob hf
  refine g_last F hh in_138 sh_138 hz13 dX7_goesOver_78 (fun H locs hh => ?_)
  refine lv_aload_n hx hb dX7_goesOver_79 rfl (lv_at hl 4 rfl) ?_
  refine r_X7_63 (b' := 139) F hh in_122 sh_122 rfl dX7_goesOver_80 ?_
  refine lv_iload_n hx hb dX7_goesOver_83 rfl (lv_at hl 3 rfl) ?_
  refine lv_aload_n hx hb dX7_goesOver_84 rfl (lv_at hl 4 rfl) ?_
  refine r_X7_63 (b' := 139) F hh in_122 sh_122 rfl dX7_goesOver_85 ?_
  refine lv_iload_n hx hb dX7_goesOver_88 rfl (lv_at hl 2 rfl) ?_
  obtain ⟨t14, ht14, hf⟩ := ob hf
  refine g_lald F hh in_139 sh_139 ht14 dX7_goesOver_89 ?_
  refine lv_lload hx hb dX7_goesOver_90 (lv_at hl 0 rfl) ?_
  refine lv_lsub hx hb dX7_goesOver_92 ?_
  obtain ⟨z15, hz15, hf⟩ := ob hf
  refine g_last F hh in_139 sh_139 hz15 dX7_goesOver_93 (fun H locs hh => ?_)
  refine lv_aload_n hx hb dX7_goesOver_94 rfl (lv_at hl 4 rfl) ?_
  refine r_X7_66 (b' := 140) F hh in_122 sh_122 rfl dX7_goesOver_95 ?_
  refine lv_iload_n hx hb dX7_goesOver_98 rfl (lv_at hl 3 rfl) ?_
  refine lv_aload_n hx hb dX7_goesOver_99 rfl (lv_at hl 4 rfl) ?_
  refine r_X7_66 (b' := 140) F hh in_122 sh_122 rfl dX7_goesOver_100 ?_
  refine lv_iload_n hx hb dX7_goesOver_103 rfl (lv_at hl 2 rfl) ?_
  obtain ⟨t16, ht16, hf⟩ := ob hf
  refine g_lald F hh in_140 sh_140 ht16 dX7_goesOver_104 ?_
  refine lv_lload hx hb dX7_goesOver_105 (lv_at hl 1 rfl) ?_
  refine lv_ladd hx hb dX7_goesOver_107 ?_
  obtain ⟨z17, hz17, hf⟩ := ob hf
  refine g_last F hh in_140 sh_140 hz17 dX7_goesOver_108 (fun H locs hh => ?_)
  refine lv_aload_n hx hb dX7_goesOver_109 rfl (lv_at hl 4 rfl) ?_
  refine r_X7_69 (b' := 141) F hh in_122 sh_122 rfl dX7_goesOver_110 ?_
  refine lv_iload_n hx hb dX7_goesOver_113 rfl (lv_at hl 3 rfl) ?_
  refine lv_aload_n hx hb dX7_goesOver_114 rfl (lv_at hl 4 rfl) ?_
  refine r_X7_69 (b' := 141) F hh in_122 sh_122 rfl dX7_goesOver_115 ?_
  refine lv_iload_n hx hb dX7_goesOver_118 rfl (lv_at hl 2 rfl) ?_
  obtain ⟨t18, ht18, hf⟩ := ob hf
  refine g_lald F hh in_141 sh_141 ht18 dX7_goesOver_119 ?_
  refine lv_lload hx hb dX7_goesOver_120 (lv_at hl 0 rfl) ?_
  refine lv_aload_n hx hb dX7_goesOver_122 rfl (lv_at hl 4 rfl) ?_
  refine lv_aload_n hx hb dX7_goesOver_123 rfl (lv_at hl 4 rfl) ?_
  refine lv_iload_n hx hb dX7_goesOver_124 rfl (lv_at hl 5 rfl) ?_
  obtain ⟨t19, ht19, hf⟩ := ob hf
  refine m_X7_98 F hh (c_X7_from ht19) in_122 sh_122 rfl hl (Nat.le_of_ble_eq_true rfl) dX7_goesOver_125 (fun H locs hh => ?_)
  obtain ⟨t20, ht20, hf⟩ := ob hf
  refine m_X7_83 F hh (c_X7_x ht20) in_122 sh_122 rfl hl (Nat.le_of_ble_eq_true rfl) dX7_goesOver_128 (fun H locs hh => ?_)
  refine lv_i2l hx hb dX7_goesOver_131 rfl ?_
  refine lv_lmul hx hb dX7_goesOver_132 ?_
  refine lv_ladd hx hb dX7_goesOver_133 ?_
  refine lv_lload hx hb dX7_goesOver_134 (lv_at hl 1 rfl) ?_
  refine lv_aload_n hx hb dX7_goesOver_136 rfl (lv_at hl 4 rfl) ?_
  refine lv_aload_n hx hb dX7_goesOver_137 rfl (lv_at hl 4 rfl) ?_
  refine lv_iload_n hx hb dX7_goesOver_138 rfl (lv_at hl 5 rfl) ?_
  obtain ⟨t21, ht21, hf⟩ := ob hf
  refine m_X7_98 F hh (c_X7_from ht21) in_122 sh_122 rfl hl (Nat.le_of_ble_eq_true rfl) dX7_goesOver_139 (fun H locs hh => ?_)
  obtain ⟨t22, ht22, hf⟩ := ob hf
  refine m_X7_87 F hh (c_X7_y ht22) in_122 sh_122 rfl hl (Nat.le_of_ble_eq_true rfl) dX7_goesOver_142 (fun H locs hh => ?_)
  refine lv_i2l hx hb dX7_goesOver_145 rfl ?_
  refine lv_lmul hx hb dX7_goesOver_146 ?_
  refine lv_lsub hx hb dX7_goesOver_147 ?_
  obtain ⟨z23, hz23, hf⟩ := ob hf
  refine g_last F hh in_141 sh_141 hz23 dX7_goesOver_148 (fun H locs hh => ?_)
  refine lv_aload_n hx hb dX7_goesOver_149 rfl (lv_at hl 4 rfl) ?_
  refine r_X7_72 (b' := 142) F hh in_122 sh_122 rfl dX7_goesOver_150 ?_
  refine lv_iload_n hx hb dX7_goesOver_153 rfl (lv_at hl 3 rfl) ?_
  refine lv_iconst (v := 1) hx hb dX7_goesOver_154 (by decide) ?_
  obtain ⟨z24, hz24, hf⟩ := ob hf
  refine g_zast F hh in_142 sh_142 hz24 dX7_goesOver_155 (fun H locs hh => ?_)
  exact g_vret F hr hlk hh (Option.some.inj hf) dX7_goesOver_156
theorem c_X7_goesOver {l : Launch} {G : Gm} {x1 : Int32} {z : Sto} {Z : Sto} (hf : f_X7_goesOver x1 z = some Z) : Met l yX7_goesOver (Cond.code yX7_goesOver cX7_goesOver 8 none :: TT) rmX7_goesOver (va_Pc [.ref (G.1 122), .int x1] (GS rM G z)) (QV rM G Z) 0 0 (Am rM G) := by
  refine g_met [(0, .ref (G.1 122)), (1, .int x1)] (by decide) (Nat.le_of_ble_eq_true rfl) rfl ?_
  intro p e s m below meth cd F hr hlk ls H locs hl hh
  exact w_X7_goesOver F hr hlk hf hh hl
def b_X7_laysPoints_90 (ag80 : Int32 → Sto → Option (Sto)) (ag90 : Int32 → Int32 → Sto → Option (Sto)) (x2 : Int32) (x3 : Int32) (z : Sto) : Option (Sto) := bd (rdI z 123 42 (1 : Int32)) fun t18 => if ((2 : Int32) * t18) ≤ x3 then (lt (x2 + (1 : Int32)) fun x2_20 => ag80 x2_20 z) else (bd (f_X7_back x3 z) fun t21 => bd (rdI z 136 18 t21) fun t22 => bd (rdI z 142 18 t22) fun t23 => if t23 = 0 then (lt (x3 + (1 : Int32)) fun x3_25 => ag90 x2 x3_25 z) else (bd (rdI z 136 18 x3) fun t26 => bd (rdI z 142 18 t26) fun t27 => if t27 = 0 then (bd (f_X7_goesOver x3 z) fun z31 => lt (x3 + (1 : Int32)) fun x3_32 => ag90 x2 x3_32 z31) else (lt (x3 + (1 : Int32)) fun x3_29 => ag90 x2 x3_29 z)))
def b_X7_laysPoints_80  (ag80 : Int32 → Sto → Option (Sto)) (x2 : Int32) (z : Sto) : Option (Sto) := if (z.1 122 19) ≤ x2 then (some z) else (wl3 (b_X7_laysPoints_90 ag80) fu x2 (0 : Int32) z)
def b_X7_laysPoints_15  (ag15 : Int32 → Int32 → Sto → Option (Sto)) (x1 : Int32) (x2 : Int32) (z : Sto) : Option (Sto) := if (18 : Int32) ≤ x2 then (bd (wrL z 137 18 x1 (0 : Int64)) fun z7 => bd (wrL z7 138 18 x1 (0 : Int64)) fun z8 => bd (wrL z8 139 18 x1 (0 : Int64)) fun z9 => bd (wrL z9 140 18 x1 (0 : Int64)) fun z10 => bd (wrL z10 141 18 x1 (0 : Int64)) fun z11 => wl2 (b_X7_laysPoints_80) fu (0 : Int32) z11) else (if x2 = x1 then (bd (wrI z 142 18 x2 (vp_nar .boolean (1 : Int32))) fun z15 => lt (x2 + (1 : Int32)) fun x2_16 => ag15 x1 x2_16 z15) else (bd (wrI z 142 18 x2 (vp_nar .boolean (0 : Int32))) fun z13 => lt (x2 + (1 : Int32)) fun x2_14 => ag15 x1 x2_14 z13))
def f_X7_laysPoints  (z : Sto) : Option (Sto) := bd (f_X7_laysAll z) fun z2 => bd (f_X7_laysFaces z2) fun z4 => bd (f_X7_outer z4) fun t5 => wl3 (b_X7_laysPoints_15) fu t5 (0 : Int32) z4
set_option maxRecDepth 100000 in
set_option maxHeartbeats 4000000 in
theorem w_X7_laysPoints_90 {ag80 : Int32 → Sto → Option (Sto)} {Z : Sto} (F : Fx rM p s m args cd cX7_laysPoints 4 RX7 G) (hr : meth.sig.returnType = none) (hlk : meth.locks = false) (hag80 : ∀ (x2 : Int32) (z : Sto), ag80 x2 z = some Z → ∀ {H : Heap} {locs : List Loc} {ls : Array Slot}, Hh rM G z s H locs → lv_has ls 4 [(0, .ref (G.1 122)), (2, .int x2)] → W p l e rmX7_laysPoints s m args below meth cd H locs 0 0 (MQ below (QV rM G Z) args s 0 0 (Am rM G)) (F0 m 80 ls [])) : ∀ (n : Nat), ∀ (x2 : Int32) (x3 : Int32) (z : Sto), wl3 (b_X7_laysPoints_90 ag80) n x2 x3 z = some Z → ∀ {H : Heap} {locs : List Loc} {ls : Array Slot}, Hh rM G z s H locs → lv_has ls 4 [(0, .ref (G.1 122)), (2, .int x2), (3, .int x3)] → W p l e rmX7_laysPoints s m args below meth cd H locs 0 0 (MQ below (QV rM G Z) args s 0 0 (Am rM G)) (F0 m 90 ls []) := by
  have hx := F.1
  have hb := F.2.1
  intro n
  induction n with
  | zero =>
    intro x2 x3 z hf
    exact absurd hf (by intro h; cases h)
  | succ n ih =>
    intro x2 x3 z hf  H locs ls hh hl
    replace hf : b_X7_laysPoints_90 ag80 (wl3 (b_X7_laysPoints_90 ag80) n) x2 x3 z = some Z := hf
    unfold b_X7_laysPoints_90 at hf
    refine lv_iload_n hx hb dX7_laysPoints_90 rfl (lv_at hl 2 rfl) ?_
    refine lv_iconst (v := 2) hx hb dX7_laysPoints_91 (by decide) ?_
    refine lv_aload_n hx hb dX7_laysPoints_92 rfl (lv_at hl 0 rfl) ?_
    refine r_X7_7 (b' := 123) F hh in_122 sh_122 rfl dX7_laysPoints_93 ?_
    refine lv_iconst (v := 1) hx hb dX7_laysPoints_96 (by decide) ?_
    obtain ⟨t18, ht18, hf⟩ := ob hf
    refine g_iald F hh in_123 sh_123 ht18 dX7_laysPoints_97 ?_
    refine lv_imul hx hb dX7_laysPoints_98 ?_
    refine lv_icmp_ge (tgt := 144) hx hb dX7_laysPoints_99 (by decide) (fun c19 => ?_) (fun c19 => ?_)
    · replace hf := itp c19 hf
      obtain ⟨x2_20, ex2_20⟩ : ∃ y : Int32, y = x2 + (1 : Int32) := ⟨_, rfl⟩
      replace hf := lt_e ex2_20 hf
      refine lv_iinc (v := x2_20) (lv' := [(2, .int x2_20), (0, .ref (G.1 122)), (3, .int x3)]) hx hb dX7_laysPoints_144 hl (k := 1) rfl (by rw [ex2_20]; rfl) (by decide) rfl (fun ls hl => ?_)
      refine lv_goto (tgt := 80) hx hb dX7_laysPoints_147 (by decide) ?_
      exact hag80 _ _ hf  hh (lv_sub hl [1, 0] rfl)
    · replace hf := itn c19 hf
      refine lv_aload_n hx hb dX7_laysPoints_102 rfl (lv_at hl 0 rfl) ?_
      refine r_X7_72 (b' := 142) F hh in_122 sh_122 rfl dX7_laysPoints_103 ?_
      refine lv_aload_n hx hb dX7_laysPoints_106 rfl (lv_at hl 0 rfl) ?_
      refine r_X7_54 (b' := 136) F hh in_122 sh_122 rfl dX7_laysPoints_107 ?_
      refine lv_iload_n hx hb dX7_laysPoints_110 rfl (lv_at hl 2 rfl) ?_
      obtain ⟨t21, ht21, hf⟩ := ob hf
      refine m_X7_259 F hh (c_X7_back ht21) rfl hl (Nat.le_of_ble_eq_true rfl) dX7_laysPoints_111 (fun H locs hh => ?_)
      obtain ⟨t22, ht22, hf⟩ := ob hf
      refine g_iald F hh in_136 sh_136 ht22 dX7_laysPoints_114 ?_
      obtain ⟨t23, ht23, hf⟩ := ob hf
      refine g_zald F hh in_142 sh_142 ht23 dX7_laysPoints_115 ?_
      refine lv_if_eq (tgt := 138) hx hb dX7_laysPoints_116 (by decide) (fun c24 => ?_) (fun c24 => ?_)
      · replace hf := itp c24 hf
        obtain ⟨x3_25, ex3_25⟩ : ∃ y : Int32, y = x3 + (1 : Int32) := ⟨_, rfl⟩
        replace hf := lt_e ex3_25 hf
        refine lv_iinc (v := x3_25) (lv' := [(3, .int x3_25), (0, .ref (G.1 122)), (2, .int x2)]) hx hb dX7_laysPoints_138 hl (k := 2) rfl (by rw [ex3_25]; rfl) (by decide) rfl (fun ls hl => ?_)
        refine lv_goto (tgt := 90) hx hb dX7_laysPoints_141 (by decide) ?_
        exact ih _ _ _ hf  hh (lv_sub hl [1, 2, 0] rfl)
      · replace hf := itn c24 hf
        refine lv_aload_n hx hb dX7_laysPoints_119 rfl (lv_at hl 0 rfl) ?_
        refine r_X7_72 (b' := 142) F hh in_122 sh_122 rfl dX7_laysPoints_120 ?_
        refine lv_aload_n hx hb dX7_laysPoints_123 rfl (lv_at hl 0 rfl) ?_
        refine r_X7_54 (b' := 136) F hh in_122 sh_122 rfl dX7_laysPoints_124 ?_
        refine lv_iload_n hx hb dX7_laysPoints_127 rfl (lv_at hl 2 rfl) ?_
        obtain ⟨t26, ht26, hf⟩ := ob hf
        refine g_iald F hh in_136 sh_136 ht26 dX7_laysPoints_128 ?_
        obtain ⟨t27, ht27, hf⟩ := ob hf
        refine g_zald F hh in_142 sh_142 ht27 dX7_laysPoints_129 ?_
        refine lv_if_ne (tgt := 138) hx hb dX7_laysPoints_130 (by decide) (fun c28 => ?_) (fun c28 => ?_)
        · replace hf := itn c28 hf
          obtain ⟨x3_29, ex3_29⟩ : ∃ y : Int32, y = x3 + (1 : Int32) := ⟨_, rfl⟩
          replace hf := lt_e ex3_29 hf
          refine lv_iinc (v := x3_29) (lv' := [(3, .int x3_29), (0, .ref (G.1 122)), (2, .int x2)]) hx hb dX7_laysPoints_138 hl (k := 2) rfl (by rw [ex3_29]; rfl) (by decide) rfl (fun ls hl => ?_)
          refine lv_goto (tgt := 90) hx hb dX7_laysPoints_141 (by decide) ?_
          exact ih _ _ _ hf  hh (lv_sub hl [1, 2, 0] rfl)
        · replace hf := itp c28 hf
          refine lv_aload_n hx hb dX7_laysPoints_133 rfl (lv_at hl 0 rfl) ?_
          refine lv_iload_n hx hb dX7_laysPoints_134 rfl (lv_at hl 2 rfl) ?_
          obtain ⟨z31, ht30, hf⟩ := ob hf
          refine m_X7_292 F hh (c_X7_goesOver ht30) in_122 sh_122 rfl hl (Nat.le_of_ble_eq_true rfl) dX7_laysPoints_135 (fun H locs hh => ?_)
          obtain ⟨x3_32, ex3_32⟩ : ∃ y : Int32, y = x3 + (1 : Int32) := ⟨_, rfl⟩
          replace hf := lt_e ex3_32 hf
          refine lv_iinc (v := x3_32) (lv' := [(3, .int x3_32), (0, .ref (G.1 122)), (2, .int x2)]) hx hb dX7_laysPoints_138 hl (k := 2) rfl (by rw [ex3_32]; rfl) (by decide) rfl (fun ls hl => ?_)
          refine lv_goto (tgt := 90) hx hb dX7_laysPoints_141 (by decide) ?_
          exact ih _ _ _ hf  hh (lv_sub hl [1, 2, 0] rfl)
set_option maxRecDepth 100000 in
set_option maxHeartbeats 4000000 in
theorem w_X7_laysPoints_80  {Z : Sto} (F : Fx rM p s m args cd cX7_laysPoints 4 RX7 G) (hr : meth.sig.returnType = none) (hlk : meth.locks = false)  : ∀ (n : Nat), ∀ (x2 : Int32) (z : Sto), wl2 (b_X7_laysPoints_80) n x2 z = some Z → ∀ {H : Heap} {locs : List Loc} {ls : Array Slot}, Hh rM G z s H locs → lv_has ls 4 [(0, .ref (G.1 122)), (2, .int x2)] → W p l e rmX7_laysPoints s m args below meth cd H locs 0 0 (MQ below (QV rM G Z) args s 0 0 (Am rM G)) (F0 m 80 ls []) := by
  have hx := F.1
  have hb := F.2.1
  intro n
  induction n with
  | zero =>
    intro x2 z hf
    exact absurd hf (by intro h; cases h)
  | succ n ih =>
    intro x2 z hf  H locs ls hh hl
    replace hf : b_X7_laysPoints_80 (wl2 (b_X7_laysPoints_80) n) x2 z = some Z := hf
    unfold b_X7_laysPoints_80 at hf
    refine lv_iload_n hx hb dX7_laysPoints_80 rfl (lv_at hl 1 rfl) ?_
    refine lv_aload_n hx hb dX7_laysPoints_81 rfl (lv_at hl 0 rfl) ?_
    refine r_X7_265 F hh in_122 sh_122 dX7_laysPoints_82 ?_
    refine lv_icmp_ge (tgt := 150) hx hb dX7_laysPoints_85 (by decide) (fun c17 => ?_) (fun c17 => ?_)
    · replace hf := itp c17 hf
      exact g_vret F hr hlk hh (Option.some.inj hf) dX7_laysPoints_150
    · replace hf := itn c17 hf
      refine lv_iconst (v := 0) hx hb dX7_laysPoints_88 (by decide) ?_
      refine lv_istore_n (lv' := [(3, .int (0 : Int32)), (0, .ref (G.1 122)), (2, .int x2)]) hx hb dX7_laysPoints_89 rfl hl (by decide) rfl (fun ls hl => ?_)
      exact w_X7_laysPoints_90 F hr hlk ih fu _ _ _ hf  hh (lv_sub hl [1, 2, 0] rfl)
set_option maxRecDepth 100000 in
set_option maxHeartbeats 4000000 in
theorem w_X7_laysPoints_15  {Z : Sto} (F : Fx rM p s m args cd cX7_laysPoints 4 RX7 G) (hr : meth.sig.returnType = none) (hlk : meth.locks = false)  : ∀ (n : Nat), ∀ (x1 : Int32) (x2 : Int32) (z : Sto), wl3 (b_X7_laysPoints_15) n x1 x2 z = some Z → ∀ {H : Heap} {locs : List Loc} {ls : Array Slot}, Hh rM G z s H locs → lv_has ls 4 [(0, .ref (G.1 122)), (1, .int x1), (2, .int x2)] → W p l e rmX7_laysPoints s m args below meth cd H locs 0 0 (MQ below (QV rM G Z) args s 0 0 (Am rM G)) (F0 m 15 ls []) := by
  have hx := F.1
  have hb := F.2.1
  intro n
  induction n with
  | zero =>
    intro x1 x2 z hf
    exact absurd hf (by intro h; cases h)
  | succ n ih =>
    intro x1 x2 z hf  H locs ls hh hl
    replace hf : b_X7_laysPoints_15 (wl3 (b_X7_laysPoints_15) n) x1 x2 z = some Z := hf
    unfold b_X7_laysPoints_15 at hf
    refine lv_iload_n hx hb dX7_laysPoints_15 rfl (lv_at hl 2 rfl) ?_
    refine lv_bipush (v := 18) hx hb dX7_laysPoints_16 (by decide) ?_
    refine lv_icmp_ge (tgt := 43) hx hb dX7_laysPoints_18 (by decide) (fun c6 => ?_) (fun c6 => ?_)
    · replace hf := itp c6 hf
      refine lv_aload_n hx hb dX7_laysPoints_43 rfl (lv_at hl 0 rfl) ?_
      refine r_X7_57 (b' := 137) F hh in_122 sh_122 rfl dX7_laysPoints_44 ?_
      refine lv_iload_n hx hb dX7_laysPoints_47 rfl (lv_at hl 1 rfl) ?_
      refine lv_lconst (v := 0) hx hb dX7_laysPoints_48 (by decide) ?_
      obtain ⟨z7, hz7, hf⟩ := ob hf
      refine g_last F hh in_137 sh_137 hz7 dX7_laysPoints_49 (fun H locs hh => ?_)
      refine lv_aload_n hx hb dX7_laysPoints_50 rfl (lv_at hl 0 rfl) ?_
      refine r_X7_60 (b' := 138) F hh in_122 sh_122 rfl dX7_laysPoints_51 ?_
      refine lv_iload_n hx hb dX7_laysPoints_54 rfl (lv_at hl 1 rfl) ?_
      refine lv_lconst (v := 0) hx hb dX7_laysPoints_55 (by decide) ?_
      obtain ⟨z8, hz8, hf⟩ := ob hf
      refine g_last F hh in_138 sh_138 hz8 dX7_laysPoints_56 (fun H locs hh => ?_)
      refine lv_aload_n hx hb dX7_laysPoints_57 rfl (lv_at hl 0 rfl) ?_
      refine r_X7_63 (b' := 139) F hh in_122 sh_122 rfl dX7_laysPoints_58 ?_
      refine lv_iload_n hx hb dX7_laysPoints_61 rfl (lv_at hl 1 rfl) ?_
      refine lv_lconst (v := 0) hx hb dX7_laysPoints_62 (by decide) ?_
      obtain ⟨z9, hz9, hf⟩ := ob hf
      refine g_last F hh in_139 sh_139 hz9 dX7_laysPoints_63 (fun H locs hh => ?_)
      refine lv_aload_n hx hb dX7_laysPoints_64 rfl (lv_at hl 0 rfl) ?_
      refine r_X7_66 (b' := 140) F hh in_122 sh_122 rfl dX7_laysPoints_65 ?_
      refine lv_iload_n hx hb dX7_laysPoints_68 rfl (lv_at hl 1 rfl) ?_
      refine lv_lconst (v := 0) hx hb dX7_laysPoints_69 (by decide) ?_
      obtain ⟨z10, hz10, hf⟩ := ob hf
      refine g_last F hh in_140 sh_140 hz10 dX7_laysPoints_70 (fun H locs hh => ?_)
      refine lv_aload_n hx hb dX7_laysPoints_71 rfl (lv_at hl 0 rfl) ?_
      refine r_X7_69 (b' := 141) F hh in_122 sh_122 rfl dX7_laysPoints_72 ?_
      refine lv_iload_n hx hb dX7_laysPoints_75 rfl (lv_at hl 1 rfl) ?_
      refine lv_lconst (v := 0) hx hb dX7_laysPoints_76 (by decide) ?_
      obtain ⟨z11, hz11, hf⟩ := ob hf
      refine g_last F hh in_141 sh_141 hz11 dX7_laysPoints_77 (fun H locs hh => ?_)
      refine lv_iconst (v := 0) hx hb dX7_laysPoints_78 (by decide) ?_
      refine lv_istore_n (lv' := [(2, .int (0 : Int32)), (0, .ref (G.1 122)), (1, .int x1)]) hx hb dX7_laysPoints_79 rfl hl (by decide) rfl (fun ls hl => ?_)
      exact w_X7_laysPoints_80 F hr hlk fu _ _ hf  hh (lv_sub hl [1, 0] rfl)
    · replace hf := itn c6 hf
      refine lv_aload_n hx hb dX7_laysPoints_21 rfl (lv_at hl 0 rfl) ?_
      refine r_X7_72 (b' := 142) F hh in_122 sh_122 rfl dX7_laysPoints_22 ?_
      refine lv_iload_n hx hb dX7_laysPoints_25 rfl (lv_at hl 2 rfl) ?_
      refine lv_iload_n hx hb dX7_laysPoints_26 rfl (lv_at hl 2 rfl) ?_
      refine lv_iload_n hx hb dX7_laysPoints_27 rfl (lv_at hl 1 rfl) ?_
      refine lv_icmp_ne (tgt := 35) hx hb dX7_laysPoints_28 (by decide) (fun c12 => ?_) (fun c12 => ?_)
      · replace hf := itn c12 hf
        refine lv_iconst (v := 0) hx hb dX7_laysPoints_35 (by decide) ?_
        obtain ⟨z13, hz13, hf⟩ := ob hf
        refine g_zast F hh in_142 sh_142 hz13 dX7_laysPoints_36 (fun H locs hh => ?_)
        obtain ⟨x2_14, ex2_14⟩ : ∃ y : Int32, y = x2 + (1 : Int32) := ⟨_, rfl⟩
        replace hf := lt_e ex2_14 hf
        refine lv_iinc (v := x2_14) (lv' := [(2, .int x2_14), (0, .ref (G.1 122)), (1, .int x1)]) hx hb dX7_laysPoints_37 hl (k := 2) rfl (by rw [ex2_14]; rfl) (by decide) rfl (fun ls hl => ?_)
        refine lv_goto (tgt := 15) hx hb dX7_laysPoints_40 (by decide) ?_
        exact ih _ _ _ hf  hh (lv_sub hl [1, 2, 0] rfl)
      · replace hf := itp c12 hf
        refine lv_iconst (v := 1) hx hb dX7_laysPoints_31 (by decide) ?_
        refine lv_goto (tgt := 36) hx hb dX7_laysPoints_32 (by decide) ?_
        obtain ⟨z15, hz15, hf⟩ := ob hf
        refine g_zast F hh in_142 sh_142 hz15 dX7_laysPoints_36 (fun H locs hh => ?_)
        obtain ⟨x2_16, ex2_16⟩ : ∃ y : Int32, y = x2 + (1 : Int32) := ⟨_, rfl⟩
        replace hf := lt_e ex2_16 hf
        refine lv_iinc (v := x2_16) (lv' := [(2, .int x2_16), (0, .ref (G.1 122)), (1, .int x1)]) hx hb dX7_laysPoints_37 hl (k := 2) rfl (by rw [ex2_16]; rfl) (by decide) rfl (fun ls hl => ?_)
        refine lv_goto (tgt := 15) hx hb dX7_laysPoints_40 (by decide) ?_
        exact ih _ _ _ hf  hh (lv_sub hl [1, 2, 0] rfl)
set_option maxRecDepth 100000 in
set_option maxHeartbeats 4000000 in
theorem w_X7_laysPoints {Z : Sto} (F : Fx rM p s m args cd cX7_laysPoints 4 RX7 G) (hr : meth.sig.returnType = none) (hlk : meth.locks = false)  {z : Sto} {H : Heap} {locs : List Loc} {ls : Array Slot} (hf : f_X7_laysPoints  z = some Z) (hh : Hh rM G z s H locs) (hl : lv_has ls 4 [(0, .ref (G.1 122))]) : W p l e rmX7_laysPoints s m args below meth cd H locs 0 0 (MQ below (QV rM G Z) args s 0 0 (Am rM G)) (F0 m 0 ls []) := by
  have hx := F.1
  have hb := F.2.1
  unfold f_X7_laysPoints at hf
  refine lv_aload_n hx hb dX7_laysPoints_0 rfl (lv_at hl 0 rfl) ?_
  obtain ⟨z2, ht1, hf⟩ := ob hf
  refine m_X7_232 F hh (c_X7_laysAll ht1) in_122 sh_122 rfl hl (Nat.le_of_ble_eq_true rfl) dX7_laysPoints_1 (fun H locs hh => ?_)
  refine lv_aload_n hx hb dX7_laysPoints_4 rfl (lv_at hl 0 rfl) ?_
  obtain ⟨z4, ht3, hf⟩ := ob hf
  refine m_X7_277 F hh (c_X7_laysFaces ht3) in_122 sh_122 rfl hl (Nat.le_of_ble_eq_true rfl) dX7_laysPoints_5 (fun H locs hh => ?_)
  refine lv_aload_n hx hb dX7_laysPoints_8 rfl (lv_at hl 0 rfl) ?_
  obtain ⟨t5, ht5, hf⟩ := ob hf
  refine m_X7_280 F hh (c_X7_outer ht5) in_122 sh_122 rfl hl (Nat.le_of_ble_eq_true rfl) dX7_laysPoints_9 (fun H locs hh => ?_)
  refine lv_istore_n (lv' := [(1, .int t5), (0, .ref (G.1 122))]) hx hb dX7_laysPoints_12 rfl hl (by decide) rfl (fun ls hl => ?_)
  refine lv_iconst (v := 0) hx hb dX7_laysPoints_13 (by decide) ?_
  refine lv_istore_n (lv' := [(2, .int (0 : Int32)), (1, .int t5), (0, .ref (G.1 122))]) hx hb dX7_laysPoints_14 rfl hl (by decide) rfl (fun ls hl => ?_)
  exact w_X7_laysPoints_15 F hr hlk fu _ _ _ hf  hh (lv_sub hl [2, 1, 0] rfl)
theorem c_X7_laysPoints {l : Launch} {G : Gm}  {z : Sto} {Z : Sto} (hf : f_X7_laysPoints  z = some Z) : Met l yX7_laysPoints (Cond.code yX7_laysPoints cX7_laysPoints 4 none :: TT) rmX7_laysPoints (va_Pc [.ref (G.1 122)] (GS rM G z)) (QV rM G Z) 0 0 (Am rM G) := by
  refine g_met [(0, .ref (G.1 122))] (by decide) (Nat.le_of_ble_eq_true rfl) rfl ?_
  intro p e s m below meth cd F hr hlk ls H locs hl hh
  exact w_X7_laysPoints F hr hlk hf hh hl
def j_X7_point_80  (x3 : Int32) (k0 : Int64) (z : Sto) : Option (Int64 × Sto) := bd (f_X7_told k0 ((z.2 122 16)) x3 z) fun t16 => some (t16, z)
def f_X7_point (x1 : Int32) (x2 : Int32) (x3 : Int32) (z : Sto) : Option (Int64 × Sto) := bd (f_X7_laysFaces z) fun z2 => bd (f_X7_in ((Int32.toInt64 x1)) (0 : Int64) ((Int32.toInt64 ((z2.1 122 19) - (1 : Int32)))) z2) fun t3 => if t3 = 0 then (some ((-1 : Int64), z2)) else (bd (f_X7_in ((Int32.toInt64 x2)) (0 : Int64) (1 : Int64) z2) fun t5 => if t5 = 0 then (some ((-1 : Int64), z2)) else (bd (f_X7_in ((Int32.toInt64 x3)) (0 : Int64) (2 : Int64) z2) fun t7 => if t7 = 0 then (some ((-1 : Int64), z2)) else (bd (f_X7_isWhole z2) fun t9 => if t9 = 0 then (some ((-4 : Int64), z2)) else (bd (f_X7_laysPoints z2) fun z12 => if x2 = 0 then (bd (rdL z12 137 18 x1) fun t15 => j_X7_point_80 x3 t15 z12) else (bd (rdL z12 138 18 x1) fun t14 => j_X7_point_80 x3 t14 z12)))))
set_option maxRecDepth 100000 in
set_option maxHeartbeats 4000000 in
theorem w_X7_point_80  {Z : Int64 × Sto} (F : Fx rM p s m args cd cX7_point 4 RX7 G) (hr : meth.sig.returnType = (some .long)) (hlk : meth.locks = false)  {x3 : Int32} {k0 : Int64} {z : Sto} {H : Heap} {locs : List Loc} {ls : Array Slot} (hf : j_X7_point_80 x3 k0 z = some Z) (hh : Hh rM G z s H locs) (hl : lv_has ls 4 [(0, .ref (G.1 122)), (3, .int x3)]) : W p l e rmX7_point s m args below meth cd H locs 0 0 (MQ below (QL rM G Z.1 Z.2) args s 0 0 (Am rM G)) (F0 m 80 ls [.long k0]) := by
  have hx := F.1
  have hb := F.2.1
  unfold j_X7_point_80 at hf
  refine lv_aload_n hx hb dX7_point_80 rfl (lv_at hl 0 rfl) ?_
  refine r_X7_198 F hh in_122 sh_122 dX7_point_81 ?_
  refine lv_iload_n hx hb dX7_point_84 rfl (lv_at hl 1 rfl) ?_
  obtain ⟨t16, ht16, hf⟩ := ob hf
  refine m_X7_240 F hh (c_X7_told ht16) rfl hl (Nat.le_of_ble_eq_true rfl) dX7_point_85 (fun H locs hh => ?_)
  exact g_lretW F hr hlk hh hf dX7_point_88
set_option maxRecDepth 100000 in
set_option maxHeartbeats 4000000 in
theorem w_X7_point {Z : Int64 × Sto} (F : Fx rM p s m args cd cX7_point 4 RX7 G) (hr : meth.sig.returnType = (some .long)) (hlk : meth.locks = false) {x1 : Int32} {x2 : Int32} {x3 : Int32} {z : Sto} {H : Heap} {locs : List Loc} {ls : Array Slot} (hf : f_X7_point x1 x2 x3 z = some Z) (hh : Hh rM G z s H locs) (hl : lv_has ls 4 [(0, .ref (G.1 122)), (1, .int x1), (2, .int x2), (3, .int x3)]) : W p l e rmX7_point s m args below meth cd H locs 0 0 (MQ below (QL rM G Z.1 Z.2) args s 0 0 (Am rM G)) (F0 m 0 ls []) := by
  have hx := F.1
  have hb := F.2.1
  unfold f_X7_point at hf
  refine lv_aload_n hx hb dX7_point_0 rfl (lv_at hl 0 rfl) ?_
  obtain ⟨z2, ht1, hf⟩ := ob hf
  refine m_X7_277 F hh (c_X7_laysFaces ht1) in_122 sh_122 rfl hl (Nat.le_of_ble_eq_true rfl) dX7_point_1 (fun H locs hh => ?_)
  refine lv_iload_n hx hb dX7_point_4 rfl (lv_at hl 1 rfl) ?_
  refine lv_i2l hx hb dX7_point_5 rfl ?_
  refine lv_lconst (v := 0) hx hb dX7_point_6 (by decide) ?_
  refine lv_aload_n hx hb dX7_point_7 rfl (lv_at hl 0 rfl) ?_
  refine r_X7_265 F hh in_122 sh_122 dX7_point_8 ?_
  refine lv_iconst (v := 1) hx hb dX7_point_11 (by decide) ?_
  refine lv_isub hx hb dX7_point_12 ?_
  refine lv_i2l hx hb dX7_point_13 rfl ?_
  obtain ⟨t3, ht3, hf⟩ := ob hf
  refine m_X7_79 F hh (c_X7_in ht3) rfl hl (Nat.le_of_ble_eq_true rfl) dX7_point_14 (fun H locs hh => ?_)
  refine lv_if_eq (tgt := 42) hx hb dX7_point_17 (by decide) (fun c4 => ?_) (fun c4 => ?_)
  · replace hf := itp c4 hf
    refine lv_ldc2 hx hb F.2.2.2.1 (F.2.2.2.2.1 _ lk1160) dX7_point_42 ?_
    exact g_lretW F hr hlk hh hf dX7_point_45
  · replace hf := itn c4 hf
    refine lv_iload_n hx hb dX7_point_20 rfl (lv_at hl 2 rfl) ?_
    refine lv_i2l hx hb dX7_point_21 rfl ?_
    refine lv_lconst (v := 0) hx hb dX7_point_22 (by decide) ?_
    refine lv_lconst (v := 1) hx hb dX7_point_23 (by decide) ?_
    obtain ⟨t5, ht5, hf⟩ := ob hf
    refine m_X7_79 F hh (c_X7_in ht5) rfl hl (Nat.le_of_ble_eq_true rfl) dX7_point_24 (fun H locs hh => ?_)
    refine lv_if_eq (tgt := 42) hx hb dX7_point_27 (by decide) (fun c6 => ?_) (fun c6 => ?_)
    · replace hf := itp c6 hf
      refine lv_ldc2 hx hb F.2.2.2.1 (F.2.2.2.2.1 _ lk1160) dX7_point_42 ?_
      exact g_lretW F hr hlk hh hf dX7_point_45
    · replace hf := itn c6 hf
      refine lv_iload_n hx hb dX7_point_30 rfl (lv_at hl 3 rfl) ?_
      refine lv_i2l hx hb dX7_point_31 rfl ?_
      refine lv_lconst (v := 0) hx hb dX7_point_32 (by decide) ?_
      refine lv_ldc2 hx hb F.2.2.2.1 (F.2.2.2.2.1 _ lk1159) dX7_point_33 ?_
      obtain ⟨t7, ht7, hf⟩ := ob hf
      refine m_X7_79 F hh (c_X7_in ht7) rfl hl (Nat.le_of_ble_eq_true rfl) dX7_point_36 (fun H locs hh => ?_)
      refine lv_if_ne (tgt := 46) hx hb dX7_point_39 (by decide) (fun c8 => ?_) (fun c8 => ?_)
      · replace hf := itn c8 hf
        refine lv_aload_n hx hb dX7_point_46 rfl (lv_at hl 0 rfl) ?_
        obtain ⟨t9, ht9, hf⟩ := ob hf
        refine m_X7_271 F hh (c_X7_isWhole ht9) in_122 sh_122 rfl hl (Nat.le_of_ble_eq_true rfl) dX7_point_47 (fun H locs hh => ?_)
        refine lv_if_ne (tgt := 57) hx hb dX7_point_50 (by decide) (fun c10 => ?_) (fun c10 => ?_)
        · replace hf := itn c10 hf
          refine lv_aload_n hx hb dX7_point_57 rfl (lv_at hl 0 rfl) ?_
          obtain ⟨z12, ht11, hf⟩ := ob hf
          refine m_X7_297 F hh (c_X7_laysPoints ht11) in_122 sh_122 rfl hl (Nat.le_of_ble_eq_true rfl) dX7_point_58 (fun H locs hh => ?_)
          refine lv_iload_n hx hb dX7_point_61 rfl (lv_at hl 2 rfl) ?_
          refine lv_if_ne (tgt := 74) hx hb dX7_point_62 (by decide) (fun c13 => ?_) (fun c13 => ?_)
          · replace hf := itn c13 hf
            refine lv_aload_n hx hb dX7_point_74 rfl (lv_at hl 0 rfl) ?_
            refine r_X7_60 (b' := 138) F hh in_122 sh_122 rfl dX7_point_75 ?_
            refine lv_iload_n hx hb dX7_point_78 rfl (lv_at hl 1 rfl) ?_
            obtain ⟨t14, ht14, hf⟩ := ob hf
            refine g_lald F hh in_138 sh_138 ht14 dX7_point_79 ?_
            exact w_X7_point_80 F hr hlk hf  hh (lv_sub hl [0, 3] rfl)
          · replace hf := itp c13 hf
            refine lv_aload_n hx hb dX7_point_65 rfl (lv_at hl 0 rfl) ?_
            refine r_X7_57 (b' := 137) F hh in_122 sh_122 rfl dX7_point_66 ?_
            refine lv_iload_n hx hb dX7_point_69 rfl (lv_at hl 1 rfl) ?_
            obtain ⟨t15, ht15, hf⟩ := ob hf
            refine g_lald F hh in_137 sh_137 ht15 dX7_point_70 ?_
            refine lv_goto (tgt := 80) hx hb dX7_point_71 (by decide) ?_
            exact w_X7_point_80 F hr hlk hf  hh (lv_sub hl [0, 3] rfl)
        · replace hf := itp c10 hf
          refine lv_ldc2 hx hb F.2.2.2.1 (F.2.2.2.2.1 _ lk1255) dX7_point_53 ?_
          exact g_lretW F hr hlk hh hf dX7_point_56
      · replace hf := itp c8 hf
        refine lv_ldc2 hx hb F.2.2.2.1 (F.2.2.2.2.1 _ lk1160) dX7_point_42 ?_
        exact g_lretW F hr hlk hh hf dX7_point_45
theorem c_X7_point {l : Launch} {G : Gm} {x1 : Int32} {x2 : Int32} {x3 : Int32} {z : Sto} {Z : Int64 × Sto} (hf : f_X7_point x1 x2 x3 z = some Z) : Met l yX7_point (Cond.code yX7_point cX7_point 4 (some .long) :: TT) rmX7_point (va_Pc [.ref (G.1 122), .int x1, .int x2, .int x3] (GS rM G z)) (QL rM G Z.1 Z.2) 0 0 (Am rM G) := by
  refine g_met [(0, .ref (G.1 122)), (1, .int x1), (2, .int x2), (3, .int x3)] (by decide) (Nat.le_of_ble_eq_true rfl) rfl ?_
  intro p e s m below meth cd F hr hlk ls H locs hl hh
  exact w_X7_point F hr hlk hf hh hl
def j_X7_plane_96  (x3 : Int32) (k0 : Int64) (z : Sto) : Option (Int64 × Sto) := bd (f_X7_told k0 ((z.2 122 16)) x3 z) fun t18 => some (t18, z)
def f_X7_plane (x1 : Int32) (x2 : Int32) (x3 : Int32) (z : Sto) : Option (Int64 × Sto) := bd (f_X7_laysFaces z) fun z2 => bd (f_X7_in ((Int32.toInt64 x1)) (0 : Int64) ((Int32.toInt64 ((z2.1 122 19) - (1 : Int32)))) z2) fun t3 => if t3 = 0 then (some ((-1 : Int64), z2)) else (bd (f_X7_in ((Int32.toInt64 x2)) (0 : Int64) (2 : Int64) z2) fun t5 => if t5 = 0 then (some ((-1 : Int64), z2)) else (bd (f_X7_in ((Int32.toInt64 x3)) (0 : Int64) (2 : Int64) z2) fun t7 => if t7 = 0 then (some ((-1 : Int64), z2)) else (bd (f_X7_isWhole z2) fun t9 => if t9 = 0 then (some ((-4 : Int64), z2)) else (bd (f_X7_laysPoints z2) fun z12 => if x2 = 0 then (bd (rdL z12 139 18 x1) fun t17 => j_X7_plane_96 x3 t17 z12) else (if x2 = (1 : Int32) then (bd (rdL z12 140 18 x1) fun t16 => j_X7_plane_96 x3 t16 z12) else (bd (rdL z12 141 18 x1) fun t15 => j_X7_plane_96 x3 t15 z12))))))
set_option maxRecDepth 100000 in
set_option maxHeartbeats 4000000 in
theorem w_X7_plane_96  {Z : Int64 × Sto} (F : Fx rM p s m args cd cX7_plane 4 RX7 G) (hr : meth.sig.returnType = (some .long)) (hlk : meth.locks = false)  {x3 : Int32} {k0 : Int64} {z : Sto} {H : Heap} {locs : List Loc} {ls : Array Slot} (hf : j_X7_plane_96 x3 k0 z = some Z) (hh : Hh rM G z s H locs) (hl : lv_has ls 4 [(0, .ref (G.1 122)), (3, .int x3)]) : W p l e rmX7_plane s m args below meth cd H locs 0 0 (MQ below (QL rM G Z.1 Z.2) args s 0 0 (Am rM G)) (F0 m 96 ls [.long k0]) := by
  have hx := F.1
  have hb := F.2.1
  unfold j_X7_plane_96 at hf
  refine lv_aload_n hx hb dX7_plane_96 rfl (lv_at hl 0 rfl) ?_
  refine r_X7_198 F hh in_122 sh_122 dX7_plane_97 ?_
  refine lv_iload_n hx hb dX7_plane_100 rfl (lv_at hl 1 rfl) ?_
  obtain ⟨t18, ht18, hf⟩ := ob hf
  refine m_X7_240 F hh (c_X7_told ht18) rfl hl (Nat.le_of_ble_eq_true rfl) dX7_plane_101 (fun H locs hh => ?_)
  exact g_lretW F hr hlk hh hf dX7_plane_104
set_option maxRecDepth 100000 in
set_option maxHeartbeats 4000000 in
theorem w_X7_plane {Z : Int64 × Sto} (F : Fx rM p s m args cd cX7_plane 4 RX7 G) (hr : meth.sig.returnType = (some .long)) (hlk : meth.locks = false) {x1 : Int32} {x2 : Int32} {x3 : Int32} {z : Sto} {H : Heap} {locs : List Loc} {ls : Array Slot} (hf : f_X7_plane x1 x2 x3 z = some Z) (hh : Hh rM G z s H locs) (hl : lv_has ls 4 [(0, .ref (G.1 122)), (1, .int x1), (2, .int x2), (3, .int x3)]) : W p l e rmX7_plane s m args below meth cd H locs 0 0 (MQ below (QL rM G Z.1 Z.2) args s 0 0 (Am rM G)) (F0 m 0 ls []) := by
  have hx := F.1
  have hb := F.2.1
  unfold f_X7_plane at hf
  refine lv_aload_n hx hb dX7_plane_0 rfl (lv_at hl 0 rfl) ?_
  obtain ⟨z2, ht1, hf⟩ := ob hf
  refine m_X7_277 F hh (c_X7_laysFaces ht1) in_122 sh_122 rfl hl (Nat.le_of_ble_eq_true rfl) dX7_plane_1 (fun H locs hh => ?_)
  refine lv_iload_n hx hb dX7_plane_4 rfl (lv_at hl 1 rfl) ?_
  refine lv_i2l hx hb dX7_plane_5 rfl ?_
  refine lv_lconst (v := 0) hx hb dX7_plane_6 (by decide) ?_
  refine lv_aload_n hx hb dX7_plane_7 rfl (lv_at hl 0 rfl) ?_
  refine r_X7_265 F hh in_122 sh_122 dX7_plane_8 ?_
  refine lv_iconst (v := 1) hx hb dX7_plane_11 (by decide) ?_
  refine lv_isub hx hb dX7_plane_12 ?_
  refine lv_i2l hx hb dX7_plane_13 rfl ?_
  obtain ⟨t3, ht3, hf⟩ := ob hf
  refine m_X7_79 F hh (c_X7_in ht3) rfl hl (Nat.le_of_ble_eq_true rfl) dX7_plane_14 (fun H locs hh => ?_)
  refine lv_if_eq (tgt := 44) hx hb dX7_plane_17 (by decide) (fun c4 => ?_) (fun c4 => ?_)
  · replace hf := itp c4 hf
    refine lv_ldc2 hx hb F.2.2.2.1 (F.2.2.2.2.1 _ lk1160) dX7_plane_44 ?_
    exact g_lretW F hr hlk hh hf dX7_plane_47
  · replace hf := itn c4 hf
    refine lv_iload_n hx hb dX7_plane_20 rfl (lv_at hl 2 rfl) ?_
    refine lv_i2l hx hb dX7_plane_21 rfl ?_
    refine lv_lconst (v := 0) hx hb dX7_plane_22 (by decide) ?_
    refine lv_ldc2 hx hb F.2.2.2.1 (F.2.2.2.2.1 _ lk1159) dX7_plane_23 ?_
    obtain ⟨t5, ht5, hf⟩ := ob hf
    refine m_X7_79 F hh (c_X7_in ht5) rfl hl (Nat.le_of_ble_eq_true rfl) dX7_plane_26 (fun H locs hh => ?_)
    refine lv_if_eq (tgt := 44) hx hb dX7_plane_29 (by decide) (fun c6 => ?_) (fun c6 => ?_)
    · replace hf := itp c6 hf
      refine lv_ldc2 hx hb F.2.2.2.1 (F.2.2.2.2.1 _ lk1160) dX7_plane_44 ?_
      exact g_lretW F hr hlk hh hf dX7_plane_47
    · replace hf := itn c6 hf
      refine lv_iload_n hx hb dX7_plane_32 rfl (lv_at hl 3 rfl) ?_
      refine lv_i2l hx hb dX7_plane_33 rfl ?_
      refine lv_lconst (v := 0) hx hb dX7_plane_34 (by decide) ?_
      refine lv_ldc2 hx hb F.2.2.2.1 (F.2.2.2.2.1 _ lk1159) dX7_plane_35 ?_
      obtain ⟨t7, ht7, hf⟩ := ob hf
      refine m_X7_79 F hh (c_X7_in ht7) rfl hl (Nat.le_of_ble_eq_true rfl) dX7_plane_38 (fun H locs hh => ?_)
      refine lv_if_ne (tgt := 48) hx hb dX7_plane_41 (by decide) (fun c8 => ?_) (fun c8 => ?_)
      · replace hf := itn c8 hf
        refine lv_aload_n hx hb dX7_plane_48 rfl (lv_at hl 0 rfl) ?_
        obtain ⟨t9, ht9, hf⟩ := ob hf
        refine m_X7_271 F hh (c_X7_isWhole ht9) in_122 sh_122 rfl hl (Nat.le_of_ble_eq_true rfl) dX7_plane_49 (fun H locs hh => ?_)
        refine lv_if_ne (tgt := 59) hx hb dX7_plane_52 (by decide) (fun c10 => ?_) (fun c10 => ?_)
        · replace hf := itn c10 hf
          refine lv_aload_n hx hb dX7_plane_59 rfl (lv_at hl 0 rfl) ?_
          obtain ⟨z12, ht11, hf⟩ := ob hf
          refine m_X7_297 F hh (c_X7_laysPoints ht11) in_122 sh_122 rfl hl (Nat.le_of_ble_eq_true rfl) dX7_plane_60 (fun H locs hh => ?_)
          refine lv_iload_n hx hb dX7_plane_63 rfl (lv_at hl 2 rfl) ?_
          refine lv_if_ne (tgt := 76) hx hb dX7_plane_64 (by decide) (fun c13 => ?_) (fun c13 => ?_)
          · replace hf := itn c13 hf
            refine lv_iload_n hx hb dX7_plane_76 rfl (lv_at hl 2 rfl) ?_
            refine lv_iconst (v := 1) hx hb dX7_plane_77 (by decide) ?_
            refine lv_icmp_ne (tgt := 90) hx hb dX7_plane_78 (by decide) (fun c14 => ?_) (fun c14 => ?_)
            · replace hf := itn c14 hf
              refine lv_aload_n hx hb dX7_plane_90 rfl (lv_at hl 0 rfl) ?_
              refine r_X7_69 (b' := 141) F hh in_122 sh_122 rfl dX7_plane_91 ?_
              refine lv_iload_n hx hb dX7_plane_94 rfl (lv_at hl 1 rfl) ?_
              obtain ⟨t15, ht15, hf⟩ := ob hf
              refine g_lald F hh in_141 sh_141 ht15 dX7_plane_95 ?_
              exact w_X7_plane_96 F hr hlk hf  hh (lv_sub hl [0, 3] rfl)
            · replace hf := itp c14 hf
              refine lv_aload_n hx hb dX7_plane_81 rfl (lv_at hl 0 rfl) ?_
              refine r_X7_66 (b' := 140) F hh in_122 sh_122 rfl dX7_plane_82 ?_
              refine lv_iload_n hx hb dX7_plane_85 rfl (lv_at hl 1 rfl) ?_
              obtain ⟨t16, ht16, hf⟩ := ob hf
              refine g_lald F hh in_140 sh_140 ht16 dX7_plane_86 ?_
              refine lv_goto (tgt := 96) hx hb dX7_plane_87 (by decide) ?_
              exact w_X7_plane_96 F hr hlk hf  hh (lv_sub hl [0, 3] rfl)
          · replace hf := itp c13 hf
            refine lv_aload_n hx hb dX7_plane_67 rfl (lv_at hl 0 rfl) ?_
            refine r_X7_63 (b' := 139) F hh in_122 sh_122 rfl dX7_plane_68 ?_
            refine lv_iload_n hx hb dX7_plane_71 rfl (lv_at hl 1 rfl) ?_
            obtain ⟨t17, ht17, hf⟩ := ob hf
            refine g_lald F hh in_139 sh_139 ht17 dX7_plane_72 ?_
            refine lv_goto (tgt := 96) hx hb dX7_plane_73 (by decide) ?_
            exact w_X7_plane_96 F hr hlk hf  hh (lv_sub hl [0, 3] rfl)
        · replace hf := itp c10 hf
          refine lv_ldc2 hx hb F.2.2.2.1 (F.2.2.2.2.1 _ lk1255) dX7_plane_55 ?_
          exact g_lretW F hr hlk hh hf dX7_plane_58
      · replace hf := itp c8 hf
        refine lv_ldc2 hx hb F.2.2.2.1 (F.2.2.2.2.1 _ lk1160) dX7_plane_44 ?_
        exact g_lretW F hr hlk hh hf dX7_plane_47
theorem c_X7_plane {l : Launch} {G : Gm} {x1 : Int32} {x2 : Int32} {x3 : Int32} {z : Sto} {Z : Int64 × Sto} (hf : f_X7_plane x1 x2 x3 z = some Z) : Met l yX7_plane (Cond.code yX7_plane cX7_plane 4 (some .long) :: TT) rmX7_plane (va_Pc [.ref (G.1 122), .int x1, .int x2, .int x3] (GS rM G z)) (QL rM G Z.1 Z.2) 0 0 (Am rM G) := by
  refine g_met [(0, .ref (G.1 122)), (1, .int x1), (2, .int x2), (3, .int x3)] (by decide) (Nat.le_of_ble_eq_true rfl) rfl ?_
  intro p e s m below meth cd F hr hlk ls H locs hl hh
  exact w_X7_plane F hr hlk hf hh hl
def f_X7_height (x1 : Int32) (x2 : Int32) (z : Sto) : Option (Int64 × Sto) := bd (f_X7_isJoint x1 z) fun t1 => if t1 = 0 then (some ((-1 : Int64), z)) else (bd (f_X7_in ((Int32.toInt64 x2)) (0 : Int64) (2 : Int64) z) fun t3 => if t3 = 0 then (some ((-1 : Int64), z)) else (bd (f_X7_isWhole z) fun t5 => if t5 = 0 then (some ((-4 : Int64), z)) else (bd (f_X7_laysPoints z) fun z8 => bd (f_X7_half x1 (0 : Int32) z8) fun t9 => bd (rdI z8 136 18 t9) fun t10 => bd (rdL z8 139 18 t10) fun t11 => bd (f_X7_x x1 z8) fun t12 => bd (rdL z8 140 18 t10) fun t13 => bd (f_X7_y x1 z8) fun t14 => bd (rdL z8 141 18 t10) fun t15 => bd (f_X7_told ((((t11 * (Int32.toInt64 t12)) + (t13 * (Int32.toInt64 t14))) + t15)) ((z8.2 122 16)) x2 z8) fun t16 => some (t16, z8))))
set_option maxRecDepth 100000 in
set_option maxHeartbeats 4000000 in
theorem w_X7_height {Z : Int64 × Sto} (F : Fx rM p s m args cd cX7_height 4 RX7 G) (hr : meth.sig.returnType = (some .long)) (hlk : meth.locks = false) {x1 : Int32} {x2 : Int32} {z : Sto} {H : Heap} {locs : List Loc} {ls : Array Slot} (hf : f_X7_height x1 x2 z = some Z) (hh : Hh rM G z s H locs) (hl : lv_has ls 4 [(0, .ref (G.1 122)), (1, .int x1), (2, .int x2)]) : W p l e rmX7_height s m args below meth cd H locs 0 0 (MQ below (QL rM G Z.1 Z.2) args s 0 0 (Am rM G)) (F0 m 0 ls []) := by
  have hx := F.1
  have hb := F.2.1
  unfold f_X7_height at hf
  refine lv_aload_n hx hb dX7_height_0 rfl (lv_at hl 0 rfl) ?_
  refine lv_iload_n hx hb dX7_height_1 rfl (lv_at hl 1 rfl) ?_
  obtain ⟨t1, ht1, hf⟩ := ob hf
  refine m_X7_128 F hh (c_X7_isJoint ht1) in_122 sh_122 rfl hl (Nat.le_of_ble_eq_true rfl) dX7_height_2 (fun H locs hh => ?_)
  refine lv_if_eq (tgt := 20) hx hb dX7_height_5 (by decide) (fun c2 => ?_) (fun c2 => ?_)
  · replace hf := itp c2 hf
    refine lv_ldc2 hx hb F.2.2.2.1 (F.2.2.2.2.1 _ lk1160) dX7_height_20 ?_
    exact g_lretW F hr hlk hh hf dX7_height_23
  · replace hf := itn c2 hf
    refine lv_iload_n hx hb dX7_height_8 rfl (lv_at hl 2 rfl) ?_
    refine lv_i2l hx hb dX7_height_9 rfl ?_
    refine lv_lconst (v := 0) hx hb dX7_height_10 (by decide) ?_
    refine lv_ldc2 hx hb F.2.2.2.1 (F.2.2.2.2.1 _ lk1159) dX7_height_11 ?_
    obtain ⟨t3, ht3, hf⟩ := ob hf
    refine m_X7_79 F hh (c_X7_in ht3) rfl hl (Nat.le_of_ble_eq_true rfl) dX7_height_14 (fun H locs hh => ?_)
    refine lv_if_ne (tgt := 24) hx hb dX7_height_17 (by decide) (fun c4 => ?_) (fun c4 => ?_)
    · replace hf := itn c4 hf
      refine lv_aload_n hx hb dX7_height_24 rfl (lv_at hl 0 rfl) ?_
      obtain ⟨t5, ht5, hf⟩ := ob hf
      refine m_X7_271 F hh (c_X7_isWhole ht5) in_122 sh_122 rfl hl (Nat.le_of_ble_eq_true rfl) dX7_height_25 (fun H locs hh => ?_)
      refine lv_if_ne (tgt := 35) hx hb dX7_height_28 (by decide) (fun c6 => ?_) (fun c6 => ?_)
      · replace hf := itn c6 hf
        refine lv_aload_n hx hb dX7_height_35 rfl (lv_at hl 0 rfl) ?_
        obtain ⟨z8, ht7, hf⟩ := ob hf
        refine m_X7_297 F hh (c_X7_laysPoints ht7) in_122 sh_122 rfl hl (Nat.le_of_ble_eq_true rfl) dX7_height_36 (fun H locs hh => ?_)
        refine lv_aload_n hx hb dX7_height_39 rfl (lv_at hl 0 rfl) ?_
        refine r_X7_54 (b' := 136) F hh in_122 sh_122 rfl dX7_height_40 ?_
        refine lv_aload_n hx hb dX7_height_43 rfl (lv_at hl 0 rfl) ?_
        refine lv_iload_n hx hb dX7_height_44 rfl (lv_at hl 1 rfl) ?_
        refine lv_iconst (v := 0) hx hb dX7_height_45 (by decide) ?_
        obtain ⟨t9, ht9, hf⟩ := ob hf
        refine m_X7_262 F hh (c_X7_half ht9) in_122 sh_122 rfl hl (Nat.le_of_ble_eq_true rfl) dX7_height_46 (fun H locs hh => ?_)
        obtain ⟨t10, ht10, hf⟩ := ob hf
        refine g_iald F hh in_136 sh_136 ht10 dX7_height_49 ?_
        refine lv_istore_n (lv' := [(3, .int t10), (0, .ref (G.1 122)), (1, .int x1), (2, .int x2)]) hx hb dX7_height_50 rfl hl (by decide) rfl (fun ls hl => ?_)
        refine lv_aload_n hx hb dX7_height_51 rfl (lv_at hl 1 rfl) ?_
        refine r_X7_63 (b' := 139) F hh in_122 sh_122 rfl dX7_height_52 ?_
        refine lv_iload_n hx hb dX7_height_55 rfl (lv_at hl 0 rfl) ?_
        obtain ⟨t11, ht11, hf⟩ := ob hf
        refine g_lald F hh in_139 sh_139 ht11 dX7_height_56 ?_
        refine lv_aload_n hx hb dX7_height_57 rfl (lv_at hl 1 rfl) ?_
        refine lv_iload_n hx hb dX7_height_58 rfl (lv_at hl 2 rfl) ?_
        obtain ⟨t12, ht12, hf⟩ := ob hf
        refine m_X7_83 F hh (c_X7_x ht12) in_122 sh_122 rfl hl (Nat.le_of_ble_eq_true rfl) dX7_height_59 (fun H locs hh => ?_)
        refine lv_i2l hx hb dX7_height_62 rfl ?_
        refine lv_lmul hx hb dX7_height_63 ?_
        refine lv_aload_n hx hb dX7_height_64 rfl (lv_at hl 1 rfl) ?_
        refine r_X7_66 (b' := 140) F hh in_122 sh_122 rfl dX7_height_65 ?_
        refine lv_iload_n hx hb dX7_height_68 rfl (lv_at hl 0 rfl) ?_
        obtain ⟨t13, ht13, hf⟩ := ob hf
        refine g_lald F hh in_140 sh_140 ht13 dX7_height_69 ?_
        refine lv_aload_n hx hb dX7_height_70 rfl (lv_at hl 1 rfl) ?_
        refine lv_iload_n hx hb dX7_height_71 rfl (lv_at hl 2 rfl) ?_
        obtain ⟨t14, ht14, hf⟩ := ob hf
        refine m_X7_87 F hh (c_X7_y ht14) in_122 sh_122 rfl hl (Nat.le_of_ble_eq_true rfl) dX7_height_72 (fun H locs hh => ?_)
        refine lv_i2l hx hb dX7_height_75 rfl ?_
        refine lv_lmul hx hb dX7_height_76 ?_
        refine lv_ladd hx hb dX7_height_77 ?_
        refine lv_aload_n hx hb dX7_height_78 rfl (lv_at hl 1 rfl) ?_
        refine r_X7_69 (b' := 141) F hh in_122 sh_122 rfl dX7_height_79 ?_
        refine lv_iload_n hx hb dX7_height_82 rfl (lv_at hl 0 rfl) ?_
        obtain ⟨t15, ht15, hf⟩ := ob hf
        refine g_lald F hh in_141 sh_141 ht15 dX7_height_83 ?_
        refine lv_ladd hx hb dX7_height_84 ?_
        refine lv_aload_n hx hb dX7_height_85 rfl (lv_at hl 1 rfl) ?_
        refine r_X7_198 F hh in_122 sh_122 dX7_height_86 ?_
        refine lv_iload_n hx hb dX7_height_89 rfl (lv_at hl 3 rfl) ?_
        obtain ⟨t16, ht16, hf⟩ := ob hf
        refine m_X7_240 F hh (c_X7_told ht16) rfl hl (Nat.le_of_ble_eq_true rfl) dX7_height_90 (fun H locs hh => ?_)
        exact g_lretW F hr hlk hh hf dX7_height_93
      · replace hf := itp c6 hf
        refine lv_ldc2 hx hb F.2.2.2.1 (F.2.2.2.2.1 _ lk1255) dX7_height_31 ?_
        exact g_lretW F hr hlk hh hf dX7_height_34
    · replace hf := itp c4 hf
      refine lv_ldc2 hx hb F.2.2.2.1 (F.2.2.2.2.1 _ lk1160) dX7_height_20 ?_
      exact g_lretW F hr hlk hh hf dX7_height_23
theorem c_X7_height {l : Launch} {G : Gm} {x1 : Int32} {x2 : Int32} {z : Sto} {Z : Int64 × Sto} (hf : f_X7_height x1 x2 z = some Z) : Met l yX7_height (Cond.code yX7_height cX7_height 4 (some .long) :: TT) rmX7_height (va_Pc [.ref (G.1 122), .int x1, .int x2] (GS rM G z)) (QL rM G Z.1 Z.2) 0 0 (Am rM G) := by
  refine g_met [(0, .ref (G.1 122)), (1, .int x1), (2, .int x2)] (by decide) (Nat.le_of_ble_eq_true rfl) rfl ?_
  intro p e s m below meth cd F hr hlk ls H locs hl hh
  exact w_X7_height F hr hlk hf hh hl
def b_X7_corner_60  (ag60 : Int32 → Int32 → Int32 → Int32 → Int64 → Int32 → Sto → Option (Int64 × Sto)) (x1 : Int32) (x2 : Int32) (x3 : Int32) (x4 : Int32) (x5 : Int64) (x7 : Int32) (z : Sto) : Option (Int64 × Sto) := if x2 ≤ x7 then (bd (f_X7_told x5 ((z.2 122 16)) x4 z) fun t13 => some (t13, z)) else (bd (f_X7_half x1 x7 z) fun t14 => bd (f_X7_pullOf ((t14 / (2 : Int32))) z) fun t15 => if x3 = 0 then (bd (f_X7_stepX t14 z) fun t20 => lt ((x5 + (t15 * (Int32.toInt64 t20)))) fun x5_21 => lt (x7 + (1 : Int32)) fun x7_22 => ag60 x1 x2 x3 x4 x5_21 x7_22 z) else (bd (f_X7_stepY t14 z) fun t17 => lt ((x5 + (t15 * (Int32.toInt64 t17)))) fun x5_18 => lt (x7 + (1 : Int32)) fun x7_19 => ag60 x1 x2 x3 x4 x5_18 x7_19 z))
def f_X7_corner (x1 : Int32) (x2 : Int32) (x3 : Int32) (x4 : Int32) (z : Sto) : Option (Int64 × Sto) := bd (f_X7_isJoint x1 z) fun t1 => if t1 = 0 then (some ((-1 : Int64), z)) else (bd (f_X7_barsOf x1 z) fun t3 => bd (f_X7_in ((Int32.toInt64 x2)) (0 : Int64) ((Int32.toInt64 t3)) z) fun t4 => if t4 = 0 then (some ((-1 : Int64), z)) else (bd (f_X7_in ((Int32.toInt64 x3)) (0 : Int64) (1 : Int64) z) fun t6 => if t6 = 0 then (some ((-1 : Int64), z)) else (bd (f_X7_in ((Int32.toInt64 x4)) (0 : Int64) (2 : Int64) z) fun t8 => if t8 = 0 then (some ((-1 : Int64), z)) else (bd (f_X7_laysAll z) fun z11 => wl7 (b_X7_corner_60) fu x1 x2 x3 x4 (0 : Int64) (0 : Int32) z11))))
set_option maxRecDepth 100000 in
set_option maxHeartbeats 4000000 in
theorem w_X7_corner_60  {Z : Int64 × Sto} (F : Fx rM p s m args cd cX7_corner 9 RX7 G) (hr : meth.sig.returnType = (some .long)) (hlk : meth.locks = false)  : ∀ (n : Nat), ∀ (x1 : Int32) (x2 : Int32) (x3 : Int32) (x4 : Int32) (x5 : Int64) (x7 : Int32) (z : Sto), wl7 (b_X7_corner_60) n x1 x2 x3 x4 x5 x7 z = some Z → ∀ {H : Heap} {locs : List Loc} {ls : Array Slot}, Hh rM G z s H locs → lv_has ls 9 [(0, .ref (G.1 122)), (1, .int x1), (2, .int x2), (3, .int x3), (4, .int x4), (5, .long x5), (7, .int x7)] → W p l e rmX7_corner s m args below meth cd H locs 0 0 (MQ below (QL rM G Z.1 Z.2) args s 0 0 (Am rM G)) (F0 m 60 ls []) := by
  have hx := F.1
  have hb := F.2.1
  intro n
  induction n with
  | zero =>
    intro x1 x2 x3 x4 x5 x7 z hf
    exact absurd hf (by intro h; cases h)
  | succ n ih =>
    intro x1 x2 x3 x4 x5 x7 z hf  H locs ls hh hl
    replace hf : b_X7_corner_60 (wl7 (b_X7_corner_60) n) x1 x2 x3 x4 x5 x7 z = some Z := hf
    unfold b_X7_corner_60 at hf
    refine lv_iload hx hb dX7_corner_60 (lv_at hl 6 rfl) ?_
    refine lv_iload_n hx hb dX7_corner_62 rfl (lv_at hl 2 rfl) ?_
    refine lv_icmp_ge (tgt := 115) hx hb dX7_corner_63 (by decide) (fun c12 => ?_) (fun c12 => ?_)
    · replace hf := itp c12 hf
      refine lv_lload hx hb dX7_corner_115 (lv_at hl 5 rfl) ?_
      refine lv_aload_n hx hb dX7_corner_117 rfl (lv_at hl 0 rfl) ?_
      refine r_X7_198 F hh in_122 sh_122 dX7_corner_118 ?_
      refine lv_iload hx hb dX7_corner_121 (lv_at hl 4 rfl) ?_
      obtain ⟨t13, ht13, hf⟩ := ob hf
      refine m_X7_240 F hh (c_X7_told ht13) rfl hl (Nat.le_of_ble_eq_true rfl) dX7_corner_123 (fun H locs hh => ?_)
      exact g_lretW F hr hlk hh hf dX7_corner_126
    · replace hf := itn c12 hf
      refine lv_aload_n hx hb dX7_corner_66 rfl (lv_at hl 0 rfl) ?_
      refine lv_iload_n hx hb dX7_corner_67 rfl (lv_at hl 1 rfl) ?_
      refine lv_iload hx hb dX7_corner_68 (lv_at hl 6 rfl) ?_
      obtain ⟨t14, ht14, hf⟩ := ob hf
      refine m_X7_262 F hh (c_X7_half ht14) in_122 sh_122 rfl hl (Nat.le_of_ble_eq_true rfl) dX7_corner_70 (fun H locs hh => ?_)
      refine lv_istore (lv' := [(8, .int t14), (0, .ref (G.1 122)), (1, .int x1), (2, .int x2), (3, .int x3), (4, .int x4), (5, .long x5), (7, .int x7)]) hx hb dX7_corner_73 hl (by decide) rfl (fun ls hl => ?_)
      refine lv_lload hx hb dX7_corner_75 (lv_at hl 6 rfl) ?_
      refine lv_aload_n hx hb dX7_corner_77 rfl (lv_at hl 1 rfl) ?_
      refine lv_iload hx hb dX7_corner_78 (lv_at hl 0 rfl) ?_
      refine lv_iconst (v := 2) hx hb dX7_corner_80 (by decide) ?_
      refine lv_idiv hx hb dX7_corner_81 (by decide) ?_
      obtain ⟨t15, ht15, hf⟩ := ob hf
      refine m_X7_244 F hh (c_X7_pullOf ht15) in_122 sh_122 rfl hl (Nat.le_of_ble_eq_true rfl) dX7_corner_82 (fun H locs hh => ?_)
      refine lv_iload_n hx hb dX7_corner_85 rfl (lv_at hl 4 rfl) ?_
      refine lv_if_ne (tgt := 98) hx hb dX7_corner_86 (by decide) (fun c16 => ?_) (fun c16 => ?_)
      · replace hf := itn c16 hf
        refine lv_aload_n hx hb dX7_corner_98 rfl (lv_at hl 1 rfl) ?_
        refine lv_iload hx hb dX7_corner_99 (lv_at hl 0 rfl) ?_
        obtain ⟨t17, ht17, hf⟩ := ob hf
        refine m_X7_192 F hh (c_X7_stepY ht17) in_122 sh_122 rfl hl (Nat.le_of_ble_eq_true rfl) dX7_corner_101 (fun H locs hh => ?_)
        refine lv_i2l hx hb dX7_corner_104 rfl ?_
        refine lv_lmul hx hb dX7_corner_105 ?_
        refine lv_ladd hx hb dX7_corner_106 ?_
        refine lv_topl (fun x5_18 ex5_18 => ?_)
        replace hf := lt_e ex5_18 hf
        refine lv_lstore (lv' := [(5, .long x5_18), (8, .int t14), (0, .ref (G.1 122)), (1, .int x1), (2, .int x2), (3, .int x3), (4, .int x4), (7, .int x7)]) hx hb dX7_corner_107 hl (by decide) rfl (fun ls hl => ?_)
        obtain ⟨x7_19, ex7_19⟩ : ∃ y : Int32, y = x7 + (1 : Int32) := ⟨_, rfl⟩
        replace hf := lt_e ex7_19 hf
        refine lv_iinc (v := x7_19) (lv' := [(7, .int x7_19), (5, .long x5_18), (8, .int t14), (0, .ref (G.1 122)), (1, .int x1), (2, .int x2), (3, .int x3), (4, .int x4)]) hx hb dX7_corner_109 hl (k := 7) rfl (by rw [ex7_19]; rfl) (by decide) rfl (fun ls hl => ?_)
        refine lv_goto (tgt := 60) hx hb dX7_corner_112 (by decide) ?_
        exact ih _ _ _ _ _ _ _ hf  hh (lv_sub hl [3, 4, 5, 6, 7, 1, 0] rfl)
      · replace hf := itp c16 hf
        refine lv_aload_n hx hb dX7_corner_89 rfl (lv_at hl 1 rfl) ?_
        refine lv_iload hx hb dX7_corner_90 (lv_at hl 0 rfl) ?_
        obtain ⟨t20, ht20, hf⟩ := ob hf
        refine m_X7_189 F hh (c_X7_stepX ht20) in_122 sh_122 rfl hl (Nat.le_of_ble_eq_true rfl) dX7_corner_92 (fun H locs hh => ?_)
        refine lv_goto (tgt := 104) hx hb dX7_corner_95 (by decide) ?_
        refine lv_i2l hx hb dX7_corner_104 rfl ?_
        refine lv_lmul hx hb dX7_corner_105 ?_
        refine lv_ladd hx hb dX7_corner_106 ?_
        refine lv_topl (fun x5_21 ex5_21 => ?_)
        replace hf := lt_e ex5_21 hf
        refine lv_lstore (lv' := [(5, .long x5_21), (8, .int t14), (0, .ref (G.1 122)), (1, .int x1), (2, .int x2), (3, .int x3), (4, .int x4), (7, .int x7)]) hx hb dX7_corner_107 hl (by decide) rfl (fun ls hl => ?_)
        obtain ⟨x7_22, ex7_22⟩ : ∃ y : Int32, y = x7 + (1 : Int32) := ⟨_, rfl⟩
        replace hf := lt_e ex7_22 hf
        refine lv_iinc (v := x7_22) (lv' := [(7, .int x7_22), (5, .long x5_21), (8, .int t14), (0, .ref (G.1 122)), (1, .int x1), (2, .int x2), (3, .int x3), (4, .int x4)]) hx hb dX7_corner_109 hl (k := 7) rfl (by rw [ex7_22]; rfl) (by decide) rfl (fun ls hl => ?_)
        refine lv_goto (tgt := 60) hx hb dX7_corner_112 (by decide) ?_
        exact ih _ _ _ _ _ _ _ hf  hh (lv_sub hl [3, 4, 5, 6, 7, 1, 0] rfl)
set_option maxRecDepth 100000 in
set_option maxHeartbeats 4000000 in
theorem w_X7_corner {Z : Int64 × Sto} (F : Fx rM p s m args cd cX7_corner 9 RX7 G) (hr : meth.sig.returnType = (some .long)) (hlk : meth.locks = false) {x1 : Int32} {x2 : Int32} {x3 : Int32} {x4 : Int32} {z : Sto} {H : Heap} {locs : List Loc} {ls : Array Slot} (hf : f_X7_corner x1 x2 x3 x4 z = some Z) (hh : Hh rM G z s H locs) (hl : lv_has ls 9 [(0, .ref (G.1 122)), (1, .int x1), (2, .int x2), (3, .int x3), (4, .int x4)]) : W p l e rmX7_corner s m args below meth cd H locs 0 0 (MQ below (QL rM G Z.1 Z.2) args s 0 0 (Am rM G)) (F0 m 0 ls []) := by
  have hx := F.1
  have hb := F.2.1
  unfold f_X7_corner at hf
  refine lv_aload_n hx hb dX7_corner_0 rfl (lv_at hl 0 rfl) ?_
  refine lv_iload_n hx hb dX7_corner_1 rfl (lv_at hl 1 rfl) ?_
  obtain ⟨t1, ht1, hf⟩ := ob hf
  refine m_X7_128 F hh (c_X7_isJoint ht1) in_122 sh_122 rfl hl (Nat.le_of_ble_eq_true rfl) dX7_corner_2 (fun H locs hh => ?_)
  refine lv_if_eq (tgt := 46) hx hb dX7_corner_5 (by decide) (fun c2 => ?_) (fun c2 => ?_)
  · replace hf := itp c2 hf
    refine lv_ldc2 hx hb F.2.2.2.1 (F.2.2.2.2.1 _ lk1160) dX7_corner_46 ?_
    exact g_lretW F hr hlk hh hf dX7_corner_49
  · replace hf := itn c2 hf
    refine lv_iload_n hx hb dX7_corner_8 rfl (lv_at hl 2 rfl) ?_
    refine lv_i2l hx hb dX7_corner_9 rfl ?_
    refine lv_lconst (v := 0) hx hb dX7_corner_10 (by decide) ?_
    refine lv_aload_n hx hb dX7_corner_11 rfl (lv_at hl 0 rfl) ?_
    refine lv_iload_n hx hb dX7_corner_12 rfl (lv_at hl 1 rfl) ?_
    obtain ⟨t3, ht3, hf⟩ := ob hf
    refine m_X7_142 F hh (c_X7_barsOf ht3) in_122 sh_122 rfl hl (Nat.le_of_ble_eq_true rfl) dX7_corner_13 (fun H locs hh => ?_)
    refine lv_i2l hx hb dX7_corner_16 rfl ?_
    obtain ⟨t4, ht4, hf⟩ := ob hf
    refine m_X7_79 F hh (c_X7_in ht4) rfl hl (Nat.le_of_ble_eq_true rfl) dX7_corner_17 (fun H locs hh => ?_)
    refine lv_if_eq (tgt := 46) hx hb dX7_corner_20 (by decide) (fun c5 => ?_) (fun c5 => ?_)
    · replace hf := itp c5 hf
      refine lv_ldc2 hx hb F.2.2.2.1 (F.2.2.2.2.1 _ lk1160) dX7_corner_46 ?_
      exact g_lretW F hr hlk hh hf dX7_corner_49
    · replace hf := itn c5 hf
      refine lv_iload_n hx hb dX7_corner_23 rfl (lv_at hl 3 rfl) ?_
      refine lv_i2l hx hb dX7_corner_24 rfl ?_
      refine lv_lconst (v := 0) hx hb dX7_corner_25 (by decide) ?_
      refine lv_lconst (v := 1) hx hb dX7_corner_26 (by decide) ?_
      obtain ⟨t6, ht6, hf⟩ := ob hf
      refine m_X7_79 F hh (c_X7_in ht6) rfl hl (Nat.le_of_ble_eq_true rfl) dX7_corner_27 (fun H locs hh => ?_)
      refine lv_if_eq (tgt := 46) hx hb dX7_corner_30 (by decide) (fun c7 => ?_) (fun c7 => ?_)
      · replace hf := itp c7 hf
        refine lv_ldc2 hx hb F.2.2.2.1 (F.2.2.2.2.1 _ lk1160) dX7_corner_46 ?_
        exact g_lretW F hr hlk hh hf dX7_corner_49
      · replace hf := itn c7 hf
        refine lv_iload hx hb dX7_corner_33 (lv_at hl 4 rfl) ?_
        refine lv_i2l hx hb dX7_corner_35 rfl ?_
        refine lv_lconst (v := 0) hx hb dX7_corner_36 (by decide) ?_
        refine lv_ldc2 hx hb F.2.2.2.1 (F.2.2.2.2.1 _ lk1159) dX7_corner_37 ?_
        obtain ⟨t8, ht8, hf⟩ := ob hf
        refine m_X7_79 F hh (c_X7_in ht8) rfl hl (Nat.le_of_ble_eq_true rfl) dX7_corner_40 (fun H locs hh => ?_)
        refine lv_if_ne (tgt := 50) hx hb dX7_corner_43 (by decide) (fun c9 => ?_) (fun c9 => ?_)
        · replace hf := itn c9 hf
          refine lv_aload_n hx hb dX7_corner_50 rfl (lv_at hl 0 rfl) ?_
          obtain ⟨z11, ht10, hf⟩ := ob hf
          refine m_X7_232 F hh (c_X7_laysAll ht10) in_122 sh_122 rfl hl (Nat.le_of_ble_eq_true rfl) dX7_corner_51 (fun H locs hh => ?_)
          refine lv_lconst (v := 0) hx hb dX7_corner_54 (by decide) ?_
          refine lv_lstore (lv' := [(5, .long (0 : Int64)), (0, .ref (G.1 122)), (1, .int x1), (2, .int x2), (3, .int x3), (4, .int x4)]) hx hb dX7_corner_55 hl (by decide) rfl (fun ls hl => ?_)
          refine lv_iconst (v := 0) hx hb dX7_corner_57 (by decide) ?_
          refine lv_istore (lv' := [(7, .int (0 : Int32)), (5, .long (0 : Int64)), (0, .ref (G.1 122)), (1, .int x1), (2, .int x2), (3, .int x3), (4, .int x4)]) hx hb dX7_corner_58 hl (by decide) rfl (fun ls hl => ?_)
          exact w_X7_corner_60 F hr hlk fu _ _ _ _ _ _ _ hf  hh (lv_sub hl [2, 3, 4, 5, 6, 1, 0] rfl)
        · replace hf := itp c9 hf
          refine lv_ldc2 hx hb F.2.2.2.1 (F.2.2.2.2.1 _ lk1160) dX7_corner_46 ?_
          exact g_lretW F hr hlk hh hf dX7_corner_49
theorem c_X7_corner {l : Launch} {G : Gm} {x1 : Int32} {x2 : Int32} {x3 : Int32} {x4 : Int32} {z : Sto} {Z : Int64 × Sto} (hf : f_X7_corner x1 x2 x3 x4 z = some Z) : Met l yX7_corner (Cond.code yX7_corner cX7_corner 9 (some .long) :: TT) rmX7_corner (va_Pc [.ref (G.1 122), .int x1, .int x2, .int x3, .int x4] (GS rM G z)) (QL rM G Z.1 Z.2) 0 0 (Am rM G) := by
  refine g_met [(0, .ref (G.1 122)), (1, .int x1), (2, .int x2), (3, .int x3), (4, .int x4)] (by decide) (Nat.le_of_ble_eq_true rfl) rfl ?_
  intro p e s m below meth cd F hr hlk ls H locs hl hh
  exact w_X7_corner F hr hlk hf hh hl
def f_X7_type (x1 : Int32) (z : Sto) : Option (Int32 × Sto) := bd (f_X7_in ((Int32.toInt64 x1)) (32 : Int64) (126 : Int64) z) fun t1 => if t1 = 0 then (some ((-1 : Int32), z)) else (if (z.1 122 7) = (60 : Int32) then (some ((-3 : Int32), z)) else (bd (wrI z 127 60 (z.1 122 7) x1) fun z4 => lt (upI z4 122 7 ((z4.1 122 7) + (1 : Int32))) fun z5 => some ((z5.1 122 7), z5)))
set_option maxRecDepth 100000 in
set_option maxHeartbeats 4000000 in
theorem w_X7_type {Z : Int32 × Sto} (F : Fx rM p s m args cd cX7_type 2 RX7 G) (hr : meth.sig.returnType = (some .int)) (hlk : meth.locks = false) {x1 : Int32} {z : Sto} {H : Heap} {locs : List Loc} {ls : Array Slot} (hf : f_X7_type x1 z = some Z) (hh : Hh rM G z s H locs) (hl : lv_has ls 2 [(0, .ref (G.1 122)), (1, .int x1)]) : W p l e rmX7_type s m args below meth cd H locs 0 0 (MQ below (QI rM G Z.1 Z.2) args s 0 0 (Am rM G)) (F0 m 0 ls []) := by
  have hx := F.1
  have hb := F.2.1
  unfold f_X7_type at hf
  refine lv_iload_n hx hb dX7_type_0 rfl (lv_at hl 1 rfl) ?_
  refine lv_i2l hx hb dX7_type_1 rfl ?_
  refine lv_ldc2 hx hb F.2.2.2.1 (F.2.2.2.2.1 _ lk1280) dX7_type_2 ?_
  refine lv_ldc2 hx hb F.2.2.2.1 (F.2.2.2.2.1 _ lk1281) dX7_type_5 ?_
  obtain ⟨t1, ht1, hf⟩ := ob hf
  refine m_X7_79 F hh (c_X7_in ht1) rfl hl (Nat.le_of_ble_eq_true rfl) dX7_type_8 (fun H locs hh => ?_)
  refine lv_if_ne (tgt := 16) hx hb dX7_type_11 (by decide) (fun c2 => ?_) (fun c2 => ?_)
  · replace hf := itn c2 hf
    refine lv_aload_n hx hb dX7_type_16 rfl (lv_at hl 0 rfl) ?_
    refine r_X7_304 F hh in_122 sh_122 dX7_type_17 ?_
    refine lv_bipush (v := 60) hx hb dX7_type_20 (by decide) ?_
    refine lv_icmp_ne (tgt := 28) hx hb dX7_type_22 (by decide) (fun c3 => ?_) (fun c3 => ?_)
    · replace hf := itn c3 hf
      refine lv_aload_n hx hb dX7_type_28 rfl (lv_at hl 0 rfl) ?_
      refine r_X7_26 (b' := 127) F hh in_122 sh_122 rfl dX7_type_29 ?_
      refine lv_aload_n hx hb dX7_type_32 rfl (lv_at hl 0 rfl) ?_
      refine r_X7_304 F hh in_122 sh_122 dX7_type_33 ?_
      refine lv_iload_n hx hb dX7_type_36 rfl (lv_at hl 1 rfl) ?_
      obtain ⟨z4, hz4, hf⟩ := ob hf
      refine g_iast F hh in_127 sh_127 hz4 dX7_type_37 (fun H locs hh => ?_)
      refine lv_aload_n hx hb dX7_type_38 rfl (lv_at hl 0 rfl) ?_
      refine lv_dup hx hb dX7_type_39 rfl ?_
      refine r_X7_304 F hh in_122 sh_122 dX7_type_40 ?_
      refine lv_iconst (v := 1) hx hb dX7_type_43 (by decide) ?_
      refine lv_iadd hx hb dX7_type_44 ?_
      refine s_X7_304 F hh in_122 sh_122 dX7_type_45 (fun z5 ez5 H locs hh => ?_)
      replace hf := lt_e ez5 hf
      refine lv_aload_n hx hb dX7_type_48 rfl (lv_at hl 0 rfl) ?_
      refine r_X7_304 F hh in_122 sh_122 dX7_type_49 ?_
      exact g_iretW F hr hlk hh hf dX7_type_52
    · replace hf := itp c3 hf
      refine lv_bipush (v := -3) hx hb dX7_type_25 (by decide) ?_
      exact g_iretW F hr hlk hh hf dX7_type_27
  · replace hf := itp c2 hf
    refine lv_iconst (v := -1) hx hb dX7_type_14 (by decide) ?_
    exact g_iretW F hr hlk hh hf dX7_type_15
theorem c_X7_type {l : Launch} {G : Gm} {x1 : Int32} {z : Sto} {Z : Int32 × Sto} (hf : f_X7_type x1 z = some Z) : Met l yX7_type (Cond.code yX7_type cX7_type 2 (some .int) :: TT) rmX7_type (va_Pc [.ref (G.1 122), .int x1] (GS rM G z)) (QI rM G Z.1 Z.2) 0 0 (Am rM G) := by
  refine g_met [(0, .ref (G.1 122)), (1, .int x1)] (by decide) (Nat.le_of_ble_eq_true rfl) rfl ?_
  intro p e s m below meth cd F hr hlk ls H locs hl hh
  exact w_X7_type F hr hlk hf hh hl
def j_X7_here_38  (z : Sto) : Option (Int32 × Sto) := if (z.1 122 7) ≤ (z.1 122 26) then (some ((0 : Int32), z)) else (bd (rdI z 127 60 (z.1 122 26)) fun t6 => some (t6, z))
def b_X7_here_0  (ag0 : Sto → Option (Int32 × Sto)) (z : Sto) : Option (Int32 × Sto) := if (z.1 122 7) ≤ (z.1 122 26) then (j_X7_here_38 z) else (bd (rdI z 127 60 (z.1 122 26)) fun t2 => if t2 = (32 : Int32) then (lt (upI z 122 26 ((z.1 122 26) + (1 : Int32))) fun z4 => ag0 z4) else (j_X7_here_38 z))
def f_X7_here  (z : Sto) : Option (Int32 × Sto) := wl1 (b_X7_here_0) fu z
set_option maxRecDepth 100000 in
set_option maxHeartbeats 4000000 in
theorem w_X7_here_38  {Z : Int32 × Sto} (F : Fx rM p s m args cd cX7_here 1 RX7 G) (hr : meth.sig.returnType = (some .int)) (hlk : meth.locks = false)  {z : Sto} {H : Heap} {locs : List Loc} {ls : Array Slot} (hf : j_X7_here_38 z = some Z) (hh : Hh rM G z s H locs) (hl : lv_has ls 1 [(0, .ref (G.1 122))]) : W p l e rmX7_here s m args below meth cd H locs 0 0 (MQ below (QI rM G Z.1 Z.2) args s 0 0 (Am rM G)) (F0 m 38 ls []) := by
  have hx := F.1
  have hb := F.2.1
  unfold j_X7_here_38 at hf
  refine lv_aload_n hx hb dX7_here_38 rfl (lv_at hl 0 rfl) ?_
  refine r_X7_307 F hh in_122 sh_122 dX7_here_39 ?_
  refine lv_aload_n hx hb dX7_here_42 rfl (lv_at hl 0 rfl) ?_
  refine r_X7_304 F hh in_122 sh_122 dX7_here_43 ?_
  refine lv_icmp_ge (tgt := 61) hx hb dX7_here_46 (by decide) (fun c5 => ?_) (fun c5 => ?_)
  · replace hf := itp c5 hf
    refine lv_iconst (v := 0) hx hb dX7_here_61 (by decide) ?_
    exact g_iretW F hr hlk hh hf dX7_here_62
  · replace hf := itn c5 hf
    refine lv_aload_n hx hb dX7_here_49 rfl (lv_at hl 0 rfl) ?_
    refine r_X7_26 (b' := 127) F hh in_122 sh_122 rfl dX7_here_50 ?_
    refine lv_aload_n hx hb dX7_here_53 rfl (lv_at hl 0 rfl) ?_
    refine r_X7_307 F hh in_122 sh_122 dX7_here_54 ?_
    obtain ⟨t6, ht6, hf⟩ := ob hf
    refine g_iald F hh in_127 sh_127 ht6 dX7_here_57 ?_
    refine lv_goto (tgt := 62) hx hb dX7_here_58 (by decide) ?_
    exact g_iretW F hr hlk hh hf dX7_here_62
set_option maxRecDepth 100000 in
set_option maxHeartbeats 4000000 in
theorem w_X7_here_0  {Z : Int32 × Sto} (F : Fx rM p s m args cd cX7_here 1 RX7 G) (hr : meth.sig.returnType = (some .int)) (hlk : meth.locks = false)  : ∀ (n : Nat), ∀ (z : Sto), wl1 (b_X7_here_0) n z = some Z → ∀ {H : Heap} {locs : List Loc} {ls : Array Slot}, Hh rM G z s H locs → lv_has ls 1 [(0, .ref (G.1 122))] → W p l e rmX7_here s m args below meth cd H locs 0 0 (MQ below (QI rM G Z.1 Z.2) args s 0 0 (Am rM G)) (F0 m 0 ls []) := by
  have hx := F.1
  have hb := F.2.1
  intro n
  induction n with
  | zero =>
    intro z hf
    exact absurd hf (by intro h; cases h)
  | succ n ih =>
    intro z hf  H locs ls hh hl
    replace hf : b_X7_here_0 (wl1 (b_X7_here_0) n) z = some Z := hf
    unfold b_X7_here_0 at hf
    refine lv_aload_n hx hb dX7_here_0 rfl (lv_at hl 0 rfl) ?_
    refine r_X7_307 F hh in_122 sh_122 dX7_here_1 ?_
    refine lv_aload_n hx hb dX7_here_4 rfl (lv_at hl 0 rfl) ?_
    refine r_X7_304 F hh in_122 sh_122 dX7_here_5 ?_
    refine lv_icmp_ge (tgt := 38) hx hb dX7_here_8 (by decide) (fun c1 => ?_) (fun c1 => ?_)
    · replace hf := itp c1 hf
      exact w_X7_here_38 F hr hlk hf  hh (lv_sub hl [0] rfl)
    · replace hf := itn c1 hf
      refine lv_aload_n hx hb dX7_here_11 rfl (lv_at hl 0 rfl) ?_
      refine r_X7_26 (b' := 127) F hh in_122 sh_122 rfl dX7_here_12 ?_
      refine lv_aload_n hx hb dX7_here_15 rfl (lv_at hl 0 rfl) ?_
      refine r_X7_307 F hh in_122 sh_122 dX7_here_16 ?_
      obtain ⟨t2, ht2, hf⟩ := ob hf
      refine g_iald F hh in_127 sh_127 ht2 dX7_here_19 ?_
      refine lv_bipush (v := 32) hx hb dX7_here_20 (by decide) ?_
      refine lv_icmp_ne (tgt := 38) hx hb dX7_here_22 (by decide) (fun c3 => ?_) (fun c3 => ?_)
      · replace hf := itn c3 hf
        exact w_X7_here_38 F hr hlk hf  hh (lv_sub hl [0] rfl)
      · replace hf := itp c3 hf
        refine lv_aload_n hx hb dX7_here_25 rfl (lv_at hl 0 rfl) ?_
        refine lv_dup hx hb dX7_here_26 rfl ?_
        refine r_X7_307 F hh in_122 sh_122 dX7_here_27 ?_
        refine lv_iconst (v := 1) hx hb dX7_here_30 (by decide) ?_
        refine lv_iadd hx hb dX7_here_31 ?_
        refine s_X7_307 F hh in_122 sh_122 dX7_here_32 (fun z4 ez4 H locs hh => ?_)
        replace hf := lt_e ez4 hf
        refine lv_goto (tgt := 0) hx hb dX7_here_35 (by decide) ?_
        exact ih _ hf  hh (lv_sub hl [0] rfl)
set_option maxRecDepth 100000 in
set_option maxHeartbeats 4000000 in
theorem w_X7_here {Z : Int32 × Sto} (F : Fx rM p s m args cd cX7_here 1 RX7 G) (hr : meth.sig.returnType = (some .int)) (hlk : meth.locks = false)  {z : Sto} {H : Heap} {locs : List Loc} {ls : Array Slot} (hf : f_X7_here  z = some Z) (hh : Hh rM G z s H locs) (hl : lv_has ls 1 [(0, .ref (G.1 122))]) : W p l e rmX7_here s m args below meth cd H locs 0 0 (MQ below (QI rM G Z.1 Z.2) args s 0 0 (Am rM G)) (F0 m 0 ls []) := by
  have hx := F.1
  have hb := F.2.1
  unfold f_X7_here at hf
  exact w_X7_here_0 F hr hlk fu _ hf  hh (lv_sub hl [0] rfl)
theorem c_X7_here {l : Launch} {G : Gm}  {z : Sto} {Z : Int32 × Sto} (hf : f_X7_here  z = some Z) : Met l yX7_here (Cond.code yX7_here cX7_here 1 (some .int) :: TT) rmX7_here (va_Pc [.ref (G.1 122)] (GS rM G z)) (QI rM G Z.1 Z.2) 0 0 (Am rM G) := by
  refine g_met [(0, .ref (G.1 122))] (by decide) (Nat.le_of_ble_eq_true rfl) rfl ?_
  intro p e s m below meth cd F hr hlk ls H locs hl hh
  exact w_X7_here F hr hlk hf hh hl
def f_X7_figure (x1 : Int32) (z : Sto) : Option (Int32 × Sto) := bd2 (f_X7_here z) fun t1 z2 => lt ((t1 - (48 : Int32))) fun x2_3 => bd (f_X7_in ((Int32.toInt64 x2_3)) (0 : Int64) ((Int32.toInt64 x1)) z2) fun t4 => if t4 = 0 then (some ((-4 : Int32), z2)) else (lt (upI z2 122 26 ((z2.1 122 26) + (1 : Int32))) fun z6 => some (x2_3, z6))
set_option maxRecDepth 100000 in
set_option maxHeartbeats 4000000 in
theorem w_X7_figure {Z : Int32 × Sto} (F : Fx rM p s m args cd cX7_figure 3 RX7 G) (hr : meth.sig.returnType = (some .int)) (hlk : meth.locks = false) {x1 : Int32} {z : Sto} {H : Heap} {locs : List Loc} {ls : Array Slot} (hf : f_X7_figure x1 z = some Z) (hh : Hh rM G z s H locs) (hl : lv_has ls 3 [(0, .ref (G.1 122)), (1, .int x1)]) : W p l e rmX7_figure s m args below meth cd H locs 0 0 (MQ below (QI rM G Z.1 Z.2) args s 0 0 (Am rM G)) (F0 m 0 ls []) := by
  have hx := F.1
  have hb := F.2.1
  unfold f_X7_figure at hf
  refine lv_aload_n hx hb dX7_figure_0 rfl (lv_at hl 0 rfl) ?_
  obtain ⟨t1, z2, ht1, hf⟩ := ob2 hf
  refine m_X7_310 (r := t1) (σ' := z2) F hh (c_X7_here ht1) in_122 sh_122 rfl hl (Nat.le_of_ble_eq_true rfl) dX7_figure_1 (fun H locs hh => ?_)
  refine lv_bipush (v := 48) hx hb dX7_figure_4 (by decide) ?_
  refine lv_isub hx hb dX7_figure_6 ?_
  refine lv_topi (fun x2_3 ex2_3 => ?_)
  replace hf := lt_e ex2_3 hf
  refine lv_istore_n (lv' := [(2, .int x2_3), (0, .ref (G.1 122)), (1, .int x1)]) hx hb dX7_figure_7 rfl hl (by decide) rfl (fun ls hl => ?_)
  refine lv_iload_n hx hb dX7_figure_8 rfl (lv_at hl 0 rfl) ?_
  refine lv_i2l hx hb dX7_figure_9 rfl ?_
  refine lv_lconst (v := 0) hx hb dX7_figure_10 (by decide) ?_
  refine lv_iload_n hx hb dX7_figure_11 rfl (lv_at hl 2 rfl) ?_
  refine lv_i2l hx hb dX7_figure_12 rfl ?_
  obtain ⟨t4, ht4, hf⟩ := ob hf
  refine m_X7_79 F hh (c_X7_in ht4) rfl hl (Nat.le_of_ble_eq_true rfl) dX7_figure_13 (fun H locs hh => ?_)
  refine lv_if_ne (tgt := 22) hx hb dX7_figure_16 (by decide) (fun c5 => ?_) (fun c5 => ?_)
  · replace hf := itn c5 hf
    refine lv_aload_n hx hb dX7_figure_22 rfl (lv_at hl 1 rfl) ?_
    refine lv_dup hx hb dX7_figure_23 rfl ?_
    refine r_X7_307 F hh in_122 sh_122 dX7_figure_24 ?_
    refine lv_iconst (v := 1) hx hb dX7_figure_27 (by decide) ?_
    refine lv_iadd hx hb dX7_figure_28 ?_
    refine s_X7_307 F hh in_122 sh_122 dX7_figure_29 (fun z6 ez6 H locs hh => ?_)
    replace hf := lt_e ez6 hf
    refine lv_iload_n hx hb dX7_figure_32 rfl (lv_at hl 0 rfl) ?_
    exact g_iretW F hr hlk hh hf dX7_figure_33
  · replace hf := itp c5 hf
    refine lv_bipush (v := -4) hx hb dX7_figure_19 (by decide) ?_
    exact g_iretW F hr hlk hh hf dX7_figure_21
theorem c_X7_figure {l : Launch} {G : Gm} {x1 : Int32} {z : Sto} {Z : Int32 × Sto} (hf : f_X7_figure x1 z = some Z) : Met l yX7_figure (Cond.code yX7_figure cX7_figure 3 (some .int) :: TT) rmX7_figure (va_Pc [.ref (G.1 122), .int x1] (GS rM G z)) (QI rM G Z.1 Z.2) 0 0 (Am rM G) := by
  refine g_met [(0, .ref (G.1 122)), (1, .int x1)] (by decide) (Nat.le_of_ble_eq_true rfl) rfl ?_
  intro p e s m below meth cd F hr hlk ls H locs hl hh
  exact w_X7_figure F hr hlk hf hh hl
def j_X7_readsJoint_39  (x1 : Int32) (k0 : Int32) (z : Sto) : Option (Int32 × Sto) := if x1 < 0 then (some ((0 : Int32), z)) else (bd (f_X7_in ((Int32.toInt64 k0)) (0 : Int64) (5 : Int64) z) fun t11 => if t11 = 0 then (some ((0 : Int32), z)) else (bd (f_X7_find x1 k0 z) fun t13 => if t13 < 0 then (lt (upI z 122 26 ((z.1 122 26) + (1 : Int32))) fun z15 => bd2 (f_X7_joins x1 k0 z15) fun t16 z17 => if t16 < 0 then (some ((0 : Int32), z17)) else (some ((1 : Int32), z17))) else (some ((0 : Int32), z))))
def f_X7_readsJoint  (z : Sto) : Option (Int32 × Sto) := bd (rdI z 123 42 (0 : Int32)) fun t1 => if t1 = (6 : Int32) then (bd2 (f_X7_here z) fun t8 z9 => some ((0 : Int32), z9)) else (bd2 (f_X7_figure (5 : Int32) z) fun t3 z4 => if 0 ≤ t3 then (bd2 (f_X7_here z4) fun t6 z7 => j_X7_readsJoint_39 t3 ((t6 - (48 : Int32))) z7) else (j_X7_readsJoint_39 t3 (0 : Int32) z4))
set_option maxRecDepth 100000 in
set_option maxHeartbeats 4000000 in
theorem w_X7_readsJoint_39  {Z : Int32 × Sto} (F : Fx rM p s m args cd cX7_readsJoint 3 RX7 G) (hr : meth.sig.returnType = (some .boolean)) (hlk : meth.locks = false)  {x1 : Int32} {k0 : Int32} {z : Sto} {H : Heap} {locs : List Loc} {ls : Array Slot} (hf : j_X7_readsJoint_39 x1 k0 z = some Z) (hh : Hh rM G z s H locs) (hl : lv_has ls 3 [(0, .ref (G.1 122)), (1, .int x1)]) : W p l e rmX7_readsJoint s m args below meth cd H locs 0 0 (MQ below (QI rM G Z.1 Z.2) args s 0 0 (Am rM G)) (F0 m 39 ls [.int k0]) := by
  have hx := F.1
  have hb := F.2.1
  unfold j_X7_readsJoint_39 at hf
  refine lv_istore_n (lv' := [(2, .int k0), (0, .ref (G.1 122)), (1, .int x1)]) hx hb dX7_readsJoint_39 rfl hl (by decide) rfl (fun ls hl => ?_)
  refine lv_iload_n hx hb dX7_readsJoint_40 rfl (lv_at hl 2 rfl) ?_
  refine lv_if_lt (tgt := 65) hx hb dX7_readsJoint_41 (by decide) (fun c10 => ?_) (fun c10 => ?_)
  · replace hf := itp c10 hf
    refine lv_iconst (v := 0) hx hb dX7_readsJoint_65 (by decide) ?_
    exact g_zretW F hr hlk rfl hh hf dX7_readsJoint_66
  · replace hf := itn c10 hf
    refine lv_iload_n hx hb dX7_readsJoint_44 rfl (lv_at hl 0 rfl) ?_
    refine lv_i2l hx hb dX7_readsJoint_45 rfl ?_
    refine lv_lconst (v := 0) hx hb dX7_readsJoint_46 (by decide) ?_
    refine lv_ldc2 hx hb F.2.2.2.1 (F.2.2.2.2.1 _ lk981) dX7_readsJoint_47 ?_
    obtain ⟨t11, ht11, hf⟩ := ob hf
    refine m_X7_79 F hh (c_X7_in ht11) rfl hl (Nat.le_of_ble_eq_true rfl) dX7_readsJoint_50 (fun H locs hh => ?_)
    refine lv_if_eq (tgt := 65) hx hb dX7_readsJoint_53 (by decide) (fun c12 => ?_) (fun c12 => ?_)
    · replace hf := itp c12 hf
      refine lv_iconst (v := 0) hx hb dX7_readsJoint_65 (by decide) ?_
      exact g_zretW F hr hlk rfl hh hf dX7_readsJoint_66
    · replace hf := itn c12 hf
      refine lv_aload_n hx hb dX7_readsJoint_56 rfl (lv_at hl 1 rfl) ?_
      refine lv_iload_n hx hb dX7_readsJoint_57 rfl (lv_at hl 2 rfl) ?_
      refine lv_iload_n hx hb dX7_readsJoint_58 rfl (lv_at hl 0 rfl) ?_
      obtain ⟨t13, ht13, hf⟩ := ob hf
      refine m_X7_121 F hh (c_X7_find ht13) in_122 sh_122 rfl hl (Nat.le_of_ble_eq_true rfl) dX7_readsJoint_59 (fun H locs hh => ?_)
      refine lv_if_lt (tgt := 67) hx hb dX7_readsJoint_62 (by decide) (fun c14 => ?_) (fun c14 => ?_)
      · replace hf := itp c14 hf
        refine lv_aload_n hx hb dX7_readsJoint_67 rfl (lv_at hl 1 rfl) ?_
        refine lv_dup hx hb dX7_readsJoint_68 rfl ?_
        refine r_X7_307 F hh in_122 sh_122 dX7_readsJoint_69 ?_
        refine lv_iconst (v := 1) hx hb dX7_readsJoint_72 (by decide) ?_
        refine lv_iadd hx hb dX7_readsJoint_73 ?_
        refine s_X7_307 F hh in_122 sh_122 dX7_readsJoint_74 (fun z15 ez15 H locs hh => ?_)
        replace hf := lt_e ez15 hf
        refine lv_aload_n hx hb dX7_readsJoint_77 rfl (lv_at hl 1 rfl) ?_
        refine lv_iload_n hx hb dX7_readsJoint_78 rfl (lv_at hl 2 rfl) ?_
        refine lv_iload_n hx hb dX7_readsJoint_79 rfl (lv_at hl 0 rfl) ?_
        obtain ⟨t16, z17, ht16, hf⟩ := ob2 hf
        refine m_X7_161 (r := t16) (σ' := z17) F hh (c_X7_joins ht16) in_122 sh_122 rfl hl (Nat.le_of_ble_eq_true rfl) dX7_readsJoint_80 (fun H locs hh => ?_)
        refine lv_if_lt (tgt := 90) hx hb dX7_readsJoint_83 (by decide) (fun c18 => ?_) (fun c18 => ?_)
        · replace hf := itp c18 hf
          refine lv_iconst (v := 0) hx hb dX7_readsJoint_90 (by decide) ?_
          exact g_zretW F hr hlk rfl hh hf dX7_readsJoint_91
        · replace hf := itn c18 hf
          refine lv_iconst (v := 1) hx hb dX7_readsJoint_86 (by decide) ?_
          refine lv_goto (tgt := 91) hx hb dX7_readsJoint_87 (by decide) ?_
          exact g_zretW F hr hlk rfl hh hf dX7_readsJoint_91
      · replace hf := itn c14 hf
        refine lv_iconst (v := 0) hx hb dX7_readsJoint_65 (by decide) ?_
        exact g_zretW F hr hlk rfl hh hf dX7_readsJoint_66
set_option maxRecDepth 100000 in
set_option maxHeartbeats 4000000 in
theorem w_X7_readsJoint {Z : Int32 × Sto} (F : Fx rM p s m args cd cX7_readsJoint 3 RX7 G) (hr : meth.sig.returnType = (some .boolean)) (hlk : meth.locks = false)  {z : Sto} {H : Heap} {locs : List Loc} {ls : Array Slot} (hf : f_X7_readsJoint  z = some Z) (hh : Hh rM G z s H locs) (hl : lv_has ls 3 [(0, .ref (G.1 122))]) : W p l e rmX7_readsJoint s m args below meth cd H locs 0 0 (MQ below (QI rM G Z.1 Z.2) args s 0 0 (Am rM G)) (F0 m 0 ls []) := by
  have hx := F.1
  have hb := F.2.1
  unfold f_X7_readsJoint at hf
  refine lv_aload_n hx hb dX7_readsJoint_0 rfl (lv_at hl 0 rfl) ?_
  refine r_X7_7 (b' := 123) F hh in_122 sh_122 rfl dX7_readsJoint_1 ?_
  refine lv_iconst (v := 0) hx hb dX7_readsJoint_4 (by decide) ?_
  obtain ⟨t1, ht1, hf⟩ := ob hf
  refine g_iald F hh in_123 sh_123 ht1 dX7_readsJoint_5 ?_
  refine lv_bipush (v := 6) hx hb dX7_readsJoint_6 (by decide) ?_
  refine lv_icmp_ne (tgt := 18) hx hb dX7_readsJoint_8 (by decide) (fun c2 => ?_) (fun c2 => ?_)
  · replace hf := itn c2 hf
    refine lv_aload_n hx hb dX7_readsJoint_18 rfl (lv_at hl 0 rfl) ?_
    refine lv_iconst (v := 5) hx hb dX7_readsJoint_19 (by decide) ?_
    obtain ⟨t3, z4, ht3, hf⟩ := ob2 hf
    refine m_X7_313 (r := t3) (σ' := z4) F hh (c_X7_figure ht3) in_122 sh_122 rfl hl (Nat.le_of_ble_eq_true rfl) dX7_readsJoint_20 (fun H locs hh => ?_)
    refine lv_istore_n (lv' := [(1, .int t3), (0, .ref (G.1 122))]) hx hb dX7_readsJoint_23 rfl hl (by decide) rfl (fun ls hl => ?_)
    refine lv_iload_n hx hb dX7_readsJoint_24 rfl (lv_at hl 0 rfl) ?_
    refine lv_if_ge (tgt := 32) hx hb dX7_readsJoint_25 (by decide) (fun c5 => ?_) (fun c5 => ?_)
    · replace hf := itp c5 hf
      refine lv_aload_n hx hb dX7_readsJoint_32 rfl (lv_at hl 1 rfl) ?_
      obtain ⟨t6, z7, ht6, hf⟩ := ob2 hf
      refine m_X7_310 (r := t6) (σ' := z7) F hh (c_X7_here ht6) in_122 sh_122 rfl hl (Nat.le_of_ble_eq_true rfl) dX7_readsJoint_33 (fun H locs hh => ?_)
      refine lv_bipush (v := 48) hx hb dX7_readsJoint_36 (by decide) ?_
      refine lv_isub hx hb dX7_readsJoint_38 ?_
      exact w_X7_readsJoint_39 F hr hlk hf  hh (lv_sub hl [1, 0] rfl)
    · replace hf := itn c5 hf
      refine lv_iconst (v := 0) hx hb dX7_readsJoint_28 (by decide) ?_
      refine lv_goto (tgt := 39) hx hb dX7_readsJoint_29 (by decide) ?_
      exact w_X7_readsJoint_39 F hr hlk hf  hh (lv_sub hl [1, 0] rfl)
  · replace hf := itp c2 hf
    refine lv_aload_n hx hb dX7_readsJoint_11 rfl (lv_at hl 0 rfl) ?_
    obtain ⟨t8, z9, ht8, hf⟩ := ob2 hf
    refine m_X7_310 (r := t8) (σ' := z9) F hh (c_X7_here ht8) in_122 sh_122 rfl hl (Nat.le_of_ble_eq_true rfl) dX7_readsJoint_12 (fun H locs hh => ?_)
    refine lv_pop hx hb dX7_readsJoint_15 rfl ?_
    refine lv_iconst (v := 0) hx hb dX7_readsJoint_16 (by decide) ?_
    exact g_zretW F hr hlk rfl hh hf dX7_readsJoint_17
theorem c_X7_readsJoint {l : Launch} {G : Gm}  {z : Sto} {Z : Int32 × Sto} (hf : f_X7_readsJoint  z = some Z) : Met l yX7_readsJoint (Cond.code yX7_readsJoint cX7_readsJoint 3 (some .boolean) :: TT) rmX7_readsJoint (va_Pc [.ref (G.1 122)] (GS rM G z)) (QI rM G Z.1 Z.2) 0 0 (Am rM G) := by
  refine g_met [(0, .ref (G.1 122))] (by decide) (Nat.le_of_ble_eq_true rfl) rfl ?_
  intro p e s m below meth cd F hr hlk ls H locs hl hh
  exact w_X7_readsJoint F hr hlk hf hh hl
def j_X7_readsBar_46  (x1 : Int32) (k0 : Int32) (z : Sto) : Option (Int32 × Sto) := if x1 < 0 then (some ((0 : Int32), z)) else (bd2 (f_X7_adds x1 k0 z) fun t12 z13 => if 0 ≤ t12 then (lt (upI z13 122 26 ((z13.1 122 26) + (1 : Int32))) fun z15 => some ((1 : Int32), z15)) else (some ((0 : Int32), z13)))
def f_X7_readsBar  (z : Sto) : Option (Int32 × Sto) := bd (rdI z 123 42 (1 : Int32)) fun t1 => if t1 = (9 : Int32) then (bd2 (f_X7_here z) fun t9 z10 => some ((0 : Int32), z10)) else (bd (rdI z 123 42 (0 : Int32)) fun t3 => bd2 (f_X7_figure ((t3 - (1 : Int32))) z) fun t4 z5 => if 0 ≤ t4 then (bd2 (f_X7_here z5) fun t7 z8 => j_X7_readsBar_46 t4 ((t7 - (48 : Int32))) z8) else (j_X7_readsBar_46 t4 (0 : Int32) z5))
set_option maxRecDepth 100000 in
set_option maxHeartbeats 4000000 in
theorem w_X7_readsBar_46  {Z : Int32 × Sto} (F : Fx rM p s m args cd cX7_readsBar 3 RX7 G) (hr : meth.sig.returnType = (some .boolean)) (hlk : meth.locks = false)  {x1 : Int32} {k0 : Int32} {z : Sto} {H : Heap} {locs : List Loc} {ls : Array Slot} (hf : j_X7_readsBar_46 x1 k0 z = some Z) (hh : Hh rM G z s H locs) (hl : lv_has ls 3 [(0, .ref (G.1 122)), (1, .int x1)]) : W p l e rmX7_readsBar s m args below meth cd H locs 0 0 (MQ below (QI rM G Z.1 Z.2) args s 0 0 (Am rM G)) (F0 m 46 ls [.int k0]) := by
  have hx := F.1
  have hb := F.2.1
  unfold j_X7_readsBar_46 at hf
  refine lv_istore_n (lv' := [(2, .int k0), (0, .ref (G.1 122)), (1, .int x1)]) hx hb dX7_readsBar_46 rfl hl (by decide) rfl (fun ls hl => ?_)
  refine lv_iload_n hx hb dX7_readsBar_47 rfl (lv_at hl 2 rfl) ?_
  refine lv_if_lt (tgt := 60) hx hb dX7_readsBar_48 (by decide) (fun c11 => ?_) (fun c11 => ?_)
  · replace hf := itp c11 hf
    refine lv_iconst (v := 0) hx hb dX7_readsBar_60 (by decide) ?_
    exact g_zretW F hr hlk rfl hh hf dX7_readsBar_61
  · replace hf := itn c11 hf
    refine lv_aload_n hx hb dX7_readsBar_51 rfl (lv_at hl 1 rfl) ?_
    refine lv_iload_n hx hb dX7_readsBar_52 rfl (lv_at hl 2 rfl) ?_
    refine lv_iload_n hx hb dX7_readsBar_53 rfl (lv_at hl 0 rfl) ?_
    obtain ⟨t12, z13, ht12, hf⟩ := ob2 hf
    refine m_X7_164 (r := t12) (σ' := z13) F hh (c_X7_adds ht12) in_122 sh_122 rfl hl (Nat.le_of_ble_eq_true rfl) dX7_readsBar_54 (fun H locs hh => ?_)
    refine lv_if_ge (tgt := 62) hx hb dX7_readsBar_57 (by decide) (fun c14 => ?_) (fun c14 => ?_)
    · replace hf := itp c14 hf
      refine lv_aload_n hx hb dX7_readsBar_62 rfl (lv_at hl 1 rfl) ?_
      refine lv_dup hx hb dX7_readsBar_63 rfl ?_
      refine r_X7_307 F hh in_122 sh_122 dX7_readsBar_64 ?_
      refine lv_iconst (v := 1) hx hb dX7_readsBar_67 (by decide) ?_
      refine lv_iadd hx hb dX7_readsBar_68 ?_
      refine s_X7_307 F hh in_122 sh_122 dX7_readsBar_69 (fun z15 ez15 H locs hh => ?_)
      replace hf := lt_e ez15 hf
      refine lv_iconst (v := 1) hx hb dX7_readsBar_72 (by decide) ?_
      exact g_zretW F hr hlk rfl hh hf dX7_readsBar_73
    · replace hf := itn c14 hf
      refine lv_iconst (v := 0) hx hb dX7_readsBar_60 (by decide) ?_
      exact g_zretW F hr hlk rfl hh hf dX7_readsBar_61
set_option maxRecDepth 100000 in
set_option maxHeartbeats 4000000 in
theorem w_X7_readsBar {Z : Int32 × Sto} (F : Fx rM p s m args cd cX7_readsBar 3 RX7 G) (hr : meth.sig.returnType = (some .boolean)) (hlk : meth.locks = false)  {z : Sto} {H : Heap} {locs : List Loc} {ls : Array Slot} (hf : f_X7_readsBar  z = some Z) (hh : Hh rM G z s H locs) (hl : lv_has ls 3 [(0, .ref (G.1 122))]) : W p l e rmX7_readsBar s m args below meth cd H locs 0 0 (MQ below (QI rM G Z.1 Z.2) args s 0 0 (Am rM G)) (F0 m 0 ls []) := by
  have hx := F.1
  have hb := F.2.1
  unfold f_X7_readsBar at hf
  refine lv_aload_n hx hb dX7_readsBar_0 rfl (lv_at hl 0 rfl) ?_
  refine r_X7_7 (b' := 123) F hh in_122 sh_122 rfl dX7_readsBar_1 ?_
  refine lv_iconst (v := 1) hx hb dX7_readsBar_4 (by decide) ?_
  obtain ⟨t1, ht1, hf⟩ := ob hf
  refine g_iald F hh in_123 sh_123 ht1 dX7_readsBar_5 ?_
  refine lv_bipush (v := 9) hx hb dX7_readsBar_6 (by decide) ?_
  refine lv_icmp_ne (tgt := 18) hx hb dX7_readsBar_8 (by decide) (fun c2 => ?_) (fun c2 => ?_)
  · replace hf := itn c2 hf
    refine lv_aload_n hx hb dX7_readsBar_18 rfl (lv_at hl 0 rfl) ?_
    refine lv_aload_n hx hb dX7_readsBar_19 rfl (lv_at hl 0 rfl) ?_
    refine r_X7_7 (b' := 123) F hh in_122 sh_122 rfl dX7_readsBar_20 ?_
    refine lv_iconst (v := 0) hx hb dX7_readsBar_23 (by decide) ?_
    obtain ⟨t3, ht3, hf⟩ := ob hf
    refine g_iald F hh in_123 sh_123 ht3 dX7_readsBar_24 ?_
    refine lv_iconst (v := 1) hx hb dX7_readsBar_25 (by decide) ?_
    refine lv_isub hx hb dX7_readsBar_26 ?_
    obtain ⟨t4, z5, ht4, hf⟩ := ob2 hf
    refine m_X7_313 (r := t4) (σ' := z5) F hh (c_X7_figure ht4) in_122 sh_122 rfl hl (Nat.le_of_ble_eq_true rfl) dX7_readsBar_27 (fun H locs hh => ?_)
    refine lv_istore_n (lv' := [(1, .int t4), (0, .ref (G.1 122))]) hx hb dX7_readsBar_30 rfl hl (by decide) rfl (fun ls hl => ?_)
    refine lv_iload_n hx hb dX7_readsBar_31 rfl (lv_at hl 0 rfl) ?_
    refine lv_if_ge (tgt := 39) hx hb dX7_readsBar_32 (by decide) (fun c6 => ?_) (fun c6 => ?_)
    · replace hf := itp c6 hf
      refine lv_aload_n hx hb dX7_readsBar_39 rfl (lv_at hl 1 rfl) ?_
      obtain ⟨t7, z8, ht7, hf⟩ := ob2 hf
      refine m_X7_310 (r := t7) (σ' := z8) F hh (c_X7_here ht7) in_122 sh_122 rfl hl (Nat.le_of_ble_eq_true rfl) dX7_readsBar_40 (fun H locs hh => ?_)
      refine lv_bipush (v := 48) hx hb dX7_readsBar_43 (by decide) ?_
      refine lv_isub hx hb dX7_readsBar_45 ?_
      exact w_X7_readsBar_46 F hr hlk hf  hh (lv_sub hl [1, 0] rfl)
    · replace hf := itn c6 hf
      refine lv_iconst (v := 0) hx hb dX7_readsBar_35 (by decide) ?_
      refine lv_goto (tgt := 46) hx hb dX7_readsBar_36 (by decide) ?_
      exact w_X7_readsBar_46 F hr hlk hf  hh (lv_sub hl [1, 0] rfl)
  · replace hf := itp c2 hf
    refine lv_aload_n hx hb dX7_readsBar_11 rfl (lv_at hl 0 rfl) ?_
    obtain ⟨t9, z10, ht9, hf⟩ := ob2 hf
    refine m_X7_310 (r := t9) (σ' := z10) F hh (c_X7_here ht9) in_122 sh_122 rfl hl (Nat.le_of_ble_eq_true rfl) dX7_readsBar_12 (fun H locs hh => ?_)
    refine lv_pop hx hb dX7_readsBar_15 rfl ?_
    refine lv_iconst (v := 0) hx hb dX7_readsBar_16 (by decide) ?_
    exact g_zretW F hr hlk rfl hh hf dX7_readsBar_17
theorem c_X7_readsBar {l : Launch} {G : Gm}  {z : Sto} {Z : Int32 × Sto} (hf : f_X7_readsBar  z = some Z) : Met l yX7_readsBar (Cond.code yX7_readsBar cX7_readsBar 3 (some .boolean) :: TT) rmX7_readsBar (va_Pc [.ref (G.1 122)] (GS rM G z)) (QI rM G Z.1 Z.2) 0 0 (Am rM G) := by
  refine g_met [(0, .ref (G.1 122))] (by decide) (Nat.le_of_ble_eq_true rfl) rfl ?_
  intro p e s m below meth cd F hr hlk ls H locs hl hh
  exact w_X7_readsBar F hr hlk hf hh hl
