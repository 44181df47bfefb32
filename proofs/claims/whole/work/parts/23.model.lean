variable {p : Program} {l : Launch} {e : Env} {s : State} {m : MethodId} {args : Array Value} {below : List Frame} {meth : Method} {cd : Code} {G : Gm}

def j_X7_readsAll_29 (ag2 : Int32 → Sto → Option (Int32 × Sto)) (k0 : Int32) (z : Sto) : Option (Int32 × Sto) := if k0 = 0 then (lt (upI z 122 26 ((z.1 122 26) + (0 : Int32))) fun z23 => ag2 k0 z23) else (lt (upI z 122 26 ((z.1 122 26) + (1 : Int32))) fun z24 => ag2 k0 z24)
def b_X7_readsAll_66  (ag66 : Int32 → Sto → Option (Int32 × Sto)) (x1 : Int32) (z : Sto) : Option (Int32 × Sto) := if x1 = 0 then (bd2 (f_X7_here z) fun t12 z13 => if t12 = 0 then (some ((1 : Int32), z13)) else (some ((0 : Int32), z13))) else (lt (upI z 122 26 ((z.1 122 26) + (1 : Int32))) fun z15 => bd2 (f_X7_readsBar z15) fun t16 z17 => if t16 = 0 then (some ((0 : Int32), z17)) else (bd2 (f_X7_here z17) fun t19 z20 => if t19 = (44 : Int32) then (ag66 (1 : Int32) z20) else (ag66 (0 : Int32) z20)))
def b_X7_readsAll_2  (ag2 : Int32 → Sto → Option (Int32 × Sto)) (x1 : Int32) (z : Sto) : Option (Int32 × Sto) := if x1 = 0 then (bd2 (f_X7_here z) fun t2 z3 => if t2 = (59 : Int32) then (wl2 (b_X7_readsAll_66) fu (1 : Int32) z3) else (wl2 (b_X7_readsAll_66) fu (0 : Int32) z3)) else (bd2 (f_X7_readsJoint z) fun t5 z6 => if t5 = 0 then (some ((0 : Int32), z6)) else (bd2 (f_X7_here z6) fun t8 z9 => if t8 = (44 : Int32) then (j_X7_readsAll_29 ag2 (1 : Int32) z9) else (j_X7_readsAll_29 ag2 (0 : Int32) z9)))
def f_X7_readsAll  (z : Sto) : Option (Int32 × Sto) := wl2 (b_X7_readsAll_2) fu (1 : Int32) z
set_option maxRecDepth 100000 in
set_option maxHeartbeats 4000000 in
theorem w_X7_readsAll_29 {ag2 : Int32 → Sto → Option (Int32 × Sto)} {Z : Int32 × Sto} (F : Fx rM p s m args cd cX7_readsAll 2 RX7 G) (hr : meth.sig.returnType = (some .boolean)) (hlk : meth.locks = false) (hag2 : ∀ (x1 : Int32) (z : Sto), ag2 x1 z = some Z → ∀ {H : Heap} {locs : List Loc} {ls : Array Slot}, Hh rM G z s H locs → lv_has ls 2 [(0, .ref (G.1 122)), (1, .int x1)] → W p l e rmX7_readsAll s m args below meth cd H locs 0 0 (MQ below (QI rM G Z.1 Z.2) args s 0 0 (Am rM G)) (F0 m 2 ls [])) {k0 : Int32} {z : Sto} {H : Heap} {locs : List Loc} {ls : Array Slot} (hf : j_X7_readsAll_29 ag2 k0 z = some Z) (hh : Hh rM G z s H locs) (hl : lv_has ls 2 [(0, .ref (G.1 122))]) : W p l e rmX7_readsAll s m args below meth cd H locs 0 0 (MQ below (QI rM G Z.1 Z.2) args s 0 0 (Am rM G)) (F0 m 29 ls [.int k0]) := by
  have hx := F.1
  have hb := F.2.1
  unfold j_X7_readsAll_29 at hf
  refine lv_istore_n (lv' := [(1, .int k0), (0, .ref (G.1 122))]) hx hb dX7_readsAll_29 rfl hl (by decide) rfl (fun ls hl => ?_)
  refine lv_aload_n hx hb dX7_readsAll_30 rfl (lv_at hl 1 rfl) ?_
  refine lv_dup hx hb dX7_readsAll_31 rfl ?_
  refine r_X7_307 F hh in_122 sh_122 dX7_readsAll_32 ?_
  refine lv_iload_n hx hb dX7_readsAll_35 rfl (lv_at hl 0 rfl) ?_
  refine lv_if_eq (tgt := 43) hx hb dX7_readsAll_36 (by decide) (fun c22 => ?_) (fun c22 => ?_)
  · replace hf := itp c22 hf
    refine lv_iconst (v := 0) hx hb dX7_readsAll_43 (by decide) ?_
    refine lv_iadd hx hb dX7_readsAll_44 ?_
    refine s_X7_307 F hh in_122 sh_122 dX7_readsAll_45 (fun z23 ez23 H locs hh => ?_)
    replace hf := lt_e ez23 hf
    refine lv_goto (tgt := 2) hx hb dX7_readsAll_48 (by decide) ?_
    exact hag2 _ _ hf  hh (lv_sub hl [1, 0] rfl)
  · replace hf := itn c22 hf
    refine lv_iconst (v := 1) hx hb dX7_readsAll_39 (by decide) ?_
    refine lv_goto (tgt := 44) hx hb dX7_readsAll_40 (by decide) ?_
    refine lv_iadd hx hb dX7_readsAll_44 ?_
    refine s_X7_307 F hh in_122 sh_122 dX7_readsAll_45 (fun z24 ez24 H locs hh => ?_)
    replace hf := lt_e ez24 hf
    refine lv_goto (tgt := 2) hx hb dX7_readsAll_48 (by decide) ?_
    exact hag2 _ _ hf  hh (lv_sub hl [1, 0] rfl)
set_option maxRecDepth 100000 in
set_option maxHeartbeats 4000000 in
theorem w_X7_readsAll_66  {Z : Int32 × Sto} (F : Fx rM p s m args cd cX7_readsAll 2 RX7 G) (hr : meth.sig.returnType = (some .boolean)) (hlk : meth.locks = false)  : ∀ (n : Nat), ∀ (x1 : Int32) (z : Sto), wl2 (b_X7_readsAll_66) n x1 z = some Z → ∀ {H : Heap} {locs : List Loc} {ls : Array Slot}, Hh rM G z s H locs → lv_has ls 2 [(0, .ref (G.1 122)), (1, .int x1)] → W p l e rmX7_readsAll s m args below meth cd H locs 0 0 (MQ below (QI rM G Z.1 Z.2) args s 0 0 (Am rM G)) (F0 m 66 ls []) := by
  have hx := F.1
  have hb := F.2.1
  intro n
  induction n with
  | zero =>
    intro x1 z hf
    exact absurd hf (by intro h; cases h)
  | succ n ih =>
    intro x1 z hf  H locs ls hh hl
    replace hf : b_X7_readsAll_66 (wl2 (b_X7_readsAll_66) n) x1 z = some Z := hf
    unfold b_X7_readsAll_66 at hf
    refine lv_iload_n hx hb dX7_readsAll_66 rfl (lv_at hl 1 rfl) ?_
    refine lv_if_eq (tgt := 107) hx hb dX7_readsAll_67 (by decide) (fun c11 => ?_) (fun c11 => ?_)
    · replace hf := itp c11 hf
      refine lv_aload_n hx hb dX7_readsAll_107 rfl (lv_at hl 0 rfl) ?_
      obtain ⟨t12, z13, ht12, hf⟩ := ob2 hf
      refine m_X7_310 (r := t12) (σ' := z13) F hh (c_X7_here ht12) in_122 sh_122 rfl hl (Nat.le_of_ble_eq_true rfl) dX7_readsAll_108 (fun H locs hh => ?_)
      refine lv_if_ne (tgt := 118) hx hb dX7_readsAll_111 (by decide) (fun c14 => ?_) (fun c14 => ?_)
      · replace hf := itn c14 hf
        refine lv_iconst (v := 0) hx hb dX7_readsAll_118 (by decide) ?_
        exact g_zretW F hr hlk rfl hh hf dX7_readsAll_119
      · replace hf := itp c14 hf
        refine lv_iconst (v := 1) hx hb dX7_readsAll_114 (by decide) ?_
        refine lv_goto (tgt := 119) hx hb dX7_readsAll_115 (by decide) ?_
        exact g_zretW F hr hlk rfl hh hf dX7_readsAll_119
    · replace hf := itn c11 hf
      refine lv_aload_n hx hb dX7_readsAll_70 rfl (lv_at hl 0 rfl) ?_
      refine lv_dup hx hb dX7_readsAll_71 rfl ?_
      refine r_X7_307 F hh in_122 sh_122 dX7_readsAll_72 ?_
      refine lv_iconst (v := 1) hx hb dX7_readsAll_75 (by decide) ?_
      refine lv_iadd hx hb dX7_readsAll_76 ?_
      refine s_X7_307 F hh in_122 sh_122 dX7_readsAll_77 (fun z15 ez15 H locs hh => ?_)
      replace hf := lt_e ez15 hf
      refine lv_aload_n hx hb dX7_readsAll_80 rfl (lv_at hl 0 rfl) ?_
      obtain ⟨t16, z17, ht16, hf⟩ := ob2 hf
      refine m_X7_319 (r := t16) (σ' := z17) F hh (c_X7_readsBar ht16) in_122 sh_122 rfl hl (Nat.le_of_ble_eq_true rfl) dX7_readsAll_81 (fun H locs hh => ?_)
      refine lv_if_ne (tgt := 89) hx hb dX7_readsAll_84 (by decide) (fun c18 => ?_) (fun c18 => ?_)
      · replace hf := itn c18 hf
        refine lv_aload_n hx hb dX7_readsAll_89 rfl (lv_at hl 0 rfl) ?_
        obtain ⟨t19, z20, ht19, hf⟩ := ob2 hf
        refine m_X7_310 (r := t19) (σ' := z20) F hh (c_X7_here ht19) in_122 sh_122 rfl hl (Nat.le_of_ble_eq_true rfl) dX7_readsAll_90 (fun H locs hh => ?_)
        refine lv_bipush (v := 44) hx hb dX7_readsAll_93 (by decide) ?_
        refine lv_icmp_ne (tgt := 102) hx hb dX7_readsAll_95 (by decide) (fun c21 => ?_) (fun c21 => ?_)
        · replace hf := itn c21 hf
          refine lv_iconst (v := 0) hx hb dX7_readsAll_102 (by decide) ?_
          refine lv_istore_n (lv' := [(1, .int (0 : Int32)), (0, .ref (G.1 122))]) hx hb dX7_readsAll_103 rfl hl (by decide) rfl (fun ls hl => ?_)
          refine lv_goto (tgt := 66) hx hb dX7_readsAll_104 (by decide) ?_
          exact ih _ _ hf  hh (lv_sub hl [1, 0] rfl)
        · replace hf := itp c21 hf
          refine lv_iconst (v := 1) hx hb dX7_readsAll_98 (by decide) ?_
          refine lv_goto (tgt := 103) hx hb dX7_readsAll_99 (by decide) ?_
          refine lv_istore_n (lv' := [(1, .int (1 : Int32)), (0, .ref (G.1 122))]) hx hb dX7_readsAll_103 rfl hl (by decide) rfl (fun ls hl => ?_)
          refine lv_goto (tgt := 66) hx hb dX7_readsAll_104 (by decide) ?_
          exact ih _ _ hf  hh (lv_sub hl [1, 0] rfl)
      · replace hf := itp c18 hf
        refine lv_iconst (v := 0) hx hb dX7_readsAll_87 (by decide) ?_
        exact g_zretW F hr hlk rfl hh hf dX7_readsAll_88
set_option maxRecDepth 100000 in
set_option maxHeartbeats 4000000 in
theorem w_X7_readsAll_2  {Z : Int32 × Sto} (F : Fx rM p s m args cd cX7_readsAll 2 RX7 G) (hr : meth.sig.returnType = (some .boolean)) (hlk : meth.locks = false)  : ∀ (n : Nat), ∀ (x1 : Int32) (z : Sto), wl2 (b_X7_readsAll_2) n x1 z = some Z → ∀ {H : Heap} {locs : List Loc} {ls : Array Slot}, Hh rM G z s H locs → lv_has ls 2 [(0, .ref (G.1 122)), (1, .int x1)] → W p l e rmX7_readsAll s m args below meth cd H locs 0 0 (MQ below (QI rM G Z.1 Z.2) args s 0 0 (Am rM G)) (F0 m 2 ls []) := by
  have hx := F.1
  have hb := F.2.1
  intro n
  induction n with
  | zero =>
    intro x1 z hf
    exact absurd hf (by intro h; cases h)
  | succ n ih =>
    intro x1 z hf  H locs ls hh hl
    replace hf : b_X7_readsAll_2 (wl2 (b_X7_readsAll_2) n) x1 z = some Z := hf
    unfold b_X7_readsAll_2 at hf
    refine lv_iload_n hx hb dX7_readsAll_2 rfl (lv_at hl 1 rfl) ?_
    refine lv_if_eq (tgt := 51) hx hb dX7_readsAll_3 (by decide) (fun c1 => ?_) (fun c1 => ?_)
    · replace hf := itp c1 hf
      refine lv_aload_n hx hb dX7_readsAll_51 rfl (lv_at hl 0 rfl) ?_
      obtain ⟨t2, z3, ht2, hf⟩ := ob2 hf
      refine m_X7_310 (r := t2) (σ' := z3) F hh (c_X7_here ht2) in_122 sh_122 rfl hl (Nat.le_of_ble_eq_true rfl) dX7_readsAll_52 (fun H locs hh => ?_)
      refine lv_bipush (v := 59) hx hb dX7_readsAll_55 (by decide) ?_
      refine lv_icmp_ne (tgt := 64) hx hb dX7_readsAll_57 (by decide) (fun c4 => ?_) (fun c4 => ?_)
      · replace hf := itn c4 hf
        refine lv_iconst (v := 0) hx hb dX7_readsAll_64 (by decide) ?_
        refine lv_istore_n (lv' := [(1, .int (0 : Int32)), (0, .ref (G.1 122))]) hx hb dX7_readsAll_65 rfl hl (by decide) rfl (fun ls hl => ?_)
        exact w_X7_readsAll_66 F hr hlk fu _ _ hf  hh (lv_sub hl [1, 0] rfl)
      · replace hf := itp c4 hf
        refine lv_iconst (v := 1) hx hb dX7_readsAll_60 (by decide) ?_
        refine lv_goto (tgt := 65) hx hb dX7_readsAll_61 (by decide) ?_
        refine lv_istore_n (lv' := [(1, .int (1 : Int32)), (0, .ref (G.1 122))]) hx hb dX7_readsAll_65 rfl hl (by decide) rfl (fun ls hl => ?_)
        exact w_X7_readsAll_66 F hr hlk fu _ _ hf  hh (lv_sub hl [1, 0] rfl)
    · replace hf := itn c1 hf
      refine lv_aload_n hx hb dX7_readsAll_6 rfl (lv_at hl 0 rfl) ?_
      obtain ⟨t5, z6, ht5, hf⟩ := ob2 hf
      refine m_X7_316 (r := t5) (σ' := z6) F hh (c_X7_readsJoint ht5) in_122 sh_122 rfl hl (Nat.le_of_ble_eq_true rfl) dX7_readsAll_7 (fun H locs hh => ?_)
      refine lv_if_ne (tgt := 15) hx hb dX7_readsAll_10 (by decide) (fun c7 => ?_) (fun c7 => ?_)
      · replace hf := itn c7 hf
        refine lv_aload_n hx hb dX7_readsAll_15 rfl (lv_at hl 0 rfl) ?_
        obtain ⟨t8, z9, ht8, hf⟩ := ob2 hf
        refine m_X7_310 (r := t8) (σ' := z9) F hh (c_X7_here ht8) in_122 sh_122 rfl hl (Nat.le_of_ble_eq_true rfl) dX7_readsAll_16 (fun H locs hh => ?_)
        refine lv_bipush (v := 44) hx hb dX7_readsAll_19 (by decide) ?_
        refine lv_icmp_ne (tgt := 28) hx hb dX7_readsAll_21 (by decide) (fun c10 => ?_) (fun c10 => ?_)
        · replace hf := itn c10 hf
          refine lv_iconst (v := 0) hx hb dX7_readsAll_28 (by decide) ?_
          exact w_X7_readsAll_29 F hr hlk ih hf  hh (lv_sub hl [0] rfl)
        · replace hf := itp c10 hf
          refine lv_iconst (v := 1) hx hb dX7_readsAll_24 (by decide) ?_
          refine lv_goto (tgt := 29) hx hb dX7_readsAll_25 (by decide) ?_
          exact w_X7_readsAll_29 F hr hlk ih hf  hh (lv_sub hl [0] rfl)
      · replace hf := itp c7 hf
        refine lv_iconst (v := 0) hx hb dX7_readsAll_13 (by decide) ?_
        exact g_zretW F hr hlk rfl hh hf dX7_readsAll_14
set_option maxRecDepth 100000 in
set_option maxHeartbeats 4000000 in
theorem w_X7_readsAll {Z : Int32 × Sto} (F : Fx rM p s m args cd cX7_readsAll 2 RX7 G) (hr : meth.sig.returnType = (some .boolean)) (hlk : meth.locks = false)  {z : Sto} {H : Heap} {locs : List Loc} {ls : Array Slot} (hf : f_X7_readsAll  z = some Z) (hh : Hh rM G z s H locs) (hl : lv_has ls 2 [(0, .ref (G.1 122))]) : W p l e rmX7_readsAll s m args below meth cd H locs 0 0 (MQ below (QI rM G Z.1 Z.2) args s 0 0 (Am rM G)) (F0 m 0 ls []) := by
  have hx := F.1
  have hb := F.2.1
  unfold f_X7_readsAll at hf
  refine lv_iconst (v := 1) hx hb dX7_readsAll_0 (by decide) ?_
  refine lv_istore_n (lv' := [(1, .int (1 : Int32)), (0, .ref (G.1 122))]) hx hb dX7_readsAll_1 rfl hl (by decide) rfl (fun ls hl => ?_)
  exact w_X7_readsAll_2 F hr hlk fu _ _ hf  hh (lv_sub hl [1, 0] rfl)
theorem c_X7_readsAll {l : Launch} {G : Gm}  {z : Sto} {Z : Int32 × Sto} (hf : f_X7_readsAll  z = some Z) : Met l yX7_readsAll (Cond.code yX7_readsAll cX7_readsAll 2 (some .boolean) :: TT) rmX7_readsAll (va_Pc [.ref (G.1 122)] (GS rM G z)) (QI rM G Z.1 Z.2) 0 0 (Am rM G) := by
  refine g_met [(0, .ref (G.1 122))] (by decide) (Nat.le_of_ble_eq_true rfl) rfl ?_
  intro p e s m below meth cd F hr hlk ls H locs hl hh
  exact w_X7_readsAll F hr hlk hf hh hl
def b_X7_read_78  (ag78 : Int32 → Int32 → Sto → Option (Int32 × Sto)) (x1 : Int32) (x2 : Int32) (z : Sto) : Option (Int32 × Sto) := if (42 : Int32) ≤ x2 then (if x1 = 0 then (some (((-20 : Int32) - (z.1 122 26)), z)) else (bd (f_X7_notes z) fun z19 => bd (f_X7_takesBack z19) fun z21 => bd (rdI z21 123 42 (1 : Int32)) fun t22 => some (t22, z21))) else (bd (rdI z 123 42 x2) fun t23 => bd (wrI z 132 42 x2 t23) fun z24 => bd (rdI z24 143 42 x2) fun t25 => bd (wrI z24 123 42 x2 t25) fun z26 => lt (x2 + (1 : Int32)) fun x2_27 => ag78 x1 x2_27 z26)
def b_X7_read_28  (ag28 : Int32 → Sto → Option (Int32 × Sto)) (x1 : Int32) (z : Sto) : Option (Int32 × Sto) := if (33 : Int32) ≤ x1 then (lt (upI z 122 26 (0 : Int32)) fun z6 => bd2 (f_X7_readsAll z6) fun t7 z8 => lt (upI z8 122 7 (0 : Int32)) fun z9 => wl3 (b_X7_read_78) fu t7 (0 : Int32) z9) else (if x1 = (2 : Int32) then (bd (rdI z 123 42 x1) fun t13 => bd (wrI z 123 42 x1 t13) fun z14 => lt (x1 + (1 : Int32)) fun x1_15 => ag28 x1_15 z14) else (bd (wrI z 123 42 x1 (0 : Int32)) fun z11 => lt (x1 + (1 : Int32)) fun x1_12 => ag28 x1_12 z11))
def b_X7_read_2  (ag2 : Int32 → Sto → Option (Int32 × Sto)) (x1 : Int32) (z : Sto) : Option (Int32 × Sto) := if (42 : Int32) ≤ x1 then (wl2 (b_X7_read_28) fu (0 : Int32) z) else (bd (rdI z 123 42 x1) fun t2 => bd (wrI z 143 42 x1 t2) fun z3 => lt (x1 + (1 : Int32)) fun x1_4 => ag2 x1_4 z3)
def f_X7_read  (z : Sto) : Option (Int32 × Sto) := wl2 (b_X7_read_2) fu (0 : Int32) z
set_option maxRecDepth 100000 in
set_option maxHeartbeats 4000000 in
theorem w_X7_read_78  {Z : Int32 × Sto} (F : Fx rM p s m args cd cX7_read 3 RX7 G) (hr : meth.sig.returnType = (some .int)) (hlk : meth.locks = false)  : ∀ (n : Nat), ∀ (x1 : Int32) (x2 : Int32) (z : Sto), wl3 (b_X7_read_78) n x1 x2 z = some Z → ∀ {H : Heap} {locs : List Loc} {ls : Array Slot}, Hh rM G z s H locs → lv_has ls 3 [(0, .ref (G.1 122)), (1, .int x1), (2, .int x2)] → W p l e rmX7_read s m args below meth cd H locs 0 0 (MQ below (QI rM G Z.1 Z.2) args s 0 0 (Am rM G)) (F0 m 78 ls []) := by
  have hx := F.1
  have hb := F.2.1
  intro n
  induction n with
  | zero =>
    intro x1 x2 z hf
    exact absurd hf (by intro h; cases h)
  | succ n ih =>
    intro x1 x2 z hf  H locs ls hh hl
    replace hf : b_X7_read_78 (wl3 (b_X7_read_78) n) x1 x2 z = some Z := hf
    unfold b_X7_read_78 at hf
    refine lv_iload_n hx hb dX7_read_78 rfl (lv_at hl 2 rfl) ?_
    refine lv_bipush (v := 42) hx hb dX7_read_79 (by decide) ?_
    refine lv_icmp_ge (tgt := 114) hx hb dX7_read_81 (by decide) (fun c16 => ?_) (fun c16 => ?_)
    · replace hf := itp c16 hf
      refine lv_iload_n hx hb dX7_read_114 rfl (lv_at hl 1 rfl) ?_
      refine lv_if_ne (tgt := 126) hx hb dX7_read_115 (by decide) (fun c17 => ?_) (fun c17 => ?_)
      · replace hf := itn c17 hf
        refine lv_aload_n hx hb dX7_read_126 rfl (lv_at hl 0 rfl) ?_
        obtain ⟨z19, ht18, hf⟩ := ob hf
        refine m_X7_183 F hh (c_X7_notes ht18) in_122 sh_122 rfl hl (Nat.le_of_ble_eq_true rfl) dX7_read_127 (fun H locs hh => ?_)
        refine lv_aload_n hx hb dX7_read_130 rfl (lv_at hl 0 rfl) ?_
        obtain ⟨z21, ht20, hf⟩ := ob hf
        refine m_X7_139 F hh (c_X7_takesBack ht20) in_122 sh_122 rfl hl (Nat.le_of_ble_eq_true rfl) dX7_read_131 (fun H locs hh => ?_)
        refine lv_aload_n hx hb dX7_read_134 rfl (lv_at hl 0 rfl) ?_
        refine r_X7_7 (b' := 123) F hh in_122 sh_122 rfl dX7_read_135 ?_
        refine lv_iconst (v := 1) hx hb dX7_read_138 (by decide) ?_
        obtain ⟨t22, ht22, hf⟩ := ob hf
        refine g_iald F hh in_123 sh_123 ht22 dX7_read_139 ?_
        exact g_iretW F hr hlk hh hf dX7_read_140
      · replace hf := itp c17 hf
        refine lv_bipush (v := -20) hx hb dX7_read_118 (by decide) ?_
        refine lv_aload_n hx hb dX7_read_120 rfl (lv_at hl 0 rfl) ?_
        refine r_X7_307 F hh in_122 sh_122 dX7_read_121 ?_
        refine lv_isub hx hb dX7_read_124 ?_
        exact g_iretW F hr hlk hh hf dX7_read_125
    · replace hf := itn c16 hf
      refine lv_aload_n hx hb dX7_read_84 rfl (lv_at hl 0 rfl) ?_
      refine r_X7_42 (b' := 132) F hh in_122 sh_122 rfl dX7_read_85 ?_
      refine lv_iload_n hx hb dX7_read_88 rfl (lv_at hl 2 rfl) ?_
      refine lv_aload_n hx hb dX7_read_89 rfl (lv_at hl 0 rfl) ?_
      refine r_X7_7 (b' := 123) F hh in_122 sh_122 rfl dX7_read_90 ?_
      refine lv_iload_n hx hb dX7_read_93 rfl (lv_at hl 2 rfl) ?_
      obtain ⟨t23, ht23, hf⟩ := ob hf
      refine g_iald F hh in_123 sh_123 ht23 dX7_read_94 ?_
      obtain ⟨z24, hz24, hf⟩ := ob hf
      refine g_iast F hh in_132 sh_132 hz24 dX7_read_95 (fun H locs hh => ?_)
      refine lv_aload_n hx hb dX7_read_96 rfl (lv_at hl 0 rfl) ?_
      refine r_X7_7 (b' := 123) F hh in_122 sh_122 rfl dX7_read_97 ?_
      refine lv_iload_n hx hb dX7_read_100 rfl (lv_at hl 2 rfl) ?_
      refine lv_aload_n hx hb dX7_read_101 rfl (lv_at hl 0 rfl) ?_
      refine r_X7_76 (b' := 143) F hh in_122 sh_122 rfl dX7_read_102 ?_
      refine lv_iload_n hx hb dX7_read_105 rfl (lv_at hl 2 rfl) ?_
      obtain ⟨t25, ht25, hf⟩ := ob hf
      refine g_iald F hh in_143 sh_143 ht25 dX7_read_106 ?_
      obtain ⟨z26, hz26, hf⟩ := ob hf
      refine g_iast F hh in_123 sh_123 hz26 dX7_read_107 (fun H locs hh => ?_)
      obtain ⟨x2_27, ex2_27⟩ : ∃ y : Int32, y = x2 + (1 : Int32) := ⟨_, rfl⟩
      replace hf := lt_e ex2_27 hf
      refine lv_iinc (v := x2_27) (lv' := [(2, .int x2_27), (0, .ref (G.1 122)), (1, .int x1)]) hx hb dX7_read_108 hl (k := 2) rfl (by rw [ex2_27]; rfl) (by decide) rfl (fun ls hl => ?_)
      refine lv_goto (tgt := 78) hx hb dX7_read_111 (by decide) ?_
      exact ih _ _ _ hf  hh (lv_sub hl [1, 2, 0] rfl)
set_option maxRecDepth 100000 in
set_option maxHeartbeats 4000000 in
theorem w_X7_read_28  {Z : Int32 × Sto} (F : Fx rM p s m args cd cX7_read 3 RX7 G) (hr : meth.sig.returnType = (some .int)) (hlk : meth.locks = false)  : ∀ (n : Nat), ∀ (x1 : Int32) (z : Sto), wl2 (b_X7_read_28) n x1 z = some Z → ∀ {H : Heap} {locs : List Loc} {ls : Array Slot}, Hh rM G z s H locs → lv_has ls 3 [(0, .ref (G.1 122)), (1, .int x1)] → W p l e rmX7_read s m args below meth cd H locs 0 0 (MQ below (QI rM G Z.1 Z.2) args s 0 0 (Am rM G)) (F0 m 28 ls []) := by
  have hx := F.1
  have hb := F.2.1
  intro n
  induction n with
  | zero =>
    intro x1 z hf
    exact absurd hf (by intro h; cases h)
  | succ n ih =>
    intro x1 z hf  H locs ls hh hl
    replace hf : b_X7_read_28 (wl2 (b_X7_read_28) n) x1 z = some Z := hf
    unfold b_X7_read_28 at hf
    refine lv_iload_n hx hb dX7_read_28 rfl (lv_at hl 1 rfl) ?_
    refine lv_bipush (v := 33) hx hb dX7_read_29 (by decide) ?_
    refine lv_icmp_ge (tgt := 61) hx hb dX7_read_31 (by decide) (fun c5 => ?_) (fun c5 => ?_)
    · replace hf := itp c5 hf
      refine lv_aload_n hx hb dX7_read_61 rfl (lv_at hl 0 rfl) ?_
      refine lv_iconst (v := 0) hx hb dX7_read_62 (by decide) ?_
      refine s_X7_307 F hh in_122 sh_122 dX7_read_63 (fun z6 ez6 H locs hh => ?_)
      replace hf := lt_e ez6 hf
      refine lv_aload_n hx hb dX7_read_66 rfl (lv_at hl 0 rfl) ?_
      obtain ⟨t7, z8, ht7, hf⟩ := ob2 hf
      refine m_X7_322 (r := t7) (σ' := z8) F hh (c_X7_readsAll ht7) in_122 sh_122 rfl hl (Nat.le_of_ble_eq_true rfl) dX7_read_67 (fun H locs hh => ?_)
      refine lv_istore_n (lv' := [(1, .int t7), (0, .ref (G.1 122))]) hx hb dX7_read_70 rfl hl (by decide) rfl (fun ls hl => ?_)
      refine lv_aload_n hx hb dX7_read_71 rfl (lv_at hl 1 rfl) ?_
      refine lv_iconst (v := 0) hx hb dX7_read_72 (by decide) ?_
      refine s_X7_304 F hh in_122 sh_122 dX7_read_73 (fun z9 ez9 H locs hh => ?_)
      replace hf := lt_e ez9 hf
      refine lv_iconst (v := 0) hx hb dX7_read_76 (by decide) ?_
      refine lv_istore_n (lv' := [(2, .int (0 : Int32)), (1, .int t7), (0, .ref (G.1 122))]) hx hb dX7_read_77 rfl hl (by decide) rfl (fun ls hl => ?_)
      exact w_X7_read_78 F hr hlk fu _ _ _ hf  hh (lv_sub hl [2, 1, 0] rfl)
    · replace hf := itn c5 hf
      refine lv_aload_n hx hb dX7_read_34 rfl (lv_at hl 0 rfl) ?_
      refine r_X7_7 (b' := 123) F hh in_122 sh_122 rfl dX7_read_35 ?_
      refine lv_iload_n hx hb dX7_read_38 rfl (lv_at hl 1 rfl) ?_
      refine lv_iload_n hx hb dX7_read_39 rfl (lv_at hl 1 rfl) ?_
      refine lv_iconst (v := 2) hx hb dX7_read_40 (by decide) ?_
      refine lv_icmp_ne (tgt := 53) hx hb dX7_read_41 (by decide) (fun c10 => ?_) (fun c10 => ?_)
      · replace hf := itn c10 hf
        refine lv_iconst (v := 0) hx hb dX7_read_53 (by decide) ?_
        obtain ⟨z11, hz11, hf⟩ := ob hf
        refine g_iast F hh in_123 sh_123 hz11 dX7_read_54 (fun H locs hh => ?_)
        obtain ⟨x1_12, ex1_12⟩ : ∃ y : Int32, y = x1 + (1 : Int32) := ⟨_, rfl⟩
        replace hf := lt_e ex1_12 hf
        refine lv_iinc (v := x1_12) (lv' := [(1, .int x1_12), (0, .ref (G.1 122))]) hx hb dX7_read_55 hl (k := 1) rfl (by rw [ex1_12]; rfl) (by decide) rfl (fun ls hl => ?_)
        refine lv_goto (tgt := 28) hx hb dX7_read_58 (by decide) ?_
        exact ih _ _ hf  hh (lv_sub hl [1, 0] rfl)
      · replace hf := itp c10 hf
        refine lv_aload_n hx hb dX7_read_44 rfl (lv_at hl 0 rfl) ?_
        refine r_X7_7 (b' := 123) F hh in_122 sh_122 rfl dX7_read_45 ?_
        refine lv_iload_n hx hb dX7_read_48 rfl (lv_at hl 1 rfl) ?_
        obtain ⟨t13, ht13, hf⟩ := ob hf
        refine g_iald F hh in_123 sh_123 ht13 dX7_read_49 ?_
        refine lv_goto (tgt := 54) hx hb dX7_read_50 (by decide) ?_
        obtain ⟨z14, hz14, hf⟩ := ob hf
        refine g_iast F hh in_123 sh_123 hz14 dX7_read_54 (fun H locs hh => ?_)
        obtain ⟨x1_15, ex1_15⟩ : ∃ y : Int32, y = x1 + (1 : Int32) := ⟨_, rfl⟩
        replace hf := lt_e ex1_15 hf
        refine lv_iinc (v := x1_15) (lv' := [(1, .int x1_15), (0, .ref (G.1 122))]) hx hb dX7_read_55 hl (k := 1) rfl (by rw [ex1_15]; rfl) (by decide) rfl (fun ls hl => ?_)
        refine lv_goto (tgt := 28) hx hb dX7_read_58 (by decide) ?_
        exact ih _ _ hf  hh (lv_sub hl [1, 0] rfl)
set_option maxRecDepth 100000 in
set_option maxHeartbeats 4000000 in
theorem w_X7_read_2  {Z : Int32 × Sto} (F : Fx rM p s m args cd cX7_read 3 RX7 G) (hr : meth.sig.returnType = (some .int)) (hlk : meth.locks = false)  : ∀ (n : Nat), ∀ (x1 : Int32) (z : Sto), wl2 (b_X7_read_2) n x1 z = some Z → ∀ {H : Heap} {locs : List Loc} {ls : Array Slot}, Hh rM G z s H locs → lv_has ls 3 [(0, .ref (G.1 122)), (1, .int x1)] → W p l e rmX7_read s m args below meth cd H locs 0 0 (MQ below (QI rM G Z.1 Z.2) args s 0 0 (Am rM G)) (F0 m 2 ls []) := by
  have hx := F.1
  have hb := F.2.1
  intro n
  induction n with
  | zero =>
    intro x1 z hf
    exact absurd hf (by intro h; cases h)
  | succ n ih =>
    intro x1 z hf  H locs ls hh hl
    replace hf : b_X7_read_2 (wl2 (b_X7_read_2) n) x1 z = some Z := hf
    unfold b_X7_read_2 at hf
    refine lv_iload_n hx hb dX7_read_2 rfl (lv_at hl 1 rfl) ?_
    refine lv_bipush (v := 42) hx hb dX7_read_3 (by decide) ?_
    refine lv_icmp_ge (tgt := 26) hx hb dX7_read_5 (by decide) (fun c1 => ?_) (fun c1 => ?_)
    · replace hf := itp c1 hf
      refine lv_iconst (v := 0) hx hb dX7_read_26 (by decide) ?_
      refine lv_istore_n (lv' := [(1, .int (0 : Int32)), (0, .ref (G.1 122))]) hx hb dX7_read_27 rfl hl (by decide) rfl (fun ls hl => ?_)
      exact w_X7_read_28 F hr hlk fu _ _ hf  hh (lv_sub hl [1, 0] rfl)
    · replace hf := itn c1 hf
      refine lv_aload_n hx hb dX7_read_8 rfl (lv_at hl 0 rfl) ?_
      refine r_X7_76 (b' := 143) F hh in_122 sh_122 rfl dX7_read_9 ?_
      refine lv_iload_n hx hb dX7_read_12 rfl (lv_at hl 1 rfl) ?_
      refine lv_aload_n hx hb dX7_read_13 rfl (lv_at hl 0 rfl) ?_
      refine r_X7_7 (b' := 123) F hh in_122 sh_122 rfl dX7_read_14 ?_
      refine lv_iload_n hx hb dX7_read_17 rfl (lv_at hl 1 rfl) ?_
      obtain ⟨t2, ht2, hf⟩ := ob hf
      refine g_iald F hh in_123 sh_123 ht2 dX7_read_18 ?_
      obtain ⟨z3, hz3, hf⟩ := ob hf
      refine g_iast F hh in_143 sh_143 hz3 dX7_read_19 (fun H locs hh => ?_)
      obtain ⟨x1_4, ex1_4⟩ : ∃ y : Int32, y = x1 + (1 : Int32) := ⟨_, rfl⟩
      replace hf := lt_e ex1_4 hf
      refine lv_iinc (v := x1_4) (lv' := [(1, .int x1_4), (0, .ref (G.1 122))]) hx hb dX7_read_20 hl (k := 1) rfl (by rw [ex1_4]; rfl) (by decide) rfl (fun ls hl => ?_)
      refine lv_goto (tgt := 2) hx hb dX7_read_23 (by decide) ?_
      exact ih _ _ hf  hh (lv_sub hl [1, 0] rfl)
set_option maxRecDepth 100000 in
set_option maxHeartbeats 4000000 in
theorem w_X7_read {Z : Int32 × Sto} (F : Fx rM p s m args cd cX7_read 3 RX7 G) (hr : meth.sig.returnType = (some .int)) (hlk : meth.locks = false)  {z : Sto} {H : Heap} {locs : List Loc} {ls : Array Slot} (hf : f_X7_read  z = some Z) (hh : Hh rM G z s H locs) (hl : lv_has ls 3 [(0, .ref (G.1 122))]) : W p l e rmX7_read s m args below meth cd H locs 0 0 (MQ below (QI rM G Z.1 Z.2) args s 0 0 (Am rM G)) (F0 m 0 ls []) := by
  have hx := F.1
  have hb := F.2.1
  unfold f_X7_read at hf
  refine lv_iconst (v := 0) hx hb dX7_read_0 (by decide) ?_
  refine lv_istore_n (lv' := [(1, .int (0 : Int32)), (0, .ref (G.1 122))]) hx hb dX7_read_1 rfl hl (by decide) rfl (fun ls hl => ?_)
  exact w_X7_read_2 F hr hlk fu _ _ hf  hh (lv_sub hl [1, 0] rfl)
theorem c_X7_read {l : Launch} {G : Gm}  {z : Sto} {Z : Int32 × Sto} (hf : f_X7_read  z = some Z) : Met l yX7_read (Cond.code yX7_read cX7_read 3 (some .int) :: TT) rmX7_read (va_Pc [.ref (G.1 122)] (GS rM G z)) (QI rM G Z.1 Z.2) 0 0 (Am rM G) := by
  refine g_met [(0, .ref (G.1 122))] (by decide) (Nat.le_of_ble_eq_true rfl) rfl ?_
  intro p e s m below meth cd F hr hlk ls H locs hl hh
  exact w_X7_read F hr hlk hf hh hl
def f_X7_turns  (z : Sto) : Option (Sto) := bd (f_X7_notes z) fun z2 => bd (rdI z2 123 42 (2 : Int32)) fun t3 => bd (wrI z2 123 42 (2 : Int32) (Int64.toInt32 ((((Int32.toInt64 t3) * (1103515245 : Int64)) + (12345 : Int64)) &&& (2147483647 : Int64)))) fun z4 => bd (rdI z4 123 42 (2 : Int32)) fun t5 => lt ((t5 / (65536 : Int32))) fun x1_6 => lt (((x1_6 / (8 : Int32)) - (x1_6 / (8 : Int32)) / (6 : Int32) * (6 : Int32))) fun x2_7 => lt (((x1_6 / (64 : Int32)) - (x1_6 / (64 : Int32)) / (6 : Int32) * (6 : Int32))) fun x3_8 => lt (((x1_6 / (512 : Int32)) - (x1_6 / (512 : Int32)) / (6 : Int32) * (6 : Int32))) fun x4_9 => lt ((x1_6 - x1_6 / (8 : Int32) * (8 : Int32))) fun x5_10 => if x5_10 = 0 then (bd2 (f_X7_does (0 : Int32) x2_7 x3_8 (0 : Int32) z4) fun t27 z28 => lt (upI z28 122 17 t27) fun z29 => some z29) else (if (5 : Int32) ≤ x5_10 then (if x5_10 = (5 : Int32) then (bd2 (f_X7_does (2 : Int32) x2_7 x3_8 x4_9 z4) fun t21 z22 => lt (upI z22 122 17 t21) fun z23 => some z23) else (if x5_10 = (6 : Int32) then (bd2 (f_X7_does (3 : Int32) x2_7 (0 : Int32) (0 : Int32) z4) fun t18 z19 => lt (upI z19 122 17 t18) fun z20 => some z20) else (bd2 (f_X7_does (4 : Int32) x2_7 (((x3_8 + x4_9) - (5 : Int32))) (0 : Int32) z4) fun t15 z16 => lt (upI z16 122 17 t15) fun z17 => some z17))) else (bd2 (f_X7_does (1 : Int32) x2_7 x3_8 (0 : Int32) z4) fun t24 z25 => lt (upI z25 122 17 t24) fun z26 => some z26))
set_option maxRecDepth 100000 in
set_option maxHeartbeats 4000000 in
theorem w_X7_turns {Z : Sto} (F : Fx rM p s m args cd cX7_turns 7 RX7 G) (hr : meth.sig.returnType = none) (hlk : meth.locks = false)  {z : Sto} {H : Heap} {locs : List Loc} {ls : Array Slot} (hf : f_X7_turns  z = some Z) (hh : Hh rM G z s H locs) (hl : lv_has ls 7 [(0, .ref (G.1 122))]) : W p l e rmX7_turns s m args below meth cd H locs 0 0 (MQ below (QV rM G Z) args s 0 0 (Am rM G)) (F0 m 0 ls []) := by
  have hx := F.1
  have hb := F.2.1
  unfold f_X7_turns at hf
  refine lv_aload_n hx hb dX7_turns_0 rfl (lv_at hl 0 rfl) ?_
  obtain ⟨z2, ht1, hf⟩ := ob hf
  refine m_X7_183 F hh (c_X7_notes ht1) in_122 sh_122 rfl hl (Nat.le_of_ble_eq_true rfl) dX7_turns_1 (fun H locs hh => ?_)
  refine lv_aload_n hx hb dX7_turns_4 rfl (lv_at hl 0 rfl) ?_
  refine r_X7_7 (b' := 123) F hh in_122 sh_122 rfl dX7_turns_5 ?_
  refine lv_iconst (v := 2) hx hb dX7_turns_8 (by decide) ?_
  refine lv_aload_n hx hb dX7_turns_9 rfl (lv_at hl 0 rfl) ?_
  refine r_X7_7 (b' := 123) F hh in_122 sh_122 rfl dX7_turns_10 ?_
  refine lv_iconst (v := 2) hx hb dX7_turns_13 (by decide) ?_
  obtain ⟨t3, ht3, hf⟩ := ob hf
  refine g_iald F hh in_123 sh_123 ht3 dX7_turns_14 ?_
  refine lv_i2l hx hb dX7_turns_15 rfl ?_
  refine lv_ldc2 hx hb F.2.2.2.1 (F.2.2.2.2.1 _ lk1315) dX7_turns_16 ?_
  refine lv_lmul hx hb dX7_turns_19 ?_
  refine lv_ldc2 hx hb F.2.2.2.1 (F.2.2.2.2.1 _ lk1316) dX7_turns_20 ?_
  refine lv_ladd hx hb dX7_turns_23 ?_
  refine lv_ldc2 hx hb F.2.2.2.1 (F.2.2.2.2.1 _ lk1317) dX7_turns_24 ?_
  refine lv_land hx hb dX7_turns_27 ?_
  refine lv_l2i hx hb dX7_turns_28 rfl ?_
  obtain ⟨z4, hz4, hf⟩ := ob hf
  refine g_iast F hh in_123 sh_123 hz4 dX7_turns_29 (fun H locs hh => ?_)
  refine lv_aload_n hx hb dX7_turns_30 rfl (lv_at hl 0 rfl) ?_
  refine r_X7_7 (b' := 123) F hh in_122 sh_122 rfl dX7_turns_31 ?_
  refine lv_iconst (v := 2) hx hb dX7_turns_34 (by decide) ?_
  obtain ⟨t5, ht5, hf⟩ := ob hf
  refine g_iald F hh in_123 sh_123 ht5 dX7_turns_35 ?_
  refine lv_ldcw hx hb F.2.2.2.1 (F.2.2.2.2.1 _ lk1318) dX7_turns_36 ?_
  refine lv_idiv hx hb dX7_turns_39 (by decide) ?_
  refine lv_topi (fun x1_6 ex1_6 => ?_)
  replace hf := lt_e ex1_6 hf
  refine lv_istore_n (lv' := [(1, .int x1_6), (0, .ref (G.1 122))]) hx hb dX7_turns_40 rfl hl (by decide) rfl (fun ls hl => ?_)
  refine lv_iload_n hx hb dX7_turns_41 rfl (lv_at hl 0 rfl) ?_
  refine lv_bipush (v := 8) hx hb dX7_turns_42 (by decide) ?_
  refine lv_idiv hx hb dX7_turns_44 (by decide) ?_
  refine lv_bipush (v := 6) hx hb dX7_turns_45 (by decide) ?_
  refine lv_irem hx hb dX7_turns_47 (by decide) ?_
  refine lv_topi (fun x2_7 ex2_7 => ?_)
  replace hf := lt_e ex2_7 hf
  refine lv_istore_n (lv' := [(2, .int x2_7), (1, .int x1_6), (0, .ref (G.1 122))]) hx hb dX7_turns_48 rfl hl (by decide) rfl (fun ls hl => ?_)
  refine lv_iload_n hx hb dX7_turns_49 rfl (lv_at hl 1 rfl) ?_
  refine lv_bipush (v := 64) hx hb dX7_turns_50 (by decide) ?_
  refine lv_idiv hx hb dX7_turns_52 (by decide) ?_
  refine lv_bipush (v := 6) hx hb dX7_turns_53 (by decide) ?_
  refine lv_irem hx hb dX7_turns_55 (by decide) ?_
  refine lv_topi (fun x3_8 ex3_8 => ?_)
  replace hf := lt_e ex3_8 hf
  refine lv_istore_n (lv' := [(3, .int x3_8), (2, .int x2_7), (1, .int x1_6), (0, .ref (G.1 122))]) hx hb dX7_turns_56 rfl hl (by decide) rfl (fun ls hl => ?_)
  refine lv_iload_n hx hb dX7_turns_57 rfl (lv_at hl 2 rfl) ?_
  refine lv_sipush (v := 512) hx hb dX7_turns_58 (by decide) ?_
  refine lv_idiv hx hb dX7_turns_61 (by decide) ?_
  refine lv_bipush (v := 6) hx hb dX7_turns_62 (by decide) ?_
  refine lv_irem hx hb dX7_turns_64 (by decide) ?_
  refine lv_topi (fun x4_9 ex4_9 => ?_)
  replace hf := lt_e ex4_9 hf
  refine lv_istore (lv' := [(4, .int x4_9), (3, .int x3_8), (2, .int x2_7), (1, .int x1_6), (0, .ref (G.1 122))]) hx hb dX7_turns_65 hl (by decide) rfl (fun ls hl => ?_)
  refine lv_iload_n hx hb dX7_turns_67 rfl (lv_at hl 3 rfl) ?_
  refine lv_bipush (v := 8) hx hb dX7_turns_68 (by decide) ?_
  refine lv_irem hx hb dX7_turns_70 (by decide) ?_
  refine lv_topi (fun x5_10 ex5_10 => ?_)
  replace hf := lt_e ex5_10 hf
  refine lv_istore (lv' := [(5, .int x5_10), (4, .int x4_9), (3, .int x3_8), (2, .int x2_7), (1, .int x1_6), (0, .ref (G.1 122))]) hx hb dX7_turns_71 hl (by decide) rfl (fun ls hl => ?_)
  refine lv_iload hx hb dX7_turns_73 (lv_at hl 0 rfl) ?_
  refine lv_if_ne (tgt := 89) hx hb dX7_turns_75 (by decide) (fun c11 => ?_) (fun c11 => ?_)
  · replace hf := itn c11 hf
    refine lv_iload hx hb dX7_turns_89 (lv_at hl 0 rfl) ?_
    refine lv_iconst (v := 5) hx hb dX7_turns_91 (by decide) ?_
    refine lv_icmp_ge (tgt := 106) hx hb dX7_turns_92 (by decide) (fun c12 => ?_) (fun c12 => ?_)
    · replace hf := itp c12 hf
      refine lv_iload hx hb dX7_turns_106 (lv_at hl 0 rfl) ?_
      refine lv_iconst (v := 5) hx hb dX7_turns_108 (by decide) ?_
      refine lv_icmp_ne (tgt := 124) hx hb dX7_turns_109 (by decide) (fun c13 => ?_) (fun c13 => ?_)
      · replace hf := itn c13 hf
        refine lv_iload hx hb dX7_turns_124 (lv_at hl 0 rfl) ?_
        refine lv_bipush (v := 6) hx hb dX7_turns_126 (by decide) ?_
        refine lv_icmp_ne (tgt := 142) hx hb dX7_turns_128 (by decide) (fun c14 => ?_) (fun c14 => ?_)
        · replace hf := itn c14 hf
          refine lv_aload_n hx hb dX7_turns_142 rfl (lv_at hl 5 rfl) ?_
          refine lv_iconst (v := 4) hx hb dX7_turns_143 (by decide) ?_
          refine lv_iload_n hx hb dX7_turns_144 rfl (lv_at hl 3 rfl) ?_
          refine lv_iload_n hx hb dX7_turns_145 rfl (lv_at hl 2 rfl) ?_
          refine lv_iload hx hb dX7_turns_146 (lv_at hl 1 rfl) ?_
          refine lv_iadd hx hb dX7_turns_148 ?_
          refine lv_iconst (v := 5) hx hb dX7_turns_149 (by decide) ?_
          refine lv_isub hx hb dX7_turns_150 ?_
          refine lv_iconst (v := 0) hx hb dX7_turns_151 (by decide) ?_
          obtain ⟨t15, z16, ht15, hf⟩ := ob2 hf
          refine m_X7_179 (r := t15) (σ' := z16) F hh (c_X7_does ht15) in_122 sh_122 rfl hl (Nat.le_of_ble_eq_true rfl) dX7_turns_152 (fun H locs hh => ?_)
          refine lv_istore (lv' := [(6, .int t15), (5, .int x5_10), (4, .int x4_9), (3, .int x3_8), (2, .int x2_7), (1, .int x1_6), (0, .ref (G.1 122))]) hx hb dX7_turns_155 hl (by decide) rfl (fun ls hl => ?_)
          refine lv_aload_n hx hb dX7_turns_157 rfl (lv_at hl 6 rfl) ?_
          refine lv_iload hx hb dX7_turns_158 (lv_at hl 0 rfl) ?_
          refine s_X7_213 F hh in_122 sh_122 dX7_turns_160 (fun z17 ez17 H locs hh => ?_)
          replace hf := lt_e ez17 hf
          exact g_vret F hr hlk hh (Option.some.inj hf) dX7_turns_163
        · replace hf := itp c14 hf
          refine lv_aload_n hx hb dX7_turns_131 rfl (lv_at hl 5 rfl) ?_
          refine lv_iconst (v := 3) hx hb dX7_turns_132 (by decide) ?_
          refine lv_iload_n hx hb dX7_turns_133 rfl (lv_at hl 3 rfl) ?_
          refine lv_iconst (v := 0) hx hb dX7_turns_134 (by decide) ?_
          refine lv_iconst (v := 0) hx hb dX7_turns_135 (by decide) ?_
          obtain ⟨t18, z19, ht18, hf⟩ := ob2 hf
          refine m_X7_179 (r := t18) (σ' := z19) F hh (c_X7_does ht18) in_122 sh_122 rfl hl (Nat.le_of_ble_eq_true rfl) dX7_turns_136 (fun H locs hh => ?_)
          refine lv_goto (tgt := 155) hx hb dX7_turns_139 (by decide) ?_
          refine lv_istore (lv' := [(6, .int t18), (5, .int x5_10), (4, .int x4_9), (3, .int x3_8), (2, .int x2_7), (1, .int x1_6), (0, .ref (G.1 122))]) hx hb dX7_turns_155 hl (by decide) rfl (fun ls hl => ?_)
          refine lv_aload_n hx hb dX7_turns_157 rfl (lv_at hl 6 rfl) ?_
          refine lv_iload hx hb dX7_turns_158 (lv_at hl 0 rfl) ?_
          refine s_X7_213 F hh in_122 sh_122 dX7_turns_160 (fun z20 ez20 H locs hh => ?_)
          replace hf := lt_e ez20 hf
          exact g_vret F hr hlk hh (Option.some.inj hf) dX7_turns_163
      · replace hf := itp c13 hf
        refine lv_aload_n hx hb dX7_turns_112 rfl (lv_at hl 5 rfl) ?_
        refine lv_iconst (v := 2) hx hb dX7_turns_113 (by decide) ?_
        refine lv_iload_n hx hb dX7_turns_114 rfl (lv_at hl 3 rfl) ?_
        refine lv_iload_n hx hb dX7_turns_115 rfl (lv_at hl 2 rfl) ?_
        refine lv_iload hx hb dX7_turns_116 (lv_at hl 1 rfl) ?_
        obtain ⟨t21, z22, ht21, hf⟩ := ob2 hf
        refine m_X7_179 (r := t21) (σ' := z22) F hh (c_X7_does ht21) in_122 sh_122 rfl hl (Nat.le_of_ble_eq_true rfl) dX7_turns_118 (fun H locs hh => ?_)
        refine lv_goto (tgt := 155) hx hb dX7_turns_121 (by decide) ?_
        refine lv_istore (lv' := [(6, .int t21), (5, .int x5_10), (4, .int x4_9), (3, .int x3_8), (2, .int x2_7), (1, .int x1_6), (0, .ref (G.1 122))]) hx hb dX7_turns_155 hl (by decide) rfl (fun ls hl => ?_)
        refine lv_aload_n hx hb dX7_turns_157 rfl (lv_at hl 6 rfl) ?_
        refine lv_iload hx hb dX7_turns_158 (lv_at hl 0 rfl) ?_
        refine s_X7_213 F hh in_122 sh_122 dX7_turns_160 (fun z23 ez23 H locs hh => ?_)
        replace hf := lt_e ez23 hf
        exact g_vret F hr hlk hh (Option.some.inj hf) dX7_turns_163
    · replace hf := itn c12 hf
      refine lv_aload_n hx hb dX7_turns_95 rfl (lv_at hl 5 rfl) ?_
      refine lv_iconst (v := 1) hx hb dX7_turns_96 (by decide) ?_
      refine lv_iload_n hx hb dX7_turns_97 rfl (lv_at hl 3 rfl) ?_
      refine lv_iload_n hx hb dX7_turns_98 rfl (lv_at hl 2 rfl) ?_
      refine lv_iconst (v := 0) hx hb dX7_turns_99 (by decide) ?_
      obtain ⟨t24, z25, ht24, hf⟩ := ob2 hf
      refine m_X7_179 (r := t24) (σ' := z25) F hh (c_X7_does ht24) in_122 sh_122 rfl hl (Nat.le_of_ble_eq_true rfl) dX7_turns_100 (fun H locs hh => ?_)
      refine lv_goto (tgt := 155) hx hb dX7_turns_103 (by decide) ?_
      refine lv_istore (lv' := [(6, .int t24), (5, .int x5_10), (4, .int x4_9), (3, .int x3_8), (2, .int x2_7), (1, .int x1_6), (0, .ref (G.1 122))]) hx hb dX7_turns_155 hl (by decide) rfl (fun ls hl => ?_)
      refine lv_aload_n hx hb dX7_turns_157 rfl (lv_at hl 6 rfl) ?_
      refine lv_iload hx hb dX7_turns_158 (lv_at hl 0 rfl) ?_
      refine s_X7_213 F hh in_122 sh_122 dX7_turns_160 (fun z26 ez26 H locs hh => ?_)
      replace hf := lt_e ez26 hf
      exact g_vret F hr hlk hh (Option.some.inj hf) dX7_turns_163
  · replace hf := itp c11 hf
    refine lv_aload_n hx hb dX7_turns_78 rfl (lv_at hl 5 rfl) ?_
    refine lv_iconst (v := 0) hx hb dX7_turns_79 (by decide) ?_
    refine lv_iload_n hx hb dX7_turns_80 rfl (lv_at hl 3 rfl) ?_
    refine lv_iload_n hx hb dX7_turns_81 rfl (lv_at hl 2 rfl) ?_
    refine lv_iconst (v := 0) hx hb dX7_turns_82 (by decide) ?_
    obtain ⟨t27, z28, ht27, hf⟩ := ob2 hf
    refine m_X7_179 (r := t27) (σ' := z28) F hh (c_X7_does ht27) in_122 sh_122 rfl hl (Nat.le_of_ble_eq_true rfl) dX7_turns_83 (fun H locs hh => ?_)
    refine lv_goto (tgt := 155) hx hb dX7_turns_86 (by decide) ?_
    refine lv_istore (lv' := [(6, .int t27), (5, .int x5_10), (4, .int x4_9), (3, .int x3_8), (2, .int x2_7), (1, .int x1_6), (0, .ref (G.1 122))]) hx hb dX7_turns_155 hl (by decide) rfl (fun ls hl => ?_)
    refine lv_aload_n hx hb dX7_turns_157 rfl (lv_at hl 6 rfl) ?_
    refine lv_iload hx hb dX7_turns_158 (lv_at hl 0 rfl) ?_
    refine s_X7_213 F hh in_122 sh_122 dX7_turns_160 (fun z29 ez29 H locs hh => ?_)
    replace hf := lt_e ez29 hf
    exact g_vret F hr hlk hh (Option.some.inj hf) dX7_turns_163
theorem c_X7_turns {l : Launch} {G : Gm}  {z : Sto} {Z : Sto} (hf : f_X7_turns  z = some Z) : Met l yX7_turns (Cond.code yX7_turns cX7_turns 7 none :: TT) rmX7_turns (va_Pc [.ref (G.1 122)] (GS rM G z)) (QV rM G Z) 0 0 (Am rM G) := by
  refine g_met [(0, .ref (G.1 122))] (by decide) (Nat.le_of_ble_eq_true rfl) rfl ?_
  intro p e s m below meth cd F hr hlk ls H locs hl hh
  exact w_X7_turns F hr hlk hf hh hl
def b_X7_drift_16  (ag16 : Int32 → Int32 → Sto → Option (Int32 × Sto)) (x1 : Int32) (x2 : Int32) (z : Sto) : Option (Int32 × Sto) := if x1 ≤ x2 then (bd (rdI z 123 42 (1 : Int32)) fun t4 => some (t4, z)) else (bd (f_X7_turns z) fun z6 => lt (x2 + (1 : Int32)) fun x2_7 => ag16 x1 x2_7 z6)
def f_X7_drift (x1 : Int32) (z : Sto) : Option (Int32 × Sto) := bd (f_X7_in ((Int32.toInt64 x1)) (1 : Int64) (40 : Int64) z) fun t1 => if t1 = 0 then (some ((-1 : Int32), z)) else (wl3 (b_X7_drift_16) fu x1 (0 : Int32) z)
set_option maxRecDepth 100000 in
set_option maxHeartbeats 4000000 in
theorem w_X7_drift_16  {Z : Int32 × Sto} (F : Fx rM p s m args cd cX7_drift 3 RX7 G) (hr : meth.sig.returnType = (some .int)) (hlk : meth.locks = false)  : ∀ (n : Nat), ∀ (x1 : Int32) (x2 : Int32) (z : Sto), wl3 (b_X7_drift_16) n x1 x2 z = some Z → ∀ {H : Heap} {locs : List Loc} {ls : Array Slot}, Hh rM G z s H locs → lv_has ls 3 [(0, .ref (G.1 122)), (1, .int x1), (2, .int x2)] → W p l e rmX7_drift s m args below meth cd H locs 0 0 (MQ below (QI rM G Z.1 Z.2) args s 0 0 (Am rM G)) (F0 m 16 ls []) := by
  have hx := F.1
  have hb := F.2.1
  intro n
  induction n with
  | zero =>
    intro x1 x2 z hf
    exact absurd hf (by intro h; cases h)
  | succ n ih =>
    intro x1 x2 z hf  H locs ls hh hl
    replace hf : b_X7_drift_16 (wl3 (b_X7_drift_16) n) x1 x2 z = some Z := hf
    unfold b_X7_drift_16 at hf
    refine lv_iload_n hx hb dX7_drift_16 rfl (lv_at hl 2 rfl) ?_
    refine lv_iload_n hx hb dX7_drift_17 rfl (lv_at hl 1 rfl) ?_
    refine lv_icmp_ge (tgt := 31) hx hb dX7_drift_18 (by decide) (fun c3 => ?_) (fun c3 => ?_)
    · replace hf := itp c3 hf
      refine lv_aload_n hx hb dX7_drift_31 rfl (lv_at hl 0 rfl) ?_
      refine r_X7_7 (b' := 123) F hh in_122 sh_122 rfl dX7_drift_32 ?_
      refine lv_iconst (v := 1) hx hb dX7_drift_35 (by decide) ?_
      obtain ⟨t4, ht4, hf⟩ := ob hf
      refine g_iald F hh in_123 sh_123 ht4 dX7_drift_36 ?_
      exact g_iretW F hr hlk hh hf dX7_drift_37
    · replace hf := itn c3 hf
      refine lv_aload_n hx hb dX7_drift_21 rfl (lv_at hl 0 rfl) ?_
      obtain ⟨z6, ht5, hf⟩ := ob hf
      refine m_X7_334 F hh (c_X7_turns ht5) in_122 sh_122 rfl hl (Nat.le_of_ble_eq_true rfl) dX7_drift_22 (fun H locs hh => ?_)
      obtain ⟨x2_7, ex2_7⟩ : ∃ y : Int32, y = x2 + (1 : Int32) := ⟨_, rfl⟩
      replace hf := lt_e ex2_7 hf
      refine lv_iinc (v := x2_7) (lv' := [(2, .int x2_7), (0, .ref (G.1 122)), (1, .int x1)]) hx hb dX7_drift_25 hl (k := 2) rfl (by rw [ex2_7]; rfl) (by decide) rfl (fun ls hl => ?_)
      refine lv_goto (tgt := 16) hx hb dX7_drift_28 (by decide) ?_
      exact ih _ _ _ hf  hh (lv_sub hl [1, 2, 0] rfl)
set_option maxRecDepth 100000 in
set_option maxHeartbeats 4000000 in
theorem w_X7_drift {Z : Int32 × Sto} (F : Fx rM p s m args cd cX7_drift 3 RX7 G) (hr : meth.sig.returnType = (some .int)) (hlk : meth.locks = false) {x1 : Int32} {z : Sto} {H : Heap} {locs : List Loc} {ls : Array Slot} (hf : f_X7_drift x1 z = some Z) (hh : Hh rM G z s H locs) (hl : lv_has ls 3 [(0, .ref (G.1 122)), (1, .int x1)]) : W p l e rmX7_drift s m args below meth cd H locs 0 0 (MQ below (QI rM G Z.1 Z.2) args s 0 0 (Am rM G)) (F0 m 0 ls []) := by
  have hx := F.1
  have hb := F.2.1
  unfold f_X7_drift at hf
  refine lv_iload_n hx hb dX7_drift_0 rfl (lv_at hl 1 rfl) ?_
  refine lv_i2l hx hb dX7_drift_1 rfl ?_
  refine lv_lconst (v := 1) hx hb dX7_drift_2 (by decide) ?_
  refine lv_ldc2 hx hb F.2.2.2.1 (F.2.2.2.2.1 _ lk1310) dX7_drift_3 ?_
  obtain ⟨t1, ht1, hf⟩ := ob hf
  refine m_X7_79 F hh (c_X7_in ht1) rfl hl (Nat.le_of_ble_eq_true rfl) dX7_drift_6 (fun H locs hh => ?_)
  refine lv_if_ne (tgt := 14) hx hb dX7_drift_9 (by decide) (fun c2 => ?_) (fun c2 => ?_)
  · replace hf := itn c2 hf
    refine lv_iconst (v := 0) hx hb dX7_drift_14 (by decide) ?_
    refine lv_istore_n (lv' := [(2, .int (0 : Int32)), (0, .ref (G.1 122)), (1, .int x1)]) hx hb dX7_drift_15 rfl hl (by decide) rfl (fun ls hl => ?_)
    exact w_X7_drift_16 F hr hlk fu _ _ _ hf  hh (lv_sub hl [1, 2, 0] rfl)
  · replace hf := itp c2 hf
    refine lv_iconst (v := -1) hx hb dX7_drift_12 (by decide) ?_
    exact g_iretW F hr hlk hh hf dX7_drift_13
theorem c_X7_drift {l : Launch} {G : Gm} {x1 : Int32} {z : Sto} {Z : Int32 × Sto} (hf : f_X7_drift x1 z = some Z) : Met l yX7_drift (Cond.code yX7_drift cX7_drift 3 (some .int) :: TT) rmX7_drift (va_Pc [.ref (G.1 122), .int x1] (GS rM G z)) (QI rM G Z.1 Z.2) 0 0 (Am rM G) := by
  refine g_met [(0, .ref (G.1 122)), (1, .int x1)] (by decide) (Nat.le_of_ble_eq_true rfl) rfl ?_
  intro p e s m below meth cd F hr hlk ls H locs hl hh
  exact w_X7_drift F hr hlk hf hh hl
def b_X7_undo_22  (ag22 : Int32 → Sto → Option (Int32 × Sto)) (x1 : Int32) (z : Sto) : Option (Int32 × Sto) := if (42 : Int32) ≤ x1 then (some ((z.1 122 2), z)) else (bd (rdI z 124 252 (((42 : Int32) * (z.1 122 2)) + x1)) fun t4 => bd (wrI z 123 42 x1 t4) fun z5 => lt (x1 + (1 : Int32)) fun x1_6 => ag22 x1_6 z5)
def f_X7_undo  (z : Sto) : Option (Int32 × Sto) := if (z.1 122 2) = 0 then (some ((-4 : Int32), z)) else (lt (upI z 122 2 ((z.1 122 2) - (1 : Int32))) fun z2 => wl2 (b_X7_undo_22) fu (0 : Int32) z2)
set_option maxRecDepth 100000 in
set_option maxHeartbeats 4000000 in
theorem w_X7_undo_22  {Z : Int32 × Sto} (F : Fx rM p s m args cd cX7_undo 2 RX7 G) (hr : meth.sig.returnType = (some .int)) (hlk : meth.locks = false)  : ∀ (n : Nat), ∀ (x1 : Int32) (z : Sto), wl2 (b_X7_undo_22) n x1 z = some Z → ∀ {H : Heap} {locs : List Loc} {ls : Array Slot}, Hh rM G z s H locs → lv_has ls 2 [(0, .ref (G.1 122)), (1, .int x1)] → W p l e rmX7_undo s m args below meth cd H locs 0 0 (MQ below (QI rM G Z.1 Z.2) args s 0 0 (Am rM G)) (F0 m 22 ls []) := by
  have hx := F.1
  have hb := F.2.1
  intro n
  induction n with
  | zero =>
    intro x1 z hf
    exact absurd hf (by intro h; cases h)
  | succ n ih =>
    intro x1 z hf  H locs ls hh hl
    replace hf : b_X7_undo_22 (wl2 (b_X7_undo_22) n) x1 z = some Z := hf
    unfold b_X7_undo_22 at hf
    refine lv_iload_n hx hb dX7_undo_22 rfl (lv_at hl 1 rfl) ?_
    refine lv_bipush (v := 42) hx hb dX7_undo_23 (by decide) ?_
    refine lv_icmp_ge (tgt := 54) hx hb dX7_undo_25 (by decide) (fun c3 => ?_) (fun c3 => ?_)
    · replace hf := itp c3 hf
      refine lv_aload_n hx hb dX7_undo_54 rfl (lv_at hl 0 rfl) ?_
      refine r_X7_112 F hh in_122 sh_122 dX7_undo_55 ?_
      exact g_iretW F hr hlk hh hf dX7_undo_58
    · replace hf := itn c3 hf
      refine lv_aload_n hx hb dX7_undo_28 rfl (lv_at hl 0 rfl) ?_
      refine r_X7_7 (b' := 123) F hh in_122 sh_122 rfl dX7_undo_29 ?_
      refine lv_iload_n hx hb dX7_undo_32 rfl (lv_at hl 1 rfl) ?_
      refine lv_aload_n hx hb dX7_undo_33 rfl (lv_at hl 0 rfl) ?_
      refine r_X7_13 (b' := 124) F hh in_122 sh_122 rfl dX7_undo_34 ?_
      refine lv_bipush (v := 42) hx hb dX7_undo_37 (by decide) ?_
      refine lv_aload_n hx hb dX7_undo_39 rfl (lv_at hl 0 rfl) ?_
      refine r_X7_112 F hh in_122 sh_122 dX7_undo_40 ?_
      refine lv_imul hx hb dX7_undo_43 ?_
      refine lv_iload_n hx hb dX7_undo_44 rfl (lv_at hl 1 rfl) ?_
      refine lv_iadd hx hb dX7_undo_45 ?_
      obtain ⟨t4, ht4, hf⟩ := ob hf
      refine g_iald F hh in_124 sh_124 ht4 dX7_undo_46 ?_
      obtain ⟨z5, hz5, hf⟩ := ob hf
      refine g_iast F hh in_123 sh_123 hz5 dX7_undo_47 (fun H locs hh => ?_)
      obtain ⟨x1_6, ex1_6⟩ : ∃ y : Int32, y = x1 + (1 : Int32) := ⟨_, rfl⟩
      replace hf := lt_e ex1_6 hf
      refine lv_iinc (v := x1_6) (lv' := [(1, .int x1_6), (0, .ref (G.1 122))]) hx hb dX7_undo_48 hl (k := 1) rfl (by rw [ex1_6]; rfl) (by decide) rfl (fun ls hl => ?_)
      refine lv_goto (tgt := 22) hx hb dX7_undo_51 (by decide) ?_
      exact ih _ _ hf  hh (lv_sub hl [1, 0] rfl)
set_option maxRecDepth 100000 in
set_option maxHeartbeats 4000000 in
theorem w_X7_undo {Z : Int32 × Sto} (F : Fx rM p s m args cd cX7_undo 2 RX7 G) (hr : meth.sig.returnType = (some .int)) (hlk : meth.locks = false)  {z : Sto} {H : Heap} {locs : List Loc} {ls : Array Slot} (hf : f_X7_undo  z = some Z) (hh : Hh rM G z s H locs) (hl : lv_has ls 2 [(0, .ref (G.1 122))]) : W p l e rmX7_undo s m args below meth cd H locs 0 0 (MQ below (QI rM G Z.1 Z.2) args s 0 0 (Am rM G)) (F0 m 0 ls []) := by
  have hx := F.1
  have hb := F.2.1
  unfold f_X7_undo at hf
  refine lv_aload_n hx hb dX7_undo_0 rfl (lv_at hl 0 rfl) ?_
  refine r_X7_112 F hh in_122 sh_122 dX7_undo_1 ?_
  refine lv_if_ne (tgt := 10) hx hb dX7_undo_4 (by decide) (fun c1 => ?_) (fun c1 => ?_)
  · replace hf := itn c1 hf
    refine lv_aload_n hx hb dX7_undo_10 rfl (lv_at hl 0 rfl) ?_
    refine lv_dup hx hb dX7_undo_11 rfl ?_
    refine r_X7_112 F hh in_122 sh_122 dX7_undo_12 ?_
    refine lv_iconst (v := 1) hx hb dX7_undo_15 (by decide) ?_
    refine lv_isub hx hb dX7_undo_16 ?_
    refine s_X7_112 F hh in_122 sh_122 dX7_undo_17 (fun z2 ez2 H locs hh => ?_)
    replace hf := lt_e ez2 hf
    refine lv_iconst (v := 0) hx hb dX7_undo_20 (by decide) ?_
    refine lv_istore_n (lv' := [(1, .int (0 : Int32)), (0, .ref (G.1 122))]) hx hb dX7_undo_21 rfl hl (by decide) rfl (fun ls hl => ?_)
    exact w_X7_undo_22 F hr hlk fu _ _ hf  hh (lv_sub hl [1, 0] rfl)
  · replace hf := itp c1 hf
    refine lv_bipush (v := -4) hx hb dX7_undo_7 (by decide) ?_
    exact g_iretW F hr hlk hh hf dX7_undo_9
theorem c_X7_undo {l : Launch} {G : Gm}  {z : Sto} {Z : Int32 × Sto} (hf : f_X7_undo  z = some Z) : Met l yX7_undo (Cond.code yX7_undo cX7_undo 2 (some .int) :: TT) rmX7_undo (va_Pc [.ref (G.1 122)] (GS rM G z)) (QI rM G Z.1 Z.2) 0 0 (Am rM G) := by
  refine g_met [(0, .ref (G.1 122))] (by decide) (Nat.le_of_ble_eq_true rfl) rfl ?_
  intro p e s m below meth cd F hr hlk ls H locs hl hh
  exact w_X7_undo F hr hlk hf hh hl
def f_X7_seed (x1 : Int32) (z : Sto) : Option (Int32 × Sto) := if 0 ≤ x1 then (bd (rdI z 123 42 (2 : Int32)) fun t2 => bd (wrI z 123 42 (2 : Int32) x1) fun z3 => some (t2, z3)) else (some ((-1 : Int32), z))
set_option maxRecDepth 100000 in
set_option maxHeartbeats 4000000 in
theorem w_X7_seed {Z : Int32 × Sto} (F : Fx rM p s m args cd cX7_seed 3 RX7 G) (hr : meth.sig.returnType = (some .int)) (hlk : meth.locks = false) {x1 : Int32} {z : Sto} {H : Heap} {locs : List Loc} {ls : Array Slot} (hf : f_X7_seed x1 z = some Z) (hh : Hh rM G z s H locs) (hl : lv_has ls 3 [(0, .ref (G.1 122)), (1, .int x1)]) : W p l e rmX7_seed s m args below meth cd H locs 0 0 (MQ below (QI rM G Z.1 Z.2) args s 0 0 (Am rM G)) (F0 m 0 ls []) := by
  have hx := F.1
  have hb := F.2.1
  unfold f_X7_seed at hf
  refine lv_iload_n hx hb dX7_seed_0 rfl (lv_at hl 1 rfl) ?_
  refine lv_if_ge (tgt := 6) hx hb dX7_seed_1 (by decide) (fun c1 => ?_) (fun c1 => ?_)
  · replace hf := itp c1 hf
    refine lv_aload_n hx hb dX7_seed_6 rfl (lv_at hl 0 rfl) ?_
    refine r_X7_7 (b' := 123) F hh in_122 sh_122 rfl dX7_seed_7 ?_
    refine lv_iconst (v := 2) hx hb dX7_seed_10 (by decide) ?_
    obtain ⟨t2, ht2, hf⟩ := ob hf
    refine g_iald F hh in_123 sh_123 ht2 dX7_seed_11 ?_
    refine lv_istore_n (lv' := [(2, .int t2), (0, .ref (G.1 122)), (1, .int x1)]) hx hb dX7_seed_12 rfl hl (by decide) rfl (fun ls hl => ?_)
    refine lv_aload_n hx hb dX7_seed_13 rfl (lv_at hl 1 rfl) ?_
    refine r_X7_7 (b' := 123) F hh in_122 sh_122 rfl dX7_seed_14 ?_
    refine lv_iconst (v := 2) hx hb dX7_seed_17 (by decide) ?_
    refine lv_iload_n hx hb dX7_seed_18 rfl (lv_at hl 2 rfl) ?_
    obtain ⟨z3, hz3, hf⟩ := ob hf
    refine g_iast F hh in_123 sh_123 hz3 dX7_seed_19 (fun H locs hh => ?_)
    refine lv_iload_n hx hb dX7_seed_20 rfl (lv_at hl 0 rfl) ?_
    exact g_iretW F hr hlk hh hf dX7_seed_21
  · replace hf := itn c1 hf
    refine lv_iconst (v := -1) hx hb dX7_seed_4 (by decide) ?_
    exact g_iretW F hr hlk hh hf dX7_seed_5
theorem c_X7_seed {l : Launch} {G : Gm} {x1 : Int32} {z : Sto} {Z : Int32 × Sto} (hf : f_X7_seed x1 z = some Z) : Met l yX7_seed (Cond.code yX7_seed cX7_seed 3 (some .int) :: TT) rmX7_seed (va_Pc [.ref (G.1 122), .int x1] (GS rM G z)) (QI rM G Z.1 Z.2) 0 0 (Am rM G) := by
  refine g_met [(0, .ref (G.1 122)), (1, .int x1)] (by decide) (Nat.le_of_ble_eq_true rfl) rfl ?_
  intro p e s m below meth cd F hr hlk ls H locs hl hh
  exact w_X7_seed F hr hlk hf hh hl
def b_X7_image_28  (ag28 : Int32 → Sto → Option (Int32 × Sto)) (x1 : Int32) (z : Sto) : Option (Int32 × Sto) := if (252 : Int32) ≤ x1 then (lt (upI z 122 5 (z.1 122 2)) fun z6 => some ((1 : Int32), z6)) else (bd (rdI z 124 252 x1) fun t7 => bd (wrI z 126 252 x1 t7) fun z8 => lt (x1 + (1 : Int32)) fun x1_9 => ag28 x1_9 z8)
def b_X7_image_2  (ag2 : Int32 → Sto → Option (Int32 × Sto)) (x1 : Int32) (z : Sto) : Option (Int32 × Sto) := if (42 : Int32) ≤ x1 then (wl2 (b_X7_image_28) fu (0 : Int32) z) else (bd (rdI z 123 42 x1) fun t2 => bd (wrI z 125 42 x1 t2) fun z3 => lt (x1 + (1 : Int32)) fun x1_4 => ag2 x1_4 z3)
def f_X7_image  (z : Sto) : Option (Int32 × Sto) := wl2 (b_X7_image_2) fu (0 : Int32) z
set_option maxRecDepth 100000 in
set_option maxHeartbeats 4000000 in
theorem w_X7_image_28  {Z : Int32 × Sto} (F : Fx rM p s m args cd cX7_image 2 RX7 G) (hr : meth.sig.returnType = (some .int)) (hlk : meth.locks = false)  : ∀ (n : Nat), ∀ (x1 : Int32) (z : Sto), wl2 (b_X7_image_28) n x1 z = some Z → ∀ {H : Heap} {locs : List Loc} {ls : Array Slot}, Hh rM G z s H locs → lv_has ls 2 [(0, .ref (G.1 122)), (1, .int x1)] → W p l e rmX7_image s m args below meth cd H locs 0 0 (MQ below (QI rM G Z.1 Z.2) args s 0 0 (Am rM G)) (F0 m 28 ls []) := by
  have hx := F.1
  have hb := F.2.1
  intro n
  induction n with
  | zero =>
    intro x1 z hf
    exact absurd hf (by intro h; cases h)
  | succ n ih =>
    intro x1 z hf  H locs ls hh hl
    replace hf : b_X7_image_28 (wl2 (b_X7_image_28) n) x1 z = some Z := hf
    unfold b_X7_image_28 at hf
    refine lv_iload_n hx hb dX7_image_28 rfl (lv_at hl 1 rfl) ?_
    refine lv_sipush (v := 252) hx hb dX7_image_29 (by decide) ?_
    refine lv_icmp_ge (tgt := 53) hx hb dX7_image_32 (by decide) (fun c5 => ?_) (fun c5 => ?_)
    · replace hf := itp c5 hf
      refine lv_aload_n hx hb dX7_image_53 rfl (lv_at hl 0 rfl) ?_
      refine lv_aload_n hx hb dX7_image_54 rfl (lv_at hl 0 rfl) ?_
      refine r_X7_112 F hh in_122 sh_122 dX7_image_55 ?_
      refine s_X7_22 F hh in_122 sh_122 dX7_image_58 (fun z6 ez6 H locs hh => ?_)
      replace hf := lt_e ez6 hf
      refine lv_iconst (v := 1) hx hb dX7_image_61 (by decide) ?_
      exact g_iretW F hr hlk hh hf dX7_image_62
    · replace hf := itn c5 hf
      refine lv_aload_n hx hb dX7_image_35 rfl (lv_at hl 0 rfl) ?_
      refine r_X7_19 (b' := 126) F hh in_122 sh_122 rfl dX7_image_36 ?_
      refine lv_iload_n hx hb dX7_image_39 rfl (lv_at hl 1 rfl) ?_
      refine lv_aload_n hx hb dX7_image_40 rfl (lv_at hl 0 rfl) ?_
      refine r_X7_13 (b' := 124) F hh in_122 sh_122 rfl dX7_image_41 ?_
      refine lv_iload_n hx hb dX7_image_44 rfl (lv_at hl 1 rfl) ?_
      obtain ⟨t7, ht7, hf⟩ := ob hf
      refine g_iald F hh in_124 sh_124 ht7 dX7_image_45 ?_
      obtain ⟨z8, hz8, hf⟩ := ob hf
      refine g_iast F hh in_126 sh_126 hz8 dX7_image_46 (fun H locs hh => ?_)
      obtain ⟨x1_9, ex1_9⟩ : ∃ y : Int32, y = x1 + (1 : Int32) := ⟨_, rfl⟩
      replace hf := lt_e ex1_9 hf
      refine lv_iinc (v := x1_9) (lv' := [(1, .int x1_9), (0, .ref (G.1 122))]) hx hb dX7_image_47 hl (k := 1) rfl (by rw [ex1_9]; rfl) (by decide) rfl (fun ls hl => ?_)
      refine lv_goto (tgt := 28) hx hb dX7_image_50 (by decide) ?_
      exact ih _ _ hf  hh (lv_sub hl [1, 0] rfl)
set_option maxRecDepth 100000 in
set_option maxHeartbeats 4000000 in
theorem w_X7_image_2  {Z : Int32 × Sto} (F : Fx rM p s m args cd cX7_image 2 RX7 G) (hr : meth.sig.returnType = (some .int)) (hlk : meth.locks = false)  : ∀ (n : Nat), ∀ (x1 : Int32) (z : Sto), wl2 (b_X7_image_2) n x1 z = some Z → ∀ {H : Heap} {locs : List Loc} {ls : Array Slot}, Hh rM G z s H locs → lv_has ls 2 [(0, .ref (G.1 122)), (1, .int x1)] → W p l e rmX7_image s m args below meth cd H locs 0 0 (MQ below (QI rM G Z.1 Z.2) args s 0 0 (Am rM G)) (F0 m 2 ls []) := by
  have hx := F.1
  have hb := F.2.1
  intro n
  induction n with
  | zero =>
    intro x1 z hf
    exact absurd hf (by intro h; cases h)
  | succ n ih =>
    intro x1 z hf  H locs ls hh hl
    replace hf : b_X7_image_2 (wl2 (b_X7_image_2) n) x1 z = some Z := hf
    unfold b_X7_image_2 at hf
    refine lv_iload_n hx hb dX7_image_2 rfl (lv_at hl 1 rfl) ?_
    refine lv_bipush (v := 42) hx hb dX7_image_3 (by decide) ?_
    refine lv_icmp_ge (tgt := 26) hx hb dX7_image_5 (by decide) (fun c1 => ?_) (fun c1 => ?_)
    · replace hf := itp c1 hf
      refine lv_iconst (v := 0) hx hb dX7_image_26 (by decide) ?_
      refine lv_istore_n (lv' := [(1, .int (0 : Int32)), (0, .ref (G.1 122))]) hx hb dX7_image_27 rfl hl (by decide) rfl (fun ls hl => ?_)
      exact w_X7_image_28 F hr hlk fu _ _ hf  hh (lv_sub hl [1, 0] rfl)
    · replace hf := itn c1 hf
      refine lv_aload_n hx hb dX7_image_8 rfl (lv_at hl 0 rfl) ?_
      refine r_X7_16 (b' := 125) F hh in_122 sh_122 rfl dX7_image_9 ?_
      refine lv_iload_n hx hb dX7_image_12 rfl (lv_at hl 1 rfl) ?_
      refine lv_aload_n hx hb dX7_image_13 rfl (lv_at hl 0 rfl) ?_
      refine r_X7_7 (b' := 123) F hh in_122 sh_122 rfl dX7_image_14 ?_
      refine lv_iload_n hx hb dX7_image_17 rfl (lv_at hl 1 rfl) ?_
      obtain ⟨t2, ht2, hf⟩ := ob hf
      refine g_iald F hh in_123 sh_123 ht2 dX7_image_18 ?_
      obtain ⟨z3, hz3, hf⟩ := ob hf
      refine g_iast F hh in_125 sh_125 hz3 dX7_image_19 (fun H locs hh => ?_)
      obtain ⟨x1_4, ex1_4⟩ : ∃ y : Int32, y = x1 + (1 : Int32) := ⟨_, rfl⟩
      replace hf := lt_e ex1_4 hf
      refine lv_iinc (v := x1_4) (lv' := [(1, .int x1_4), (0, .ref (G.1 122))]) hx hb dX7_image_20 hl (k := 1) rfl (by rw [ex1_4]; rfl) (by decide) rfl (fun ls hl => ?_)
      refine lv_goto (tgt := 2) hx hb dX7_image_23 (by decide) ?_
      exact ih _ _ hf  hh (lv_sub hl [1, 0] rfl)
set_option maxRecDepth 100000 in
set_option maxHeartbeats 4000000 in
theorem w_X7_image {Z : Int32 × Sto} (F : Fx rM p s m args cd cX7_image 2 RX7 G) (hr : meth.sig.returnType = (some .int)) (hlk : meth.locks = false)  {z : Sto} {H : Heap} {locs : List Loc} {ls : Array Slot} (hf : f_X7_image  z = some Z) (hh : Hh rM G z s H locs) (hl : lv_has ls 2 [(0, .ref (G.1 122))]) : W p l e rmX7_image s m args below meth cd H locs 0 0 (MQ below (QI rM G Z.1 Z.2) args s 0 0 (Am rM G)) (F0 m 0 ls []) := by
  have hx := F.1
  have hb := F.2.1
  unfold f_X7_image at hf
  refine lv_iconst (v := 0) hx hb dX7_image_0 (by decide) ?_
  refine lv_istore_n (lv' := [(1, .int (0 : Int32)), (0, .ref (G.1 122))]) hx hb dX7_image_1 rfl hl (by decide) rfl (fun ls hl => ?_)
  exact w_X7_image_2 F hr hlk fu _ _ hf  hh (lv_sub hl [1, 0] rfl)
theorem c_X7_image {l : Launch} {G : Gm}  {z : Sto} {Z : Int32 × Sto} (hf : f_X7_image  z = some Z) : Met l yX7_image (Cond.code yX7_image cX7_image 2 (some .int) :: TT) rmX7_image (va_Pc [.ref (G.1 122)] (GS rM G z)) (QI rM G Z.1 Z.2) 0 0 (Am rM G) := by
  refine g_met [(0, .ref (G.1 122))] (by decide) (Nat.le_of_ble_eq_true rfl) rfl ?_
  intro p e s m below meth cd F hr hlk ls H locs hl hh
  exact w_X7_image F hr hlk hf hh hl
def b_X7_restore_38  (ag38 : Int32 → Sto → Option (Int32 × Sto)) (x1 : Int32) (z : Sto) : Option (Int32 × Sto) := if (252 : Int32) ≤ x1 then (lt (upI z 122 2 (z.1 122 5)) fun z7 => some ((1 : Int32), z7)) else (bd (rdI z 126 252 x1) fun t8 => bd (wrI z 124 252 x1 t8) fun z9 => lt (x1 + (1 : Int32)) fun x1_10 => ag38 x1_10 z9)
def b_X7_restore_12  (ag12 : Int32 → Sto → Option (Int32 × Sto)) (x1 : Int32) (z : Sto) : Option (Int32 × Sto) := if (42 : Int32) ≤ x1 then (wl2 (b_X7_restore_38) fu (0 : Int32) z) else (bd (rdI z 125 42 x1) fun t3 => bd (wrI z 123 42 x1 t3) fun z4 => lt (x1 + (1 : Int32)) fun x1_5 => ag12 x1_5 z4)
def f_X7_restore  (z : Sto) : Option (Int32 × Sto) := if 0 ≤ (z.1 122 5) then (wl2 (b_X7_restore_12) fu (0 : Int32) z) else (some ((-4 : Int32), z))
set_option maxRecDepth 100000 in
set_option maxHeartbeats 4000000 in
theorem w_X7_restore_38  {Z : Int32 × Sto} (F : Fx rM p s m args cd cX7_restore 2 RX7 G) (hr : meth.sig.returnType = (some .int)) (hlk : meth.locks = false)  : ∀ (n : Nat), ∀ (x1 : Int32) (z : Sto), wl2 (b_X7_restore_38) n x1 z = some Z → ∀ {H : Heap} {locs : List Loc} {ls : Array Slot}, Hh rM G z s H locs → lv_has ls 2 [(0, .ref (G.1 122)), (1, .int x1)] → W p l e rmX7_restore s m args below meth cd H locs 0 0 (MQ below (QI rM G Z.1 Z.2) args s 0 0 (Am rM G)) (F0 m 38 ls []) := by
  have hx := F.1
  have hb := F.2.1
  intro n
  induction n with
  | zero =>
    intro x1 z hf
    exact absurd hf (by intro h; cases h)
  | succ n ih =>
    intro x1 z hf  H locs ls hh hl
    replace hf : b_X7_restore_38 (wl2 (b_X7_restore_38) n) x1 z = some Z := hf
    unfold b_X7_restore_38 at hf
    refine lv_iload_n hx hb dX7_restore_38 rfl (lv_at hl 1 rfl) ?_
    refine lv_sipush (v := 252) hx hb dX7_restore_39 (by decide) ?_
    refine lv_icmp_ge (tgt := 63) hx hb dX7_restore_42 (by decide) (fun c6 => ?_) (fun c6 => ?_)
    · replace hf := itp c6 hf
      refine lv_aload_n hx hb dX7_restore_63 rfl (lv_at hl 0 rfl) ?_
      refine lv_aload_n hx hb dX7_restore_64 rfl (lv_at hl 0 rfl) ?_
      refine r_X7_22 F hh in_122 sh_122 dX7_restore_65 ?_
      refine s_X7_112 F hh in_122 sh_122 dX7_restore_68 (fun z7 ez7 H locs hh => ?_)
      replace hf := lt_e ez7 hf
      refine lv_iconst (v := 1) hx hb dX7_restore_71 (by decide) ?_
      exact g_iretW F hr hlk hh hf dX7_restore_72
    · replace hf := itn c6 hf
      refine lv_aload_n hx hb dX7_restore_45 rfl (lv_at hl 0 rfl) ?_
      refine r_X7_13 (b' := 124) F hh in_122 sh_122 rfl dX7_restore_46 ?_
      refine lv_iload_n hx hb dX7_restore_49 rfl (lv_at hl 1 rfl) ?_
      refine lv_aload_n hx hb dX7_restore_50 rfl (lv_at hl 0 rfl) ?_
      refine r_X7_19 (b' := 126) F hh in_122 sh_122 rfl dX7_restore_51 ?_
      refine lv_iload_n hx hb dX7_restore_54 rfl (lv_at hl 1 rfl) ?_
      obtain ⟨t8, ht8, hf⟩ := ob hf
      refine g_iald F hh in_126 sh_126 ht8 dX7_restore_55 ?_
      obtain ⟨z9, hz9, hf⟩ := ob hf
      refine g_iast F hh in_124 sh_124 hz9 dX7_restore_56 (fun H locs hh => ?_)
      obtain ⟨x1_10, ex1_10⟩ : ∃ y : Int32, y = x1 + (1 : Int32) := ⟨_, rfl⟩
      replace hf := lt_e ex1_10 hf
      refine lv_iinc (v := x1_10) (lv' := [(1, .int x1_10), (0, .ref (G.1 122))]) hx hb dX7_restore_57 hl (k := 1) rfl (by rw [ex1_10]; rfl) (by decide) rfl (fun ls hl => ?_)
      refine lv_goto (tgt := 38) hx hb dX7_restore_60 (by decide) ?_
      exact ih _ _ hf  hh (lv_sub hl [1, 0] rfl)
set_option maxRecDepth 100000 in
set_option maxHeartbeats 4000000 in
theorem w_X7_restore_12  {Z : Int32 × Sto} (F : Fx rM p s m args cd cX7_restore 2 RX7 G) (hr : meth.sig.returnType = (some .int)) (hlk : meth.locks = false)  : ∀ (n : Nat), ∀ (x1 : Int32) (z : Sto), wl2 (b_X7_restore_12) n x1 z = some Z → ∀ {H : Heap} {locs : List Loc} {ls : Array Slot}, Hh rM G z s H locs → lv_has ls 2 [(0, .ref (G.1 122)), (1, .int x1)] → W p l e rmX7_restore s m args below meth cd H locs 0 0 (MQ below (QI rM G Z.1 Z.2) args s 0 0 (Am rM G)) (F0 m 12 ls []) := by
  have hx := F.1
  have hb := F.2.1
  intro n
  induction n with
  | zero =>
    intro x1 z hf
    exact absurd hf (by intro h; cases h)
  | succ n ih =>
    intro x1 z hf  H locs ls hh hl
    replace hf : b_X7_restore_12 (wl2 (b_X7_restore_12) n) x1 z = some Z := hf
    unfold b_X7_restore_12 at hf
    refine lv_iload_n hx hb dX7_restore_12 rfl (lv_at hl 1 rfl) ?_
    refine lv_bipush (v := 42) hx hb dX7_restore_13 (by decide) ?_
    refine lv_icmp_ge (tgt := 36) hx hb dX7_restore_15 (by decide) (fun c2 => ?_) (fun c2 => ?_)
    · replace hf := itp c2 hf
      refine lv_iconst (v := 0) hx hb dX7_restore_36 (by decide) ?_
      refine lv_istore_n (lv' := [(1, .int (0 : Int32)), (0, .ref (G.1 122))]) hx hb dX7_restore_37 rfl hl (by decide) rfl (fun ls hl => ?_)
      exact w_X7_restore_38 F hr hlk fu _ _ hf  hh (lv_sub hl [1, 0] rfl)
    · replace hf := itn c2 hf
      refine lv_aload_n hx hb dX7_restore_18 rfl (lv_at hl 0 rfl) ?_
      refine r_X7_7 (b' := 123) F hh in_122 sh_122 rfl dX7_restore_19 ?_
      refine lv_iload_n hx hb dX7_restore_22 rfl (lv_at hl 1 rfl) ?_
      refine lv_aload_n hx hb dX7_restore_23 rfl (lv_at hl 0 rfl) ?_
      refine r_X7_16 (b' := 125) F hh in_122 sh_122 rfl dX7_restore_24 ?_
      refine lv_iload_n hx hb dX7_restore_27 rfl (lv_at hl 1 rfl) ?_
      obtain ⟨t3, ht3, hf⟩ := ob hf
      refine g_iald F hh in_125 sh_125 ht3 dX7_restore_28 ?_
      obtain ⟨z4, hz4, hf⟩ := ob hf
      refine g_iast F hh in_123 sh_123 hz4 dX7_restore_29 (fun H locs hh => ?_)
      obtain ⟨x1_5, ex1_5⟩ : ∃ y : Int32, y = x1 + (1 : Int32) := ⟨_, rfl⟩
      replace hf := lt_e ex1_5 hf
      refine lv_iinc (v := x1_5) (lv' := [(1, .int x1_5), (0, .ref (G.1 122))]) hx hb dX7_restore_30 hl (k := 1) rfl (by rw [ex1_5]; rfl) (by decide) rfl (fun ls hl => ?_)
      refine lv_goto (tgt := 12) hx hb dX7_restore_33 (by decide) ?_
      exact ih _ _ hf  hh (lv_sub hl [1, 0] rfl)
set_option maxRecDepth 100000 in
set_option maxHeartbeats 4000000 in
theorem w_X7_restore {Z : Int32 × Sto} (F : Fx rM p s m args cd cX7_restore 2 RX7 G) (hr : meth.sig.returnType = (some .int)) (hlk : meth.locks = false)  {z : Sto} {H : Heap} {locs : List Loc} {ls : Array Slot} (hf : f_X7_restore  z = some Z) (hh : Hh rM G z s H locs) (hl : lv_has ls 2 [(0, .ref (G.1 122))]) : W p l e rmX7_restore s m args below meth cd H locs 0 0 (MQ below (QI rM G Z.1 Z.2) args s 0 0 (Am rM G)) (F0 m 0 ls []) := by
  have hx := F.1
  have hb := F.2.1
  unfold f_X7_restore at hf
  refine lv_aload_n hx hb dX7_restore_0 rfl (lv_at hl 0 rfl) ?_
  refine r_X7_22 F hh in_122 sh_122 dX7_restore_1 ?_
  refine lv_if_ge (tgt := 10) hx hb dX7_restore_4 (by decide) (fun c1 => ?_) (fun c1 => ?_)
  · replace hf := itp c1 hf
    refine lv_iconst (v := 0) hx hb dX7_restore_10 (by decide) ?_
    refine lv_istore_n (lv' := [(1, .int (0 : Int32)), (0, .ref (G.1 122))]) hx hb dX7_restore_11 rfl hl (by decide) rfl (fun ls hl => ?_)
    exact w_X7_restore_12 F hr hlk fu _ _ hf  hh (lv_sub hl [1, 0] rfl)
  · replace hf := itn c1 hf
    refine lv_bipush (v := -4) hx hb dX7_restore_7 (by decide) ?_
    exact g_iretW F hr hlk hh hf dX7_restore_9
theorem c_X7_restore {l : Launch} {G : Gm}  {z : Sto} {Z : Int32 × Sto} (hf : f_X7_restore  z = some Z) : Met l yX7_restore (Cond.code yX7_restore cX7_restore 2 (some .int) :: TT) rmX7_restore (va_Pc [.ref (G.1 122)] (GS rM G z)) (QI rM G Z.1 Z.2) 0 0 (Am rM G) := by
  refine g_met [(0, .ref (G.1 122))] (by decide) (Nat.le_of_ble_eq_true rfl) rfl ?_
  intro p e s m below meth cd F hr hlk ls H locs hl hh
  exact w_X7_restore F hr hlk hf hh hl
def f_X7_isSheet (x0 : Int32) (z : Sto) : Option (Int32) := bd (f_X7_in ((Int32.toInt64 x0)) (0 : Int64) (3 : Int64) z) fun t1 => bd (bz t1) fun t2 => some t2
set_option maxRecDepth 100000 in
set_option maxHeartbeats 4000000 in
theorem w_X7_isSheet {Z : Int32} (F : Fx rM p s m args cd cX7_isSheet 1 RX7 G) (hr : meth.sig.returnType = (some .boolean)) (hlk : meth.locks = false) {x0 : Int32} {z : Sto} {H : Heap} {locs : List Loc} {ls : Array Slot} (hf : f_X7_isSheet x0 z = some Z) (hh : Hh rM G z s H locs) (hl : lv_has ls 1 [(0, .int x0)]) : W p l e rmX7_isSheet s m args below meth cd H locs 0 0 (MQ below (QI rM G Z z) args s 0 0 (Am rM G)) (F0 m 0 ls []) := by
  have hx := F.1
  have hb := F.2.1
  unfold f_X7_isSheet at hf
  refine lv_iload_n hx hb dX7_isSheet_0 rfl (lv_at hl 0 rfl) ?_
  refine lv_i2l hx hb dX7_isSheet_1 rfl ?_
  refine lv_lconst (v := 0) hx hb dX7_isSheet_2 (by decide) ?_
  refine lv_ldc2 hx hb F.2.2.2.1 (F.2.2.2.2.1 _ lk1342) dX7_isSheet_3 ?_
  obtain ⟨t1, ht1, hf⟩ := ob hf
  refine m_X7_79 F hh (c_X7_in ht1) rfl hl (Nat.le_of_ble_eq_true rfl) dX7_isSheet_6 (fun H locs hh => ?_)
  obtain ⟨t2, ht2, hf⟩ := ob hf
  exact g_zret F hr hlk (bz_e ht2).2 hh ((bz_e ht2).1.symm.trans (Option.some.inj hf)) rfl dX7_isSheet_9
theorem c_X7_isSheet {l : Launch} {G : Gm} {x0 : Int32} {z : Sto} {Z : Int32} (hf : f_X7_isSheet x0 z = some Z) : Met l yX7_isSheet (Cond.code yX7_isSheet cX7_isSheet 1 (some .boolean) :: TT) rmX7_isSheet (va_Pc [.int x0] (GS rM G z)) (QI rM G Z z) 0 0 (Am rM G) := by
  refine g_met [(0, .int x0)] (by decide) (Nat.le_of_ble_eq_true rfl) rfl ?_
  intro p e s m below meth cd F hr hlk ls H locs hl hh
  exact w_X7_isSheet F hr hlk hf hh hl
def f_X7_cut (x0 : Int32) (x1 : Int64) (z : Sto) : Option (Int64) := if x0 = 0 then (some (Int32.toInt64 (Int8.toInt32 (Int32.toInt8 (Int64.toInt32 x1))))) else (if x0 = (1 : Int32) then (some (Int32.toInt64 (Int16.toInt32 (Int32.toInt16 (Int64.toInt32 x1))))) else (if x0 = (2 : Int32) then (some (Int32.toInt64 (Int64.toInt32 x1))) else (some x1)))
set_option maxRecDepth 100000 in
set_option maxHeartbeats 4000000 in
theorem w_X7_cut {Z : Int64} (F : Fx rM p s m args cd cX7_cut 3 RX7 G) (hr : meth.sig.returnType = (some .long)) (hlk : meth.locks = false) {x0 : Int32} {x1 : Int64} {z : Sto} {H : Heap} {locs : List Loc} {ls : Array Slot} (hf : f_X7_cut x0 x1 z = some Z) (hh : Hh rM G z s H locs) (hl : lv_has ls 3 [(0, .int x0), (1, .long x1)]) : W p l e rmX7_cut s m args below meth cd H locs 0 0 (MQ below (QL rM G Z z) args s 0 0 (Am rM G)) (F0 m 0 ls []) := by
  have hx := F.1
  have hb := F.2.1
  unfold f_X7_cut at hf
  refine lv_iload_n hx hb dX7_cut_0 rfl (lv_at hl 0 rfl) ?_
  refine lv_if_ne (tgt := 11) hx hb dX7_cut_1 (by decide) (fun c1 => ?_) (fun c1 => ?_)
  · replace hf := itn c1 hf
    refine lv_iload_n hx hb dX7_cut_11 rfl (lv_at hl 0 rfl) ?_
    refine lv_iconst (v := 1) hx hb dX7_cut_12 (by decide) ?_
    refine lv_icmp_ne (tgt := 23) hx hb dX7_cut_13 (by decide) (fun c2 => ?_) (fun c2 => ?_)
    · replace hf := itn c2 hf
      refine lv_iload_n hx hb dX7_cut_23 rfl (lv_at hl 0 rfl) ?_
      refine lv_iconst (v := 2) hx hb dX7_cut_24 (by decide) ?_
      refine lv_icmp_ne (tgt := 34) hx hb dX7_cut_25 (by decide) (fun c3 => ?_) (fun c3 => ?_)
      · replace hf := itn c3 hf
        refine lv_lload_n hx hb dX7_cut_34 rfl (lv_at hl 1 rfl) ?_
        exact g_lret F hr hlk hh (Option.some.inj hf) rfl dX7_cut_35
      · replace hf := itp c3 hf
        refine lv_lload_n hx hb dX7_cut_28 rfl (lv_at hl 1 rfl) ?_
        refine lv_l2i hx hb dX7_cut_29 rfl ?_
        refine lv_i2l hx hb dX7_cut_30 rfl ?_
        refine lv_goto (tgt := 35) hx hb dX7_cut_31 (by decide) ?_
        exact g_lret F hr hlk hh (Option.some.inj hf) rfl dX7_cut_35
    · replace hf := itp c2 hf
      refine lv_lload_n hx hb dX7_cut_16 rfl (lv_at hl 1 rfl) ?_
      refine lv_l2i hx hb dX7_cut_17 rfl ?_
      refine lv_i2s hx hb dX7_cut_18 rfl ?_
      refine lv_i2l hx hb dX7_cut_19 rfl ?_
      refine lv_goto (tgt := 35) hx hb dX7_cut_20 (by decide) ?_
      exact g_lret F hr hlk hh (Option.some.inj hf) rfl dX7_cut_35
  · replace hf := itp c1 hf
    refine lv_lload_n hx hb dX7_cut_4 rfl (lv_at hl 1 rfl) ?_
    refine lv_l2i hx hb dX7_cut_5 rfl ?_
    refine lv_i2b hx hb dX7_cut_6 rfl ?_
    refine lv_i2l hx hb dX7_cut_7 rfl ?_
    refine lv_goto (tgt := 35) hx hb dX7_cut_8 (by decide) ?_
    exact g_lret F hr hlk hh (Option.some.inj hf) rfl dX7_cut_35
theorem c_X7_cut {l : Launch} {G : Gm} {x0 : Int32} {x1 : Int64} {z : Sto} {Z : Int64} (hf : f_X7_cut x0 x1 z = some Z) : Met l yX7_cut (Cond.code yX7_cut cX7_cut 3 (some .long) :: TT) rmX7_cut (va_Pc [.int x0, .long x1] (GS rM G z)) (QL rM G Z z) 0 0 (Am rM G) := by
  refine g_met [(0, .int x0), (1, .long x1)] (by decide) (Nat.le_of_ble_eq_true rfl) rfl ?_
  intro p e s m below meth cd F hr hlk ls H locs hl hh
  exact w_X7_cut F hr hlk hf hh hl
def j_X7_found_42 (z : Sto)   : Option (Int32) := some (-13 : Int32)
def f_X7_found (x1 : Int32) (x2 : Int32) (x3 : Int32) (x4 : Int32) (z : Sto) : Option (Int32) := bd (rdI z 128 4 x1) fun t1 => if 0 ≤ t1 then (bd (rdI z 128 4 x1) fun t3 => if t3 = x2 then (if x3 < 0 then (j_X7_found_42 z ) else (bd (rdI z 129 4 x1) fun t6 => if x4 ≤ (t6 - x3) then (some (0 : Int32)) else (j_X7_found_42 z ))) else (some (-12 : Int32))) else (some (-11 : Int32))
set_option maxRecDepth 100000 in
set_option maxHeartbeats 4000000 in
theorem w_X7_found_42 {z : Sto}  {Z : Int32} (F : Fx rM p s m args cd cX7_found 5 RX7 G) (hr : meth.sig.returnType = (some .int)) (hlk : meth.locks = false)   {H : Heap} {locs : List Loc} {ls : Array Slot} (hf : j_X7_found_42 z  = some Z) (hh : Hh rM G z s H locs) (hl : lv_has ls 5 []) : W p l e rmX7_found s m args below meth cd H locs 0 0 (MQ below (QI rM G Z z) args s 0 0 (Am rM G)) (F0 m 42 ls []) := by
  have hx := F.1
  have hb := F.2.1
  unfold j_X7_found_42 at hf
  refine lv_bipush (v := -13) hx hb dX7_found_42 (by decide) ?_
  refine lv_goto (tgt := 48) hx hb dX7_found_44 (by decide) ?_
  exact g_iret F hr hlk hh (Option.some.inj hf) rfl dX7_found_48
set_option maxRecDepth 100000 in
set_option maxHeartbeats 4000000 in
theorem w_X7_found {Z : Int32} (F : Fx rM p s m args cd cX7_found 5 RX7 G) (hr : meth.sig.returnType = (some .int)) (hlk : meth.locks = false) {x1 : Int32} {x2 : Int32} {x3 : Int32} {x4 : Int32} {z : Sto} {H : Heap} {locs : List Loc} {ls : Array Slot} (hf : f_X7_found x1 x2 x3 x4 z = some Z) (hh : Hh rM G z s H locs) (hl : lv_has ls 5 [(0, .ref (G.1 122)), (1, .int x1), (2, .int x2), (3, .int x3), (4, .int x4)]) : W p l e rmX7_found s m args below meth cd H locs 0 0 (MQ below (QI rM G Z z) args s 0 0 (Am rM G)) (F0 m 0 ls []) := by
  have hx := F.1
  have hb := F.2.1
  unfold f_X7_found at hf
  refine lv_aload_n hx hb dX7_found_0 rfl (lv_at hl 0 rfl) ?_
  refine r_X7_29 (b' := 128) F hh in_122 sh_122 rfl dX7_found_1 ?_
  refine lv_iload_n hx hb dX7_found_4 rfl (lv_at hl 1 rfl) ?_
  obtain ⟨t1, ht1, hf⟩ := ob hf
  refine g_iald F hh in_128 sh_128 ht1 dX7_found_5 ?_
  refine lv_if_ge (tgt := 12) hx hb dX7_found_6 (by decide) (fun c2 => ?_) (fun c2 => ?_)
  · replace hf := itp c2 hf
    refine lv_aload_n hx hb dX7_found_12 rfl (lv_at hl 0 rfl) ?_
    refine r_X7_29 (b' := 128) F hh in_122 sh_122 rfl dX7_found_13 ?_
    refine lv_iload_n hx hb dX7_found_16 rfl (lv_at hl 1 rfl) ?_
    obtain ⟨t3, ht3, hf⟩ := ob hf
    refine g_iald F hh in_128 sh_128 ht3 dX7_found_17 ?_
    refine lv_iload_n hx hb dX7_found_18 rfl (lv_at hl 2 rfl) ?_
    refine lv_icmp_eq (tgt := 25) hx hb dX7_found_19 (by decide) (fun c4 => ?_) (fun c4 => ?_)
    · replace hf := itp c4 hf
      refine lv_iload_n hx hb dX7_found_25 rfl (lv_at hl 3 rfl) ?_
      refine lv_if_lt (tgt := 42) hx hb dX7_found_26 (by decide) (fun c5 => ?_) (fun c5 => ?_)
      · replace hf := itp c5 hf
        exact w_X7_found_42 F hr hlk hf  hh (lv_sub hl [] rfl)
      · replace hf := itn c5 hf
        refine lv_iload hx hb dX7_found_29 (lv_at hl 4 rfl) ?_
        refine lv_aload_n hx hb dX7_found_31 rfl (lv_at hl 0 rfl) ?_
        refine r_X7_32 (b' := 129) F hh in_122 sh_122 rfl dX7_found_32 ?_
        refine lv_iload_n hx hb dX7_found_35 rfl (lv_at hl 1 rfl) ?_
        obtain ⟨t6, ht6, hf⟩ := ob hf
        refine g_iald F hh in_129 sh_129 ht6 dX7_found_36 ?_
        refine lv_iload_n hx hb dX7_found_37 rfl (lv_at hl 3 rfl) ?_
        refine lv_isub hx hb dX7_found_38 ?_
        refine lv_icmp_le (tgt := 47) hx hb dX7_found_39 (by decide) (fun c7 => ?_) (fun c7 => ?_)
        · replace hf := itp c7 hf
          refine lv_iconst (v := 0) hx hb dX7_found_47 (by decide) ?_
          exact g_iret F hr hlk hh (Option.some.inj hf) rfl dX7_found_48
        · replace hf := itn c7 hf
          exact w_X7_found_42 F hr hlk hf  hh (lv_sub hl [] rfl)
    · replace hf := itn c4 hf
      refine lv_bipush (v := -12) hx hb dX7_found_22 (by decide) ?_
      exact g_iret F hr hlk hh (Option.some.inj hf) rfl dX7_found_24
  · replace hf := itn c2 hf
    refine lv_bipush (v := -11) hx hb dX7_found_9 (by decide) ?_
    exact g_iret F hr hlk hh (Option.some.inj hf) rfl dX7_found_11
theorem c_X7_found {l : Launch} {G : Gm} {x1 : Int32} {x2 : Int32} {x3 : Int32} {x4 : Int32} {z : Sto} {Z : Int32} (hf : f_X7_found x1 x2 x3 x4 z = some Z) : Met l yX7_found (Cond.code yX7_found cX7_found 5 (some .int) :: TT) rmX7_found (va_Pc [.ref (G.1 122), .int x1, .int x2, .int x3, .int x4] (GS rM G z)) (QI rM G Z z) 0 0 (Am rM G) := by
  refine g_met [(0, .ref (G.1 122)), (1, .int x1), (2, .int x2), (3, .int x3), (4, .int x4)] (by decide) (Nat.le_of_ble_eq_true rfl) rfl ?_
  intro p e s m below meth cd F hr hlk ls H locs hl hh
  exact w_X7_found F hr hlk hf hh hl
def j_X7_isAtRest_71 (z : Sto) (ag4 : Int32 → Int32 → Int32 → Option (Int32)) (ag23 : Int32 → Int32 → Int32 → Int64 → Int64 → Int32 → Option (Int32)) (x1 : Int32) (x2 : Int32) (x3 : Int32) (x6 : Int64) (x8 : Int32) (k0 : Int64) (k1 : Int64) : Option (Int32) := lt ((k1 + k0)) fun x4_17 => bd (f_X7_from x8 z) fun t18 => if t18 = x3 then (bd (f_X7_stepY x8 z) fun t22 => bd (rdL z 130 96 (x1 + (x8 / (2 : Int32)))) fun t23 => lt ((x6 + ((Int32.toInt64 t22) * t23))) fun x6_24 => lt (x8 + (1 : Int32)) fun x8_25 => ag23 x1 x2 x3 x4_17 x6_24 x8_25) else (lt ((x6 + (0 : Int64))) fun x6_20 => lt (x8 + (1 : Int32)) fun x8_21 => ag23 x1 x2 x3 x4_17 x6_20 x8_21)
def b_X7_isAtRest_23 (z : Sto) (ag4 : Int32 → Int32 → Int32 → Option (Int32)) (ag23 : Int32 → Int32 → Int32 → Int64 → Int64 → Int32 → Option (Int32)) (x1 : Int32) (x2 : Int32) (x3 : Int32) (x4 : Int64) (x6 : Int64) (x8 : Int32) : Option (Int32) := bd (rdI z 123 42 (1 : Int32)) fun t4 => if ((2 : Int32) * t4) ≤ x8 then (if x2 = 0 then (lt (x3 + (1 : Int32)) fun x3_7 => ag4 x1 (0 : Int32) x3_7) else (if (lg_cmp x4 (0 : Int64)) = 0 then (if (lg_cmp x6 (0 : Int64)) = 0 then (lt (x3 + (1 : Int32)) fun x3_12 => ag4 x1 (1 : Int32) x3_12) else (lt (x3 + (1 : Int32)) fun x3_11 => ag4 x1 (0 : Int32) x3_11)) else (lt (x3 + (1 : Int32)) fun x3_9 => ag4 x1 (0 : Int32) x3_9))) else (bd (f_X7_from x8 z) fun t13 => if t13 = x3 then (bd (f_X7_stepX x8 z) fun t15 => bd (rdL z 130 96 (x1 + (x8 / (2 : Int32)))) fun t16 => j_X7_isAtRest_71 z ag4 ag23 x1 x2 x3 x6 x8 (((Int32.toInt64 t15) * t16)) x4) else (j_X7_isAtRest_71 z ag4 ag23 x1 x2 x3 x6 x8 (0 : Int64) x4))
def b_X7_isAtRest_4 (z : Sto)  (ag4 : Int32 → Int32 → Int32 → Option (Int32)) (x1 : Int32) (x2 : Int32) (x3 : Int32) : Option (Int32) := bd (rdI z 123 42 (0 : Int32)) fun t1 => if t1 ≤ x3 then (bd (bz x2) fun t3 => some t3) else (wl6 (b_X7_isAtRest_23 z ag4) fu x1 x2 x3 (0 : Int64) (0 : Int64) (0 : Int32))
def f_X7_isAtRest (x1 : Int32) (z : Sto) : Option (Int32) := wl3 (b_X7_isAtRest_4 z) fu x1 (1 : Int32) (0 : Int32)
set_option maxRecDepth 100000 in
set_option maxHeartbeats 4000000 in
theorem w_X7_isAtRest_71 {z : Sto} {ag4 : Int32 → Int32 → Int32 → Option (Int32)} {ag23 : Int32 → Int32 → Int32 → Int64 → Int64 → Int32 → Option (Int32)} {Z : Int32} (F : Fx rM p s m args cd cX7_isAtRest 9 RX7 G) (hr : meth.sig.returnType = (some .boolean)) (hlk : meth.locks = false) (hag4 : ∀ (x1 : Int32) (x2 : Int32) (x3 : Int32), ag4 x1 x2 x3 = some Z → ∀ {H : Heap} {locs : List Loc} {ls : Array Slot}, Hh rM G z s H locs → lv_has ls 9 [(0, .ref (G.1 122)), (1, .int x1), (2, .int x2), (3, .int x3)] → W p l e rmX7_isAtRest s m args below meth cd H locs 0 0 (MQ below (QI rM G Z z) args s 0 0 (Am rM G)) (F0 m 4 ls [])) (hag23 : ∀ (x1 : Int32) (x2 : Int32) (x3 : Int32) (x4 : Int64) (x6 : Int64) (x8 : Int32), ag23 x1 x2 x3 x4 x6 x8 = some Z → ∀ {H : Heap} {locs : List Loc} {ls : Array Slot}, Hh rM G z s H locs → lv_has ls 9 [(0, .ref (G.1 122)), (1, .int x1), (2, .int x2), (3, .int x3), (4, .long x4), (6, .long x6), (8, .int x8)] → W p l e rmX7_isAtRest s m args below meth cd H locs 0 0 (MQ below (QI rM G Z z) args s 0 0 (Am rM G)) (F0 m 23 ls [])) {x1 : Int32} {x2 : Int32} {x3 : Int32} {x6 : Int64} {x8 : Int32} {k0 : Int64} {k1 : Int64} {H : Heap} {locs : List Loc} {ls : Array Slot} (hf : j_X7_isAtRest_71 z ag4 ag23 x1 x2 x3 x6 x8 k0 k1 = some Z) (hh : Hh rM G z s H locs) (hl : lv_has ls 9 [(0, .ref (G.1 122)), (1, .int x1), (2, .int x2), (3, .int x3), (6, .long x6), (8, .int x8)]) : W p l e rmX7_isAtRest s m args below meth cd H locs 0 0 (MQ below (QI rM G Z z) args s 0 0 (Am rM G)) (F0 m 71 ls [.long k0, .long k1]) := by
  have hx := F.1
  have hb := F.2.1
  unfold j_X7_isAtRest_71 at hf
  refine lv_ladd hx hb dX7_isAtRest_71 ?_
  refine lv_topl (fun x4_17 ex4_17 => ?_)
  replace hf := lt_e ex4_17 hf
  refine lv_lstore (lv' := [(4, .long x4_17), (0, .ref (G.1 122)), (1, .int x1), (2, .int x2), (3, .int x3), (6, .long x6), (8, .int x8)]) hx hb dX7_isAtRest_72 hl (by decide) rfl (fun ls hl => ?_)
  refine lv_lload hx hb dX7_isAtRest_74 (lv_at hl 5 rfl) ?_
  refine lv_aload_n hx hb dX7_isAtRest_76 rfl (lv_at hl 1 rfl) ?_
  refine lv_iload hx hb dX7_isAtRest_77 (lv_at hl 6 rfl) ?_
  obtain ⟨t18, ht18, hf⟩ := ob hf
  refine m_X7_98 F hh (c_X7_from ht18) in_122 sh_122 rfl hl (Nat.le_of_ble_eq_true rfl) dX7_isAtRest_79 (fun H locs hh => ?_)
  refine lv_iload_n hx hb dX7_isAtRest_82 rfl (lv_at hl 4 rfl) ?_
  refine lv_icmp_ne (tgt := 108) hx hb dX7_isAtRest_83 (by decide) (fun c19 => ?_) (fun c19 => ?_)
  · replace hf := itn c19 hf
    refine lv_lconst (v := 0) hx hb dX7_isAtRest_108 (by decide) ?_
    refine lv_ladd hx hb dX7_isAtRest_109 ?_
    refine lv_topl (fun x6_20 ex6_20 => ?_)
    replace hf := lt_e ex6_20 hf
    refine lv_lstore (lv' := [(6, .long x6_20), (4, .long x4_17), (0, .ref (G.1 122)), (1, .int x1), (2, .int x2), (3, .int x3), (8, .int x8)]) hx hb dX7_isAtRest_110 hl (by decide) rfl (fun ls hl => ?_)
    obtain ⟨x8_21, ex8_21⟩ : ∃ y : Int32, y = x8 + (1 : Int32) := ⟨_, rfl⟩
    replace hf := lt_e ex8_21 hf
    refine lv_iinc (v := x8_21) (lv' := [(8, .int x8_21), (6, .long x6_20), (4, .long x4_17), (0, .ref (G.1 122)), (1, .int x1), (2, .int x2), (3, .int x3)]) hx hb dX7_isAtRest_112 hl (k := 6) rfl (by rw [ex8_21]; rfl) (by decide) rfl (fun ls hl => ?_)
    refine lv_goto (tgt := 23) hx hb dX7_isAtRest_115 (by decide) ?_
    exact hag23 _ _ _ _ _ _ hf  hh (lv_sub hl [3, 4, 5, 6, 2, 1, 0] rfl)
  · replace hf := itp c19 hf
    refine lv_aload_n hx hb dX7_isAtRest_86 rfl (lv_at hl 1 rfl) ?_
    refine lv_iload hx hb dX7_isAtRest_87 (lv_at hl 6 rfl) ?_
    obtain ⟨t22, ht22, hf⟩ := ob hf
    refine m_X7_192 F hh (c_X7_stepY ht22) in_122 sh_122 rfl hl (Nat.le_of_ble_eq_true rfl) dX7_isAtRest_89 (fun H locs hh => ?_)
    refine lv_i2l hx hb dX7_isAtRest_92 rfl ?_
    refine lv_aload_n hx hb dX7_isAtRest_93 rfl (lv_at hl 1 rfl) ?_
    refine r_X7_35 (b' := 130) F hh in_122 sh_122 rfl dX7_isAtRest_94 ?_
    refine lv_iload_n hx hb dX7_isAtRest_97 rfl (lv_at hl 2 rfl) ?_
    refine lv_iload hx hb dX7_isAtRest_98 (lv_at hl 6 rfl) ?_
    refine lv_iconst (v := 2) hx hb dX7_isAtRest_100 (by decide) ?_
    refine lv_idiv hx hb dX7_isAtRest_101 (by decide) ?_
    refine lv_iadd hx hb dX7_isAtRest_102 ?_
    obtain ⟨t23, ht23, hf⟩ := ob hf
    refine g_lald F hh in_130 sh_130 ht23 dX7_isAtRest_103 ?_
    refine lv_lmul hx hb dX7_isAtRest_104 ?_
    refine lv_goto (tgt := 109) hx hb dX7_isAtRest_105 (by decide) ?_
    refine lv_ladd hx hb dX7_isAtRest_109 ?_
    refine lv_topl (fun x6_24 ex6_24 => ?_)
    replace hf := lt_e ex6_24 hf
    refine lv_lstore (lv' := [(6, .long x6_24), (4, .long x4_17), (0, .ref (G.1 122)), (1, .int x1), (2, .int x2), (3, .int x3), (8, .int x8)]) hx hb dX7_isAtRest_110 hl (by decide) rfl (fun ls hl => ?_)
    obtain ⟨x8_25, ex8_25⟩ : ∃ y : Int32, y = x8 + (1 : Int32) := ⟨_, rfl⟩
    replace hf := lt_e ex8_25 hf
    refine lv_iinc (v := x8_25) (lv' := [(8, .int x8_25), (6, .long x6_24), (4, .long x4_17), (0, .ref (G.1 122)), (1, .int x1), (2, .int x2), (3, .int x3)]) hx hb dX7_isAtRest_112 hl (k := 6) rfl (by rw [ex8_25]; rfl) (by decide) rfl (fun ls hl => ?_)
    refine lv_goto (tgt := 23) hx hb dX7_isAtRest_115 (by decide) ?_
    exact hag23 _ _ _ _ _ _ hf  hh (lv_sub hl [3, 4, 5, 6, 2, 1, 0] rfl)
set_option maxRecDepth 100000 in
set_option maxHeartbeats 4000000 in
theorem w_X7_isAtRest_23 {z : Sto} {ag4 : Int32 → Int32 → Int32 → Option (Int32)} {Z : Int32} (F : Fx rM p s m args cd cX7_isAtRest 9 RX7 G) (hr : meth.sig.returnType = (some .boolean)) (hlk : meth.locks = false) (hag4 : ∀ (x1 : Int32) (x2 : Int32) (x3 : Int32), ag4 x1 x2 x3 = some Z → ∀ {H : Heap} {locs : List Loc} {ls : Array Slot}, Hh rM G z s H locs → lv_has ls 9 [(0, .ref (G.1 122)), (1, .int x1), (2, .int x2), (3, .int x3)] → W p l e rmX7_isAtRest s m args below meth cd H locs 0 0 (MQ below (QI rM G Z z) args s 0 0 (Am rM G)) (F0 m 4 ls [])) : ∀ (n : Nat), ∀ (x1 : Int32) (x2 : Int32) (x3 : Int32) (x4 : Int64) (x6 : Int64) (x8 : Int32), wl6 (b_X7_isAtRest_23 z ag4) n x1 x2 x3 x4 x6 x8 = some Z → ∀ {H : Heap} {locs : List Loc} {ls : Array Slot}, Hh rM G z s H locs → lv_has ls 9 [(0, .ref (G.1 122)), (1, .int x1), (2, .int x2), (3, .int x3), (4, .long x4), (6, .long x6), (8, .int x8)] → W p l e rmX7_isAtRest s m args below meth cd H locs 0 0 (MQ below (QI rM G Z z) args s 0 0 (Am rM G)) (F0 m 23 ls []) := by
  have hx := F.1
  have hb := F.2.1
  intro n
  induction n with
  | zero =>
    intro x1 x2 x3 x4 x6 x8 hf
    exact absurd hf (by intro h; cases h)
  | succ n ih =>
    intro x1 x2 x3 x4 x6 x8 hf  H locs ls hh hl
    replace hf : b_X7_isAtRest_23 z ag4 (wl6 (b_X7_isAtRest_23 z ag4) n) x1 x2 x3 x4 x6 x8 = some Z := hf
    unfold b_X7_isAtRest_23 at hf
    refine lv_iload hx hb dX7_isAtRest_23 (lv_at hl 6 rfl) ?_
    refine lv_iconst (v := 2) hx hb dX7_isAtRest_25 (by decide) ?_
    refine lv_aload_n hx hb dX7_isAtRest_26 rfl (lv_at hl 0 rfl) ?_
    refine r_X7_7 (b' := 123) F hh in_122 sh_122 rfl dX7_isAtRest_27 ?_
    refine lv_iconst (v := 1) hx hb dX7_isAtRest_30 (by decide) ?_
    obtain ⟨t4, ht4, hf⟩ := ob hf
    refine g_iald F hh in_123 sh_123 ht4 dX7_isAtRest_31 ?_
    refine lv_imul hx hb dX7_isAtRest_32 ?_
    refine lv_icmp_ge (tgt := 118) hx hb dX7_isAtRest_33 (by decide) (fun c5 => ?_) (fun c5 => ?_)
    · replace hf := itp c5 hf
      refine lv_iload_n hx hb dX7_isAtRest_118 rfl (lv_at hl 2 rfl) ?_
      refine lv_if_eq (tgt := 140) hx hb dX7_isAtRest_119 (by decide) (fun c6 => ?_) (fun c6 => ?_)
      · replace hf := itp c6 hf
        refine lv_iconst (v := 0) hx hb dX7_isAtRest_140 (by decide) ?_
        refine lv_istore_n (lv' := [(2, .int (0 : Int32)), (0, .ref (G.1 122)), (1, .int x1), (3, .int x3), (4, .long x4), (6, .long x6), (8, .int x8)]) hx hb dX7_isAtRest_141 rfl hl (by decide) rfl (fun ls hl => ?_)
        obtain ⟨x3_7, ex3_7⟩ : ∃ y : Int32, y = x3 + (1 : Int32) := ⟨_, rfl⟩
        replace hf := lt_e ex3_7 hf
        refine lv_iinc (v := x3_7) (lv' := [(3, .int x3_7), (2, .int (0 : Int32)), (0, .ref (G.1 122)), (1, .int x1), (4, .long x4), (6, .long x6), (8, .int x8)]) hx hb dX7_isAtRest_142 hl (k := 3) rfl (by rw [ex3_7]; rfl) (by decide) rfl (fun ls hl => ?_)
        refine lv_goto (tgt := 4) hx hb dX7_isAtRest_145 (by decide) ?_
        exact hag4 _ _ _ hf  hh (lv_sub hl [2, 3, 1, 0] rfl)
      · replace hf := itn c6 hf
        refine lv_lload hx hb dX7_isAtRest_122 (lv_at hl 4 rfl) ?_
        refine lv_lconst (v := 0) hx hb dX7_isAtRest_124 (by decide) ?_
        refine W.lcmp hx hb dX7_isAtRest_125 ?_
        refine lv_if_ne (tgt := 140) hx hb dX7_isAtRest_126 (by decide) (fun c8 => ?_) (fun c8 => ?_)
        · replace hf := itn c8 hf
          refine lv_iconst (v := 0) hx hb dX7_isAtRest_140 (by decide) ?_
          refine lv_istore_n (lv' := [(2, .int (0 : Int32)), (0, .ref (G.1 122)), (1, .int x1), (3, .int x3), (4, .long x4), (6, .long x6), (8, .int x8)]) hx hb dX7_isAtRest_141 rfl hl (by decide) rfl (fun ls hl => ?_)
          obtain ⟨x3_9, ex3_9⟩ : ∃ y : Int32, y = x3 + (1 : Int32) := ⟨_, rfl⟩
          replace hf := lt_e ex3_9 hf
          refine lv_iinc (v := x3_9) (lv' := [(3, .int x3_9), (2, .int (0 : Int32)), (0, .ref (G.1 122)), (1, .int x1), (4, .long x4), (6, .long x6), (8, .int x8)]) hx hb dX7_isAtRest_142 hl (k := 3) rfl (by rw [ex3_9]; rfl) (by decide) rfl (fun ls hl => ?_)
          refine lv_goto (tgt := 4) hx hb dX7_isAtRest_145 (by decide) ?_
          exact hag4 _ _ _ hf  hh (lv_sub hl [2, 3, 1, 0] rfl)
        · replace hf := itp c8 hf
          refine lv_lload hx hb dX7_isAtRest_129 (lv_at hl 5 rfl) ?_
          refine lv_lconst (v := 0) hx hb dX7_isAtRest_131 (by decide) ?_
          refine W.lcmp hx hb dX7_isAtRest_132 ?_
          refine lv_if_ne (tgt := 140) hx hb dX7_isAtRest_133 (by decide) (fun c10 => ?_) (fun c10 => ?_)
          · replace hf := itn c10 hf
            refine lv_iconst (v := 0) hx hb dX7_isAtRest_140 (by decide) ?_
            refine lv_istore_n (lv' := [(2, .int (0 : Int32)), (0, .ref (G.1 122)), (1, .int x1), (3, .int x3), (4, .long x4), (6, .long x6), (8, .int x8)]) hx hb dX7_isAtRest_141 rfl hl (by decide) rfl (fun ls hl => ?_)
            obtain ⟨x3_11, ex3_11⟩ : ∃ y : Int32, y = x3 + (1 : Int32) := ⟨_, rfl⟩
            replace hf := lt_e ex3_11 hf
            refine lv_iinc (v := x3_11) (lv' := [(3, .int x3_11), (2, .int (0 : Int32)), (0, .ref (G.1 122)), (1, .int x1), (4, .long x4), (6, .long x6), (8, .int x8)]) hx hb dX7_isAtRest_142 hl (k := 3) rfl (by rw [ex3_11]; rfl) (by decide) rfl (fun ls hl => ?_)
            refine lv_goto (tgt := 4) hx hb dX7_isAtRest_145 (by decide) ?_
            exact hag4 _ _ _ hf  hh (lv_sub hl [2, 3, 1, 0] rfl)
          · replace hf := itp c10 hf
            refine lv_iconst (v := 1) hx hb dX7_isAtRest_136 (by decide) ?_
            refine lv_goto (tgt := 141) hx hb dX7_isAtRest_137 (by decide) ?_
            refine lv_istore_n (lv' := [(2, .int (1 : Int32)), (0, .ref (G.1 122)), (1, .int x1), (3, .int x3), (4, .long x4), (6, .long x6), (8, .int x8)]) hx hb dX7_isAtRest_141 rfl hl (by decide) rfl (fun ls hl => ?_)
            obtain ⟨x3_12, ex3_12⟩ : ∃ y : Int32, y = x3 + (1 : Int32) := ⟨_, rfl⟩
            replace hf := lt_e ex3_12 hf
            refine lv_iinc (v := x3_12) (lv' := [(3, .int x3_12), (2, .int (1 : Int32)), (0, .ref (G.1 122)), (1, .int x1), (4, .long x4), (6, .long x6), (8, .int x8)]) hx hb dX7_isAtRest_142 hl (k := 3) rfl (by rw [ex3_12]; rfl) (by decide) rfl (fun ls hl => ?_)
            refine lv_goto (tgt := 4) hx hb dX7_isAtRest_145 (by decide) ?_
            exact hag4 _ _ _ hf  hh (lv_sub hl [2, 3, 1, 0] rfl)
    · replace hf := itn c5 hf
      refine lv_lload hx hb dX7_isAtRest_36 (lv_at hl 4 rfl) ?_
      refine lv_aload_n hx hb dX7_isAtRest_38 rfl (lv_at hl 0 rfl) ?_
      refine lv_iload hx hb dX7_isAtRest_39 (lv_at hl 6 rfl) ?_
      obtain ⟨t13, ht13, hf⟩ := ob hf
      refine m_X7_98 F hh (c_X7_from ht13) in_122 sh_122 rfl hl (Nat.le_of_ble_eq_true rfl) dX7_isAtRest_41 (fun H locs hh => ?_)
      refine lv_iload_n hx hb dX7_isAtRest_44 rfl (lv_at hl 3 rfl) ?_
      refine lv_icmp_ne (tgt := 70) hx hb dX7_isAtRest_45 (by decide) (fun c14 => ?_) (fun c14 => ?_)
      · replace hf := itn c14 hf
        refine lv_lconst (v := 0) hx hb dX7_isAtRest_70 (by decide) ?_
        exact w_X7_isAtRest_71 F hr hlk hag4 ih hf  hh (lv_sub hl [0, 1, 2, 3, 5, 6] rfl)
      · replace hf := itp c14 hf
        refine lv_aload_n hx hb dX7_isAtRest_48 rfl (lv_at hl 0 rfl) ?_
        refine lv_iload hx hb dX7_isAtRest_49 (lv_at hl 6 rfl) ?_
        obtain ⟨t15, ht15, hf⟩ := ob hf
        refine m_X7_189 F hh (c_X7_stepX ht15) in_122 sh_122 rfl hl (Nat.le_of_ble_eq_true rfl) dX7_isAtRest_51 (fun H locs hh => ?_)
        refine lv_i2l hx hb dX7_isAtRest_54 rfl ?_
        refine lv_aload_n hx hb dX7_isAtRest_55 rfl (lv_at hl 0 rfl) ?_
        refine r_X7_35 (b' := 130) F hh in_122 sh_122 rfl dX7_isAtRest_56 ?_
        refine lv_iload_n hx hb dX7_isAtRest_59 rfl (lv_at hl 1 rfl) ?_
        refine lv_iload hx hb dX7_isAtRest_60 (lv_at hl 6 rfl) ?_
        refine lv_iconst (v := 2) hx hb dX7_isAtRest_62 (by decide) ?_
        refine lv_idiv hx hb dX7_isAtRest_63 (by decide) ?_
        refine lv_iadd hx hb dX7_isAtRest_64 ?_
        obtain ⟨t16, ht16, hf⟩ := ob hf
        refine g_lald F hh in_130 sh_130 ht16 dX7_isAtRest_65 ?_
        refine lv_lmul hx hb dX7_isAtRest_66 ?_
        refine lv_goto (tgt := 71) hx hb dX7_isAtRest_67 (by decide) ?_
        exact w_X7_isAtRest_71 F hr hlk hag4 ih hf  hh (lv_sub hl [0, 1, 2, 3, 5, 6] rfl)
set_option maxRecDepth 100000 in
set_option maxHeartbeats 4000000 in
theorem w_X7_isAtRest_4 {z : Sto}  {Z : Int32} (F : Fx rM p s m args cd cX7_isAtRest 9 RX7 G) (hr : meth.sig.returnType = (some .boolean)) (hlk : meth.locks = false)  : ∀ (n : Nat), ∀ (x1 : Int32) (x2 : Int32) (x3 : Int32), wl3 (b_X7_isAtRest_4 z) n x1 x2 x3 = some Z → ∀ {H : Heap} {locs : List Loc} {ls : Array Slot}, Hh rM G z s H locs → lv_has ls 9 [(0, .ref (G.1 122)), (1, .int x1), (2, .int x2), (3, .int x3)] → W p l e rmX7_isAtRest s m args below meth cd H locs 0 0 (MQ below (QI rM G Z z) args s 0 0 (Am rM G)) (F0 m 4 ls []) := by
  have hx := F.1
  have hb := F.2.1
  intro n
  induction n with
  | zero =>
    intro x1 x2 x3 hf
    exact absurd hf (by intro h; cases h)
  | succ n ih =>
    intro x1 x2 x3 hf  H locs ls hh hl
    replace hf : b_X7_isAtRest_4 z (wl3 (b_X7_isAtRest_4 z) n) x1 x2 x3 = some Z := hf
    unfold b_X7_isAtRest_4 at hf
    refine lv_iload_n hx hb dX7_isAtRest_4 rfl (lv_at hl 3 rfl) ?_
    refine lv_aload_n hx hb dX7_isAtRest_5 rfl (lv_at hl 0 rfl) ?_
    refine r_X7_7 (b' := 123) F hh in_122 sh_122 rfl dX7_isAtRest_6 ?_
    refine lv_iconst (v := 0) hx hb dX7_isAtRest_9 (by decide) ?_
    obtain ⟨t1, ht1, hf⟩ := ob hf
    refine g_iald F hh in_123 sh_123 ht1 dX7_isAtRest_10 ?_
    refine lv_icmp_ge (tgt := 148) hx hb dX7_isAtRest_11 (by decide) (fun c2 => ?_) (fun c2 => ?_)
    · replace hf := itp c2 hf
      refine lv_iload_n hx hb dX7_isAtRest_148 rfl (lv_at hl 2 rfl) ?_
      obtain ⟨t3, ht3, hf⟩ := ob hf
      exact g_zret F hr hlk (bz_e ht3).2 hh ((bz_e ht3).1.symm.trans (Option.some.inj hf)) rfl dX7_isAtRest_149
    · replace hf := itn c2 hf
      refine lv_lconst (v := 0) hx hb dX7_isAtRest_14 (by decide) ?_
      refine lv_lstore (lv' := [(4, .long (0 : Int64)), (0, .ref (G.1 122)), (1, .int x1), (2, .int x2), (3, .int x3)]) hx hb dX7_isAtRest_15 hl (by decide) rfl (fun ls hl => ?_)
      refine lv_lconst (v := 0) hx hb dX7_isAtRest_17 (by decide) ?_
      refine lv_lstore (lv' := [(6, .long (0 : Int64)), (4, .long (0 : Int64)), (0, .ref (G.1 122)), (1, .int x1), (2, .int x2), (3, .int x3)]) hx hb dX7_isAtRest_18 hl (by decide) rfl (fun ls hl => ?_)
      refine lv_iconst (v := 0) hx hb dX7_isAtRest_20 (by decide) ?_
      refine lv_istore (lv' := [(8, .int (0 : Int32)), (6, .long (0 : Int64)), (4, .long (0 : Int64)), (0, .ref (G.1 122)), (1, .int x1), (2, .int x2), (3, .int x3)]) hx hb dX7_isAtRest_21 hl (by decide) rfl (fun ls hl => ?_)
      exact w_X7_isAtRest_23 F hr hlk ih fu _ _ _ _ _ _ hf  hh (lv_sub hl [3, 4, 5, 6, 2, 1, 0] rfl)
set_option maxRecDepth 100000 in
set_option maxHeartbeats 4000000 in
theorem w_X7_isAtRest {Z : Int32} (F : Fx rM p s m args cd cX7_isAtRest 9 RX7 G) (hr : meth.sig.returnType = (some .boolean)) (hlk : meth.locks = false) {x1 : Int32} {z : Sto} {H : Heap} {locs : List Loc} {ls : Array Slot} (hf : f_X7_isAtRest x1 z = some Z) (hh : Hh rM G z s H locs) (hl : lv_has ls 9 [(0, .ref (G.1 122)), (1, .int x1)]) : W p l e rmX7_isAtRest s m args below meth cd H locs 0 0 (MQ below (QI rM G Z z) args s 0 0 (Am rM G)) (F0 m 0 ls []) := by
  have hx := F.1
  have hb := F.2.1
  unfold f_X7_isAtRest at hf
  refine lv_iconst (v := 1) hx hb dX7_isAtRest_0 (by decide) ?_
  refine lv_istore_n (lv' := [(2, .int (1 : Int32)), (0, .ref (G.1 122)), (1, .int x1)]) hx hb dX7_isAtRest_1 rfl hl (by decide) rfl (fun ls hl => ?_)
  refine lv_iconst (v := 0) hx hb dX7_isAtRest_2 (by decide) ?_
  refine lv_istore_n (lv' := [(3, .int (0 : Int32)), (2, .int (1 : Int32)), (0, .ref (G.1 122)), (1, .int x1)]) hx hb dX7_isAtRest_3 rfl hl (by decide) rfl (fun ls hl => ?_)
  exact w_X7_isAtRest_4 F hr hlk fu _ _ _ hf  hh (lv_sub hl [2, 3, 1, 0] rfl)
theorem c_X7_isAtRest {l : Launch} {G : Gm} {x1 : Int32} {z : Sto} {Z : Int32} (hf : f_X7_isAtRest x1 z = some Z) : Met l yX7_isAtRest (Cond.code yX7_isAtRest cX7_isAtRest 9 (some .boolean) :: TT) rmX7_isAtRest (va_Pc [.ref (G.1 122), .int x1] (GS rM G z)) (QI rM G Z z) 0 0 (Am rM G) := by
  refine g_met [(0, .ref (G.1 122)), (1, .int x1)] (by decide) (Nat.le_of_ble_eq_true rfl) rfl ?_
  intro p e s m below meth cd F hr hlk ls H locs hl hh
  exact w_X7_isAtRest F hr hlk hf hh hl
def b_X7_isTimes_49 (ag11 : Int32 → Int32 → Int32 → Int32 → Sto → Option (Int32 × Sto)) (ag49 : Int32 → Int32 → Int32 → Int32 → Int32 → Sto → Option (Int32 × Sto)) (x1 : Int32) (x2 : Int32) (x3 : Int32) (x4 : Int32) (x5 : Int32) (z : Sto) : Option (Int32 × Sto) := if x4 ≤ x5 then (lt (x4 + (1 : Int32)) fun x4_20 => ag11 x1 x2 x3 x4_20 z) else (if x3 = 0 then (lt (x5 + (1 : Int32)) fun x5_22 => ag49 x1 x2 (0 : Int32) x4 x5_22 z) else (bd (rdL z 130 96 (x1 + x4)) fun t23 => bd (f_X7_pullOf x5 z) fun t24 => bd (rdL z 130 96 (x1 + x5)) fun t25 => bd (f_X7_pullOf x4 z) fun t26 => if (lg_cmp (t23 * t24) (t25 * t26)) = 0 then (lt (x5 + (1 : Int32)) fun x5_29 => ag49 x1 x2 (1 : Int32) x4 x5_29 z) else (lt (x5 + (1 : Int32)) fun x5_28 => ag49 x1 x2 (0 : Int32) x4 x5_28 z)))
def j_X7_isTimes_157 (ag117 : Int32 → Int32 → Int32 → Int32 → Sto → Option (Int32 × Sto)) (x1 : Int32) (x2 : Int32) (x4 : Int32) (z : Sto) : Option (Int32 × Sto) := lt (x4 + (1 : Int32)) fun x4_30 => ag117 x1 x2 (1 : Int32) x4_30 z
def j_X7_isTimes_177  (z : Sto) : Option (Int32 × Sto) := some ((1 : Int32), z)
def b_X7_isTimes_117  (ag117 : Int32 → Int32 → Int32 → Int32 → Sto → Option (Int32 × Sto)) (x1 : Int32) (x2 : Int32) (x3 : Int32) (x4 : Int32) (z : Sto) : Option (Int32 × Sto) := bd (rdI z 123 42 (1 : Int32)) fun t8 => if t8 ≤ x4 then (if x2 = 0 then (if x3 = 0 then (some ((0 : Int32), z)) else (j_X7_isTimes_177 z)) else (j_X7_isTimes_177 z)) else (if x3 = 0 then (lt (x4 + (1 : Int32)) fun x4_13 => ag117 x1 x2 (0 : Int32) x4_13 z) else (bd (f_X7_pullOf x4 z) fun t14 => if (lg_cmp t14 (0 : Int64)) = 0 then (bd (rdL z 130 96 (x1 + x4)) fun t16 => if (lg_cmp t16 (0 : Int64)) = 0 then (j_X7_isTimes_157 ag117 x1 x2 x4 z) else (lt (x4 + (1 : Int32)) fun x4_18 => ag117 x1 x2 (0 : Int32) x4_18 z)) else (j_X7_isTimes_157 ag117 x1 x2 x4 z)))
def b_X7_isTimes_11  (ag11 : Int32 → Int32 → Int32 → Int32 → Sto → Option (Int32 × Sto)) (x1 : Int32) (x2 : Int32) (x3 : Int32) (x4 : Int32) (z : Sto) : Option (Int32 × Sto) := bd (rdI z 123 42 (1 : Int32)) fun t3 => if t3 ≤ x4 then (wl5 (b_X7_isTimes_117) fu x1 x2 x3 (0 : Int32) z) else (if x2 = 0 then (wl6 (b_X7_isTimes_49 ag11) fu x1 (0 : Int32) x3 x4 (0 : Int32) z) else (bd (rdL z 130 96 (x1 + x4)) fun t6 => if (lg_cmp t6 (0 : Int64)) = 0 then (wl6 (b_X7_isTimes_49 ag11) fu x1 (1 : Int32) x3 x4 (0 : Int32) z) else (wl6 (b_X7_isTimes_49 ag11) fu x1 (0 : Int32) x3 x4 (0 : Int32) z)))
def f_X7_isTimes (x1 : Int32) (z : Sto) : Option (Int32 × Sto) := bd (f_X7_laysAll z) fun z2 => wl5 (b_X7_isTimes_11) fu x1 (1 : Int32) (1 : Int32) (0 : Int32) z2
set_option maxRecDepth 100000 in
set_option maxHeartbeats 4000000 in
theorem w_X7_isTimes_49 {ag11 : Int32 → Int32 → Int32 → Int32 → Sto → Option (Int32 × Sto)} {Z : Int32 × Sto} (F : Fx rM p s m args cd cX7_isTimes 6 RX7 G) (hr : meth.sig.returnType = (some .boolean)) (hlk : meth.locks = false) (hag11 : ∀ (x1 : Int32) (x2 : Int32) (x3 : Int32) (x4 : Int32) (z : Sto), ag11 x1 x2 x3 x4 z = some Z → ∀ {H : Heap} {locs : List Loc} {ls : Array Slot}, Hh rM G z s H locs → lv_has ls 6 [(0, .ref (G.1 122)), (1, .int x1), (2, .int x2), (3, .int x3), (4, .int x4)] → W p l e rmX7_isTimes s m args below meth cd H locs 0 0 (MQ below (QI rM G Z.1 Z.2) args s 0 0 (Am rM G)) (F0 m 11 ls [])) : ∀ (n : Nat), ∀ (x1 : Int32) (x2 : Int32) (x3 : Int32) (x4 : Int32) (x5 : Int32) (z : Sto), wl6 (b_X7_isTimes_49 ag11) n x1 x2 x3 x4 x5 z = some Z → ∀ {H : Heap} {locs : List Loc} {ls : Array Slot}, Hh rM G z s H locs → lv_has ls 6 [(0, .ref (G.1 122)), (1, .int x1), (2, .int x2), (3, .int x3), (4, .int x4), (5, .int x5)] → W p l e rmX7_isTimes s m args below meth cd H locs 0 0 (MQ below (QI rM G Z.1 Z.2) args s 0 0 (Am rM G)) (F0 m 49 ls []) := by
  have hx := F.1
  have hb := F.2.1
  intro n
  induction n with
  | zero =>
    intro x1 x2 x3 x4 x5 z hf
    exact absurd hf (by intro h; cases h)
  | succ n ih =>
    intro x1 x2 x3 x4 x5 z hf  H locs ls hh hl
    replace hf : b_X7_isTimes_49 ag11 (wl6 (b_X7_isTimes_49 ag11) n) x1 x2 x3 x4 x5 z = some Z := hf
    unfold b_X7_isTimes_49 at hf
    refine lv_iload hx hb dX7_isTimes_49 (lv_at hl 5 rfl) ?_
    refine lv_iload hx hb dX7_isTimes_51 (lv_at hl 4 rfl) ?_
    refine lv_icmp_ge (tgt := 108) hx hb dX7_isTimes_53 (by decide) (fun c19 => ?_) (fun c19 => ?_)
    · replace hf := itp c19 hf
      obtain ⟨x4_20, ex4_20⟩ : ∃ y : Int32, y = x4 + (1 : Int32) := ⟨_, rfl⟩
      replace hf := lt_e ex4_20 hf
      refine lv_iinc (v := x4_20) (lv' := [(4, .int x4_20), (0, .ref (G.1 122)), (1, .int x1), (2, .int x2), (3, .int x3), (5, .int x5)]) hx hb dX7_isTimes_108 hl (k := 4) rfl (by rw [ex4_20]; rfl) (by decide) rfl (fun ls hl => ?_)
      refine lv_goto (tgt := 11) hx hb dX7_isTimes_111 (by decide) ?_
      exact hag11 _ _ _ _ _ hf  hh (lv_sub hl [1, 2, 3, 4, 0] rfl)
    · replace hf := itn c19 hf
      refine lv_iload_n hx hb dX7_isTimes_56 rfl (lv_at hl 3 rfl) ?_
      refine lv_if_eq (tgt := 100) hx hb dX7_isTimes_57 (by decide) (fun c21 => ?_) (fun c21 => ?_)
      · replace hf := itp c21 hf
        refine lv_iconst (v := 0) hx hb dX7_isTimes_100 (by decide) ?_
        refine lv_istore_n (lv' := [(3, .int (0 : Int32)), (0, .ref (G.1 122)), (1, .int x1), (2, .int x2), (4, .int x4), (5, .int x5)]) hx hb dX7_isTimes_101 rfl hl (by decide) rfl (fun ls hl => ?_)
        obtain ⟨x5_22, ex5_22⟩ : ∃ y : Int32, y = x5 + (1 : Int32) := ⟨_, rfl⟩
        replace hf := lt_e ex5_22 hf
        refine lv_iinc (v := x5_22) (lv' := [(5, .int x5_22), (3, .int (0 : Int32)), (0, .ref (G.1 122)), (1, .int x1), (2, .int x2), (4, .int x4)]) hx hb dX7_isTimes_102 hl (k := 5) rfl (by rw [ex5_22]; rfl) (by decide) rfl (fun ls hl => ?_)
        refine lv_goto (tgt := 49) hx hb dX7_isTimes_105 (by decide) ?_
        exact ih _ _ _ _ _ _ hf  hh (lv_sub hl [2, 3, 4, 1, 5, 0] rfl)
      · replace hf := itn c21 hf
        refine lv_aload_n hx hb dX7_isTimes_60 rfl (lv_at hl 0 rfl) ?_
        refine r_X7_35 (b' := 130) F hh in_122 sh_122 rfl dX7_isTimes_61 ?_
        refine lv_iload_n hx hb dX7_isTimes_64 rfl (lv_at hl 1 rfl) ?_
        refine lv_iload hx hb dX7_isTimes_65 (lv_at hl 4 rfl) ?_
        refine lv_iadd hx hb dX7_isTimes_67 ?_
        obtain ⟨t23, ht23, hf⟩ := ob hf
        refine g_lald F hh in_130 sh_130 ht23 dX7_isTimes_68 ?_
        refine lv_aload_n hx hb dX7_isTimes_69 rfl (lv_at hl 0 rfl) ?_
        refine lv_iload hx hb dX7_isTimes_70 (lv_at hl 5 rfl) ?_
        obtain ⟨t24, ht24, hf⟩ := ob hf
        refine m_X7_244 F hh (c_X7_pullOf ht24) in_122 sh_122 rfl hl (Nat.le_of_ble_eq_true rfl) dX7_isTimes_72 (fun H locs hh => ?_)
        refine lv_lmul hx hb dX7_isTimes_75 ?_
        refine lv_aload_n hx hb dX7_isTimes_76 rfl (lv_at hl 0 rfl) ?_
        refine r_X7_35 (b' := 130) F hh in_122 sh_122 rfl dX7_isTimes_77 ?_
        refine lv_iload_n hx hb dX7_isTimes_80 rfl (lv_at hl 1 rfl) ?_
        refine lv_iload hx hb dX7_isTimes_81 (lv_at hl 5 rfl) ?_
        refine lv_iadd hx hb dX7_isTimes_83 ?_
        obtain ⟨t25, ht25, hf⟩ := ob hf
        refine g_lald F hh in_130 sh_130 ht25 dX7_isTimes_84 ?_
        refine lv_aload_n hx hb dX7_isTimes_85 rfl (lv_at hl 0 rfl) ?_
        refine lv_iload hx hb dX7_isTimes_86 (lv_at hl 4 rfl) ?_
        obtain ⟨t26, ht26, hf⟩ := ob hf
        refine m_X7_244 F hh (c_X7_pullOf ht26) in_122 sh_122 rfl hl (Nat.le_of_ble_eq_true rfl) dX7_isTimes_88 (fun H locs hh => ?_)
        refine lv_lmul hx hb dX7_isTimes_91 ?_
        refine W.lcmp hx hb dX7_isTimes_92 ?_
        refine lv_if_ne (tgt := 100) hx hb dX7_isTimes_93 (by decide) (fun c27 => ?_) (fun c27 => ?_)
        · replace hf := itn c27 hf
          refine lv_iconst (v := 0) hx hb dX7_isTimes_100 (by decide) ?_
          refine lv_istore_n (lv' := [(3, .int (0 : Int32)), (0, .ref (G.1 122)), (1, .int x1), (2, .int x2), (4, .int x4), (5, .int x5)]) hx hb dX7_isTimes_101 rfl hl (by decide) rfl (fun ls hl => ?_)
          obtain ⟨x5_28, ex5_28⟩ : ∃ y : Int32, y = x5 + (1 : Int32) := ⟨_, rfl⟩
          replace hf := lt_e ex5_28 hf
          refine lv_iinc (v := x5_28) (lv' := [(5, .int x5_28), (3, .int (0 : Int32)), (0, .ref (G.1 122)), (1, .int x1), (2, .int x2), (4, .int x4)]) hx hb dX7_isTimes_102 hl (k := 5) rfl (by rw [ex5_28]; rfl) (by decide) rfl (fun ls hl => ?_)
          refine lv_goto (tgt := 49) hx hb dX7_isTimes_105 (by decide) ?_
          exact ih _ _ _ _ _ _ hf  hh (lv_sub hl [2, 3, 4, 1, 5, 0] rfl)
        · replace hf := itp c27 hf
          refine lv_iconst (v := 1) hx hb dX7_isTimes_96 (by decide) ?_
          refine lv_goto (tgt := 101) hx hb dX7_isTimes_97 (by decide) ?_
          refine lv_istore_n (lv' := [(3, .int (1 : Int32)), (0, .ref (G.1 122)), (1, .int x1), (2, .int x2), (4, .int x4), (5, .int x5)]) hx hb dX7_isTimes_101 rfl hl (by decide) rfl (fun ls hl => ?_)
          obtain ⟨x5_29, ex5_29⟩ : ∃ y : Int32, y = x5 + (1 : Int32) := ⟨_, rfl⟩
          replace hf := lt_e ex5_29 hf
          refine lv_iinc (v := x5_29) (lv' := [(5, .int x5_29), (3, .int (1 : Int32)), (0, .ref (G.1 122)), (1, .int x1), (2, .int x2), (4, .int x4)]) hx hb dX7_isTimes_102 hl (k := 5) rfl (by rw [ex5_29]; rfl) (by decide) rfl (fun ls hl => ?_)
          refine lv_goto (tgt := 49) hx hb dX7_isTimes_105 (by decide) ?_
          exact ih _ _ _ _ _ _ hf  hh (lv_sub hl [2, 3, 4, 1, 5, 0] rfl)
set_option maxRecDepth 100000 in
set_option maxHeartbeats 4000000 in
theorem w_X7_isTimes_157 {ag117 : Int32 → Int32 → Int32 → Int32 → Sto → Option (Int32 × Sto)} {Z : Int32 × Sto} (F : Fx rM p s m args cd cX7_isTimes 6 RX7 G) (hr : meth.sig.returnType = (some .boolean)) (hlk : meth.locks = false) (hag117 : ∀ (x1 : Int32) (x2 : Int32) (x3 : Int32) (x4 : Int32) (z : Sto), ag117 x1 x2 x3 x4 z = some Z → ∀ {H : Heap} {locs : List Loc} {ls : Array Slot}, Hh rM G z s H locs → lv_has ls 6 [(0, .ref (G.1 122)), (1, .int x1), (2, .int x2), (3, .int x3), (4, .int x4)] → W p l e rmX7_isTimes s m args below meth cd H locs 0 0 (MQ below (QI rM G Z.1 Z.2) args s 0 0 (Am rM G)) (F0 m 117 ls [])) {x1 : Int32} {x2 : Int32} {x4 : Int32} {z : Sto} {H : Heap} {locs : List Loc} {ls : Array Slot} (hf : j_X7_isTimes_157 ag117 x1 x2 x4 z = some Z) (hh : Hh rM G z s H locs) (hl : lv_has ls 6 [(0, .ref (G.1 122)), (1, .int x1), (2, .int x2), (4, .int x4)]) : W p l e rmX7_isTimes s m args below meth cd H locs 0 0 (MQ below (QI rM G Z.1 Z.2) args s 0 0 (Am rM G)) (F0 m 157 ls []) := by
  have hx := F.1
  have hb := F.2.1
  unfold j_X7_isTimes_157 at hf
  refine lv_iconst (v := 1) hx hb dX7_isTimes_157 (by decide) ?_
  refine lv_goto (tgt := 162) hx hb dX7_isTimes_158 (by decide) ?_
  refine lv_istore_n (lv' := [(3, .int (1 : Int32)), (0, .ref (G.1 122)), (1, .int x1), (2, .int x2), (4, .int x4)]) hx hb dX7_isTimes_162 rfl hl (by decide) rfl (fun ls hl => ?_)
  obtain ⟨x4_30, ex4_30⟩ : ∃ y : Int32, y = x4 + (1 : Int32) := ⟨_, rfl⟩
  replace hf := lt_e ex4_30 hf
  refine lv_iinc (v := x4_30) (lv' := [(4, .int x4_30), (3, .int (1 : Int32)), (0, .ref (G.1 122)), (1, .int x1), (2, .int x2)]) hx hb dX7_isTimes_163 hl (k := 4) rfl (by rw [ex4_30]; rfl) (by decide) rfl (fun ls hl => ?_)
  refine lv_goto (tgt := 117) hx hb dX7_isTimes_166 (by decide) ?_
  exact hag117 _ _ _ _ _ hf  hh (lv_sub hl [2, 3, 4, 1, 0] rfl)
set_option maxRecDepth 100000 in
set_option maxHeartbeats 4000000 in
theorem w_X7_isTimes_177  {Z : Int32 × Sto} (F : Fx rM p s m args cd cX7_isTimes 6 RX7 G) (hr : meth.sig.returnType = (some .boolean)) (hlk : meth.locks = false)  {z : Sto} {H : Heap} {locs : List Loc} {ls : Array Slot} (hf : j_X7_isTimes_177 z = some Z) (hh : Hh rM G z s H locs) (hl : lv_has ls 6 []) : W p l e rmX7_isTimes s m args below meth cd H locs 0 0 (MQ below (QI rM G Z.1 Z.2) args s 0 0 (Am rM G)) (F0 m 177 ls []) := by
  have hx := F.1
  have hb := F.2.1
  unfold j_X7_isTimes_177 at hf
  refine lv_iconst (v := 1) hx hb dX7_isTimes_177 (by decide) ?_
  refine lv_goto (tgt := 182) hx hb dX7_isTimes_178 (by decide) ?_
  exact g_zretW F hr hlk rfl hh hf dX7_isTimes_182
set_option maxRecDepth 100000 in
set_option maxHeartbeats 4000000 in
theorem w_X7_isTimes_117  {Z : Int32 × Sto} (F : Fx rM p s m args cd cX7_isTimes 6 RX7 G) (hr : meth.sig.returnType = (some .boolean)) (hlk : meth.locks = false)  : ∀ (n : Nat), ∀ (x1 : Int32) (x2 : Int32) (x3 : Int32) (x4 : Int32) (z : Sto), wl5 (b_X7_isTimes_117) n x1 x2 x3 x4 z = some Z → ∀ {H : Heap} {locs : List Loc} {ls : Array Slot}, Hh rM G z s H locs → lv_has ls 6 [(0, .ref (G.1 122)), (1, .int x1), (2, .int x2), (3, .int x3), (4, .int x4)] → W p l e rmX7_isTimes s m args below meth cd H locs 0 0 (MQ below (QI rM G Z.1 Z.2) args s 0 0 (Am rM G)) (F0 m 117 ls []) := by
  have hx := F.1
  have hb := F.2.1
  intro n
  induction n with
  | zero =>
    intro x1 x2 x3 x4 z hf
    exact absurd hf (by intro h; cases h)
  | succ n ih =>
    intro x1 x2 x3 x4 z hf  H locs ls hh hl
    replace hf : b_X7_isTimes_117 (wl5 (b_X7_isTimes_117) n) x1 x2 x3 x4 z = some Z := hf
    unfold b_X7_isTimes_117 at hf
    refine lv_iload hx hb dX7_isTimes_117 (lv_at hl 4 rfl) ?_
    refine lv_aload_n hx hb dX7_isTimes_119 rfl (lv_at hl 0 rfl) ?_
    refine r_X7_7 (b' := 123) F hh in_122 sh_122 rfl dX7_isTimes_120 ?_
    refine lv_iconst (v := 1) hx hb dX7_isTimes_123 (by decide) ?_
    obtain ⟨t8, ht8, hf⟩ := ob hf
    refine g_iald F hh in_123 sh_123 ht8 dX7_isTimes_124 ?_
    refine lv_icmp_ge (tgt := 169) hx hb dX7_isTimes_125 (by decide) (fun c9 => ?_) (fun c9 => ?_)
    · replace hf := itp c9 hf
      refine lv_iload_n hx hb dX7_isTimes_169 rfl (lv_at hl 2 rfl) ?_
      refine lv_if_ne (tgt := 177) hx hb dX7_isTimes_170 (by decide) (fun c10 => ?_) (fun c10 => ?_)
      · replace hf := itn c10 hf
        exact w_X7_isTimes_177 F hr hlk hf  hh (lv_sub hl [] rfl)
      · replace hf := itp c10 hf
        refine lv_iload_n hx hb dX7_isTimes_173 rfl (lv_at hl 3 rfl) ?_
        refine lv_if_eq (tgt := 181) hx hb dX7_isTimes_174 (by decide) (fun c11 => ?_) (fun c11 => ?_)
        · replace hf := itp c11 hf
          refine lv_iconst (v := 0) hx hb dX7_isTimes_181 (by decide) ?_
          exact g_zretW F hr hlk rfl hh hf dX7_isTimes_182
        · replace hf := itn c11 hf
          exact w_X7_isTimes_177 F hr hlk hf  hh (lv_sub hl [] rfl)
    · replace hf := itn c9 hf
      refine lv_iload_n hx hb dX7_isTimes_128 rfl (lv_at hl 3 rfl) ?_
      refine lv_if_eq (tgt := 161) hx hb dX7_isTimes_129 (by decide) (fun c12 => ?_) (fun c12 => ?_)
      · replace hf := itp c12 hf
        refine lv_iconst (v := 0) hx hb dX7_isTimes_161 (by decide) ?_
        refine lv_istore_n (lv' := [(3, .int (0 : Int32)), (0, .ref (G.1 122)), (1, .int x1), (2, .int x2), (4, .int x4)]) hx hb dX7_isTimes_162 rfl hl (by decide) rfl (fun ls hl => ?_)
        obtain ⟨x4_13, ex4_13⟩ : ∃ y : Int32, y = x4 + (1 : Int32) := ⟨_, rfl⟩
        replace hf := lt_e ex4_13 hf
        refine lv_iinc (v := x4_13) (lv' := [(4, .int x4_13), (3, .int (0 : Int32)), (0, .ref (G.1 122)), (1, .int x1), (2, .int x2)]) hx hb dX7_isTimes_163 hl (k := 4) rfl (by rw [ex4_13]; rfl) (by decide) rfl (fun ls hl => ?_)
        refine lv_goto (tgt := 117) hx hb dX7_isTimes_166 (by decide) ?_
        exact ih _ _ _ _ _ hf  hh (lv_sub hl [2, 3, 4, 1, 0] rfl)
      · replace hf := itn c12 hf
        refine lv_aload_n hx hb dX7_isTimes_132 rfl (lv_at hl 0 rfl) ?_
        refine lv_iload hx hb dX7_isTimes_133 (lv_at hl 4 rfl) ?_
        obtain ⟨t14, ht14, hf⟩ := ob hf
        refine m_X7_244 F hh (c_X7_pullOf ht14) in_122 sh_122 rfl hl (Nat.le_of_ble_eq_true rfl) dX7_isTimes_135 (fun H locs hh => ?_)
        refine lv_lconst (v := 0) hx hb dX7_isTimes_138 (by decide) ?_
        refine W.lcmp hx hb dX7_isTimes_139 ?_
        refine lv_if_ne (tgt := 157) hx hb dX7_isTimes_140 (by decide) (fun c15 => ?_) (fun c15 => ?_)
        · replace hf := itn c15 hf
          exact w_X7_isTimes_157 F hr hlk ih hf  hh (lv_sub hl [0, 1, 2, 4] rfl)
        · replace hf := itp c15 hf
          refine lv_aload_n hx hb dX7_isTimes_143 rfl (lv_at hl 0 rfl) ?_
          refine r_X7_35 (b' := 130) F hh in_122 sh_122 rfl dX7_isTimes_144 ?_
          refine lv_iload_n hx hb dX7_isTimes_147 rfl (lv_at hl 1 rfl) ?_
          refine lv_iload hx hb dX7_isTimes_148 (lv_at hl 4 rfl) ?_
          refine lv_iadd hx hb dX7_isTimes_150 ?_
          obtain ⟨t16, ht16, hf⟩ := ob hf
          refine g_lald F hh in_130 sh_130 ht16 dX7_isTimes_151 ?_
          refine lv_lconst (v := 0) hx hb dX7_isTimes_152 (by decide) ?_
          refine W.lcmp hx hb dX7_isTimes_153 ?_
          refine lv_if_ne (tgt := 161) hx hb dX7_isTimes_154 (by decide) (fun c17 => ?_) (fun c17 => ?_)
          · replace hf := itn c17 hf
            refine lv_iconst (v := 0) hx hb dX7_isTimes_161 (by decide) ?_
            refine lv_istore_n (lv' := [(3, .int (0 : Int32)), (0, .ref (G.1 122)), (1, .int x1), (2, .int x2), (4, .int x4)]) hx hb dX7_isTimes_162 rfl hl (by decide) rfl (fun ls hl => ?_)
            obtain ⟨x4_18, ex4_18⟩ : ∃ y : Int32, y = x4 + (1 : Int32) := ⟨_, rfl⟩
            replace hf := lt_e ex4_18 hf
            refine lv_iinc (v := x4_18) (lv' := [(4, .int x4_18), (3, .int (0 : Int32)), (0, .ref (G.1 122)), (1, .int x1), (2, .int x2)]) hx hb dX7_isTimes_163 hl (k := 4) rfl (by rw [ex4_18]; rfl) (by decide) rfl (fun ls hl => ?_)
            refine lv_goto (tgt := 117) hx hb dX7_isTimes_166 (by decide) ?_
            exact ih _ _ _ _ _ hf  hh (lv_sub hl [2, 3, 4, 1, 0] rfl)
          · replace hf := itp c17 hf
            exact w_X7_isTimes_157 F hr hlk ih hf  hh (lv_sub hl [0, 1, 2, 4] rfl)
set_option maxRecDepth 100000 in
set_option maxHeartbeats 4000000 in
theorem w_X7_isTimes_11  {Z : Int32 × Sto} (F : Fx rM p s m args cd cX7_isTimes 6 RX7 G) (hr : meth.sig.returnType = (some .boolean)) (hlk : meth.locks = false)  : ∀ (n : Nat), ∀ (x1 : Int32) (x2 : Int32) (x3 : Int32) (x4 : Int32) (z : Sto), wl5 (b_X7_isTimes_11) n x1 x2 x3 x4 z = some Z → ∀ {H : Heap} {locs : List Loc} {ls : Array Slot}, Hh rM G z s H locs → lv_has ls 6 [(0, .ref (G.1 122)), (1, .int x1), (2, .int x2), (3, .int x3), (4, .int x4)] → W p l e rmX7_isTimes s m args below meth cd H locs 0 0 (MQ below (QI rM G Z.1 Z.2) args s 0 0 (Am rM G)) (F0 m 11 ls []) := by
  have hx := F.1
  have hb := F.2.1
  intro n
  induction n with
  | zero =>
    intro x1 x2 x3 x4 z hf
    exact absurd hf (by intro h; cases h)
  | succ n ih =>
    intro x1 x2 x3 x4 z hf  H locs ls hh hl
    replace hf : b_X7_isTimes_11 (wl5 (b_X7_isTimes_11) n) x1 x2 x3 x4 z = some Z := hf
    unfold b_X7_isTimes_11 at hf
    refine lv_iload hx hb dX7_isTimes_11 (lv_at hl 4 rfl) ?_
    refine lv_aload_n hx hb dX7_isTimes_13 rfl (lv_at hl 0 rfl) ?_
    refine r_X7_7 (b' := 123) F hh in_122 sh_122 rfl dX7_isTimes_14 ?_
    refine lv_iconst (v := 1) hx hb dX7_isTimes_17 (by decide) ?_
    obtain ⟨t3, ht3, hf⟩ := ob hf
    refine g_iald F hh in_123 sh_123 ht3 dX7_isTimes_18 ?_
    refine lv_icmp_ge (tgt := 114) hx hb dX7_isTimes_19 (by decide) (fun c4 => ?_) (fun c4 => ?_)
    · replace hf := itp c4 hf
      refine lv_iconst (v := 0) hx hb dX7_isTimes_114 (by decide) ?_
      refine lv_istore (lv' := [(4, .int (0 : Int32)), (0, .ref (G.1 122)), (1, .int x1), (2, .int x2), (3, .int x3)]) hx hb dX7_isTimes_115 hl (by decide) rfl (fun ls hl => ?_)
      exact w_X7_isTimes_117 F hr hlk fu _ _ _ _ _ hf  hh (lv_sub hl [1, 2, 3, 4, 0] rfl)
    · replace hf := itn c4 hf
      refine lv_iload_n hx hb dX7_isTimes_22 rfl (lv_at hl 2 rfl) ?_
      refine lv_if_eq (tgt := 44) hx hb dX7_isTimes_23 (by decide) (fun c5 => ?_) (fun c5 => ?_)
      · replace hf := itp c5 hf
        refine lv_iconst (v := 0) hx hb dX7_isTimes_44 (by decide) ?_
        refine lv_istore_n (lv' := [(2, .int (0 : Int32)), (0, .ref (G.1 122)), (1, .int x1), (3, .int x3), (4, .int x4)]) hx hb dX7_isTimes_45 rfl hl (by decide) rfl (fun ls hl => ?_)
        refine lv_iconst (v := 0) hx hb dX7_isTimes_46 (by decide) ?_
        refine lv_istore (lv' := [(5, .int (0 : Int32)), (2, .int (0 : Int32)), (0, .ref (G.1 122)), (1, .int x1), (3, .int x3), (4, .int x4)]) hx hb dX7_isTimes_47 hl (by decide) rfl (fun ls hl => ?_)
        exact w_X7_isTimes_49 F hr hlk ih fu _ _ _ _ _ _ hf  hh (lv_sub hl [2, 3, 1, 4, 5, 0] rfl)
      · replace hf := itn c5 hf
        refine lv_aload_n hx hb dX7_isTimes_26 rfl (lv_at hl 0 rfl) ?_
        refine r_X7_35 (b' := 130) F hh in_122 sh_122 rfl dX7_isTimes_27 ?_
        refine lv_iload_n hx hb dX7_isTimes_30 rfl (lv_at hl 1 rfl) ?_
        refine lv_iload hx hb dX7_isTimes_31 (lv_at hl 4 rfl) ?_
        refine lv_iadd hx hb dX7_isTimes_33 ?_
        obtain ⟨t6, ht6, hf⟩ := ob hf
        refine g_lald F hh in_130 sh_130 ht6 dX7_isTimes_34 ?_
        refine lv_lconst (v := 0) hx hb dX7_isTimes_35 (by decide) ?_
        refine W.lcmp hx hb dX7_isTimes_36 ?_
        refine lv_if_ne (tgt := 44) hx hb dX7_isTimes_37 (by decide) (fun c7 => ?_) (fun c7 => ?_)
        · replace hf := itn c7 hf
          refine lv_iconst (v := 0) hx hb dX7_isTimes_44 (by decide) ?_
          refine lv_istore_n (lv' := [(2, .int (0 : Int32)), (0, .ref (G.1 122)), (1, .int x1), (3, .int x3), (4, .int x4)]) hx hb dX7_isTimes_45 rfl hl (by decide) rfl (fun ls hl => ?_)
          refine lv_iconst (v := 0) hx hb dX7_isTimes_46 (by decide) ?_
          refine lv_istore (lv' := [(5, .int (0 : Int32)), (2, .int (0 : Int32)), (0, .ref (G.1 122)), (1, .int x1), (3, .int x3), (4, .int x4)]) hx hb dX7_isTimes_47 hl (by decide) rfl (fun ls hl => ?_)
          exact w_X7_isTimes_49 F hr hlk ih fu _ _ _ _ _ _ hf  hh (lv_sub hl [2, 3, 1, 4, 5, 0] rfl)
        · replace hf := itp c7 hf
          refine lv_iconst (v := 1) hx hb dX7_isTimes_40 (by decide) ?_
          refine lv_goto (tgt := 45) hx hb dX7_isTimes_41 (by decide) ?_
          refine lv_istore_n (lv' := [(2, .int (1 : Int32)), (0, .ref (G.1 122)), (1, .int x1), (3, .int x3), (4, .int x4)]) hx hb dX7_isTimes_45 rfl hl (by decide) rfl (fun ls hl => ?_)
          refine lv_iconst (v := 0) hx hb dX7_isTimes_46 (by decide) ?_
          refine lv_istore (lv' := [(5, .int (0 : Int32)), (2, .int (1 : Int32)), (0, .ref (G.1 122)), (1, .int x1), (3, .int x3), (4, .int x4)]) hx hb dX7_isTimes_47 hl (by decide) rfl (fun ls hl => ?_)
          exact w_X7_isTimes_49 F hr hlk ih fu _ _ _ _ _ _ hf  hh (lv_sub hl [2, 3, 1, 4, 5, 0] rfl)
set_option maxRecDepth 100000 in
set_option maxHeartbeats 4000000 in
theorem w_X7_isTimes {Z : Int32 × Sto} (F : Fx rM p s m args cd cX7_isTimes 6 RX7 G) (hr : meth.sig.returnType = (some .boolean)) (hlk : meth.locks = false) {x1 : Int32} {z : Sto} {H : Heap} {locs : List Loc} {ls : Array Slot} (hf : f_X7_isTimes x1 z = some Z) (hh : Hh rM G z s H locs) (hl : lv_has ls 6 [(0, .ref (G.1 122)), (1, .int x1)]) : W p l e rmX7_isTimes s m args below meth cd H locs 0 0 (MQ below (QI rM G Z.1 Z.2) args s 0 0 (Am rM G)) (F0 m 0 ls []) := by
  have hx := F.1
  have hb := F.2.1
  unfold f_X7_isTimes at hf
  refine lv_aload_n hx hb dX7_isTimes_0 rfl (lv_at hl 0 rfl) ?_
  obtain ⟨z2, ht1, hf⟩ := ob hf
  refine m_X7_232 F hh (c_X7_laysAll ht1) in_122 sh_122 rfl hl (Nat.le_of_ble_eq_true rfl) dX7_isTimes_1 (fun H locs hh => ?_)
  refine lv_iconst (v := 1) hx hb dX7_isTimes_4 (by decide) ?_
  refine lv_istore_n (lv' := [(2, .int (1 : Int32)), (0, .ref (G.1 122)), (1, .int x1)]) hx hb dX7_isTimes_5 rfl hl (by decide) rfl (fun ls hl => ?_)
  refine lv_iconst (v := 1) hx hb dX7_isTimes_6 (by decide) ?_
  refine lv_istore_n (lv' := [(3, .int (1 : Int32)), (2, .int (1 : Int32)), (0, .ref (G.1 122)), (1, .int x1)]) hx hb dX7_isTimes_7 rfl hl (by decide) rfl (fun ls hl => ?_)
  refine lv_iconst (v := 0) hx hb dX7_isTimes_8 (by decide) ?_
  refine lv_istore (lv' := [(4, .int (0 : Int32)), (3, .int (1 : Int32)), (2, .int (1 : Int32)), (0, .ref (G.1 122)), (1, .int x1)]) hx hb dX7_isTimes_9 hl (by decide) rfl (fun ls hl => ?_)
  exact w_X7_isTimes_11 F hr hlk fu _ _ _ _ _ hf  hh (lv_sub hl [3, 4, 2, 1, 0] rfl)
theorem c_X7_isTimes {l : Launch} {G : Gm} {x1 : Int32} {z : Sto} {Z : Int32 × Sto} (hf : f_X7_isTimes x1 z = some Z) : Met l yX7_isTimes (Cond.code yX7_isTimes cX7_isTimes 6 (some .boolean) :: TT) rmX7_isTimes (va_Pc [.ref (G.1 122), .int x1] (GS rM G z)) (QI rM G Z.1 Z.2) 0 0 (Am rM G) := by
  refine g_met [(0, .ref (G.1 122)), (1, .int x1)] (by decide) (Nat.le_of_ble_eq_true rfl) rfl ?_
  intro p e s m below meth cd F hr hlk ls H locs hl hh
  exact w_X7_isTimes F hr hlk hf hh hl
def j_X7_what_162  (x5 : Int32) (k0 : Int32) (k1 : Int32) (z : Sto) : Option (Int32 × Sto) := bd2 (f_X7_isTimes x5 z) fun t26 z27 => if t26 = 0 then (some (((k1 ||| k0) ||| (0 : Int32)), z27)) else (some (((k1 ||| k0) ||| (8 : Int32)), z27))
def b_X7_what_59  (ag59 : Int32 → Int32 → Int32 → Sto → Option (Int32 × Sto)) (x5 : Int32) (x6 : Int32) (x7 : Int32) (z : Sto) : Option (Int32 × Sto) := bd (rdI z 123 42 (1 : Int32)) fun t9 => if t9 ≤ x7 then (bd (f_X7_isAtRest x5 z) fun t11 => if t11 = 0 then (j_X7_what_162 x5 (0 : Int32) x6 z) else (j_X7_what_162 x5 (1 : Int32) x6 z)) else (bd (rdL z 130 96 (x5 + x7)) fun t13 => bd (f_X7_in t13 (-99 : Int64) (99 : Int64) z) fun t14 => if t14 = 0 then (some ((-2 : Int32), z)) else (bd (rdL z 130 96 (x5 + x7)) fun t16 => if (lg_cmp t16 (0 : Int64)) = 0 then (lt ((x6 &&& (4 : Int32))) fun x6_24 => lt (x7 + (1 : Int32)) fun x7_25 => ag59 x5 x6_24 x7_25 z) else (bd (rdL z 130 96 (x5 + x7)) fun t18 => if 0 ≤ (lg_cmp t18 (0 : Int64)) then (lt ((x6 &&& (6 : Int32))) fun x6_20 => lt (x7 + (1 : Int32)) fun x7_21 => ag59 x5 x6_20 x7_21 z) else (lt ((x6 &&& (2 : Int32))) fun x6_22 => lt (x7 + (1 : Int32)) fun x7_23 => ag59 x5 x6_22 x7_23 z))))
def f_X7_what (x1 : Int32) (x2 : Int32) (x3 : Int32) (z : Sto) : Option (Int32 × Sto) := bd (f_X7_isSheet x1 z) fun t1 => if t1 = 0 then (some ((-1 : Int32), z)) else (bd (f_X7_in ((Int32.toInt64 x2)) (0 : Int64) (3 : Int64) z) fun t3 => if t3 = 0 then (some ((-1 : Int32), z)) else (bd (rdI z 123 42 (1 : Int32)) fun t5 => bd (f_X7_found x1 x2 x3 t5 z) fun t6 => if 0 ≤ t6 then (lt ((((24 : Int32) * x1) + x3)) fun x5_8 => wl4 (b_X7_what_59) fu x5_8 (6 : Int32) (0 : Int32) z) else (some (t6, z))))
set_option maxRecDepth 100000 in
set_option maxHeartbeats 4000000 in
theorem w_X7_what_162  {Z : Int32 × Sto} (F : Fx rM p s m args cd cX7_what 8 RX7 G) (hr : meth.sig.returnType = (some .int)) (hlk : meth.locks = false)  {x5 : Int32} {k0 : Int32} {k1 : Int32} {z : Sto} {H : Heap} {locs : List Loc} {ls : Array Slot} (hf : j_X7_what_162 x5 k0 k1 z = some Z) (hh : Hh rM G z s H locs) (hl : lv_has ls 8 [(0, .ref (G.1 122)), (5, .int x5)]) : W p l e rmX7_what s m args below meth cd H locs 0 0 (MQ below (QI rM G Z.1 Z.2) args s 0 0 (Am rM G)) (F0 m 162 ls [.int k0, .int k1]) := by
  have hx := F.1
  have hb := F.2.1
  unfold j_X7_what_162 at hf
  refine lv_ior hx hb dX7_what_162 ?_
  refine lv_aload_n hx hb dX7_what_163 rfl (lv_at hl 0 rfl) ?_
  refine lv_iload hx hb dX7_what_164 (lv_at hl 1 rfl) ?_
  obtain ⟨t26, z27, ht26, hf⟩ := ob2 hf
  refine m_X7_352 (r := t26) (σ' := z27) F hh (c_X7_isTimes ht26) in_122 sh_122 rfl hl (Nat.le_of_ble_eq_true rfl) dX7_what_166 (fun H locs hh => ?_)
  refine lv_if_eq (tgt := 177) hx hb dX7_what_169 (by decide) (fun c28 => ?_) (fun c28 => ?_)
  · replace hf := itp c28 hf
    refine lv_iconst (v := 0) hx hb dX7_what_177 (by decide) ?_
    refine lv_ior hx hb dX7_what_178 ?_
    exact g_iretW F hr hlk hh hf dX7_what_179
  · replace hf := itn c28 hf
    refine lv_bipush (v := 8) hx hb dX7_what_172 (by decide) ?_
    refine lv_goto (tgt := 178) hx hb dX7_what_174 (by decide) ?_
    refine lv_ior hx hb dX7_what_178 ?_
    exact g_iretW F hr hlk hh hf dX7_what_179
set_option maxRecDepth 100000 in
set_option maxHeartbeats 4000000 in
theorem w_X7_what_59  {Z : Int32 × Sto} (F : Fx rM p s m args cd cX7_what 8 RX7 G) (hr : meth.sig.returnType = (some .int)) (hlk : meth.locks = false)  : ∀ (n : Nat), ∀ (x5 : Int32) (x6 : Int32) (x7 : Int32) (z : Sto), wl4 (b_X7_what_59) n x5 x6 x7 z = some Z → ∀ {H : Heap} {locs : List Loc} {ls : Array Slot}, Hh rM G z s H locs → lv_has ls 8 [(0, .ref (G.1 122)), (5, .int x5), (6, .int x6), (7, .int x7)] → W p l e rmX7_what s m args below meth cd H locs 0 0 (MQ below (QI rM G Z.1 Z.2) args s 0 0 (Am rM G)) (F0 m 59 ls []) := by
  have hx := F.1
  have hb := F.2.1
  intro n
  induction n with
  | zero =>
    intro x5 x6 x7 z hf
    exact absurd hf (by intro h; cases h)
  | succ n ih =>
    intro x5 x6 x7 z hf  H locs ls hh hl
    replace hf : b_X7_what_59 (wl4 (b_X7_what_59) n) x5 x6 x7 z = some Z := hf
    unfold b_X7_what_59 at hf
    refine lv_iload hx hb dX7_what_59 (lv_at hl 3 rfl) ?_
    refine lv_aload_n hx hb dX7_what_61 rfl (lv_at hl 0 rfl) ?_
    refine r_X7_7 (b' := 123) F hh in_122 sh_122 rfl dX7_what_62 ?_
    refine lv_iconst (v := 1) hx hb dX7_what_65 (by decide) ?_
    obtain ⟨t9, ht9, hf⟩ := ob hf
    refine g_iald F hh in_123 sh_123 ht9 dX7_what_66 ?_
    refine lv_icmp_ge (tgt := 146) hx hb dX7_what_67 (by decide) (fun c10 => ?_) (fun c10 => ?_)
    · replace hf := itp c10 hf
      refine lv_iload hx hb dX7_what_146 (lv_at hl 2 rfl) ?_
      refine lv_aload_n hx hb dX7_what_148 rfl (lv_at hl 0 rfl) ?_
      refine lv_iload hx hb dX7_what_149 (lv_at hl 1 rfl) ?_
      obtain ⟨t11, ht11, hf⟩ := ob hf
      refine m_X7_349 F hh (c_X7_isAtRest ht11) in_122 sh_122 rfl hl (Nat.le_of_ble_eq_true rfl) dX7_what_151 (fun H locs hh => ?_)
      refine lv_if_eq (tgt := 161) hx hb dX7_what_154 (by decide) (fun c12 => ?_) (fun c12 => ?_)
      · replace hf := itp c12 hf
        refine lv_iconst (v := 0) hx hb dX7_what_161 (by decide) ?_
        exact w_X7_what_162 F hr hlk hf  hh (lv_sub hl [0, 1] rfl)
      · replace hf := itn c12 hf
        refine lv_iconst (v := 1) hx hb dX7_what_157 (by decide) ?_
        refine lv_goto (tgt := 162) hx hb dX7_what_158 (by decide) ?_
        exact w_X7_what_162 F hr hlk hf  hh (lv_sub hl [0, 1] rfl)
    · replace hf := itn c10 hf
      refine lv_aload_n hx hb dX7_what_70 rfl (lv_at hl 0 rfl) ?_
      refine r_X7_35 (b' := 130) F hh in_122 sh_122 rfl dX7_what_71 ?_
      refine lv_iload hx hb dX7_what_74 (lv_at hl 1 rfl) ?_
      refine lv_iload hx hb dX7_what_76 (lv_at hl 3 rfl) ?_
      refine lv_iadd hx hb dX7_what_78 ?_
      obtain ⟨t13, ht13, hf⟩ := ob hf
      refine g_lald F hh in_130 sh_130 ht13 dX7_what_79 ?_
      refine lv_ldc2 hx hb F.2.2.2.1 (F.2.2.2.2.1 _ lk1347) dX7_what_80 ?_
      refine lv_ldc2 hx hb F.2.2.2.1 (F.2.2.2.2.1 _ lk1348) dX7_what_83 ?_
      obtain ⟨t14, ht14, hf⟩ := ob hf
      refine m_X7_79 F hh (c_X7_in ht14) rfl hl (Nat.le_of_ble_eq_true rfl) dX7_what_86 (fun H locs hh => ?_)
      refine lv_if_ne (tgt := 95) hx hb dX7_what_89 (by decide) (fun c15 => ?_) (fun c15 => ?_)
      · replace hf := itn c15 hf
        refine lv_iload hx hb dX7_what_95 (lv_at hl 2 rfl) ?_
        refine lv_aload_n hx hb dX7_what_97 rfl (lv_at hl 0 rfl) ?_
        refine r_X7_35 (b' := 130) F hh in_122 sh_122 rfl dX7_what_98 ?_
        refine lv_iload hx hb dX7_what_101 (lv_at hl 1 rfl) ?_
        refine lv_iload hx hb dX7_what_103 (lv_at hl 3 rfl) ?_
        refine lv_iadd hx hb dX7_what_105 ?_
        obtain ⟨t16, ht16, hf⟩ := ob hf
        refine g_lald F hh in_130 sh_130 ht16 dX7_what_106 ?_
        refine lv_lconst (v := 0) hx hb dX7_what_107 (by decide) ?_
        refine W.lcmp hx hb dX7_what_108 ?_
        refine lv_if_ne (tgt := 116) hx hb dX7_what_109 (by decide) (fun c17 => ?_) (fun c17 => ?_)
        · replace hf := itn c17 hf
          refine lv_aload_n hx hb dX7_what_116 rfl (lv_at hl 0 rfl) ?_
          refine r_X7_35 (b' := 130) F hh in_122 sh_122 rfl dX7_what_117 ?_
          refine lv_iload hx hb dX7_what_120 (lv_at hl 1 rfl) ?_
          refine lv_iload hx hb dX7_what_122 (lv_at hl 3 rfl) ?_
          refine lv_iadd hx hb dX7_what_124 ?_
          obtain ⟨t18, ht18, hf⟩ := ob hf
          refine g_lald F hh in_130 sh_130 ht18 dX7_what_125 ?_
          refine lv_lconst (v := 0) hx hb dX7_what_126 (by decide) ?_
          refine W.lcmp hx hb dX7_what_127 ?_
          refine lv_if_ge (tgt := 135) hx hb dX7_what_128 (by decide) (fun c19 => ?_) (fun c19 => ?_)
          · replace hf := itp c19 hf
            refine lv_bipush (v := 6) hx hb dX7_what_135 (by decide) ?_
            refine lv_iand hx hb dX7_what_137 ?_
            refine lv_topi (fun x6_20 ex6_20 => ?_)
            replace hf := lt_e ex6_20 hf
            refine lv_istore (lv' := [(6, .int x6_20), (0, .ref (G.1 122)), (5, .int x5), (7, .int x7)]) hx hb dX7_what_138 hl (by decide) rfl (fun ls hl => ?_)
            obtain ⟨x7_21, ex7_21⟩ : ∃ y : Int32, y = x7 + (1 : Int32) := ⟨_, rfl⟩
            replace hf := lt_e ex7_21 hf
            refine lv_iinc (v := x7_21) (lv' := [(7, .int x7_21), (6, .int x6_20), (0, .ref (G.1 122)), (5, .int x5)]) hx hb dX7_what_140 hl (k := 3) rfl (by rw [ex7_21]; rfl) (by decide) rfl (fun ls hl => ?_)
            refine lv_goto (tgt := 59) hx hb dX7_what_143 (by decide) ?_
            exact ih _ _ _ _ hf  hh (lv_sub hl [2, 3, 1, 0] rfl)
          · replace hf := itn c19 hf
            refine lv_iconst (v := 2) hx hb dX7_what_131 (by decide) ?_
            refine lv_goto (tgt := 137) hx hb dX7_what_132 (by decide) ?_
            refine lv_iand hx hb dX7_what_137 ?_
            refine lv_topi (fun x6_22 ex6_22 => ?_)
            replace hf := lt_e ex6_22 hf
            refine lv_istore (lv' := [(6, .int x6_22), (0, .ref (G.1 122)), (5, .int x5), (7, .int x7)]) hx hb dX7_what_138 hl (by decide) rfl (fun ls hl => ?_)
            obtain ⟨x7_23, ex7_23⟩ : ∃ y : Int32, y = x7 + (1 : Int32) := ⟨_, rfl⟩
            replace hf := lt_e ex7_23 hf
            refine lv_iinc (v := x7_23) (lv' := [(7, .int x7_23), (6, .int x6_22), (0, .ref (G.1 122)), (5, .int x5)]) hx hb dX7_what_140 hl (k := 3) rfl (by rw [ex7_23]; rfl) (by decide) rfl (fun ls hl => ?_)
            refine lv_goto (tgt := 59) hx hb dX7_what_143 (by decide) ?_
            exact ih _ _ _ _ hf  hh (lv_sub hl [2, 3, 1, 0] rfl)
        · replace hf := itp c17 hf
          refine lv_iconst (v := 4) hx hb dX7_what_112 (by decide) ?_
          refine lv_goto (tgt := 137) hx hb dX7_what_113 (by decide) ?_
          refine lv_iand hx hb dX7_what_137 ?_
          refine lv_topi (fun x6_24 ex6_24 => ?_)
          replace hf := lt_e ex6_24 hf
          refine lv_istore (lv' := [(6, .int x6_24), (0, .ref (G.1 122)), (5, .int x5), (7, .int x7)]) hx hb dX7_what_138 hl (by decide) rfl (fun ls hl => ?_)
          obtain ⟨x7_25, ex7_25⟩ : ∃ y : Int32, y = x7 + (1 : Int32) := ⟨_, rfl⟩
          replace hf := lt_e ex7_25 hf
          refine lv_iinc (v := x7_25) (lv' := [(7, .int x7_25), (6, .int x6_24), (0, .ref (G.1 122)), (5, .int x5)]) hx hb dX7_what_140 hl (k := 3) rfl (by rw [ex7_25]; rfl) (by decide) rfl (fun ls hl => ?_)
          refine lv_goto (tgt := 59) hx hb dX7_what_143 (by decide) ?_
          exact ih _ _ _ _ hf  hh (lv_sub hl [2, 3, 1, 0] rfl)
      · replace hf := itp c15 hf
        refine lv_bipush (v := -2) hx hb dX7_what_92 (by decide) ?_
        exact g_iretW F hr hlk hh hf dX7_what_94
set_option maxRecDepth 100000 in
set_option maxHeartbeats 4000000 in
theorem w_X7_what {Z : Int32 × Sto} (F : Fx rM p s m args cd cX7_what 8 RX7 G) (hr : meth.sig.returnType = (some .int)) (hlk : meth.locks = false) {x1 : Int32} {x2 : Int32} {x3 : Int32} {z : Sto} {H : Heap} {locs : List Loc} {ls : Array Slot} (hf : f_X7_what x1 x2 x3 z = some Z) (hh : Hh rM G z s H locs) (hl : lv_has ls 8 [(0, .ref (G.1 122)), (1, .int x1), (2, .int x2), (3, .int x3)]) : W p l e rmX7_what s m args below meth cd H locs 0 0 (MQ below (QI rM G Z.1 Z.2) args s 0 0 (Am rM G)) (F0 m 0 ls []) := by
  have hx := F.1
  have hb := F.2.1
  unfold f_X7_what at hf
  refine lv_iload_n hx hb dX7_what_0 rfl (lv_at hl 1 rfl) ?_
  obtain ⟨t1, ht1, hf⟩ := ob hf
  refine m_X7_339 F hh (c_X7_isSheet ht1) rfl hl (Nat.le_of_ble_eq_true rfl) dX7_what_1 (fun H locs hh => ?_)
  refine lv_if_eq (tgt := 19) hx hb dX7_what_4 (by decide) (fun c2 => ?_) (fun c2 => ?_)
  · replace hf := itp c2 hf
    refine lv_iconst (v := -1) hx hb dX7_what_19 (by decide) ?_
    exact g_iretW F hr hlk hh hf dX7_what_20
  · replace hf := itn c2 hf
    refine lv_iload_n hx hb dX7_what_7 rfl (lv_at hl 2 rfl) ?_
    refine lv_i2l hx hb dX7_what_8 rfl ?_
    refine lv_lconst (v := 0) hx hb dX7_what_9 (by decide) ?_
    refine lv_ldc2 hx hb F.2.2.2.1 (F.2.2.2.2.1 _ lk1342) dX7_what_10 ?_
    obtain ⟨t3, ht3, hf⟩ := ob hf
    refine m_X7_79 F hh (c_X7_in ht3) rfl hl (Nat.le_of_ble_eq_true rfl) dX7_what_13 (fun H locs hh => ?_)
    refine lv_if_ne (tgt := 21) hx hb dX7_what_16 (by decide) (fun c4 => ?_) (fun c4 => ?_)
    · replace hf := itn c4 hf
      refine lv_aload_n hx hb dX7_what_21 rfl (lv_at hl 0 rfl) ?_
      refine lv_iload_n hx hb dX7_what_22 rfl (lv_at hl 1 rfl) ?_
      refine lv_iload_n hx hb dX7_what_23 rfl (lv_at hl 2 rfl) ?_
      refine lv_iload_n hx hb dX7_what_24 rfl (lv_at hl 3 rfl) ?_
      refine lv_aload_n hx hb dX7_what_25 rfl (lv_at hl 0 rfl) ?_
      refine r_X7_7 (b' := 123) F hh in_122 sh_122 rfl dX7_what_26 ?_
      refine lv_iconst (v := 1) hx hb dX7_what_29 (by decide) ?_
      obtain ⟨t5, ht5, hf⟩ := ob hf
      refine g_iald F hh in_123 sh_123 ht5 dX7_what_30 ?_
      obtain ⟨t6, ht6, hf⟩ := ob hf
      refine m_X7_342 F hh (c_X7_found ht6) in_122 sh_122 rfl hl (Nat.le_of_ble_eq_true rfl) dX7_what_31 (fun H locs hh => ?_)
      refine lv_istore (lv' := [(4, .int t6), (0, .ref (G.1 122)), (1, .int x1), (2, .int x2), (3, .int x3)]) hx hb dX7_what_34 hl (by decide) rfl (fun ls hl => ?_)
      refine lv_iload hx hb dX7_what_36 (lv_at hl 0 rfl) ?_
      refine lv_if_ge (tgt := 44) hx hb dX7_what_38 (by decide) (fun c7 => ?_) (fun c7 => ?_)
      · replace hf := itp c7 hf
        refine lv_bipush (v := 24) hx hb dX7_what_44 (by decide) ?_
        refine lv_iload_n hx hb dX7_what_46 rfl (lv_at hl 2 rfl) ?_
        refine lv_imul hx hb dX7_what_47 ?_
        refine lv_iload_n hx hb dX7_what_48 rfl (lv_at hl 4 rfl) ?_
        refine lv_iadd hx hb dX7_what_49 ?_
        refine lv_topi (fun x5_8 ex5_8 => ?_)
        replace hf := lt_e ex5_8 hf
        refine lv_istore (lv' := [(5, .int x5_8), (4, .int t6), (0, .ref (G.1 122)), (1, .int x1), (2, .int x2), (3, .int x3)]) hx hb dX7_what_50 hl (by decide) rfl (fun ls hl => ?_)
        refine lv_bipush (v := 6) hx hb dX7_what_52 (by decide) ?_
        refine lv_istore (lv' := [(6, .int (6 : Int32)), (5, .int x5_8), (4, .int t6), (0, .ref (G.1 122)), (1, .int x1), (2, .int x2), (3, .int x3)]) hx hb dX7_what_54 hl (by decide) rfl (fun ls hl => ?_)
        refine lv_iconst (v := 0) hx hb dX7_what_56 (by decide) ?_
        refine lv_istore (lv' := [(7, .int (0 : Int32)), (6, .int (6 : Int32)), (5, .int x5_8), (4, .int t6), (0, .ref (G.1 122)), (1, .int x1), (2, .int x2), (3, .int x3)]) hx hb dX7_what_57 hl (by decide) rfl (fun ls hl => ?_)
        exact w_X7_what_59 F hr hlk fu _ _ _ _ hf  hh (lv_sub hl [4, 2, 1, 0] rfl)
      · replace hf := itn c7 hf
        refine lv_iload hx hb dX7_what_41 (lv_at hl 0 rfl) ?_
        exact g_iretW F hr hlk hh hf dX7_what_43
    · replace hf := itp c4 hf
      refine lv_iconst (v := -1) hx hb dX7_what_19 (by decide) ?_
      exact g_iretW F hr hlk hh hf dX7_what_20
theorem c_X7_what {l : Launch} {G : Gm} {x1 : Int32} {x2 : Int32} {x3 : Int32} {z : Sto} {Z : Int32 × Sto} (hf : f_X7_what x1 x2 x3 z = some Z) : Met l yX7_what (Cond.code yX7_what cX7_what 8 (some .int) :: TT) rmX7_what (va_Pc [.ref (G.1 122), .int x1, .int x2, .int x3] (GS rM G z)) (QI rM G Z.1 Z.2) 0 0 (Am rM G) := by
  refine g_met [(0, .ref (G.1 122)), (1, .int x1), (2, .int x2), (3, .int x3)] (by decide) (Nat.le_of_ble_eq_true rfl) rfl ?_
  intro p e s m below meth cd F hr hlk ls H locs hl hh
  exact w_X7_what F hr hlk hf hh hl
def b_X7_film_51  (ag51 : Int32 → Int32 → Int32 → Sto → Option (Int32 × Sto)) (x1 : Int32) (x3 : Int32) (x5 : Int32) (z : Sto) : Option (Int32 × Sto) := bd (rdI z 123 42 (1 : Int32)) fun t10 => if t10 ≤ x5 then (bd (rdI z 123 42 (1 : Int32)) fun t12 => some (t12, z)) else (bd (f_X7_pullOf x5 z) fun t13 => bd (f_X7_sign t13 z) fun t14 => bd (f_X7_sign ((z.2 122 16)) z) fun t15 => bd (wrL z 130 96 ((((24 : Int32) * x1) + x3) + x5) (Int32.toInt64 (t14 * t15))) fun z16 => lt (x5 + (1 : Int32)) fun x5_17 => ag51 x1 x3 x5_17 z16)
def f_X7_film (x1 : Int32) (x2 : Int32) (x3 : Int32) (z : Sto) : Option (Int32 × Sto) := bd (f_X7_isSheet x1 z) fun t1 => if t1 = 0 then (some ((-1 : Int32), z)) else (bd (f_X7_in ((Int32.toInt64 x2)) (0 : Int64) (3 : Int64) z) fun t3 => if t3 = 0 then (some ((-1 : Int32), z)) else (bd (rdI z 123 42 (1 : Int32)) fun t5 => bd (f_X7_found x1 x2 x3 t5 z) fun t6 => if 0 ≤ t6 then (bd (f_X7_laysAll z) fun z9 => wl4 (b_X7_film_51) fu x1 x3 (0 : Int32) z9) else (some (t6, z))))
set_option maxRecDepth 100000 in
set_option maxHeartbeats 4000000 in
theorem w_X7_film_51  {Z : Int32 × Sto} (F : Fx rM p s m args cd cX7_film 6 RX7 G) (hr : meth.sig.returnType = (some .int)) (hlk : meth.locks = false)  : ∀ (n : Nat), ∀ (x1 : Int32) (x3 : Int32) (x5 : Int32) (z : Sto), wl4 (b_X7_film_51) n x1 x3 x5 z = some Z → ∀ {H : Heap} {locs : List Loc} {ls : Array Slot}, Hh rM G z s H locs → lv_has ls 6 [(0, .ref (G.1 122)), (1, .int x1), (3, .int x3), (5, .int x5)] → W p l e rmX7_film s m args below meth cd H locs 0 0 (MQ below (QI rM G Z.1 Z.2) args s 0 0 (Am rM G)) (F0 m 51 ls []) := by
  have hx := F.1
  have hb := F.2.1
  intro n
  induction n with
  | zero =>
    intro x1 x3 x5 z hf
    exact absurd hf (by intro h; cases h)
  | succ n ih =>
    intro x1 x3 x5 z hf  H locs ls hh hl
    replace hf : b_X7_film_51 (wl4 (b_X7_film_51) n) x1 x3 x5 z = some Z := hf
    unfold b_X7_film_51 at hf
    refine lv_iload hx hb dX7_film_51 (lv_at hl 3 rfl) ?_
    refine lv_aload_n hx hb dX7_film_53 rfl (lv_at hl 0 rfl) ?_
    refine r_X7_7 (b' := 123) F hh in_122 sh_122 rfl dX7_film_54 ?_
    refine lv_iconst (v := 1) hx hb dX7_film_57 (by decide) ?_
    obtain ⟨t10, ht10, hf⟩ := ob hf
    refine g_iald F hh in_123 sh_123 ht10 dX7_film_58 ?_
    refine lv_icmp_ge (tgt := 100) hx hb dX7_film_59 (by decide) (fun c11 => ?_) (fun c11 => ?_)
    · replace hf := itp c11 hf
      refine lv_aload_n hx hb dX7_film_100 rfl (lv_at hl 0 rfl) ?_
      refine r_X7_7 (b' := 123) F hh in_122 sh_122 rfl dX7_film_101 ?_
      refine lv_iconst (v := 1) hx hb dX7_film_104 (by decide) ?_
      obtain ⟨t12, ht12, hf⟩ := ob hf
      refine g_iald F hh in_123 sh_123 ht12 dX7_film_105 ?_
      exact g_iretW F hr hlk hh hf dX7_film_106
    · replace hf := itn c11 hf
      refine lv_aload_n hx hb dX7_film_62 rfl (lv_at hl 0 rfl) ?_
      refine r_X7_35 (b' := 130) F hh in_122 sh_122 rfl dX7_film_63 ?_
      refine lv_bipush (v := 24) hx hb dX7_film_66 (by decide) ?_
      refine lv_iload_n hx hb dX7_film_68 rfl (lv_at hl 1 rfl) ?_
      refine lv_imul hx hb dX7_film_69 ?_
      refine lv_iload_n hx hb dX7_film_70 rfl (lv_at hl 2 rfl) ?_
      refine lv_iadd hx hb dX7_film_71 ?_
      refine lv_iload hx hb dX7_film_72 (lv_at hl 3 rfl) ?_
      refine lv_iadd hx hb dX7_film_74 ?_
      refine lv_aload_n hx hb dX7_film_75 rfl (lv_at hl 0 rfl) ?_
      refine lv_iload hx hb dX7_film_76 (lv_at hl 3 rfl) ?_
      obtain ⟨t13, ht13, hf⟩ := ob hf
      refine m_X7_244 F hh (c_X7_pullOf ht13) in_122 sh_122 rfl hl (Nat.le_of_ble_eq_true rfl) dX7_film_78 (fun H locs hh => ?_)
      obtain ⟨t14, ht14, hf⟩ := ob hf
      refine m_X7_94 F hh (c_X7_sign ht14) rfl hl (Nat.le_of_ble_eq_true rfl) dX7_film_81 (fun H locs hh => ?_)
      refine lv_aload_n hx hb dX7_film_84 rfl (lv_at hl 0 rfl) ?_
      refine r_X7_198 F hh in_122 sh_122 dX7_film_85 ?_
      obtain ⟨t15, ht15, hf⟩ := ob hf
      refine m_X7_94 F hh (c_X7_sign ht15) rfl hl (Nat.le_of_ble_eq_true rfl) dX7_film_88 (fun H locs hh => ?_)
      refine lv_imul hx hb dX7_film_91 ?_
      refine lv_i2l hx hb dX7_film_92 rfl ?_
      obtain ⟨z16, hz16, hf⟩ := ob hf
      refine g_last F hh in_130 sh_130 hz16 dX7_film_93 (fun H locs hh => ?_)
      obtain ⟨x5_17, ex5_17⟩ : ∃ y : Int32, y = x5 + (1 : Int32) := ⟨_, rfl⟩
      replace hf := lt_e ex5_17 hf
      refine lv_iinc (v := x5_17) (lv' := [(5, .int x5_17), (0, .ref (G.1 122)), (1, .int x1), (3, .int x3)]) hx hb dX7_film_94 hl (k := 3) rfl (by rw [ex5_17]; rfl) (by decide) rfl (fun ls hl => ?_)
      refine lv_goto (tgt := 51) hx hb dX7_film_97 (by decide) ?_
      exact ih _ _ _ _ hf  hh (lv_sub hl [1, 2, 3, 0] rfl)
set_option maxRecDepth 100000 in
set_option maxHeartbeats 4000000 in
theorem w_X7_film {Z : Int32 × Sto} (F : Fx rM p s m args cd cX7_film 6 RX7 G) (hr : meth.sig.returnType = (some .int)) (hlk : meth.locks = false) {x1 : Int32} {x2 : Int32} {x3 : Int32} {z : Sto} {H : Heap} {locs : List Loc} {ls : Array Slot} (hf : f_X7_film x1 x2 x3 z = some Z) (hh : Hh rM G z s H locs) (hl : lv_has ls 6 [(0, .ref (G.1 122)), (1, .int x1), (2, .int x2), (3, .int x3)]) : W p l e rmX7_film s m args below meth cd H locs 0 0 (MQ below (QI rM G Z.1 Z.2) args s 0 0 (Am rM G)) (F0 m 0 ls []) := by
  have hx := F.1
  have hb := F.2.1
  unfold f_X7_film at hf
  refine lv_iload_n hx hb dX7_film_0 rfl (lv_at hl 1 rfl) ?_
  obtain ⟨t1, ht1, hf⟩ := ob hf
  refine m_X7_339 F hh (c_X7_isSheet ht1) rfl hl (Nat.le_of_ble_eq_true rfl) dX7_film_1 (fun H locs hh => ?_)
  refine lv_if_eq (tgt := 19) hx hb dX7_film_4 (by decide) (fun c2 => ?_) (fun c2 => ?_)
  · replace hf := itp c2 hf
    refine lv_iconst (v := -1) hx hb dX7_film_19 (by decide) ?_
    exact g_iretW F hr hlk hh hf dX7_film_20
  · replace hf := itn c2 hf
    refine lv_iload_n hx hb dX7_film_7 rfl (lv_at hl 2 rfl) ?_
    refine lv_i2l hx hb dX7_film_8 rfl ?_
    refine lv_lconst (v := 0) hx hb dX7_film_9 (by decide) ?_
    refine lv_ldc2 hx hb F.2.2.2.1 (F.2.2.2.2.1 _ lk1342) dX7_film_10 ?_
    obtain ⟨t3, ht3, hf⟩ := ob hf
    refine m_X7_79 F hh (c_X7_in ht3) rfl hl (Nat.le_of_ble_eq_true rfl) dX7_film_13 (fun H locs hh => ?_)
    refine lv_if_ne (tgt := 21) hx hb dX7_film_16 (by decide) (fun c4 => ?_) (fun c4 => ?_)
    · replace hf := itn c4 hf
      refine lv_aload_n hx hb dX7_film_21 rfl (lv_at hl 0 rfl) ?_
      refine lv_iload_n hx hb dX7_film_22 rfl (lv_at hl 1 rfl) ?_
      refine lv_iload_n hx hb dX7_film_23 rfl (lv_at hl 2 rfl) ?_
      refine lv_iload_n hx hb dX7_film_24 rfl (lv_at hl 3 rfl) ?_
      refine lv_aload_n hx hb dX7_film_25 rfl (lv_at hl 0 rfl) ?_
      refine r_X7_7 (b' := 123) F hh in_122 sh_122 rfl dX7_film_26 ?_
      refine lv_iconst (v := 1) hx hb dX7_film_29 (by decide) ?_
      obtain ⟨t5, ht5, hf⟩ := ob hf
      refine g_iald F hh in_123 sh_123 ht5 dX7_film_30 ?_
      obtain ⟨t6, ht6, hf⟩ := ob hf
      refine m_X7_342 F hh (c_X7_found ht6) in_122 sh_122 rfl hl (Nat.le_of_ble_eq_true rfl) dX7_film_31 (fun H locs hh => ?_)
      refine lv_istore (lv' := [(4, .int t6), (0, .ref (G.1 122)), (1, .int x1), (2, .int x2), (3, .int x3)]) hx hb dX7_film_34 hl (by decide) rfl (fun ls hl => ?_)
      refine lv_iload hx hb dX7_film_36 (lv_at hl 0 rfl) ?_
      refine lv_if_ge (tgt := 44) hx hb dX7_film_38 (by decide) (fun c7 => ?_) (fun c7 => ?_)
      · replace hf := itp c7 hf
        refine lv_aload_n hx hb dX7_film_44 rfl (lv_at hl 1 rfl) ?_
        obtain ⟨z9, ht8, hf⟩ := ob hf
        refine m_X7_232 F hh (c_X7_laysAll ht8) in_122 sh_122 rfl hl (Nat.le_of_ble_eq_true rfl) dX7_film_45 (fun H locs hh => ?_)
        refine lv_iconst (v := 0) hx hb dX7_film_48 (by decide) ?_
        refine lv_istore (lv' := [(5, .int (0 : Int32)), (4, .int t6), (0, .ref (G.1 122)), (1, .int x1), (2, .int x2), (3, .int x3)]) hx hb dX7_film_49 hl (by decide) rfl (fun ls hl => ?_)
        exact w_X7_film_51 F hr hlk fu _ _ _ _ hf  hh (lv_sub hl [2, 3, 5, 0] rfl)
      · replace hf := itn c7 hf
        refine lv_iload hx hb dX7_film_41 (lv_at hl 0 rfl) ?_
        exact g_iretW F hr hlk hh hf dX7_film_43
    · replace hf := itp c4 hf
      refine lv_iconst (v := -1) hx hb dX7_film_19 (by decide) ?_
      exact g_iretW F hr hlk hh hf dX7_film_20
theorem c_X7_film {l : Launch} {G : Gm} {x1 : Int32} {x2 : Int32} {x3 : Int32} {z : Sto} {Z : Int32 × Sto} (hf : f_X7_film x1 x2 x3 z = some Z) : Met l yX7_film (Cond.code yX7_film cX7_film 6 (some .int) :: TT) rmX7_film (va_Pc [.ref (G.1 122), .int x1, .int x2, .int x3] (GS rM G z)) (QI rM G Z.1 Z.2) 0 0 (Am rM G) := by
  refine g_met [(0, .ref (G.1 122)), (1, .int x1), (2, .int x2), (3, .int x3)] (by decide) (Nat.le_of_ble_eq_true rfl) rfl ?_
  intro p e s m below meth cd F hr hlk ls H locs hl hh
  exact w_X7_film F hr hlk hf hh hl
def b_X7_sheet_51  (ag51 : Int32 → Int32 → Int32 → Sto → Option (Int32 × Sto)) (x1 : Int32) (x3 : Int32) (x4 : Int32) (z : Sto) : Option (Int32 × Sto) := if (24 : Int32) ≤ x4 then (some (x3, z)) else (bd (wrL z 130 96 (((24 : Int32) * x1) + x4) (0 : Int64)) fun z10 => lt (x4 + (1 : Int32)) fun x4_11 => ag51 x1 x3 x4_11 z10)
def f_X7_sheet (x1 : Int32) (x2 : Int32) (x3 : Int32) (z : Sto) : Option (Int32 × Sto) := bd (f_X7_isSheet x1 z) fun t1 => if t1 = 0 then (some ((-1 : Int32), z)) else (bd (f_X7_in ((Int32.toInt64 x2)) (0 : Int64) (3 : Int64) z) fun t3 => if t3 = 0 then (some ((-1 : Int32), z)) else (if x3 ≤ (24 : Int32) then (if 0 ≤ x3 then (bd (wrI z 128 4 x1 x2) fun z7 => bd (wrI z7 129 4 x1 x3) fun z8 => wl4 (b_X7_sheet_51) fu x1 x3 (0 : Int32) z8) else (some ((-14 : Int32), z))) else (some ((-1 : Int32), z))))
set_option maxRecDepth 100000 in
set_option maxHeartbeats 4000000 in
theorem w_X7_sheet_51  {Z : Int32 × Sto} (F : Fx rM p s m args cd cX7_sheet 5 RX7 G) (hr : meth.sig.returnType = (some .int)) (hlk : meth.locks = false)  : ∀ (n : Nat), ∀ (x1 : Int32) (x3 : Int32) (x4 : Int32) (z : Sto), wl4 (b_X7_sheet_51) n x1 x3 x4 z = some Z → ∀ {H : Heap} {locs : List Loc} {ls : Array Slot}, Hh rM G z s H locs → lv_has ls 5 [(0, .ref (G.1 122)), (1, .int x1), (3, .int x3), (4, .int x4)] → W p l e rmX7_sheet s m args below meth cd H locs 0 0 (MQ below (QI rM G Z.1 Z.2) args s 0 0 (Am rM G)) (F0 m 51 ls []) := by
  have hx := F.1
  have hb := F.2.1
  intro n
  induction n with
  | zero =>
    intro x1 x3 x4 z hf
    exact absurd hf (by intro h; cases h)
  | succ n ih =>
    intro x1 x3 x4 z hf  H locs ls hh hl
    replace hf : b_X7_sheet_51 (wl4 (b_X7_sheet_51) n) x1 x3 x4 z = some Z := hf
    unfold b_X7_sheet_51 at hf
    refine lv_iload hx hb dX7_sheet_51 (lv_at hl 3 rfl) ?_
    refine lv_bipush (v := 24) hx hb dX7_sheet_53 (by decide) ?_
    refine lv_icmp_ge (tgt := 77) hx hb dX7_sheet_55 (by decide) (fun c9 => ?_) (fun c9 => ?_)
    · replace hf := itp c9 hf
      refine lv_iload_n hx hb dX7_sheet_77 rfl (lv_at hl 2 rfl) ?_
      exact g_iretW F hr hlk hh hf dX7_sheet_78
    · replace hf := itn c9 hf
      refine lv_aload_n hx hb dX7_sheet_58 rfl (lv_at hl 0 rfl) ?_
      refine r_X7_35 (b' := 130) F hh in_122 sh_122 rfl dX7_sheet_59 ?_
      refine lv_bipush (v := 24) hx hb dX7_sheet_62 (by decide) ?_
      refine lv_iload_n hx hb dX7_sheet_64 rfl (lv_at hl 1 rfl) ?_
      refine lv_imul hx hb dX7_sheet_65 ?_
      refine lv_iload hx hb dX7_sheet_66 (lv_at hl 3 rfl) ?_
      refine lv_iadd hx hb dX7_sheet_68 ?_
      refine lv_lconst (v := 0) hx hb dX7_sheet_69 (by decide) ?_
      obtain ⟨z10, hz10, hf⟩ := ob hf
      refine g_last F hh in_130 sh_130 hz10 dX7_sheet_70 (fun H locs hh => ?_)
      obtain ⟨x4_11, ex4_11⟩ : ∃ y : Int32, y = x4 + (1 : Int32) := ⟨_, rfl⟩
      replace hf := lt_e ex4_11 hf
      refine lv_iinc (v := x4_11) (lv' := [(4, .int x4_11), (0, .ref (G.1 122)), (1, .int x1), (3, .int x3)]) hx hb dX7_sheet_71 hl (k := 3) rfl (by rw [ex4_11]; rfl) (by decide) rfl (fun ls hl => ?_)
      refine lv_goto (tgt := 51) hx hb dX7_sheet_74 (by decide) ?_
      exact ih _ _ _ _ hf  hh (lv_sub hl [1, 2, 3, 0] rfl)
set_option maxRecDepth 100000 in
set_option maxHeartbeats 4000000 in
theorem w_X7_sheet {Z : Int32 × Sto} (F : Fx rM p s m args cd cX7_sheet 5 RX7 G) (hr : meth.sig.returnType = (some .int)) (hlk : meth.locks = false) {x1 : Int32} {x2 : Int32} {x3 : Int32} {z : Sto} {H : Heap} {locs : List Loc} {ls : Array Slot} (hf : f_X7_sheet x1 x2 x3 z = some Z) (hh : Hh rM G z s H locs) (hl : lv_has ls 5 [(0, .ref (G.1 122)), (1, .int x1), (2, .int x2), (3, .int x3)]) : W p l e rmX7_sheet s m args below meth cd H locs 0 0 (MQ below (QI rM G Z.1 Z.2) args s 0 0 (Am rM G)) (F0 m 0 ls []) := by
  have hx := F.1
  have hb := F.2.1
  unfold f_X7_sheet at hf
  refine lv_iload_n hx hb dX7_sheet_0 rfl (lv_at hl 1 rfl) ?_
  obtain ⟨t1, ht1, hf⟩ := ob hf
  refine m_X7_339 F hh (c_X7_isSheet ht1) rfl hl (Nat.le_of_ble_eq_true rfl) dX7_sheet_1 (fun H locs hh => ?_)
  refine lv_if_eq (tgt := 25) hx hb dX7_sheet_4 (by decide) (fun c2 => ?_) (fun c2 => ?_)
  · replace hf := itp c2 hf
    refine lv_iconst (v := -1) hx hb dX7_sheet_25 (by decide) ?_
    exact g_iretW F hr hlk hh hf dX7_sheet_26
  · replace hf := itn c2 hf
    refine lv_iload_n hx hb dX7_sheet_7 rfl (lv_at hl 2 rfl) ?_
    refine lv_i2l hx hb dX7_sheet_8 rfl ?_
    refine lv_lconst (v := 0) hx hb dX7_sheet_9 (by decide) ?_
    refine lv_ldc2 hx hb F.2.2.2.1 (F.2.2.2.2.1 _ lk1342) dX7_sheet_10 ?_
    obtain ⟨t3, ht3, hf⟩ := ob hf
    refine m_X7_79 F hh (c_X7_in ht3) rfl hl (Nat.le_of_ble_eq_true rfl) dX7_sheet_13 (fun H locs hh => ?_)
    refine lv_if_eq (tgt := 25) hx hb dX7_sheet_16 (by decide) (fun c4 => ?_) (fun c4 => ?_)
    · replace hf := itp c4 hf
      refine lv_iconst (v := -1) hx hb dX7_sheet_25 (by decide) ?_
      exact g_iretW F hr hlk hh hf dX7_sheet_26
    · replace hf := itn c4 hf
      refine lv_iload_n hx hb dX7_sheet_19 rfl (lv_at hl 3 rfl) ?_
      refine lv_bipush (v := 24) hx hb dX7_sheet_20 (by decide) ?_
      refine lv_icmp_le (tgt := 27) hx hb dX7_sheet_22 (by decide) (fun c5 => ?_) (fun c5 => ?_)
      · replace hf := itp c5 hf
        refine lv_iload_n hx hb dX7_sheet_27 rfl (lv_at hl 3 rfl) ?_
        refine lv_if_ge (tgt := 34) hx hb dX7_sheet_28 (by decide) (fun c6 => ?_) (fun c6 => ?_)
        · replace hf := itp c6 hf
          refine lv_aload_n hx hb dX7_sheet_34 rfl (lv_at hl 0 rfl) ?_
          refine r_X7_29 (b' := 128) F hh in_122 sh_122 rfl dX7_sheet_35 ?_
          refine lv_iload_n hx hb dX7_sheet_38 rfl (lv_at hl 1 rfl) ?_
          refine lv_iload_n hx hb dX7_sheet_39 rfl (lv_at hl 2 rfl) ?_
          obtain ⟨z7, hz7, hf⟩ := ob hf
          refine g_iast F hh in_128 sh_128 hz7 dX7_sheet_40 (fun H locs hh => ?_)
          refine lv_aload_n hx hb dX7_sheet_41 rfl (lv_at hl 0 rfl) ?_
          refine r_X7_32 (b' := 129) F hh in_122 sh_122 rfl dX7_sheet_42 ?_
          refine lv_iload_n hx hb dX7_sheet_45 rfl (lv_at hl 1 rfl) ?_
          refine lv_iload_n hx hb dX7_sheet_46 rfl (lv_at hl 3 rfl) ?_
          obtain ⟨z8, hz8, hf⟩ := ob hf
          refine g_iast F hh in_129 sh_129 hz8 dX7_sheet_47 (fun H locs hh => ?_)
          refine lv_iconst (v := 0) hx hb dX7_sheet_48 (by decide) ?_
          refine lv_istore (lv' := [(4, .int (0 : Int32)), (0, .ref (G.1 122)), (1, .int x1), (2, .int x2), (3, .int x3)]) hx hb dX7_sheet_49 hl (by decide) rfl (fun ls hl => ?_)
          exact w_X7_sheet_51 F hr hlk fu _ _ _ _ hf  hh (lv_sub hl [1, 2, 4, 0] rfl)
        · replace hf := itn c6 hf
          refine lv_bipush (v := -14) hx hb dX7_sheet_31 (by decide) ?_
          exact g_iretW F hr hlk hh hf dX7_sheet_33
      · replace hf := itn c5 hf
        refine lv_iconst (v := -1) hx hb dX7_sheet_25 (by decide) ?_
        exact g_iretW F hr hlk hh hf dX7_sheet_26
theorem c_X7_sheet {l : Launch} {G : Gm} {x1 : Int32} {x2 : Int32} {x3 : Int32} {z : Sto} {Z : Int32 × Sto} (hf : f_X7_sheet x1 x2 x3 z = some Z) : Met l yX7_sheet (Cond.code yX7_sheet cX7_sheet 5 (some .int) :: TT) rmX7_sheet (va_Pc [.ref (G.1 122), .int x1, .int x2, .int x3] (GS rM G z)) (QI rM G Z.1 Z.2) 0 0 (Am rM G) := by
  refine g_met [(0, .ref (G.1 122)), (1, .int x1), (2, .int x2), (3, .int x3)] (by decide) (Nat.le_of_ble_eq_true rfl) rfl ?_
  intro p e s m below meth cd F hr hlk ls H locs hl hh
  exact w_X7_sheet F hr hlk hf hh hl
def f_X7_drop (x1 : Int32) (z : Sto) : Option (Int32 × Sto) := bd (f_X7_isSheet x1 z) fun t1 => if t1 = 0 then (some ((-1 : Int32), z)) else (bd (rdI z 128 4 x1) fun t3 => if 0 ≤ t3 then (bd (wrI z 128 4 x1 (-1 : Int32)) fun z5 => bd (rdI z5 129 4 x1) fun t6 => some (t6, z5)) else (some ((-11 : Int32), z)))
set_option maxRecDepth 100000 in
set_option maxHeartbeats 4000000 in
theorem w_X7_drop {Z : Int32 × Sto} (F : Fx rM p s m args cd cX7_drop 2 RX7 G) (hr : meth.sig.returnType = (some .int)) (hlk : meth.locks = false) {x1 : Int32} {z : Sto} {H : Heap} {locs : List Loc} {ls : Array Slot} (hf : f_X7_drop x1 z = some Z) (hh : Hh rM G z s H locs) (hl : lv_has ls 2 [(0, .ref (G.1 122)), (1, .int x1)]) : W p l e rmX7_drop s m args below meth cd H locs 0 0 (MQ below (QI rM G Z.1 Z.2) args s 0 0 (Am rM G)) (F0 m 0 ls []) := by
  have hx := F.1
  have hb := F.2.1
  unfold f_X7_drop at hf
  refine lv_iload_n hx hb dX7_drop_0 rfl (lv_at hl 1 rfl) ?_
  obtain ⟨t1, ht1, hf⟩ := ob hf
  refine m_X7_339 F hh (c_X7_isSheet ht1) rfl hl (Nat.le_of_ble_eq_true rfl) dX7_drop_1 (fun H locs hh => ?_)
  refine lv_if_ne (tgt := 9) hx hb dX7_drop_4 (by decide) (fun c2 => ?_) (fun c2 => ?_)
  · replace hf := itn c2 hf
    refine lv_aload_n hx hb dX7_drop_9 rfl (lv_at hl 0 rfl) ?_
    refine r_X7_29 (b' := 128) F hh in_122 sh_122 rfl dX7_drop_10 ?_
    refine lv_iload_n hx hb dX7_drop_13 rfl (lv_at hl 1 rfl) ?_
    obtain ⟨t3, ht3, hf⟩ := ob hf
    refine g_iald F hh in_128 sh_128 ht3 dX7_drop_14 ?_
    refine lv_if_ge (tgt := 21) hx hb dX7_drop_15 (by decide) (fun c4 => ?_) (fun c4 => ?_)
    · replace hf := itp c4 hf
      refine lv_aload_n hx hb dX7_drop_21 rfl (lv_at hl 0 rfl) ?_
      refine r_X7_29 (b' := 128) F hh in_122 sh_122 rfl dX7_drop_22 ?_
      refine lv_iload_n hx hb dX7_drop_25 rfl (lv_at hl 1 rfl) ?_
      refine lv_iconst (v := -1) hx hb dX7_drop_26 (by decide) ?_
      obtain ⟨z5, hz5, hf⟩ := ob hf
      refine g_iast F hh in_128 sh_128 hz5 dX7_drop_27 (fun H locs hh => ?_)
      refine lv_aload_n hx hb dX7_drop_28 rfl (lv_at hl 0 rfl) ?_
      refine r_X7_32 (b' := 129) F hh in_122 sh_122 rfl dX7_drop_29 ?_
      refine lv_iload_n hx hb dX7_drop_32 rfl (lv_at hl 1 rfl) ?_
      obtain ⟨t6, ht6, hf⟩ := ob hf
      refine g_iald F hh in_129 sh_129 ht6 dX7_drop_33 ?_
      exact g_iretW F hr hlk hh hf dX7_drop_34
    · replace hf := itn c4 hf
      refine lv_bipush (v := -11) hx hb dX7_drop_18 (by decide) ?_
      exact g_iretW F hr hlk hh hf dX7_drop_20
  · replace hf := itp c2 hf
    refine lv_iconst (v := -1) hx hb dX7_drop_7 (by decide) ?_
    exact g_iretW F hr hlk hh hf dX7_drop_8
theorem c_X7_drop {l : Launch} {G : Gm} {x1 : Int32} {z : Sto} {Z : Int32 × Sto} (hf : f_X7_drop x1 z = some Z) : Met l yX7_drop (Cond.code yX7_drop cX7_drop 2 (some .int) :: TT) rmX7_drop (va_Pc [.ref (G.1 122), .int x1] (GS rM G z)) (QI rM G Z.1 Z.2) 0 0 (Am rM G) := by
  refine g_met [(0, .ref (G.1 122)), (1, .int x1)] (by decide) (Nat.le_of_ble_eq_true rfl) rfl ?_
  intro p e s m below meth cd F hr hlk ls H locs hl hh
  exact w_X7_drop F hr hlk hf hh hl
def f_X7_item (x1 : Int32) (x2 : Int32) (x3 : Int32) (x4 : Int64) (z : Sto) : Option (Int32 × Sto) := bd (f_X7_isSheet x1 z) fun t1 => if t1 = 0 then (some ((-1 : Int32), z)) else (bd (f_X7_in ((Int32.toInt64 x2)) (0 : Int64) (3 : Int64) z) fun t3 => if t3 = 0 then (some ((-1 : Int32), z)) else (bd (f_X7_found x1 x2 x3 (1 : Int32) z) fun t5 => if 0 ≤ t5 then (bd (f_X7_cut x2 x4 z) fun t7 => bd (wrL z 130 96 (((24 : Int32) * x1) + x3) t7) fun z8 => some ((1 : Int32), z8)) else (some (t5, z))))
set_option maxRecDepth 100000 in
set_option maxHeartbeats 4000000 in
theorem w_X7_item {Z : Int32 × Sto} (F : Fx rM p s m args cd cX7_item 7 RX7 G) (hr : meth.sig.returnType = (some .int)) (hlk : meth.locks = false) {x1 : Int32} {x2 : Int32} {x3 : Int32} {x4 : Int64} {z : Sto} {H : Heap} {locs : List Loc} {ls : Array Slot} (hf : f_X7_item x1 x2 x3 x4 z = some Z) (hh : Hh rM G z s H locs) (hl : lv_has ls 7 [(0, .ref (G.1 122)), (1, .int x1), (2, .int x2), (3, .int x3), (4, .long x4)]) : W p l e rmX7_item s m args below meth cd H locs 0 0 (MQ below (QI rM G Z.1 Z.2) args s 0 0 (Am rM G)) (F0 m 0 ls []) := by
  have hx := F.1
  have hb := F.2.1
  unfold f_X7_item at hf
  refine lv_iload_n hx hb dX7_item_0 rfl (lv_at hl 1 rfl) ?_
  obtain ⟨t1, ht1, hf⟩ := ob hf
  refine m_X7_339 F hh (c_X7_isSheet ht1) rfl hl (Nat.le_of_ble_eq_true rfl) dX7_item_1 (fun H locs hh => ?_)
  refine lv_if_eq (tgt := 19) hx hb dX7_item_4 (by decide) (fun c2 => ?_) (fun c2 => ?_)
  · replace hf := itp c2 hf
    refine lv_iconst (v := -1) hx hb dX7_item_19 (by decide) ?_
    exact g_iretW F hr hlk hh hf dX7_item_20
  · replace hf := itn c2 hf
    refine lv_iload_n hx hb dX7_item_7 rfl (lv_at hl 2 rfl) ?_
    refine lv_i2l hx hb dX7_item_8 rfl ?_
    refine lv_lconst (v := 0) hx hb dX7_item_9 (by decide) ?_
    refine lv_ldc2 hx hb F.2.2.2.1 (F.2.2.2.2.1 _ lk1342) dX7_item_10 ?_
    obtain ⟨t3, ht3, hf⟩ := ob hf
    refine m_X7_79 F hh (c_X7_in ht3) rfl hl (Nat.le_of_ble_eq_true rfl) dX7_item_13 (fun H locs hh => ?_)
    refine lv_if_ne (tgt := 21) hx hb dX7_item_16 (by decide) (fun c4 => ?_) (fun c4 => ?_)
    · replace hf := itn c4 hf
      refine lv_aload_n hx hb dX7_item_21 rfl (lv_at hl 0 rfl) ?_
      refine lv_iload_n hx hb dX7_item_22 rfl (lv_at hl 1 rfl) ?_
      refine lv_iload_n hx hb dX7_item_23 rfl (lv_at hl 2 rfl) ?_
      refine lv_iload_n hx hb dX7_item_24 rfl (lv_at hl 3 rfl) ?_
      refine lv_iconst (v := 1) hx hb dX7_item_25 (by decide) ?_
      obtain ⟨t5, ht5, hf⟩ := ob hf
      refine m_X7_342 F hh (c_X7_found ht5) in_122 sh_122 rfl hl (Nat.le_of_ble_eq_true rfl) dX7_item_26 (fun H locs hh => ?_)
      refine lv_istore (lv' := [(6, .int t5), (0, .ref (G.1 122)), (1, .int x1), (2, .int x2), (3, .int x3), (4, .long x4)]) hx hb dX7_item_29 hl (by decide) rfl (fun ls hl => ?_)
      refine lv_iload hx hb dX7_item_31 (lv_at hl 0 rfl) ?_
      refine lv_if_ge (tgt := 39) hx hb dX7_item_33 (by decide) (fun c6 => ?_) (fun c6 => ?_)
      · replace hf := itp c6 hf
        refine lv_aload_n hx hb dX7_item_39 rfl (lv_at hl 1 rfl) ?_
        refine r_X7_35 (b' := 130) F hh in_122 sh_122 rfl dX7_item_40 ?_
        refine lv_bipush (v := 24) hx hb dX7_item_43 (by decide) ?_
        refine lv_iload_n hx hb dX7_item_45 rfl (lv_at hl 2 rfl) ?_
        refine lv_imul hx hb dX7_item_46 ?_
        refine lv_iload_n hx hb dX7_item_47 rfl (lv_at hl 4 rfl) ?_
        refine lv_iadd hx hb dX7_item_48 ?_
        refine lv_iload_n hx hb dX7_item_49 rfl (lv_at hl 3 rfl) ?_
        refine lv_lload hx hb dX7_item_50 (lv_at hl 5 rfl) ?_
        obtain ⟨t7, ht7, hf⟩ := ob hf
        refine m_X7_355 F hh (c_X7_cut ht7) rfl hl (Nat.le_of_ble_eq_true rfl) dX7_item_52 (fun H locs hh => ?_)
        obtain ⟨z8, hz8, hf⟩ := ob hf
        refine g_last F hh in_130 sh_130 hz8 dX7_item_55 (fun H locs hh => ?_)
        refine lv_iconst (v := 1) hx hb dX7_item_56 (by decide) ?_
        exact g_iretW F hr hlk hh hf dX7_item_57
      · replace hf := itn c6 hf
        refine lv_iload hx hb dX7_item_36 (lv_at hl 0 rfl) ?_
        exact g_iretW F hr hlk hh hf dX7_item_38
    · replace hf := itp c4 hf
      refine lv_iconst (v := -1) hx hb dX7_item_19 (by decide) ?_
      exact g_iretW F hr hlk hh hf dX7_item_20
theorem c_X7_item {l : Launch} {G : Gm} {x1 : Int32} {x2 : Int32} {x3 : Int32} {x4 : Int64} {z : Sto} {Z : Int32 × Sto} (hf : f_X7_item x1 x2 x3 x4 z = some Z) : Met l yX7_item (Cond.code yX7_item cX7_item 7 (some .int) :: TT) rmX7_item (va_Pc [.ref (G.1 122), .int x1, .int x2, .int x3, .long x4] (GS rM G z)) (QI rM G Z.1 Z.2) 0 0 (Am rM G) := by
  refine g_met [(0, .ref (G.1 122)), (1, .int x1), (2, .int x2), (3, .int x3), (4, .long x4)] (by decide) (Nat.le_of_ble_eq_true rfl) rfl ?_
  intro p e s m below meth cd F hr hlk ls H locs hl hh
  exact w_X7_item F hr hlk hf hh hl
def b_X7_copy_139  (ag139 : Int32 → Int32 → Int32 → Int32 → Sto → Option (Int32 × Sto)) (x3 : Int32) (x4 : Int32) (x5 : Int32) (x6 : Int32) (z : Sto) : Option (Int32 × Sto) := if x5 ≤ x6 then (some (x5, z)) else (bd (rdL z 131 24 x6) fun t24 => bd (wrL z 130 96 ((((24 : Int32) * x3) + x4) + x6) t24) fun z25 => lt (x6 + (1 : Int32)) fun x6_26 => ag139 x3 x4 x5 x6_26 z25)
def b_X7_copy_102  (ag102 : Int32 → Int32 → Int32 → Int32 → Int32 → Int32 → Sto → Option (Int32 × Sto)) (x1 : Int32) (x2 : Int32) (x3 : Int32) (x4 : Int32) (x5 : Int32) (x6 : Int32) (z : Sto) : Option (Int32 × Sto) := if x5 ≤ x6 then (wl5 (b_X7_copy_139) fu x3 x4 x5 (0 : Int32) z) else (bd (rdL z 130 96 ((((24 : Int32) * x1) + x2) + x6)) fun t20 => bd (wrL z 131 24 x6 t20) fun z21 => lt (x6 + (1 : Int32)) fun x6_22 => ag102 x1 x2 x3 x4 x5 x6_22 z21)
def f_X7_copy (x1 : Int32) (x2 : Int32) (x3 : Int32) (x4 : Int32) (x5 : Int32) (z : Sto) : Option (Int32 × Sto) := bd (f_X7_isSheet x1 z) fun t1 => if t1 = 0 then (some ((-1 : Int32), z)) else (bd (f_X7_isSheet x3 z) fun t3 => if t3 = 0 then (some ((-1 : Int32), z)) else (bd (rdI z 128 4 x1) fun t5 => if t5 < 0 then (some ((-11 : Int32), z)) else (bd (rdI z 128 4 x3) fun t7 => if 0 ≤ t7 then (bd (rdI z 128 4 x1) fun t9 => bd (rdI z 128 4 x3) fun t10 => if t9 = t10 then (if x5 < 0 then (some ((-13 : Int32), z)) else (if x2 < 0 then (some ((-13 : Int32), z)) else (if x4 < 0 then (some ((-13 : Int32), z)) else (bd (rdI z 129 4 x1) fun t15 => if (t15 - x2) < x5 then (some ((-13 : Int32), z)) else (bd (rdI z 129 4 x3) fun t17 => if x5 ≤ (t17 - x4) then (wl7 (b_X7_copy_102) fu x1 x2 x3 x4 x5 (0 : Int32) z) else (some ((-13 : Int32), z))))))) else (some ((-12 : Int32), z))) else (some ((-11 : Int32), z)))))
set_option maxRecDepth 100000 in
set_option maxHeartbeats 4000000 in
theorem w_X7_copy_139  {Z : Int32 × Sto} (F : Fx rM p s m args cd cX7_copy 7 RX7 G) (hr : meth.sig.returnType = (some .int)) (hlk : meth.locks = false)  : ∀ (n : Nat), ∀ (x3 : Int32) (x4 : Int32) (x5 : Int32) (x6 : Int32) (z : Sto), wl5 (b_X7_copy_139) n x3 x4 x5 x6 z = some Z → ∀ {H : Heap} {locs : List Loc} {ls : Array Slot}, Hh rM G z s H locs → lv_has ls 7 [(0, .ref (G.1 122)), (3, .int x3), (4, .int x4), (5, .int x5), (6, .int x6)] → W p l e rmX7_copy s m args below meth cd H locs 0 0 (MQ below (QI rM G Z.1 Z.2) args s 0 0 (Am rM G)) (F0 m 139 ls []) := by
  have hx := F.1
  have hb := F.2.1
  intro n
  induction n with
  | zero =>
    intro x3 x4 x5 x6 z hf
    exact absurd hf (by intro h; cases h)
  | succ n ih =>
    intro x3 x4 x5 x6 z hf  H locs ls hh hl
    replace hf : b_X7_copy_139 (wl5 (b_X7_copy_139) n) x3 x4 x5 x6 z = some Z := hf
    unfold b_X7_copy_139 at hf
    refine lv_iload hx hb dX7_copy_139 (lv_at hl 4 rfl) ?_
    refine lv_iload hx hb dX7_copy_141 (lv_at hl 3 rfl) ?_
    refine lv_icmp_ge (tgt := 174) hx hb dX7_copy_143 (by decide) (fun c23 => ?_) (fun c23 => ?_)
    · replace hf := itp c23 hf
      refine lv_iload hx hb dX7_copy_174 (lv_at hl 3 rfl) ?_
      exact g_iretW F hr hlk hh hf dX7_copy_176
    · replace hf := itn c23 hf
      refine lv_aload_n hx hb dX7_copy_146 rfl (lv_at hl 0 rfl) ?_
      refine r_X7_35 (b' := 130) F hh in_122 sh_122 rfl dX7_copy_147 ?_
      refine lv_bipush (v := 24) hx hb dX7_copy_150 (by decide) ?_
      refine lv_iload_n hx hb dX7_copy_152 rfl (lv_at hl 1 rfl) ?_
      refine lv_imul hx hb dX7_copy_153 ?_
      refine lv_iload hx hb dX7_copy_154 (lv_at hl 2 rfl) ?_
      refine lv_iadd hx hb dX7_copy_156 ?_
      refine lv_iload hx hb dX7_copy_157 (lv_at hl 4 rfl) ?_
      refine lv_iadd hx hb dX7_copy_159 ?_
      refine lv_aload_n hx hb dX7_copy_160 rfl (lv_at hl 0 rfl) ?_
      refine r_X7_39 (b' := 131) F hh in_122 sh_122 rfl dX7_copy_161 ?_
      refine lv_iload hx hb dX7_copy_164 (lv_at hl 4 rfl) ?_
      obtain ⟨t24, ht24, hf⟩ := ob hf
      refine g_lald F hh in_131 sh_131 ht24 dX7_copy_166 ?_
      obtain ⟨z25, hz25, hf⟩ := ob hf
      refine g_last F hh in_130 sh_130 hz25 dX7_copy_167 (fun H locs hh => ?_)
      obtain ⟨x6_26, ex6_26⟩ : ∃ y : Int32, y = x6 + (1 : Int32) := ⟨_, rfl⟩
      replace hf := lt_e ex6_26 hf
      refine lv_iinc (v := x6_26) (lv' := [(6, .int x6_26), (0, .ref (G.1 122)), (3, .int x3), (4, .int x4), (5, .int x5)]) hx hb dX7_copy_168 hl (k := 4) rfl (by rw [ex6_26]; rfl) (by decide) rfl (fun ls hl => ?_)
      refine lv_goto (tgt := 139) hx hb dX7_copy_171 (by decide) ?_
      exact ih _ _ _ _ _ hf  hh (lv_sub hl [1, 2, 3, 4, 0] rfl)
set_option maxRecDepth 100000 in
set_option maxHeartbeats 4000000 in
theorem w_X7_copy_102  {Z : Int32 × Sto} (F : Fx rM p s m args cd cX7_copy 7 RX7 G) (hr : meth.sig.returnType = (some .int)) (hlk : meth.locks = false)  : ∀ (n : Nat), ∀ (x1 : Int32) (x2 : Int32) (x3 : Int32) (x4 : Int32) (x5 : Int32) (x6 : Int32) (z : Sto), wl7 (b_X7_copy_102) n x1 x2 x3 x4 x5 x6 z = some Z → ∀ {H : Heap} {locs : List Loc} {ls : Array Slot}, Hh rM G z s H locs → lv_has ls 7 [(0, .ref (G.1 122)), (1, .int x1), (2, .int x2), (3, .int x3), (4, .int x4), (5, .int x5), (6, .int x6)] → W p l e rmX7_copy s m args below meth cd H locs 0 0 (MQ below (QI rM G Z.1 Z.2) args s 0 0 (Am rM G)) (F0 m 102 ls []) := by
  have hx := F.1
  have hb := F.2.1
  intro n
  induction n with
  | zero =>
    intro x1 x2 x3 x4 x5 x6 z hf
    exact absurd hf (by intro h; cases h)
  | succ n ih =>
    intro x1 x2 x3 x4 x5 x6 z hf  H locs ls hh hl
    replace hf : b_X7_copy_102 (wl7 (b_X7_copy_102) n) x1 x2 x3 x4 x5 x6 z = some Z := hf
    unfold b_X7_copy_102 at hf
    refine lv_iload hx hb dX7_copy_102 (lv_at hl 6 rfl) ?_
    refine lv_iload hx hb dX7_copy_104 (lv_at hl 5 rfl) ?_
    refine lv_icmp_ge (tgt := 136) hx hb dX7_copy_106 (by decide) (fun c19 => ?_) (fun c19 => ?_)
    · replace hf := itp c19 hf
      refine lv_iconst (v := 0) hx hb dX7_copy_136 (by decide) ?_
      refine lv_istore (lv' := [(6, .int (0 : Int32)), (0, .ref (G.1 122)), (1, .int x1), (2, .int x2), (3, .int x3), (4, .int x4), (5, .int x5)]) hx hb dX7_copy_137 hl (by decide) rfl (fun ls hl => ?_)
      exact w_X7_copy_139 F hr hlk fu _ _ _ _ _ hf  hh (lv_sub hl [1, 4, 5, 6, 0] rfl)
    · replace hf := itn c19 hf
      refine lv_aload_n hx hb dX7_copy_109 rfl (lv_at hl 0 rfl) ?_
      refine r_X7_39 (b' := 131) F hh in_122 sh_122 rfl dX7_copy_110 ?_
      refine lv_iload hx hb dX7_copy_113 (lv_at hl 6 rfl) ?_
      refine lv_aload_n hx hb dX7_copy_115 rfl (lv_at hl 0 rfl) ?_
      refine r_X7_35 (b' := 130) F hh in_122 sh_122 rfl dX7_copy_116 ?_
      refine lv_bipush (v := 24) hx hb dX7_copy_119 (by decide) ?_
      refine lv_iload_n hx hb dX7_copy_121 rfl (lv_at hl 1 rfl) ?_
      refine lv_imul hx hb dX7_copy_122 ?_
      refine lv_iload_n hx hb dX7_copy_123 rfl (lv_at hl 2 rfl) ?_
      refine lv_iadd hx hb dX7_copy_124 ?_
      refine lv_iload hx hb dX7_copy_125 (lv_at hl 6 rfl) ?_
      refine lv_iadd hx hb dX7_copy_127 ?_
      obtain ⟨t20, ht20, hf⟩ := ob hf
      refine g_lald F hh in_130 sh_130 ht20 dX7_copy_128 ?_
      obtain ⟨z21, hz21, hf⟩ := ob hf
      refine g_last F hh in_131 sh_131 hz21 dX7_copy_129 (fun H locs hh => ?_)
      obtain ⟨x6_22, ex6_22⟩ : ∃ y : Int32, y = x6 + (1 : Int32) := ⟨_, rfl⟩
      replace hf := lt_e ex6_22 hf
      refine lv_iinc (v := x6_22) (lv' := [(6, .int x6_22), (0, .ref (G.1 122)), (1, .int x1), (2, .int x2), (3, .int x3), (4, .int x4), (5, .int x5)]) hx hb dX7_copy_130 hl (k := 6) rfl (by rw [ex6_22]; rfl) (by decide) rfl (fun ls hl => ?_)
      refine lv_goto (tgt := 102) hx hb dX7_copy_133 (by decide) ?_
      exact ih _ _ _ _ _ _ _ hf  hh (lv_sub hl [1, 2, 3, 4, 5, 6, 0] rfl)
set_option maxRecDepth 100000 in
set_option maxHeartbeats 4000000 in
theorem w_X7_copy {Z : Int32 × Sto} (F : Fx rM p s m args cd cX7_copy 7 RX7 G) (hr : meth.sig.returnType = (some .int)) (hlk : meth.locks = false) {x1 : Int32} {x2 : Int32} {x3 : Int32} {x4 : Int32} {x5 : Int32} {z : Sto} {H : Heap} {locs : List Loc} {ls : Array Slot} (hf : f_X7_copy x1 x2 x3 x4 x5 z = some Z) (hh : Hh rM G z s H locs) (hl : lv_has ls 7 [(0, .ref (G.1 122)), (1, .int x1), (2, .int x2), (3, .int x3), (4, .int x4), (5, .int x5)]) : W p l e rmX7_copy s m args below meth cd H locs 0 0 (MQ below (QI rM G Z.1 Z.2) args s 0 0 (Am rM G)) (F0 m 0 ls []) := by
  have hx := F.1
  have hb := F.2.1
  unfold f_X7_copy at hf
  refine lv_iload_n hx hb dX7_copy_0 rfl (lv_at hl 1 rfl) ?_
  obtain ⟨t1, ht1, hf⟩ := ob hf
  refine m_X7_339 F hh (c_X7_isSheet ht1) rfl hl (Nat.le_of_ble_eq_true rfl) dX7_copy_1 (fun H locs hh => ?_)
  refine lv_if_eq (tgt := 14) hx hb dX7_copy_4 (by decide) (fun c2 => ?_) (fun c2 => ?_)
  · replace hf := itp c2 hf
    refine lv_iconst (v := -1) hx hb dX7_copy_14 (by decide) ?_
    exact g_iretW F hr hlk hh hf dX7_copy_15
  · replace hf := itn c2 hf
    refine lv_iload_n hx hb dX7_copy_7 rfl (lv_at hl 3 rfl) ?_
    obtain ⟨t3, ht3, hf⟩ := ob hf
    refine m_X7_339 F hh (c_X7_isSheet ht3) rfl hl (Nat.le_of_ble_eq_true rfl) dX7_copy_8 (fun H locs hh => ?_)
    refine lv_if_ne (tgt := 16) hx hb dX7_copy_11 (by decide) (fun c4 => ?_) (fun c4 => ?_)
    · replace hf := itn c4 hf
      refine lv_aload_n hx hb dX7_copy_16 rfl (lv_at hl 0 rfl) ?_
      refine r_X7_29 (b' := 128) F hh in_122 sh_122 rfl dX7_copy_17 ?_
      refine lv_iload_n hx hb dX7_copy_20 rfl (lv_at hl 1 rfl) ?_
      obtain ⟨t5, ht5, hf⟩ := ob hf
      refine g_iald F hh in_128 sh_128 ht5 dX7_copy_21 ?_
      refine lv_if_lt (tgt := 34) hx hb dX7_copy_22 (by decide) (fun c6 => ?_) (fun c6 => ?_)
      · replace hf := itp c6 hf
        refine lv_bipush (v := -11) hx hb dX7_copy_34 (by decide) ?_
        exact g_iretW F hr hlk hh hf dX7_copy_36
      · replace hf := itn c6 hf
        refine lv_aload_n hx hb dX7_copy_25 rfl (lv_at hl 0 rfl) ?_
        refine r_X7_29 (b' := 128) F hh in_122 sh_122 rfl dX7_copy_26 ?_
        refine lv_iload_n hx hb dX7_copy_29 rfl (lv_at hl 3 rfl) ?_
        obtain ⟨t7, ht7, hf⟩ := ob hf
        refine g_iald F hh in_128 sh_128 ht7 dX7_copy_30 ?_
        refine lv_if_ge (tgt := 37) hx hb dX7_copy_31 (by decide) (fun c8 => ?_) (fun c8 => ?_)
        · replace hf := itp c8 hf
          refine lv_aload_n hx hb dX7_copy_37 rfl (lv_at hl 0 rfl) ?_
          refine r_X7_29 (b' := 128) F hh in_122 sh_122 rfl dX7_copy_38 ?_
          refine lv_iload_n hx hb dX7_copy_41 rfl (lv_at hl 1 rfl) ?_
          obtain ⟨t9, ht9, hf⟩ := ob hf
          refine g_iald F hh in_128 sh_128 ht9 dX7_copy_42 ?_
          refine lv_aload_n hx hb dX7_copy_43 rfl (lv_at hl 0 rfl) ?_
          refine r_X7_29 (b' := 128) F hh in_122 sh_122 rfl dX7_copy_44 ?_
          refine lv_iload_n hx hb dX7_copy_47 rfl (lv_at hl 3 rfl) ?_
          obtain ⟨t10, ht10, hf⟩ := ob hf
          refine g_iald F hh in_128 sh_128 ht10 dX7_copy_48 ?_
          refine lv_icmp_eq (tgt := 55) hx hb dX7_copy_49 (by decide) (fun c11 => ?_) (fun c11 => ?_)
          · replace hf := itp c11 hf
            refine lv_iload hx hb dX7_copy_55 (lv_at hl 5 rfl) ?_
            refine lv_if_lt (tgt := 96) hx hb dX7_copy_57 (by decide) (fun c12 => ?_) (fun c12 => ?_)
            · replace hf := itp c12 hf
              refine lv_bipush (v := -13) hx hb dX7_copy_96 (by decide) ?_
              exact g_iretW F hr hlk hh hf dX7_copy_98
            · replace hf := itn c12 hf
              refine lv_iload_n hx hb dX7_copy_60 rfl (lv_at hl 2 rfl) ?_
              refine lv_if_lt (tgt := 96) hx hb dX7_copy_61 (by decide) (fun c13 => ?_) (fun c13 => ?_)
              · replace hf := itp c13 hf
                refine lv_bipush (v := -13) hx hb dX7_copy_96 (by decide) ?_
                exact g_iretW F hr hlk hh hf dX7_copy_98
              · replace hf := itn c13 hf
                refine lv_iload hx hb dX7_copy_64 (lv_at hl 4 rfl) ?_
                refine lv_if_lt (tgt := 96) hx hb dX7_copy_66 (by decide) (fun c14 => ?_) (fun c14 => ?_)
                · replace hf := itp c14 hf
                  refine lv_bipush (v := -13) hx hb dX7_copy_96 (by decide) ?_
                  exact g_iretW F hr hlk hh hf dX7_copy_98
                · replace hf := itn c14 hf
                  refine lv_iload hx hb dX7_copy_69 (lv_at hl 5 rfl) ?_
                  refine lv_aload_n hx hb dX7_copy_71 rfl (lv_at hl 0 rfl) ?_
                  refine r_X7_32 (b' := 129) F hh in_122 sh_122 rfl dX7_copy_72 ?_
                  refine lv_iload_n hx hb dX7_copy_75 rfl (lv_at hl 1 rfl) ?_
                  obtain ⟨t15, ht15, hf⟩ := ob hf
                  refine g_iald F hh in_129 sh_129 ht15 dX7_copy_76 ?_
                  refine lv_iload_n hx hb dX7_copy_77 rfl (lv_at hl 2 rfl) ?_
                  refine lv_isub hx hb dX7_copy_78 ?_
                  refine lv_icmp_gt (tgt := 96) hx hb dX7_copy_79 (by decide) (fun c16 => ?_) (fun c16 => ?_)
                  · replace hf := itp c16 hf
                    refine lv_bipush (v := -13) hx hb dX7_copy_96 (by decide) ?_
                    exact g_iretW F hr hlk hh hf dX7_copy_98
                  · replace hf := itn c16 hf
                    refine lv_iload hx hb dX7_copy_82 (lv_at hl 5 rfl) ?_
                    refine lv_aload_n hx hb dX7_copy_84 rfl (lv_at hl 0 rfl) ?_
                    refine r_X7_32 (b' := 129) F hh in_122 sh_122 rfl dX7_copy_85 ?_
                    refine lv_iload_n hx hb dX7_copy_88 rfl (lv_at hl 3 rfl) ?_
                    obtain ⟨t17, ht17, hf⟩ := ob hf
                    refine g_iald F hh in_129 sh_129 ht17 dX7_copy_89 ?_
                    refine lv_iload hx hb dX7_copy_90 (lv_at hl 4 rfl) ?_
                    refine lv_isub hx hb dX7_copy_92 ?_
                    refine lv_icmp_le (tgt := 99) hx hb dX7_copy_93 (by decide) (fun c18 => ?_) (fun c18 => ?_)
                    · replace hf := itp c18 hf
                      refine lv_iconst (v := 0) hx hb dX7_copy_99 (by decide) ?_
                      refine lv_istore (lv' := [(6, .int (0 : Int32)), (0, .ref (G.1 122)), (1, .int x1), (2, .int x2), (3, .int x3), (4, .int x4), (5, .int x5)]) hx hb dX7_copy_100 hl (by decide) rfl (fun ls hl => ?_)
                      exact w_X7_copy_102 F hr hlk fu _ _ _ _ _ _ _ hf  hh (lv_sub hl [1, 2, 3, 4, 5, 6, 0] rfl)
                    · replace hf := itn c18 hf
                      refine lv_bipush (v := -13) hx hb dX7_copy_96 (by decide) ?_
                      exact g_iretW F hr hlk hh hf dX7_copy_98
          · replace hf := itn c11 hf
            refine lv_bipush (v := -12) hx hb dX7_copy_52 (by decide) ?_
            exact g_iretW F hr hlk hh hf dX7_copy_54
        · replace hf := itn c8 hf
          refine lv_bipush (v := -11) hx hb dX7_copy_34 (by decide) ?_
          exact g_iretW F hr hlk hh hf dX7_copy_36
    · replace hf := itp c4 hf
      refine lv_iconst (v := -1) hx hb dX7_copy_14 (by decide) ?_
      exact g_iretW F hr hlk hh hf dX7_copy_15
theorem c_X7_copy {l : Launch} {G : Gm} {x1 : Int32} {x2 : Int32} {x3 : Int32} {x4 : Int32} {x5 : Int32} {z : Sto} {Z : Int32 × Sto} (hf : f_X7_copy x1 x2 x3 x4 x5 z = some Z) : Met l yX7_copy (Cond.code yX7_copy cX7_copy 7 (some .int) :: TT) rmX7_copy (va_Pc [.ref (G.1 122), .int x1, .int x2, .int x3, .int x4, .int x5] (GS rM G z)) (QI rM G Z.1 Z.2) 0 0 (Am rM G) := by
  refine g_met [(0, .ref (G.1 122)), (1, .int x1), (2, .int x2), (3, .int x3), (4, .int x4), (5, .int x5)] (by decide) (Nat.le_of_ble_eq_true rfl) rfl ?_
  intro p e s m below meth cd F hr hlk ls H locs hl hh
  exact w_X7_copy F hr hlk hf hh hl
