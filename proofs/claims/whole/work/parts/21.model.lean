variable {p : Program} {l : Launch} {e : Env} {s : State} {m : MethodId} {args : Array Value} {below : List Frame} {meth : Method} {cd : Code} {G : Gm}

def f_X7_weighs (x1 : Int32) (x2 : Int32) (z : Sto) : Option (Int32 × Sto) := bd (f_X7_in ((Int32.toInt64 x1)) (0 : Int64) (8 : Int64) z) fun t1 => if t1 = 0 then (some ((-1 : Int32), z)) else (bd (f_X7_in ((Int32.toInt64 x2)) (-9 : Int64) (9 : Int64) z) fun t3 => if t3 = 0 then (some ((-1 : Int32), z)) else (bd (rdI z 123 42 ((33 : Int32) + x1)) fun t5 => if t5 = x2 then (some ((-2 : Int32), z)) else (bd (wrI z 123 42 ((33 : Int32) + x1) x2) fun z7 => some ((t5 + (9 : Int32)), z7))))
set_option maxRecDepth 100000 in
set_option maxHeartbeats 4000000 in
theorem w_X7_weighs {Z : Int32 × Sto} (F : Fx rM p s m args cd cX7_weighs 4 RX7 G) (hr : meth.sig.returnType = (some .int)) (hlk : meth.locks = false) {x1 : Int32} {x2 : Int32} {z : Sto} {H : Heap} {locs : List Loc} {ls : Array Slot} (hf : f_X7_weighs x1 x2 z = some Z) (hh : Hh rM G z s H locs) (hl : lv_has ls 4 [(0, .ref (G.1 122)), (1, .int x1), (2, .int x2)]) : W p l e rmX7_weighs s m args below meth cd H locs 0 0 (MQ below (QI rM G Z.1 Z.2) args s 0 0 (Am rM G)) (F0 m 0 ls []) := by
  have hx := F.1
  have hb := F.2.1
  unfold f_X7_weighs at hf
  refine lv_iload_n hx hb dX7_weighs_0 rfl (lv_at hl 1 rfl) ?_
  refine lv_i2l hx hb dX7_weighs_1 rfl ?_
  refine lv_lconst (v := 0) hx hb dX7_weighs_2 (by decide) ?_
  refine lv_ldc2 hx hb F.2.2.2.1 (F.2.2.2.2.1 _ lk1072) dX7_weighs_3 ?_
  obtain ⟨t1, ht1, hf⟩ := ob hf
  refine m_X7_79 F hh (c_X7_in ht1) rfl hl (Nat.le_of_ble_eq_true rfl) dX7_weighs_6 (fun H locs hh => ?_)
  refine lv_if_eq (tgt := 26) hx hb dX7_weighs_9 (by decide) (fun c2 => ?_) (fun c2 => ?_)
  · replace hf := itp c2 hf
    refine lv_iconst (v := -1) hx hb dX7_weighs_26 (by decide) ?_
    exact g_iretW F hr hlk hh hf dX7_weighs_27
  · replace hf := itn c2 hf
    refine lv_iload_n hx hb dX7_weighs_12 rfl (lv_at hl 2 rfl) ?_
    refine lv_i2l hx hb dX7_weighs_13 rfl ?_
    refine lv_ldc2 hx hb F.2.2.2.1 (F.2.2.2.2.1 _ lk1073) dX7_weighs_14 ?_
    refine lv_ldc2 hx hb F.2.2.2.1 (F.2.2.2.2.1 _ lk1074) dX7_weighs_17 ?_
    obtain ⟨t3, ht3, hf⟩ := ob hf
    refine m_X7_79 F hh (c_X7_in ht3) rfl hl (Nat.le_of_ble_eq_true rfl) dX7_weighs_20 (fun H locs hh => ?_)
    refine lv_if_ne (tgt := 28) hx hb dX7_weighs_23 (by decide) (fun c4 => ?_) (fun c4 => ?_)
    · replace hf := itn c4 hf
      refine lv_aload_n hx hb dX7_weighs_28 rfl (lv_at hl 0 rfl) ?_
      refine r_X7_7 (b' := 123) F hh in_122 sh_122 rfl dX7_weighs_29 ?_
      refine lv_bipush (v := 33) hx hb dX7_weighs_32 (by decide) ?_
      refine lv_iload_n hx hb dX7_weighs_34 rfl (lv_at hl 1 rfl) ?_
      refine lv_iadd hx hb dX7_weighs_35 ?_
      obtain ⟨t5, ht5, hf⟩ := ob hf
      refine g_iald F hh in_123 sh_123 ht5 dX7_weighs_36 ?_
      refine lv_istore_n (lv' := [(3, .int t5), (0, .ref (G.1 122)), (1, .int x1), (2, .int x2)]) hx hb dX7_weighs_37 rfl hl (by decide) rfl (fun ls hl => ?_)
      refine lv_iload_n hx hb dX7_weighs_38 rfl (lv_at hl 0 rfl) ?_
      refine lv_iload_n hx hb dX7_weighs_39 rfl (lv_at hl 3 rfl) ?_
      refine lv_icmp_ne (tgt := 46) hx hb dX7_weighs_40 (by decide) (fun c6 => ?_) (fun c6 => ?_)
      · replace hf := itn c6 hf
        refine lv_aload_n hx hb dX7_weighs_46 rfl (lv_at hl 1 rfl) ?_
        refine r_X7_7 (b' := 123) F hh in_122 sh_122 rfl dX7_weighs_47 ?_
        refine lv_bipush (v := 33) hx hb dX7_weighs_50 (by decide) ?_
        refine lv_iload_n hx hb dX7_weighs_52 rfl (lv_at hl 2 rfl) ?_
        refine lv_iadd hx hb dX7_weighs_53 ?_
        refine lv_iload_n hx hb dX7_weighs_54 rfl (lv_at hl 3 rfl) ?_
        obtain ⟨z7, hz7, hf⟩ := ob hf
        refine g_iast F hh in_123 sh_123 hz7 dX7_weighs_55 (fun H locs hh => ?_)
        refine lv_iload_n hx hb dX7_weighs_56 rfl (lv_at hl 0 rfl) ?_
        refine lv_bipush (v := 9) hx hb dX7_weighs_57 (by decide) ?_
        refine lv_iadd hx hb dX7_weighs_59 ?_
        exact g_iretW F hr hlk hh hf dX7_weighs_60
      · replace hf := itp c6 hf
        refine lv_bipush (v := -2) hx hb dX7_weighs_43 (by decide) ?_
        exact g_iretW F hr hlk hh hf dX7_weighs_45
    · replace hf := itp c4 hf
      refine lv_iconst (v := -1) hx hb dX7_weighs_26 (by decide) ?_
      exact g_iretW F hr hlk hh hf dX7_weighs_27
theorem c_X7_weighs {l : Launch} {G : Gm} {x1 : Int32} {x2 : Int32} {z : Sto} {Z : Int32 × Sto} (hf : f_X7_weighs x1 x2 z = some Z) : Met l yX7_weighs (Cond.code yX7_weighs cX7_weighs 4 (some .int) :: TT) rmX7_weighs (va_Pc [.ref (G.1 122), .int x1, .int x2] (GS rM G z)) (QI rM G Z.1 Z.2) 0 0 (Am rM G) := by
  refine g_met [(0, .ref (G.1 122)), (1, .int x1), (2, .int x2)] (by decide) (Nat.le_of_ble_eq_true rfl) rfl ?_
  intro p e s m below meth cd F hr hlk ls H locs hl hh
  exact w_X7_weighs F hr hlk hf hh hl
def f_X7_does (x1 : Int32) (x2 : Int32) (x3 : Int32) (x4 : Int32) (z : Sto) : Option (Int32 × Sto) := if x1 = 0 then (bd2 (f_X7_joins x2 x3 z) fun t2 z3 => some (t2, z3)) else (if x1 = 1 then (bd2 (f_X7_adds x2 x3 z) fun t5 z6 => some (t5, z6)) else (if x1 = 2 then (bd2 (f_X7_moves x2 x3 x4 z) fun t8 z9 => some (t8, z9)) else (if x1 = 3 then (bd2 (f_X7_takesOut x2 z) fun t11 z12 => some (t11, z12)) else (if x1 = 4 then (bd2 (f_X7_weighs x2 x3 z) fun t14 z15 => some (t14, z15)) else (bd2 (f_X7_loses x2 z) fun t16 z17 => some (t16, z17))))))
set_option maxRecDepth 100000 in
set_option maxHeartbeats 4000000 in
theorem w_X7_does {Z : Int32 × Sto} (F : Fx rM p s m args cd cX7_does 5 RX7 G) (hr : meth.sig.returnType = (some .int)) (hlk : meth.locks = false) {x1 : Int32} {x2 : Int32} {x3 : Int32} {x4 : Int32} {z : Sto} {H : Heap} {locs : List Loc} {ls : Array Slot} (hf : f_X7_does x1 x2 x3 x4 z = some Z) (hh : Hh rM G z s H locs) (hl : lv_has ls 5 [(0, .ref (G.1 122)), (1, .int x1), (2, .int x2), (3, .int x3), (4, .int x4)]) : W p l e rmX7_does s m args below meth cd H locs 0 0 (MQ below (QI rM G Z.1 Z.2) args s 0 0 (Am rM G)) (F0 m 0 ls []) := by
  have hx := F.1
  have hb := F.2.1
  unfold f_X7_does at hf
  refine lv_iload_n hx hb dX7_does_0 rfl (lv_at hl 1 rfl) ?_
  by_cases c1 : x1 = 0
  · replace hf := itp c1 hf
    refine lv_tableIn (tgt := 36) (off := 35) hx hb dX7_does_1 (by rw [c1]; decide) (by rw [c1]; decide) (by rw [c1]; rfl) (by decide) ?_
    refine lv_aload_n hx hb dX7_does_36 rfl (lv_at hl 0 rfl) ?_
    refine lv_iload_n hx hb dX7_does_37 rfl (lv_at hl 2 rfl) ?_
    refine lv_iload_n hx hb dX7_does_38 rfl (lv_at hl 3 rfl) ?_
    obtain ⟨t2, z3, ht2, hf⟩ := ob2 hf
    refine m_X7_161 (r := t2) (σ' := z3) F hh (c_X7_joins ht2) in_122 sh_122 rfl hl (Nat.le_of_ble_eq_true rfl) dX7_does_39 (fun H locs hh => ?_)
    exact g_iretW F hr hlk hh hf dX7_does_42
  replace hf := itn c1 hf
  by_cases c4 : x1 = 1
  · replace hf := itp c4 hf
    refine lv_tableIn (tgt := 43) (off := 42) hx hb dX7_does_1 (by rw [c4]; decide) (by rw [c4]; decide) (by rw [c4]; rfl) (by decide) ?_
    refine lv_aload_n hx hb dX7_does_43 rfl (lv_at hl 0 rfl) ?_
    refine lv_iload_n hx hb dX7_does_44 rfl (lv_at hl 2 rfl) ?_
    refine lv_iload_n hx hb dX7_does_45 rfl (lv_at hl 3 rfl) ?_
    obtain ⟨t5, z6, ht5, hf⟩ := ob2 hf
    refine m_X7_164 (r := t5) (σ' := z6) F hh (c_X7_adds ht5) in_122 sh_122 rfl hl (Nat.le_of_ble_eq_true rfl) dX7_does_46 (fun H locs hh => ?_)
    exact g_iretW F hr hlk hh hf dX7_does_49
  replace hf := itn c4 hf
  by_cases c7 : x1 = 2
  · replace hf := itp c7 hf
    refine lv_tableIn (tgt := 50) (off := 49) hx hb dX7_does_1 (by rw [c7]; decide) (by rw [c7]; decide) (by rw [c7]; rfl) (by decide) ?_
    refine lv_aload_n hx hb dX7_does_50 rfl (lv_at hl 0 rfl) ?_
    refine lv_iload_n hx hb dX7_does_51 rfl (lv_at hl 2 rfl) ?_
    refine lv_iload_n hx hb dX7_does_52 rfl (lv_at hl 3 rfl) ?_
    refine lv_iload hx hb dX7_does_53 (lv_at hl 4 rfl) ?_
    obtain ⟨t8, z9, ht8, hf⟩ := ob2 hf
    refine m_X7_167 (r := t8) (σ' := z9) F hh (c_X7_moves ht8) in_122 sh_122 rfl hl (Nat.le_of_ble_eq_true rfl) dX7_does_55 (fun H locs hh => ?_)
    exact g_iretW F hr hlk hh hf dX7_does_58
  replace hf := itn c7 hf
  by_cases c10 : x1 = 3
  · replace hf := itp c10 hf
    refine lv_tableIn (tgt := 59) (off := 58) hx hb dX7_does_1 (by rw [c10]; decide) (by rw [c10]; decide) (by rw [c10]; rfl) (by decide) ?_
    refine lv_aload_n hx hb dX7_does_59 rfl (lv_at hl 0 rfl) ?_
    refine lv_iload_n hx hb dX7_does_60 rfl (lv_at hl 2 rfl) ?_
    obtain ⟨t11, z12, ht11, hf⟩ := ob2 hf
    refine m_X7_170 (r := t11) (σ' := z12) F hh (c_X7_takesOut ht11) in_122 sh_122 rfl hl (Nat.le_of_ble_eq_true rfl) dX7_does_61 (fun H locs hh => ?_)
    exact g_iretW F hr hlk hh hf dX7_does_64
  replace hf := itn c10 hf
  by_cases c13 : x1 = 4
  · replace hf := itp c13 hf
    refine lv_tableIn (tgt := 65) (off := 64) hx hb dX7_does_1 (by rw [c13]; decide) (by rw [c13]; decide) (by rw [c13]; rfl) (by decide) ?_
    refine lv_aload_n hx hb dX7_does_65 rfl (lv_at hl 0 rfl) ?_
    refine lv_iload_n hx hb dX7_does_66 rfl (lv_at hl 2 rfl) ?_
    refine lv_iload_n hx hb dX7_does_67 rfl (lv_at hl 3 rfl) ?_
    obtain ⟨t14, z15, ht14, hf⟩ := ob2 hf
    refine m_X7_173 (r := t14) (σ' := z15) F hh (c_X7_weighs ht14) in_122 sh_122 rfl hl (Nat.le_of_ble_eq_true rfl) dX7_does_68 (fun H locs hh => ?_)
    exact g_iretW F hr hlk hh hf dX7_does_71
  replace hf := itn c13 hf
  refine lv_tableOut (tgt := 72) hx hb dX7_does_1 (tb_out5 c1 c4 c7 c10 c13) (by decide) ?_
  refine lv_aload_n hx hb dX7_does_72 rfl (lv_at hl 0 rfl) ?_
  refine lv_iload_n hx hb dX7_does_73 rfl (lv_at hl 2 rfl) ?_
  obtain ⟨t16, z17, ht16, hf⟩ := ob2 hf
  refine m_X7_176 (r := t16) (σ' := z17) F hh (c_X7_loses ht16) in_122 sh_122 rfl hl (Nat.le_of_ble_eq_true rfl) dX7_does_74 (fun H locs hh => ?_)
  exact g_iretW F hr hlk hh hf dX7_does_77
theorem c_X7_does {l : Launch} {G : Gm} {x1 : Int32} {x2 : Int32} {x3 : Int32} {x4 : Int32} {z : Sto} {Z : Int32 × Sto} (hf : f_X7_does x1 x2 x3 x4 z = some Z) : Met l yX7_does (Cond.code yX7_does cX7_does 5 (some .int) :: TT) rmX7_does (va_Pc [.ref (G.1 122), .int x1, .int x2, .int x3, .int x4] (GS rM G z)) (QI rM G Z.1 Z.2) 0 0 (Am rM G) := by
  refine g_met [(0, .ref (G.1 122)), (1, .int x1), (2, .int x2), (3, .int x3), (4, .int x4)] (by decide) (Nat.le_of_ble_eq_true rfl) rfl ?_
  intro p e s m below meth cd F hr hlk ls H locs hl hh
  exact w_X7_does F hr hlk hf hh hl
def b_X7_acted_49  (ag49 : Int32 → Int32 → Sto → Option (Int32 × Sto)) (x5 : Int32) (x6 : Int32) (z : Sto) : Option (Int32 × Sto) := if (42 : Int32) ≤ x6 then (bd (f_X7_notes z) fun z10 => bd (f_X7_takesBack z10) fun z12 => some (x5, z12)) else (bd (rdI z 123 42 x6) fun t13 => bd (wrI z 132 42 x6 t13) fun z14 => bd (rdI z14 133 42 x6) fun t15 => bd (wrI z14 123 42 x6 t15) fun z16 => lt (x6 + (1 : Int32)) fun x6_17 => ag49 x5 x6_17 z16)
def b_X7_acted_3  (ag3 : Int32 → Int32 → Int32 → Int32 → Int32 → Sto → Option (Int32 × Sto)) (x1 : Int32) (x2 : Int32) (x3 : Int32) (x4 : Int32) (x5 : Int32) (z : Sto) : Option (Int32 × Sto) := if (42 : Int32) ≤ x5 then (bd2 (f_X7_does x1 x2 x3 x4 z) fun t2 z3 => if t2 < 0 then (some (t2, z3)) else (wl3 (b_X7_acted_49) fu t2 (0 : Int32) z3)) else (bd (rdI z 123 42 x5) fun t5 => bd (wrI z 133 42 x5 t5) fun z6 => lt (x5 + (1 : Int32)) fun x5_7 => ag3 x1 x2 x3 x4 x5_7 z6)
def f_X7_acted (x1 : Int32) (x2 : Int32) (x3 : Int32) (x4 : Int32) (z : Sto) : Option (Int32 × Sto) := wl6 (b_X7_acted_3) fu x1 x2 x3 x4 (0 : Int32) z
set_option maxRecDepth 100000 in
set_option maxHeartbeats 4000000 in
theorem w_X7_acted_49  {Z : Int32 × Sto} (F : Fx rM p s m args cd cX7_acted 7 RX7 G) (hr : meth.sig.returnType = (some .int)) (hlk : meth.locks = false)  : ∀ (n : Nat), ∀ (x5 : Int32) (x6 : Int32) (z : Sto), wl3 (b_X7_acted_49) n x5 x6 z = some Z → ∀ {H : Heap} {locs : List Loc} {ls : Array Slot}, Hh rM G z s H locs → lv_has ls 7 [(0, .ref (G.1 122)), (5, .int x5), (6, .int x6)] → W p l e rmX7_acted s m args below meth cd H locs 0 0 (MQ below (QI rM G Z.1 Z.2) args s 0 0 (Am rM G)) (F0 m 49 ls []) := by
  have hx := F.1
  have hb := F.2.1
  intro n
  induction n with
  | zero =>
    intro x5 x6 z hf
    exact absurd hf (by intro h; cases h)
  | succ n ih =>
    intro x5 x6 z hf  H locs ls hh hl
    replace hf : b_X7_acted_49 (wl3 (b_X7_acted_49) n) x5 x6 z = some Z := hf
    unfold b_X7_acted_49 at hf
    refine lv_iload hx hb dX7_acted_49 (lv_at hl 2 rfl) ?_
    refine lv_bipush (v := 42) hx hb dX7_acted_51 (by decide) ?_
    refine lv_icmp_ge (tgt := 90) hx hb dX7_acted_53 (by decide) (fun c8 => ?_) (fun c8 => ?_)
    · replace hf := itp c8 hf
      refine lv_aload_n hx hb dX7_acted_90 rfl (lv_at hl 0 rfl) ?_
      obtain ⟨z10, ht9, hf⟩ := ob hf
      refine m_X7_183 F hh (c_X7_notes ht9) in_122 sh_122 rfl hl (Nat.le_of_ble_eq_true rfl) dX7_acted_91 (fun H locs hh => ?_)
      refine lv_aload_n hx hb dX7_acted_94 rfl (lv_at hl 0 rfl) ?_
      obtain ⟨z12, ht11, hf⟩ := ob hf
      refine m_X7_139 F hh (c_X7_takesBack ht11) in_122 sh_122 rfl hl (Nat.le_of_ble_eq_true rfl) dX7_acted_95 (fun H locs hh => ?_)
      refine lv_iload hx hb dX7_acted_98 (lv_at hl 1 rfl) ?_
      exact g_iretW F hr hlk hh hf dX7_acted_100
    · replace hf := itn c8 hf
      refine lv_aload_n hx hb dX7_acted_56 rfl (lv_at hl 0 rfl) ?_
      refine r_X7_42 (b' := 132) F hh in_122 sh_122 rfl dX7_acted_57 ?_
      refine lv_iload hx hb dX7_acted_60 (lv_at hl 2 rfl) ?_
      refine lv_aload_n hx hb dX7_acted_62 rfl (lv_at hl 0 rfl) ?_
      refine r_X7_7 (b' := 123) F hh in_122 sh_122 rfl dX7_acted_63 ?_
      refine lv_iload hx hb dX7_acted_66 (lv_at hl 2 rfl) ?_
      obtain ⟨t13, ht13, hf⟩ := ob hf
      refine g_iald F hh in_123 sh_123 ht13 dX7_acted_68 ?_
      obtain ⟨z14, hz14, hf⟩ := ob hf
      refine g_iast F hh in_132 sh_132 hz14 dX7_acted_69 (fun H locs hh => ?_)
      refine lv_aload_n hx hb dX7_acted_70 rfl (lv_at hl 0 rfl) ?_
      refine r_X7_7 (b' := 123) F hh in_122 sh_122 rfl dX7_acted_71 ?_
      refine lv_iload hx hb dX7_acted_74 (lv_at hl 2 rfl) ?_
      refine lv_aload_n hx hb dX7_acted_76 rfl (lv_at hl 0 rfl) ?_
      refine r_X7_45 (b' := 133) F hh in_122 sh_122 rfl dX7_acted_77 ?_
      refine lv_iload hx hb dX7_acted_80 (lv_at hl 2 rfl) ?_
      obtain ⟨t15, ht15, hf⟩ := ob hf
      refine g_iald F hh in_133 sh_133 ht15 dX7_acted_82 ?_
      obtain ⟨z16, hz16, hf⟩ := ob hf
      refine g_iast F hh in_123 sh_123 hz16 dX7_acted_83 (fun H locs hh => ?_)
      obtain ⟨x6_17, ex6_17⟩ : ∃ y : Int32, y = x6 + (1 : Int32) := ⟨_, rfl⟩
      replace hf := lt_e ex6_17 hf
      refine lv_iinc (v := x6_17) (lv' := [(6, .int x6_17), (0, .ref (G.1 122)), (5, .int x5)]) hx hb dX7_acted_84 hl (k := 2) rfl (by rw [ex6_17]; rfl) (by decide) rfl (fun ls hl => ?_)
      refine lv_goto (tgt := 49) hx hb dX7_acted_87 (by decide) ?_
      exact ih _ _ _ hf  hh (lv_sub hl [1, 2, 0] rfl)
set_option maxRecDepth 100000 in
set_option maxHeartbeats 4000000 in
theorem w_X7_acted_3  {Z : Int32 × Sto} (F : Fx rM p s m args cd cX7_acted 7 RX7 G) (hr : meth.sig.returnType = (some .int)) (hlk : meth.locks = false)  : ∀ (n : Nat), ∀ (x1 : Int32) (x2 : Int32) (x3 : Int32) (x4 : Int32) (x5 : Int32) (z : Sto), wl6 (b_X7_acted_3) n x1 x2 x3 x4 x5 z = some Z → ∀ {H : Heap} {locs : List Loc} {ls : Array Slot}, Hh rM G z s H locs → lv_has ls 7 [(0, .ref (G.1 122)), (1, .int x1), (2, .int x2), (3, .int x3), (4, .int x4), (5, .int x5)] → W p l e rmX7_acted s m args below meth cd H locs 0 0 (MQ below (QI rM G Z.1 Z.2) args s 0 0 (Am rM G)) (F0 m 3 ls []) := by
  have hx := F.1
  have hb := F.2.1
  intro n
  induction n with
  | zero =>
    intro x1 x2 x3 x4 x5 z hf
    exact absurd hf (by intro h; cases h)
  | succ n ih =>
    intro x1 x2 x3 x4 x5 z hf  H locs ls hh hl
    replace hf : b_X7_acted_3 (wl6 (b_X7_acted_3) n) x1 x2 x3 x4 x5 z = some Z := hf
    unfold b_X7_acted_3 at hf
    refine lv_iload hx hb dX7_acted_3 (lv_at hl 5 rfl) ?_
    refine lv_bipush (v := 42) hx hb dX7_acted_5 (by decide) ?_
    refine lv_icmp_ge (tgt := 30) hx hb dX7_acted_7 (by decide) (fun c1 => ?_) (fun c1 => ?_)
    · replace hf := itp c1 hf
      refine lv_aload_n hx hb dX7_acted_30 rfl (lv_at hl 0 rfl) ?_
      refine lv_iload_n hx hb dX7_acted_31 rfl (lv_at hl 1 rfl) ?_
      refine lv_iload_n hx hb dX7_acted_32 rfl (lv_at hl 2 rfl) ?_
      refine lv_iload_n hx hb dX7_acted_33 rfl (lv_at hl 3 rfl) ?_
      refine lv_iload hx hb dX7_acted_34 (lv_at hl 4 rfl) ?_
      obtain ⟨t2, z3, ht2, hf⟩ := ob2 hf
      refine m_X7_179 (r := t2) (σ' := z3) F hh (c_X7_does ht2) in_122 sh_122 rfl hl (Nat.le_of_ble_eq_true rfl) dX7_acted_36 (fun H locs hh => ?_)
      refine lv_istore (lv' := [(5, .int t2), (0, .ref (G.1 122)), (1, .int x1), (2, .int x2), (3, .int x3), (4, .int x4)]) hx hb dX7_acted_39 hl (by decide) rfl (fun ls hl => ?_)
      refine lv_iload hx hb dX7_acted_41 (lv_at hl 0 rfl) ?_
      refine lv_if_lt (tgt := 98) hx hb dX7_acted_43 (by decide) (fun c4 => ?_) (fun c4 => ?_)
      · replace hf := itp c4 hf
        refine lv_iload hx hb dX7_acted_98 (lv_at hl 0 rfl) ?_
        exact g_iretW F hr hlk hh hf dX7_acted_100
      · replace hf := itn c4 hf
        refine lv_iconst (v := 0) hx hb dX7_acted_46 (by decide) ?_
        refine lv_istore (lv' := [(6, .int (0 : Int32)), (5, .int t2), (0, .ref (G.1 122)), (1, .int x1), (2, .int x2), (3, .int x3), (4, .int x4)]) hx hb dX7_acted_47 hl (by decide) rfl (fun ls hl => ?_)
        exact w_X7_acted_49 F hr hlk fu _ _ _ hf  hh (lv_sub hl [2, 1, 0] rfl)
    · replace hf := itn c1 hf
      refine lv_aload_n hx hb dX7_acted_10 rfl (lv_at hl 0 rfl) ?_
      refine r_X7_45 (b' := 133) F hh in_122 sh_122 rfl dX7_acted_11 ?_
      refine lv_iload hx hb dX7_acted_14 (lv_at hl 5 rfl) ?_
      refine lv_aload_n hx hb dX7_acted_16 rfl (lv_at hl 0 rfl) ?_
      refine r_X7_7 (b' := 123) F hh in_122 sh_122 rfl dX7_acted_17 ?_
      refine lv_iload hx hb dX7_acted_20 (lv_at hl 5 rfl) ?_
      obtain ⟨t5, ht5, hf⟩ := ob hf
      refine g_iald F hh in_123 sh_123 ht5 dX7_acted_22 ?_
      obtain ⟨z6, hz6, hf⟩ := ob hf
      refine g_iast F hh in_133 sh_133 hz6 dX7_acted_23 (fun H locs hh => ?_)
      obtain ⟨x5_7, ex5_7⟩ : ∃ y : Int32, y = x5 + (1 : Int32) := ⟨_, rfl⟩
      replace hf := lt_e ex5_7 hf
      refine lv_iinc (v := x5_7) (lv' := [(5, .int x5_7), (0, .ref (G.1 122)), (1, .int x1), (2, .int x2), (3, .int x3), (4, .int x4)]) hx hb dX7_acted_24 hl (k := 5) rfl (by rw [ex5_7]; rfl) (by decide) rfl (fun ls hl => ?_)
      refine lv_goto (tgt := 3) hx hb dX7_acted_27 (by decide) ?_
      exact ih _ _ _ _ _ _ hf  hh (lv_sub hl [1, 2, 3, 4, 5, 0] rfl)
set_option maxRecDepth 100000 in
set_option maxHeartbeats 4000000 in
theorem w_X7_acted {Z : Int32 × Sto} (F : Fx rM p s m args cd cX7_acted 7 RX7 G) (hr : meth.sig.returnType = (some .int)) (hlk : meth.locks = false) {x1 : Int32} {x2 : Int32} {x3 : Int32} {x4 : Int32} {z : Sto} {H : Heap} {locs : List Loc} {ls : Array Slot} (hf : f_X7_acted x1 x2 x3 x4 z = some Z) (hh : Hh rM G z s H locs) (hl : lv_has ls 7 [(0, .ref (G.1 122)), (1, .int x1), (2, .int x2), (3, .int x3), (4, .int x4)]) : W p l e rmX7_acted s m args below meth cd H locs 0 0 (MQ below (QI rM G Z.1 Z.2) args s 0 0 (Am rM G)) (F0 m 0 ls []) := by
  have hx := F.1
  have hb := F.2.1
  unfold f_X7_acted at hf
  refine lv_iconst (v := 0) hx hb dX7_acted_0 (by decide) ?_
  refine lv_istore (lv' := [(5, .int (0 : Int32)), (0, .ref (G.1 122)), (1, .int x1), (2, .int x2), (3, .int x3), (4, .int x4)]) hx hb dX7_acted_1 hl (by decide) rfl (fun ls hl => ?_)
  exact w_X7_acted_3 F hr hlk fu _ _ _ _ _ _ hf  hh (lv_sub hl [1, 2, 3, 4, 5, 0] rfl)
theorem c_X7_acted {l : Launch} {G : Gm} {x1 : Int32} {x2 : Int32} {x3 : Int32} {x4 : Int32} {z : Sto} {Z : Int32 × Sto} (hf : f_X7_acted x1 x2 x3 x4 z = some Z) : Met l yX7_acted (Cond.code yX7_acted cX7_acted 7 (some .int) :: TT) rmX7_acted (va_Pc [.ref (G.1 122), .int x1, .int x2, .int x3, .int x4] (GS rM G z)) (QI rM G Z.1 Z.2) 0 0 (Am rM G) := by
  refine g_met [(0, .ref (G.1 122)), (1, .int x1), (2, .int x2), (3, .int x3), (4, .int x4)] (by decide) (Nat.le_of_ble_eq_true rfl) rfl ?_
  intro p e s m below meth cd F hr hlk ls H locs hl hh
  exact w_X7_acted F hr hlk hf hh hl
def f_X7_joint (x1 : Int32) (x2 : Int32) (z : Sto) : Option (Int32 × Sto) := bd2 (f_X7_acted (0 : Int32) x1 x2 (0 : Int32) z) fun t1 z2 => some (t1, z2)
set_option maxRecDepth 100000 in
set_option maxHeartbeats 4000000 in
theorem w_X7_joint {Z : Int32 × Sto} (F : Fx rM p s m args cd cX7_joint 3 RX7 G) (hr : meth.sig.returnType = (some .int)) (hlk : meth.locks = false) {x1 : Int32} {x2 : Int32} {z : Sto} {H : Heap} {locs : List Loc} {ls : Array Slot} (hf : f_X7_joint x1 x2 z = some Z) (hh : Hh rM G z s H locs) (hl : lv_has ls 3 [(0, .ref (G.1 122)), (1, .int x1), (2, .int x2)]) : W p l e rmX7_joint s m args below meth cd H locs 0 0 (MQ below (QI rM G Z.1 Z.2) args s 0 0 (Am rM G)) (F0 m 0 ls []) := by
  have hx := F.1
  have hb := F.2.1
  unfold f_X7_joint at hf
  refine lv_aload_n hx hb dX7_joint_0 rfl (lv_at hl 0 rfl) ?_
  refine lv_iconst (v := 0) hx hb dX7_joint_1 (by decide) ?_
  refine lv_iload_n hx hb dX7_joint_2 rfl (lv_at hl 1 rfl) ?_
  refine lv_iload_n hx hb dX7_joint_3 rfl (lv_at hl 2 rfl) ?_
  refine lv_iconst (v := 0) hx hb dX7_joint_4 (by decide) ?_
  obtain ⟨t1, z2, ht1, hf⟩ := ob2 hf
  refine m_X7_186 (r := t1) (σ' := z2) F hh (c_X7_acted ht1) in_122 sh_122 rfl hl (Nat.le_of_ble_eq_true rfl) dX7_joint_5 (fun H locs hh => ?_)
  exact g_iretW F hr hlk hh hf dX7_joint_8
theorem c_X7_joint {l : Launch} {G : Gm} {x1 : Int32} {x2 : Int32} {z : Sto} {Z : Int32 × Sto} (hf : f_X7_joint x1 x2 z = some Z) : Met l yX7_joint (Cond.code yX7_joint cX7_joint 3 (some .int) :: TT) rmX7_joint (va_Pc [.ref (G.1 122), .int x1, .int x2] (GS rM G z)) (QI rM G Z.1 Z.2) 0 0 (Am rM G) := by
  refine g_met [(0, .ref (G.1 122)), (1, .int x1), (2, .int x2)] (by decide) (Nat.le_of_ble_eq_true rfl) rfl ?_
  intro p e s m below meth cd F hr hlk ls H locs hl hh
  exact w_X7_joint F hr hlk hf hh hl
def f_X7_move (x1 : Int32) (x2 : Int32) (x3 : Int32) (z : Sto) : Option (Int32 × Sto) := bd2 (f_X7_acted (2 : Int32) x1 x2 x3 z) fun t1 z2 => some (t1, z2)
set_option maxRecDepth 100000 in
set_option maxHeartbeats 4000000 in
theorem w_X7_move {Z : Int32 × Sto} (F : Fx rM p s m args cd cX7_move 4 RX7 G) (hr : meth.sig.returnType = (some .int)) (hlk : meth.locks = false) {x1 : Int32} {x2 : Int32} {x3 : Int32} {z : Sto} {H : Heap} {locs : List Loc} {ls : Array Slot} (hf : f_X7_move x1 x2 x3 z = some Z) (hh : Hh rM G z s H locs) (hl : lv_has ls 4 [(0, .ref (G.1 122)), (1, .int x1), (2, .int x2), (3, .int x3)]) : W p l e rmX7_move s m args below meth cd H locs 0 0 (MQ below (QI rM G Z.1 Z.2) args s 0 0 (Am rM G)) (F0 m 0 ls []) := by
  have hx := F.1
  have hb := F.2.1
  unfold f_X7_move at hf
  refine lv_aload_n hx hb dX7_move_0 rfl (lv_at hl 0 rfl) ?_
  refine lv_iconst (v := 2) hx hb dX7_move_1 (by decide) ?_
  refine lv_iload_n hx hb dX7_move_2 rfl (lv_at hl 1 rfl) ?_
  refine lv_iload_n hx hb dX7_move_3 rfl (lv_at hl 2 rfl) ?_
  refine lv_iload_n hx hb dX7_move_4 rfl (lv_at hl 3 rfl) ?_
  obtain ⟨t1, z2, ht1, hf⟩ := ob2 hf
  refine m_X7_186 (r := t1) (σ' := z2) F hh (c_X7_acted ht1) in_122 sh_122 rfl hl (Nat.le_of_ble_eq_true rfl) dX7_move_5 (fun H locs hh => ?_)
  exact g_iretW F hr hlk hh hf dX7_move_8
theorem c_X7_move {l : Launch} {G : Gm} {x1 : Int32} {x2 : Int32} {x3 : Int32} {z : Sto} {Z : Int32 × Sto} (hf : f_X7_move x1 x2 x3 z = some Z) : Met l yX7_move (Cond.code yX7_move cX7_move 4 (some .int) :: TT) rmX7_move (va_Pc [.ref (G.1 122), .int x1, .int x2, .int x3] (GS rM G z)) (QI rM G Z.1 Z.2) 0 0 (Am rM G) := by
  refine g_met [(0, .ref (G.1 122)), (1, .int x1), (2, .int x2), (3, .int x3)] (by decide) (Nat.le_of_ble_eq_true rfl) rfl ?_
  intro p e s m below meth cd F hr hlk ls H locs hl hh
  exact w_X7_move F hr hlk hf hh hl
def f_X7_lose (x1 : Int32) (z : Sto) : Option (Int32 × Sto) := bd2 (f_X7_acted (5 : Int32) x1 (0 : Int32) (0 : Int32) z) fun t1 z2 => some (t1, z2)
set_option maxRecDepth 100000 in
set_option maxHeartbeats 4000000 in
theorem w_X7_lose {Z : Int32 × Sto} (F : Fx rM p s m args cd cX7_lose 2 RX7 G) (hr : meth.sig.returnType = (some .int)) (hlk : meth.locks = false) {x1 : Int32} {z : Sto} {H : Heap} {locs : List Loc} {ls : Array Slot} (hf : f_X7_lose x1 z = some Z) (hh : Hh rM G z s H locs) (hl : lv_has ls 2 [(0, .ref (G.1 122)), (1, .int x1)]) : W p l e rmX7_lose s m args below meth cd H locs 0 0 (MQ below (QI rM G Z.1 Z.2) args s 0 0 (Am rM G)) (F0 m 0 ls []) := by
  have hx := F.1
  have hb := F.2.1
  unfold f_X7_lose at hf
  refine lv_aload_n hx hb dX7_lose_0 rfl (lv_at hl 0 rfl) ?_
  refine lv_iconst (v := 5) hx hb dX7_lose_1 (by decide) ?_
  refine lv_iload_n hx hb dX7_lose_2 rfl (lv_at hl 1 rfl) ?_
  refine lv_iconst (v := 0) hx hb dX7_lose_3 (by decide) ?_
  refine lv_iconst (v := 0) hx hb dX7_lose_4 (by decide) ?_
  obtain ⟨t1, z2, ht1, hf⟩ := ob2 hf
  refine m_X7_186 (r := t1) (σ' := z2) F hh (c_X7_acted ht1) in_122 sh_122 rfl hl (Nat.le_of_ble_eq_true rfl) dX7_lose_5 (fun H locs hh => ?_)
  exact g_iretW F hr hlk hh hf dX7_lose_8
theorem c_X7_lose {l : Launch} {G : Gm} {x1 : Int32} {z : Sto} {Z : Int32 × Sto} (hf : f_X7_lose x1 z = some Z) : Met l yX7_lose (Cond.code yX7_lose cX7_lose 2 (some .int) :: TT) rmX7_lose (va_Pc [.ref (G.1 122), .int x1] (GS rM G z)) (QI rM G Z.1 Z.2) 0 0 (Am rM G) := by
  refine g_met [(0, .ref (G.1 122)), (1, .int x1)] (by decide) (Nat.le_of_ble_eq_true rfl) rfl ?_
  intro p e s m below meth cd F hr hlk ls H locs hl hh
  exact w_X7_lose F hr hlk hf hh hl
def f_X7_bar (x1 : Int32) (x2 : Int32) (z : Sto) : Option (Int32 × Sto) := bd2 (f_X7_acted (1 : Int32) x1 x2 (0 : Int32) z) fun t1 z2 => some (t1, z2)
set_option maxRecDepth 100000 in
set_option maxHeartbeats 4000000 in
theorem w_X7_bar {Z : Int32 × Sto} (F : Fx rM p s m args cd cX7_bar 3 RX7 G) (hr : meth.sig.returnType = (some .int)) (hlk : meth.locks = false) {x1 : Int32} {x2 : Int32} {z : Sto} {H : Heap} {locs : List Loc} {ls : Array Slot} (hf : f_X7_bar x1 x2 z = some Z) (hh : Hh rM G z s H locs) (hl : lv_has ls 3 [(0, .ref (G.1 122)), (1, .int x1), (2, .int x2)]) : W p l e rmX7_bar s m args below meth cd H locs 0 0 (MQ below (QI rM G Z.1 Z.2) args s 0 0 (Am rM G)) (F0 m 0 ls []) := by
  have hx := F.1
  have hb := F.2.1
  unfold f_X7_bar at hf
  refine lv_aload_n hx hb dX7_bar_0 rfl (lv_at hl 0 rfl) ?_
  refine lv_iconst (v := 1) hx hb dX7_bar_1 (by decide) ?_
  refine lv_iload_n hx hb dX7_bar_2 rfl (lv_at hl 1 rfl) ?_
  refine lv_iload_n hx hb dX7_bar_3 rfl (lv_at hl 2 rfl) ?_
  refine lv_iconst (v := 0) hx hb dX7_bar_4 (by decide) ?_
  obtain ⟨t1, z2, ht1, hf⟩ := ob2 hf
  refine m_X7_186 (r := t1) (σ' := z2) F hh (c_X7_acted ht1) in_122 sh_122 rfl hl (Nat.le_of_ble_eq_true rfl) dX7_bar_5 (fun H locs hh => ?_)
  exact g_iretW F hr hlk hh hf dX7_bar_8
theorem c_X7_bar {l : Launch} {G : Gm} {x1 : Int32} {x2 : Int32} {z : Sto} {Z : Int32 × Sto} (hf : f_X7_bar x1 x2 z = some Z) : Met l yX7_bar (Cond.code yX7_bar cX7_bar 3 (some .int) :: TT) rmX7_bar (va_Pc [.ref (G.1 122), .int x1, .int x2] (GS rM G z)) (QI rM G Z.1 Z.2) 0 0 (Am rM G) := by
  refine g_met [(0, .ref (G.1 122)), (1, .int x1), (2, .int x2)] (by decide) (Nat.le_of_ble_eq_true rfl) rfl ?_
  intro p e s m below meth cd F hr hlk ls H locs hl hh
  exact w_X7_bar F hr hlk hf hh hl
def f_X7_out (x1 : Int32) (z : Sto) : Option (Int32 × Sto) := bd2 (f_X7_acted (3 : Int32) x1 (0 : Int32) (0 : Int32) z) fun t1 z2 => some (t1, z2)
set_option maxRecDepth 100000 in
set_option maxHeartbeats 4000000 in
theorem w_X7_out {Z : Int32 × Sto} (F : Fx rM p s m args cd cX7_out 2 RX7 G) (hr : meth.sig.returnType = (some .int)) (hlk : meth.locks = false) {x1 : Int32} {z : Sto} {H : Heap} {locs : List Loc} {ls : Array Slot} (hf : f_X7_out x1 z = some Z) (hh : Hh rM G z s H locs) (hl : lv_has ls 2 [(0, .ref (G.1 122)), (1, .int x1)]) : W p l e rmX7_out s m args below meth cd H locs 0 0 (MQ below (QI rM G Z.1 Z.2) args s 0 0 (Am rM G)) (F0 m 0 ls []) := by
  have hx := F.1
  have hb := F.2.1
  unfold f_X7_out at hf
  refine lv_aload_n hx hb dX7_out_0 rfl (lv_at hl 0 rfl) ?_
  refine lv_iconst (v := 3) hx hb dX7_out_1 (by decide) ?_
  refine lv_iload_n hx hb dX7_out_2 rfl (lv_at hl 1 rfl) ?_
  refine lv_iconst (v := 0) hx hb dX7_out_3 (by decide) ?_
  refine lv_iconst (v := 0) hx hb dX7_out_4 (by decide) ?_
  obtain ⟨t1, z2, ht1, hf⟩ := ob2 hf
  refine m_X7_186 (r := t1) (σ' := z2) F hh (c_X7_acted ht1) in_122 sh_122 rfl hl (Nat.le_of_ble_eq_true rfl) dX7_out_5 (fun H locs hh => ?_)
  exact g_iretW F hr hlk hh hf dX7_out_8
theorem c_X7_out {l : Launch} {G : Gm} {x1 : Int32} {z : Sto} {Z : Int32 × Sto} (hf : f_X7_out x1 z = some Z) : Met l yX7_out (Cond.code yX7_out cX7_out 2 (some .int) :: TT) rmX7_out (va_Pc [.ref (G.1 122), .int x1] (GS rM G z)) (QI rM G Z.1 Z.2) 0 0 (Am rM G) := by
  refine g_met [(0, .ref (G.1 122)), (1, .int x1)] (by decide) (Nat.le_of_ble_eq_true rfl) rfl ?_
  intro p e s m below meth cd F hr hlk ls H locs hl hh
  exact w_X7_out F hr hlk hf hh hl
def f_X7_weight (x1 : Int32) (x2 : Int32) (z : Sto) : Option (Int32 × Sto) := bd2 (f_X7_acted (4 : Int32) x1 x2 (0 : Int32) z) fun t1 z2 => some (t1, z2)
set_option maxRecDepth 100000 in
set_option maxHeartbeats 4000000 in
theorem w_X7_weight {Z : Int32 × Sto} (F : Fx rM p s m args cd cX7_weight 3 RX7 G) (hr : meth.sig.returnType = (some .int)) (hlk : meth.locks = false) {x1 : Int32} {x2 : Int32} {z : Sto} {H : Heap} {locs : List Loc} {ls : Array Slot} (hf : f_X7_weight x1 x2 z = some Z) (hh : Hh rM G z s H locs) (hl : lv_has ls 3 [(0, .ref (G.1 122)), (1, .int x1), (2, .int x2)]) : W p l e rmX7_weight s m args below meth cd H locs 0 0 (MQ below (QI rM G Z.1 Z.2) args s 0 0 (Am rM G)) (F0 m 0 ls []) := by
  have hx := F.1
  have hb := F.2.1
  unfold f_X7_weight at hf
  refine lv_aload_n hx hb dX7_weight_0 rfl (lv_at hl 0 rfl) ?_
  refine lv_iconst (v := 4) hx hb dX7_weight_1 (by decide) ?_
  refine lv_iload_n hx hb dX7_weight_2 rfl (lv_at hl 1 rfl) ?_
  refine lv_iload_n hx hb dX7_weight_3 rfl (lv_at hl 2 rfl) ?_
  refine lv_iconst (v := 0) hx hb dX7_weight_4 (by decide) ?_
  obtain ⟨t1, z2, ht1, hf⟩ := ob2 hf
  refine m_X7_186 (r := t1) (σ' := z2) F hh (c_X7_acted ht1) in_122 sh_122 rfl hl (Nat.le_of_ble_eq_true rfl) dX7_weight_5 (fun H locs hh => ?_)
  exact g_iretW F hr hlk hh hf dX7_weight_8
theorem c_X7_weight {l : Launch} {G : Gm} {x1 : Int32} {x2 : Int32} {z : Sto} {Z : Int32 × Sto} (hf : f_X7_weight x1 x2 z = some Z) : Met l yX7_weight (Cond.code yX7_weight cX7_weight 3 (some .int) :: TT) rmX7_weight (va_Pc [.ref (G.1 122), .int x1, .int x2] (GS rM G z)) (QI rM G Z.1 Z.2) 0 0 (Am rM G) := by
  refine g_met [(0, .ref (G.1 122)), (1, .int x1), (2, .int x2)] (by decide) (Nat.le_of_ble_eq_true rfl) rfl ?_
  intro p e s m below meth cd F hr hlk ls H locs hl hh
  exact w_X7_weight F hr hlk hf hh hl
def f_X7_stepX (x1 : Int32) (z : Sto) : Option (Int32) := bd (f_X7_to x1 z) fun t1 => bd (f_X7_x t1 z) fun t2 => bd (f_X7_from x1 z) fun t3 => bd (f_X7_x t3 z) fun t4 => some (t2 - t4)
set_option maxRecDepth 100000 in
set_option maxHeartbeats 4000000 in
theorem w_X7_stepX {Z : Int32} (F : Fx rM p s m args cd cX7_stepX 2 RX7 G) (hr : meth.sig.returnType = (some .int)) (hlk : meth.locks = false) {x1 : Int32} {z : Sto} {H : Heap} {locs : List Loc} {ls : Array Slot} (hf : f_X7_stepX x1 z = some Z) (hh : Hh rM G z s H locs) (hl : lv_has ls 2 [(0, .ref (G.1 122)), (1, .int x1)]) : W p l e rmX7_stepX s m args below meth cd H locs 0 0 (MQ below (QI rM G Z z) args s 0 0 (Am rM G)) (F0 m 0 ls []) := by
  have hx := F.1
  have hb := F.2.1
  unfold f_X7_stepX at hf
  refine lv_aload_n hx hb dX7_stepX_0 rfl (lv_at hl 0 rfl) ?_
  refine lv_aload_n hx hb dX7_stepX_1 rfl (lv_at hl 0 rfl) ?_
  refine lv_iload_n hx hb dX7_stepX_2 rfl (lv_at hl 1 rfl) ?_
  obtain ⟨t1, ht1, hf⟩ := ob hf
  refine m_X7_101 F hh (c_X7_to ht1) in_122 sh_122 rfl hl (Nat.le_of_ble_eq_true rfl) dX7_stepX_3 (fun H locs hh => ?_)
  obtain ⟨t2, ht2, hf⟩ := ob hf
  refine m_X7_83 F hh (c_X7_x ht2) in_122 sh_122 rfl hl (Nat.le_of_ble_eq_true rfl) dX7_stepX_6 (fun H locs hh => ?_)
  refine lv_aload_n hx hb dX7_stepX_9 rfl (lv_at hl 0 rfl) ?_
  refine lv_aload_n hx hb dX7_stepX_10 rfl (lv_at hl 0 rfl) ?_
  refine lv_iload_n hx hb dX7_stepX_11 rfl (lv_at hl 1 rfl) ?_
  obtain ⟨t3, ht3, hf⟩ := ob hf
  refine m_X7_98 F hh (c_X7_from ht3) in_122 sh_122 rfl hl (Nat.le_of_ble_eq_true rfl) dX7_stepX_12 (fun H locs hh => ?_)
  obtain ⟨t4, ht4, hf⟩ := ob hf
  refine m_X7_83 F hh (c_X7_x ht4) in_122 sh_122 rfl hl (Nat.le_of_ble_eq_true rfl) dX7_stepX_15 (fun H locs hh => ?_)
  refine lv_isub hx hb dX7_stepX_18 ?_
  exact g_iret F hr hlk hh (Option.some.inj hf) rfl dX7_stepX_19
theorem c_X7_stepX {l : Launch} {G : Gm} {x1 : Int32} {z : Sto} {Z : Int32} (hf : f_X7_stepX x1 z = some Z) : Met l yX7_stepX (Cond.code yX7_stepX cX7_stepX 2 (some .int) :: TT) rmX7_stepX (va_Pc [.ref (G.1 122), .int x1] (GS rM G z)) (QI rM G Z z) 0 0 (Am rM G) := by
  refine g_met [(0, .ref (G.1 122)), (1, .int x1)] (by decide) (Nat.le_of_ble_eq_true rfl) rfl ?_
  intro p e s m below meth cd F hr hlk ls H locs hl hh
  exact w_X7_stepX F hr hlk hf hh hl
def f_X7_stepY (x1 : Int32) (z : Sto) : Option (Int32) := bd (f_X7_to x1 z) fun t1 => bd (f_X7_y t1 z) fun t2 => bd (f_X7_from x1 z) fun t3 => bd (f_X7_y t3 z) fun t4 => some (t2 - t4)
set_option maxRecDepth 100000 in
set_option maxHeartbeats 4000000 in
theorem w_X7_stepY {Z : Int32} (F : Fx rM p s m args cd cX7_stepY 2 RX7 G) (hr : meth.sig.returnType = (some .int)) (hlk : meth.locks = false) {x1 : Int32} {z : Sto} {H : Heap} {locs : List Loc} {ls : Array Slot} (hf : f_X7_stepY x1 z = some Z) (hh : Hh rM G z s H locs) (hl : lv_has ls 2 [(0, .ref (G.1 122)), (1, .int x1)]) : W p l e rmX7_stepY s m args below meth cd H locs 0 0 (MQ below (QI rM G Z z) args s 0 0 (Am rM G)) (F0 m 0 ls []) := by
  have hx := F.1
  have hb := F.2.1
  unfold f_X7_stepY at hf
  refine lv_aload_n hx hb dX7_stepY_0 rfl (lv_at hl 0 rfl) ?_
  refine lv_aload_n hx hb dX7_stepY_1 rfl (lv_at hl 0 rfl) ?_
  refine lv_iload_n hx hb dX7_stepY_2 rfl (lv_at hl 1 rfl) ?_
  obtain ⟨t1, ht1, hf⟩ := ob hf
  refine m_X7_101 F hh (c_X7_to ht1) in_122 sh_122 rfl hl (Nat.le_of_ble_eq_true rfl) dX7_stepY_3 (fun H locs hh => ?_)
  obtain ⟨t2, ht2, hf⟩ := ob hf
  refine m_X7_87 F hh (c_X7_y ht2) in_122 sh_122 rfl hl (Nat.le_of_ble_eq_true rfl) dX7_stepY_6 (fun H locs hh => ?_)
  refine lv_aload_n hx hb dX7_stepY_9 rfl (lv_at hl 0 rfl) ?_
  refine lv_aload_n hx hb dX7_stepY_10 rfl (lv_at hl 0 rfl) ?_
  refine lv_iload_n hx hb dX7_stepY_11 rfl (lv_at hl 1 rfl) ?_
  obtain ⟨t3, ht3, hf⟩ := ob hf
  refine m_X7_98 F hh (c_X7_from ht3) in_122 sh_122 rfl hl (Nat.le_of_ble_eq_true rfl) dX7_stepY_12 (fun H locs hh => ?_)
  obtain ⟨t4, ht4, hf⟩ := ob hf
  refine m_X7_87 F hh (c_X7_y ht4) in_122 sh_122 rfl hl (Nat.le_of_ble_eq_true rfl) dX7_stepY_15 (fun H locs hh => ?_)
  refine lv_isub hx hb dX7_stepY_18 ?_
  exact g_iret F hr hlk hh (Option.some.inj hf) rfl dX7_stepY_19
theorem c_X7_stepY {l : Launch} {G : Gm} {x1 : Int32} {z : Sto} {Z : Int32} (hf : f_X7_stepY x1 z = some Z) : Met l yX7_stepY (Cond.code yX7_stepY cX7_stepY 2 (some .int) :: TT) rmX7_stepY (va_Pc [.ref (G.1 122), .int x1] (GS rM G z)) (QI rM G Z z) 0 0 (Am rM G) := by
  refine g_met [(0, .ref (G.1 122)), (1, .int x1)] (by decide) (Nat.le_of_ble_eq_true rfl) rfl ?_
  intro p e s m below meth cd F hr hlk ls H locs hl hh
  exact w_X7_stepY F hr hlk hf hh hl
def b_X7_laysCells_23  (ag23 : Int32 → Int32 → Sto → Option (Sto)) (x1 : Int32) (x2 : Int32) (z : Sto) : Option (Sto) := bd (rdI z 123 42 (1 : Int32)) fun t4 => if ((2 : Int32) * t4) ≤ x2 then (some z) else (if ((x1 >>> ((x2 / (2 : Int32)) &&& 31)) &&& (1 : Int32)) = (1 : Int32) then (bd (f_X7_from x2 z) fun t8 => bd (f_X7_stepX x2 z) fun t9 => bd (wrL z 134 108 (((18 : Int32) * t8) + (x2 / (2 : Int32))) (Int32.toInt64 t9)) fun z10 => bd (f_X7_from x2 z10) fun t11 => bd (f_X7_stepY x2 z10) fun t12 => bd (wrL z10 134 108 ((((18 : Int32) * t11) + (9 : Int32)) + (x2 / (2 : Int32))) (Int32.toInt64 t12)) fun z13 => lt (x2 + (1 : Int32)) fun x2_14 => ag23 x1 x2_14 z13) else (lt (x2 + (1 : Int32)) fun x2_7 => ag23 x1 x2_7 z))
def b_X7_laysCells_2  (ag2 : Int32 → Int32 → Sto → Option (Sto)) (x1 : Int32) (x2 : Int32) (z : Sto) : Option (Sto) := if (108 : Int32) ≤ x2 then (wl3 (b_X7_laysCells_23) fu x1 (0 : Int32) z) else (bd (wrL z 134 108 x2 (0 : Int64)) fun z2 => lt (x2 + (1 : Int32)) fun x2_3 => ag2 x1 x2_3 z2)
def f_X7_laysCells (x1 : Int32) (z : Sto) : Option (Sto) := wl3 (b_X7_laysCells_2) fu x1 (0 : Int32) z
set_option maxRecDepth 100000 in
set_option maxHeartbeats 4000000 in
theorem w_X7_laysCells_23  {Z : Sto} (F : Fx rM p s m args cd cX7_laysCells 3 RX7 G) (hr : meth.sig.returnType = none) (hlk : meth.locks = false)  : ∀ (n : Nat), ∀ (x1 : Int32) (x2 : Int32) (z : Sto), wl3 (b_X7_laysCells_23) n x1 x2 z = some Z → ∀ {H : Heap} {locs : List Loc} {ls : Array Slot}, Hh rM G z s H locs → lv_has ls 3 [(0, .ref (G.1 122)), (1, .int x1), (2, .int x2)] → W p l e rmX7_laysCells s m args below meth cd H locs 0 0 (MQ below (QV rM G Z) args s 0 0 (Am rM G)) (F0 m 23 ls []) := by
  have hx := F.1
  have hb := F.2.1
  intro n
  induction n with
  | zero =>
    intro x1 x2 z hf
    exact absurd hf (by intro h; cases h)
  | succ n ih =>
    intro x1 x2 z hf  H locs ls hh hl
    replace hf : b_X7_laysCells_23 (wl3 (b_X7_laysCells_23) n) x1 x2 z = some Z := hf
    unfold b_X7_laysCells_23 at hf
    refine lv_iload_n hx hb dX7_laysCells_23 rfl (lv_at hl 2 rfl) ?_
    refine lv_iconst (v := 2) hx hb dX7_laysCells_24 (by decide) ?_
    refine lv_aload_n hx hb dX7_laysCells_25 rfl (lv_at hl 0 rfl) ?_
    refine r_X7_7 (b' := 123) F hh in_122 sh_122 rfl dX7_laysCells_26 ?_
    refine lv_iconst (v := 1) hx hb dX7_laysCells_29 (by decide) ?_
    obtain ⟨t4, ht4, hf⟩ := ob hf
    refine g_iald F hh in_123 sh_123 ht4 dX7_laysCells_30 ?_
    refine lv_imul hx hb dX7_laysCells_31 ?_
    refine lv_icmp_ge (tgt := 101) hx hb dX7_laysCells_32 (by decide) (fun c5 => ?_) (fun c5 => ?_)
    · replace hf := itp c5 hf
      exact g_vret F hr hlk hh (Option.some.inj hf) dX7_laysCells_101
    · replace hf := itn c5 hf
      refine lv_iload_n hx hb dX7_laysCells_35 rfl (lv_at hl 1 rfl) ?_
      refine lv_iload_n hx hb dX7_laysCells_36 rfl (lv_at hl 2 rfl) ?_
      refine lv_iconst (v := 2) hx hb dX7_laysCells_37 (by decide) ?_
      refine lv_idiv hx hb dX7_laysCells_38 (by decide) ?_
      refine lv_ishr hx hb dX7_laysCells_39 ?_
      refine lv_iconst (v := 1) hx hb dX7_laysCells_40 (by decide) ?_
      refine lv_iand hx hb dX7_laysCells_41 ?_
      refine lv_iconst (v := 1) hx hb dX7_laysCells_42 (by decide) ?_
      refine lv_icmp_ne (tgt := 95) hx hb dX7_laysCells_43 (by decide) (fun c6 => ?_) (fun c6 => ?_)
      · replace hf := itn c6 hf
        obtain ⟨x2_7, ex2_7⟩ : ∃ y : Int32, y = x2 + (1 : Int32) := ⟨_, rfl⟩
        replace hf := lt_e ex2_7 hf
        refine lv_iinc (v := x2_7) (lv' := [(2, .int x2_7), (0, .ref (G.1 122)), (1, .int x1)]) hx hb dX7_laysCells_95 hl (k := 2) rfl (by rw [ex2_7]; rfl) (by decide) rfl (fun ls hl => ?_)
        refine lv_goto (tgt := 23) hx hb dX7_laysCells_98 (by decide) ?_
        exact ih _ _ _ hf  hh (lv_sub hl [1, 2, 0] rfl)
      · replace hf := itp c6 hf
        refine lv_aload_n hx hb dX7_laysCells_46 rfl (lv_at hl 0 rfl) ?_
        refine r_X7_48 (b' := 134) F hh in_122 sh_122 rfl dX7_laysCells_47 ?_
        refine lv_bipush (v := 18) hx hb dX7_laysCells_50 (by decide) ?_
        refine lv_aload_n hx hb dX7_laysCells_52 rfl (lv_at hl 0 rfl) ?_
        refine lv_iload_n hx hb dX7_laysCells_53 rfl (lv_at hl 2 rfl) ?_
        obtain ⟨t8, ht8, hf⟩ := ob hf
        refine m_X7_98 F hh (c_X7_from ht8) in_122 sh_122 rfl hl (Nat.le_of_ble_eq_true rfl) dX7_laysCells_54 (fun H locs hh => ?_)
        refine lv_imul hx hb dX7_laysCells_57 ?_
        refine lv_iload_n hx hb dX7_laysCells_58 rfl (lv_at hl 2 rfl) ?_
        refine lv_iconst (v := 2) hx hb dX7_laysCells_59 (by decide) ?_
        refine lv_idiv hx hb dX7_laysCells_60 (by decide) ?_
        refine lv_iadd hx hb dX7_laysCells_61 ?_
        refine lv_aload_n hx hb dX7_laysCells_62 rfl (lv_at hl 0 rfl) ?_
        refine lv_iload_n hx hb dX7_laysCells_63 rfl (lv_at hl 2 rfl) ?_
        obtain ⟨t9, ht9, hf⟩ := ob hf
        refine m_X7_189 F hh (c_X7_stepX ht9) in_122 sh_122 rfl hl (Nat.le_of_ble_eq_true rfl) dX7_laysCells_64 (fun H locs hh => ?_)
        refine lv_i2l hx hb dX7_laysCells_67 rfl ?_
        obtain ⟨z10, hz10, hf⟩ := ob hf
        refine g_last F hh in_134 sh_134 hz10 dX7_laysCells_68 (fun H locs hh => ?_)
        refine lv_aload_n hx hb dX7_laysCells_69 rfl (lv_at hl 0 rfl) ?_
        refine r_X7_48 (b' := 134) F hh in_122 sh_122 rfl dX7_laysCells_70 ?_
        refine lv_bipush (v := 18) hx hb dX7_laysCells_73 (by decide) ?_
        refine lv_aload_n hx hb dX7_laysCells_75 rfl (lv_at hl 0 rfl) ?_
        refine lv_iload_n hx hb dX7_laysCells_76 rfl (lv_at hl 2 rfl) ?_
        obtain ⟨t11, ht11, hf⟩ := ob hf
        refine m_X7_98 F hh (c_X7_from ht11) in_122 sh_122 rfl hl (Nat.le_of_ble_eq_true rfl) dX7_laysCells_77 (fun H locs hh => ?_)
        refine lv_imul hx hb dX7_laysCells_80 ?_
        refine lv_bipush (v := 9) hx hb dX7_laysCells_81 (by decide) ?_
        refine lv_iadd hx hb dX7_laysCells_83 ?_
        refine lv_iload_n hx hb dX7_laysCells_84 rfl (lv_at hl 2 rfl) ?_
        refine lv_iconst (v := 2) hx hb dX7_laysCells_85 (by decide) ?_
        refine lv_idiv hx hb dX7_laysCells_86 (by decide) ?_
        refine lv_iadd hx hb dX7_laysCells_87 ?_
        refine lv_aload_n hx hb dX7_laysCells_88 rfl (lv_at hl 0 rfl) ?_
        refine lv_iload_n hx hb dX7_laysCells_89 rfl (lv_at hl 2 rfl) ?_
        obtain ⟨t12, ht12, hf⟩ := ob hf
        refine m_X7_192 F hh (c_X7_stepY ht12) in_122 sh_122 rfl hl (Nat.le_of_ble_eq_true rfl) dX7_laysCells_90 (fun H locs hh => ?_)
        refine lv_i2l hx hb dX7_laysCells_93 rfl ?_
        obtain ⟨z13, hz13, hf⟩ := ob hf
        refine g_last F hh in_134 sh_134 hz13 dX7_laysCells_94 (fun H locs hh => ?_)
        obtain ⟨x2_14, ex2_14⟩ : ∃ y : Int32, y = x2 + (1 : Int32) := ⟨_, rfl⟩
        replace hf := lt_e ex2_14 hf
        refine lv_iinc (v := x2_14) (lv' := [(2, .int x2_14), (0, .ref (G.1 122)), (1, .int x1)]) hx hb dX7_laysCells_95 hl (k := 2) rfl (by rw [ex2_14]; rfl) (by decide) rfl (fun ls hl => ?_)
        refine lv_goto (tgt := 23) hx hb dX7_laysCells_98 (by decide) ?_
        exact ih _ _ _ hf  hh (lv_sub hl [1, 2, 0] rfl)
set_option maxRecDepth 100000 in
set_option maxHeartbeats 4000000 in
theorem w_X7_laysCells_2  {Z : Sto} (F : Fx rM p s m args cd cX7_laysCells 3 RX7 G) (hr : meth.sig.returnType = none) (hlk : meth.locks = false)  : ∀ (n : Nat), ∀ (x1 : Int32) (x2 : Int32) (z : Sto), wl3 (b_X7_laysCells_2) n x1 x2 z = some Z → ∀ {H : Heap} {locs : List Loc} {ls : Array Slot}, Hh rM G z s H locs → lv_has ls 3 [(0, .ref (G.1 122)), (1, .int x1), (2, .int x2)] → W p l e rmX7_laysCells s m args below meth cd H locs 0 0 (MQ below (QV rM G Z) args s 0 0 (Am rM G)) (F0 m 2 ls []) := by
  have hx := F.1
  have hb := F.2.1
  intro n
  induction n with
  | zero =>
    intro x1 x2 z hf
    exact absurd hf (by intro h; cases h)
  | succ n ih =>
    intro x1 x2 z hf  H locs ls hh hl
    replace hf : b_X7_laysCells_2 (wl3 (b_X7_laysCells_2) n) x1 x2 z = some Z := hf
    unfold b_X7_laysCells_2 at hf
    refine lv_iload_n hx hb dX7_laysCells_2 rfl (lv_at hl 2 rfl) ?_
    refine lv_bipush (v := 108) hx hb dX7_laysCells_3 (by decide) ?_
    refine lv_icmp_ge (tgt := 21) hx hb dX7_laysCells_5 (by decide) (fun c1 => ?_) (fun c1 => ?_)
    · replace hf := itp c1 hf
      refine lv_iconst (v := 0) hx hb dX7_laysCells_21 (by decide) ?_
      refine lv_istore_n (lv' := [(2, .int (0 : Int32)), (0, .ref (G.1 122)), (1, .int x1)]) hx hb dX7_laysCells_22 rfl hl (by decide) rfl (fun ls hl => ?_)
      exact w_X7_laysCells_23 F hr hlk fu _ _ _ hf  hh (lv_sub hl [1, 2, 0] rfl)
    · replace hf := itn c1 hf
      refine lv_aload_n hx hb dX7_laysCells_8 rfl (lv_at hl 0 rfl) ?_
      refine r_X7_48 (b' := 134) F hh in_122 sh_122 rfl dX7_laysCells_9 ?_
      refine lv_iload_n hx hb dX7_laysCells_12 rfl (lv_at hl 2 rfl) ?_
      refine lv_lconst (v := 0) hx hb dX7_laysCells_13 (by decide) ?_
      obtain ⟨z2, hz2, hf⟩ := ob hf
      refine g_last F hh in_134 sh_134 hz2 dX7_laysCells_14 (fun H locs hh => ?_)
      obtain ⟨x2_3, ex2_3⟩ : ∃ y : Int32, y = x2 + (1 : Int32) := ⟨_, rfl⟩
      replace hf := lt_e ex2_3 hf
      refine lv_iinc (v := x2_3) (lv' := [(2, .int x2_3), (0, .ref (G.1 122)), (1, .int x1)]) hx hb dX7_laysCells_15 hl (k := 2) rfl (by rw [ex2_3]; rfl) (by decide) rfl (fun ls hl => ?_)
      refine lv_goto (tgt := 2) hx hb dX7_laysCells_18 (by decide) ?_
      exact ih _ _ _ hf  hh (lv_sub hl [1, 2, 0] rfl)
set_option maxRecDepth 100000 in
set_option maxHeartbeats 4000000 in
theorem w_X7_laysCells {Z : Sto} (F : Fx rM p s m args cd cX7_laysCells 3 RX7 G) (hr : meth.sig.returnType = none) (hlk : meth.locks = false) {x1 : Int32} {z : Sto} {H : Heap} {locs : List Loc} {ls : Array Slot} (hf : f_X7_laysCells x1 z = some Z) (hh : Hh rM G z s H locs) (hl : lv_has ls 3 [(0, .ref (G.1 122)), (1, .int x1)]) : W p l e rmX7_laysCells s m args below meth cd H locs 0 0 (MQ below (QV rM G Z) args s 0 0 (Am rM G)) (F0 m 0 ls []) := by
  have hx := F.1
  have hb := F.2.1
  unfold f_X7_laysCells at hf
  refine lv_iconst (v := 0) hx hb dX7_laysCells_0 (by decide) ?_
  refine lv_istore_n (lv' := [(2, .int (0 : Int32)), (0, .ref (G.1 122)), (1, .int x1)]) hx hb dX7_laysCells_1 rfl hl (by decide) rfl (fun ls hl => ?_)
  exact w_X7_laysCells_2 F hr hlk fu _ _ _ hf  hh (lv_sub hl [1, 2, 0] rfl)
theorem c_X7_laysCells {l : Launch} {G : Gm} {x1 : Int32} {z : Sto} {Z : Sto} (hf : f_X7_laysCells x1 z = some Z) : Met l yX7_laysCells (Cond.code yX7_laysCells cX7_laysCells 3 none :: TT) rmX7_laysCells (va_Pc [.ref (G.1 122), .int x1] (GS rM G z)) (QV rM G Z) 0 0 (Am rM G) := by
  refine g_met [(0, .ref (G.1 122)), (1, .int x1)] (by decide) (Nat.le_of_ble_eq_true rfl) rfl ?_
  intro p e s m below meth cd F hr hlk ls H locs hl hh
  exact w_X7_laysCells F hr hlk hf hh hl
def b_X7_swaps_2  (ag2 : Int32 → Int32 → Int32 → Sto → Option (Sto)) (x1 : Int32) (x2 : Int32) (x3 : Int32) (z : Sto) : Option (Sto) := if (9 : Int32) ≤ x3 then (some z) else (bd (rdL z 134 108 (((9 : Int32) * x1) + x3)) fun t2 => bd (rdL z 134 108 (((9 : Int32) * x2) + x3)) fun t3 => bd (wrL z 134 108 (((9 : Int32) * x1) + x3) t3) fun z4 => bd (wrL z4 134 108 (((9 : Int32) * x2) + x3) t2) fun z5 => lt (x3 + (1 : Int32)) fun x3_6 => ag2 x1 x2 x3_6 z5)
def f_X7_swaps (x1 : Int32) (x2 : Int32) (z : Sto) : Option (Sto) := wl4 (b_X7_swaps_2) fu x1 x2 (0 : Int32) z
set_option maxRecDepth 100000 in
set_option maxHeartbeats 4000000 in
theorem w_X7_swaps_2  {Z : Sto} (F : Fx rM p s m args cd cX7_swaps 6 RX7 G) (hr : meth.sig.returnType = none) (hlk : meth.locks = false)  : ∀ (n : Nat), ∀ (x1 : Int32) (x2 : Int32) (x3 : Int32) (z : Sto), wl4 (b_X7_swaps_2) n x1 x2 x3 z = some Z → ∀ {H : Heap} {locs : List Loc} {ls : Array Slot}, Hh rM G z s H locs → lv_has ls 6 [(0, .ref (G.1 122)), (1, .int x1), (2, .int x2), (3, .int x3)] → W p l e rmX7_swaps s m args below meth cd H locs 0 0 (MQ below (QV rM G Z) args s 0 0 (Am rM G)) (F0 m 2 ls []) := by
  have hx := F.1
  have hb := F.2.1
  intro n
  induction n with
  | zero =>
    intro x1 x2 x3 z hf
    exact absurd hf (by intro h; cases h)
  | succ n ih =>
    intro x1 x2 x3 z hf  H locs ls hh hl
    replace hf : b_X7_swaps_2 (wl4 (b_X7_swaps_2) n) x1 x2 x3 z = some Z := hf
    unfold b_X7_swaps_2 at hf
    refine lv_iload_n hx hb dX7_swaps_2 rfl (lv_at hl 3 rfl) ?_
    refine lv_bipush (v := 9) hx hb dX7_swaps_3 (by decide) ?_
    refine lv_icmp_ge (tgt := 62) hx hb dX7_swaps_5 (by decide) (fun c1 => ?_) (fun c1 => ?_)
    · replace hf := itp c1 hf
      exact g_vret F hr hlk hh (Option.some.inj hf) dX7_swaps_62
    · replace hf := itn c1 hf
      refine lv_aload_n hx hb dX7_swaps_8 rfl (lv_at hl 0 rfl) ?_
      refine r_X7_48 (b' := 134) F hh in_122 sh_122 rfl dX7_swaps_9 ?_
      refine lv_bipush (v := 9) hx hb dX7_swaps_12 (by decide) ?_
      refine lv_iload_n hx hb dX7_swaps_14 rfl (lv_at hl 1 rfl) ?_
      refine lv_imul hx hb dX7_swaps_15 ?_
      refine lv_iload_n hx hb dX7_swaps_16 rfl (lv_at hl 3 rfl) ?_
      refine lv_iadd hx hb dX7_swaps_17 ?_
      obtain ⟨t2, ht2, hf⟩ := ob hf
      refine g_lald F hh in_134 sh_134 ht2 dX7_swaps_18 ?_
      refine lv_lstore (lv' := [(4, .long t2), (0, .ref (G.1 122)), (1, .int x1), (2, .int x2), (3, .int x3)]) hx hb dX7_swaps_19 hl (by decide) rfl (fun ls hl => ?_)
      refine lv_aload_n hx hb dX7_swaps_21 rfl (lv_at hl 1 rfl) ?_
      refine r_X7_48 (b' := 134) F hh in_122 sh_122 rfl dX7_swaps_22 ?_
      refine lv_bipush (v := 9) hx hb dX7_swaps_25 (by decide) ?_
      refine lv_iload_n hx hb dX7_swaps_27 rfl (lv_at hl 2 rfl) ?_
      refine lv_imul hx hb dX7_swaps_28 ?_
      refine lv_iload_n hx hb dX7_swaps_29 rfl (lv_at hl 4 rfl) ?_
      refine lv_iadd hx hb dX7_swaps_30 ?_
      refine lv_aload_n hx hb dX7_swaps_31 rfl (lv_at hl 1 rfl) ?_
      refine r_X7_48 (b' := 134) F hh in_122 sh_122 rfl dX7_swaps_32 ?_
      refine lv_bipush (v := 9) hx hb dX7_swaps_35 (by decide) ?_
      refine lv_iload_n hx hb dX7_swaps_37 rfl (lv_at hl 3 rfl) ?_
      refine lv_imul hx hb dX7_swaps_38 ?_
      refine lv_iload_n hx hb dX7_swaps_39 rfl (lv_at hl 4 rfl) ?_
      refine lv_iadd hx hb dX7_swaps_40 ?_
      obtain ⟨t3, ht3, hf⟩ := ob hf
      refine g_lald F hh in_134 sh_134 ht3 dX7_swaps_41 ?_
      obtain ⟨z4, hz4, hf⟩ := ob hf
      refine g_last F hh in_134 sh_134 hz4 dX7_swaps_42 (fun H locs hh => ?_)
      refine lv_aload_n hx hb dX7_swaps_43 rfl (lv_at hl 1 rfl) ?_
      refine r_X7_48 (b' := 134) F hh in_122 sh_122 rfl dX7_swaps_44 ?_
      refine lv_bipush (v := 9) hx hb dX7_swaps_47 (by decide) ?_
      refine lv_iload_n hx hb dX7_swaps_49 rfl (lv_at hl 3 rfl) ?_
      refine lv_imul hx hb dX7_swaps_50 ?_
      refine lv_iload_n hx hb dX7_swaps_51 rfl (lv_at hl 4 rfl) ?_
      refine lv_iadd hx hb dX7_swaps_52 ?_
      refine lv_lload hx hb dX7_swaps_53 (lv_at hl 0 rfl) ?_
      obtain ⟨z5, hz5, hf⟩ := ob hf
      refine g_last F hh in_134 sh_134 hz5 dX7_swaps_55 (fun H locs hh => ?_)
      obtain ⟨x3_6, ex3_6⟩ : ∃ y : Int32, y = x3 + (1 : Int32) := ⟨_, rfl⟩
      replace hf := lt_e ex3_6 hf
      refine lv_iinc (v := x3_6) (lv' := [(3, .int x3_6), (4, .long t2), (0, .ref (G.1 122)), (1, .int x1), (2, .int x2)]) hx hb dX7_swaps_56 hl (k := 4) rfl (by rw [ex3_6]; rfl) (by decide) rfl (fun ls hl => ?_)
      refine lv_goto (tgt := 2) hx hb dX7_swaps_59 (by decide) ?_
      exact ih _ _ _ _ hf  hh (lv_sub hl [2, 3, 4, 0] rfl)
set_option maxRecDepth 100000 in
set_option maxHeartbeats 4000000 in
theorem w_X7_swaps {Z : Sto} (F : Fx rM p s m args cd cX7_swaps 6 RX7 G) (hr : meth.sig.returnType = none) (hlk : meth.locks = false) {x1 : Int32} {x2 : Int32} {z : Sto} {H : Heap} {locs : List Loc} {ls : Array Slot} (hf : f_X7_swaps x1 x2 z = some Z) (hh : Hh rM G z s H locs) (hl : lv_has ls 6 [(0, .ref (G.1 122)), (1, .int x1), (2, .int x2)]) : W p l e rmX7_swaps s m args below meth cd H locs 0 0 (MQ below (QV rM G Z) args s 0 0 (Am rM G)) (F0 m 0 ls []) := by
  have hx := F.1
  have hb := F.2.1
  unfold f_X7_swaps at hf
  refine lv_iconst (v := 0) hx hb dX7_swaps_0 (by decide) ?_
  refine lv_istore_n (lv' := [(3, .int (0 : Int32)), (0, .ref (G.1 122)), (1, .int x1), (2, .int x2)]) hx hb dX7_swaps_1 rfl hl (by decide) rfl (fun ls hl => ?_)
  exact w_X7_swaps_2 F hr hlk fu _ _ _ _ hf  hh (lv_sub hl [1, 2, 3, 0] rfl)
theorem c_X7_swaps {l : Launch} {G : Gm} {x1 : Int32} {x2 : Int32} {z : Sto} {Z : Sto} (hf : f_X7_swaps x1 x2 z = some Z) : Met l yX7_swaps (Cond.code yX7_swaps cX7_swaps 6 none :: TT) rmX7_swaps (va_Pc [.ref (G.1 122), .int x1, .int x2] (GS rM G z)) (QV rM G Z) 0 0 (Am rM G) := by
  refine g_met [(0, .ref (G.1 122)), (1, .int x1), (2, .int x2)] (by decide) (Nat.le_of_ble_eq_true rfl) rfl ?_
  intro p e s m below meth cd F hr hlk ls H locs hl hh
  exact w_X7_swaps F hr hlk hf hh hl
def b_X7_solves_112 (ag21 : Int32 → Int32 → Sto → Option (Int32 × Sto)) (ag88 : Int32 → Int32 → Int64 → Int32 → Sto → Option (Int32 × Sto)) (ag112 : Int32 → Int32 → Int64 → Int32 → Int64 → Int32 → Sto → Option (Int32 × Sto)) (x2 : Int32) (x3 : Int32) (x5 : Int64) (x7 : Int32) (x8 : Int64) (x10 : Int32) (z : Sto) : Option (Int32 × Sto) := if (9 : Int32) ≤ x10 then (lt (x7 + (1 : Int32)) fun x7_23 => ag88 x2 x3 x5 x7_23 z) else (if x7 = x2 then (lt (x7 + (1 : Int32)) fun x7_25 => ag88 x2 x3 x5 x7_25 z) else (bd (rdL z 134 108 (((9 : Int32) * x7) + x10)) fun t26 => bd (rdL z 134 108 (((9 : Int32) * x2) + x10)) fun t27 => bd (dvL ((x5 * t26) - (x8 * t27)) (z.2 122 16)) fun t28 => bd (wrL z 134 108 (((9 : Int32) * x7) + x10) t28) fun z29 => lt (x10 + (1 : Int32)) fun x10_30 => ag112 x2 x3 x5 x7 x8 x10_30 z29))
def b_X7_solves_88 (ag21 : Int32 → Int32 → Sto → Option (Int32 × Sto)) (ag88 : Int32 → Int32 → Int64 → Int32 → Sto → Option (Int32 × Sto)) (x2 : Int32) (x3 : Int32) (x5 : Int64) (x7 : Int32) (z : Sto) : Option (Int32 × Sto) := if (12 : Int32) ≤ x7 then (lt (upL z 122 16 x5) fun z17 => bd (wrI z17 135 12 x2 x3) fun z18 => lt (x2 + (1 : Int32)) fun x2_19 => lt (x3 + (-1 : Int32)) fun x3_20 => ag21 x2_19 x3_20 z18) else (bd (rdL z 134 108 (((9 : Int32) * x7) + x3)) fun t21 => wl7 (b_X7_solves_112 ag21 ag88) fu x2 x3 x5 x7 t21 (0 : Int32) z)
def j_X7_solves_58 (ag21 : Int32 → Int32 → Sto → Option (Int32 × Sto)) (x2 : Int32) (x3 : Int32) (x4 : Int32) (z : Sto) : Option (Int32 × Sto) := if (12 : Int32) ≤ x4 then (lt (x3 + (-1 : Int32)) fun x3_12 => ag21 x2 x3_12 z) else (bd (f_X7_swaps x2 x4 z) fun z14 => bd (rdL z14 134 108 (((9 : Int32) * x2) + x3)) fun t15 => wl5 (b_X7_solves_88 ag21) fu x2 x3 t15 (0 : Int32) z14)
def b_X7_solves_28 (ag21 : Int32 → Int32 → Sto → Option (Int32 × Sto)) (ag28 : Int32 → Int32 → Int32 → Sto → Option (Int32 × Sto)) (x2 : Int32) (x3 : Int32) (x4 : Int32) (z : Sto) : Option (Int32 × Sto) := if (12 : Int32) ≤ x4 then (j_X7_solves_58 ag21 x2 x3 x4 z) else (bd (rdL z 134 108 (((9 : Int32) * x4) + x3)) fun t8 => if (lg_cmp t8 (0 : Int64)) = 0 then (lt (x4 + (1 : Int32)) fun x4_10 => ag28 x2 x3 x4_10 z) else (j_X7_solves_58 ag21 x2 x3 x4 z))
def b_X7_solves_21  (ag21 : Int32 → Int32 → Sto → Option (Int32 × Sto)) (x2 : Int32) (x3 : Int32) (z : Sto) : Option (Int32 × Sto) := if x3 < 0 then (some (x2, z)) else (wl4 (b_X7_solves_28 ag21) fu x2 x3 x2 z)
def f_X7_solves (x1 : Int32) (z : Sto) : Option (Int32 × Sto) := bd (f_X7_laysCells x1 z) fun z2 => lt (upL z2 122 16 (1 : Int64)) fun z3 => bd (rdI z3 123 42 (1 : Int32)) fun t4 => lt ((t4 - (1 : Int32))) fun x3_5 => wl3 (b_X7_solves_21) fu (0 : Int32) x3_5 z3
set_option maxRecDepth 100000 in
set_option maxHeartbeats 4000000 in
theorem w_X7_solves_112 {ag21 : Int32 → Int32 → Sto → Option (Int32 × Sto)} {ag88 : Int32 → Int32 → Int64 → Int32 → Sto → Option (Int32 × Sto)} {Z : Int32 × Sto} (F : Fx rM p s m args cd cX7_solves 11 RX7 G) (hr : meth.sig.returnType = (some .int)) (hlk : meth.locks = false) (hag21 : ∀ (x2 : Int32) (x3 : Int32) (z : Sto), ag21 x2 x3 z = some Z → ∀ {H : Heap} {locs : List Loc} {ls : Array Slot}, Hh rM G z s H locs → lv_has ls 11 [(0, .ref (G.1 122)), (2, .int x2), (3, .int x3)] → W p l e rmX7_solves s m args below meth cd H locs 0 0 (MQ below (QI rM G Z.1 Z.2) args s 0 0 (Am rM G)) (F0 m 21 ls [])) (hag88 : ∀ (x2 : Int32) (x3 : Int32) (x5 : Int64) (x7 : Int32) (z : Sto), ag88 x2 x3 x5 x7 z = some Z → ∀ {H : Heap} {locs : List Loc} {ls : Array Slot}, Hh rM G z s H locs → lv_has ls 11 [(0, .ref (G.1 122)), (2, .int x2), (3, .int x3), (5, .long x5), (7, .int x7)] → W p l e rmX7_solves s m args below meth cd H locs 0 0 (MQ below (QI rM G Z.1 Z.2) args s 0 0 (Am rM G)) (F0 m 88 ls [])) : ∀ (n : Nat), ∀ (x2 : Int32) (x3 : Int32) (x5 : Int64) (x7 : Int32) (x8 : Int64) (x10 : Int32) (z : Sto), wl7 (b_X7_solves_112 ag21 ag88) n x2 x3 x5 x7 x8 x10 z = some Z → ∀ {H : Heap} {locs : List Loc} {ls : Array Slot}, Hh rM G z s H locs → lv_has ls 11 [(0, .ref (G.1 122)), (2, .int x2), (3, .int x3), (5, .long x5), (7, .int x7), (8, .long x8), (10, .int x10)] → W p l e rmX7_solves s m args below meth cd H locs 0 0 (MQ below (QI rM G Z.1 Z.2) args s 0 0 (Am rM G)) (F0 m 112 ls []) := by
  have hx := F.1
  have hb := F.2.1
  intro n
  induction n with
  | zero =>
    intro x2 x3 x5 x7 x8 x10 z hf
    exact absurd hf (by intro h; cases h)
  | succ n ih =>
    intro x2 x3 x5 x7 x8 x10 z hf  H locs ls hh hl
    replace hf : b_X7_solves_112 ag21 ag88 (wl7 (b_X7_solves_112 ag21 ag88) n) x2 x3 x5 x7 x8 x10 z = some Z := hf
    unfold b_X7_solves_112 at hf
    refine lv_iload hx hb dX7_solves_112 (lv_at hl 6 rfl) ?_
    refine lv_bipush (v := 9) hx hb dX7_solves_114 (by decide) ?_
    refine lv_icmp_ge (tgt := 181) hx hb dX7_solves_116 (by decide) (fun c22 => ?_) (fun c22 => ?_)
    · replace hf := itp c22 hf
      obtain ⟨x7_23, ex7_23⟩ : ∃ y : Int32, y = x7 + (1 : Int32) := ⟨_, rfl⟩
      replace hf := lt_e ex7_23 hf
      refine lv_iinc (v := x7_23) (lv' := [(7, .int x7_23), (0, .ref (G.1 122)), (2, .int x2), (3, .int x3), (5, .long x5), (8, .long x8), (10, .int x10)]) hx hb dX7_solves_181 hl (k := 4) rfl (by rw [ex7_23]; rfl) (by decide) rfl (fun ls hl => ?_)
      refine lv_goto (tgt := 88) hx hb dX7_solves_184 (by decide) ?_
      exact hag88 _ _ _ _ _ hf  hh (lv_sub hl [1, 2, 3, 4, 0] rfl)
    · replace hf := itn c22 hf
      refine lv_iload hx hb dX7_solves_119 (lv_at hl 4 rfl) ?_
      refine lv_iload_n hx hb dX7_solves_121 rfl (lv_at hl 1 rfl) ?_
      refine lv_icmp_eq (tgt := 181) hx hb dX7_solves_122 (by decide) (fun c24 => ?_) (fun c24 => ?_)
      · replace hf := itp c24 hf
        obtain ⟨x7_25, ex7_25⟩ : ∃ y : Int32, y = x7 + (1 : Int32) := ⟨_, rfl⟩
        replace hf := lt_e ex7_25 hf
        refine lv_iinc (v := x7_25) (lv' := [(7, .int x7_25), (0, .ref (G.1 122)), (2, .int x2), (3, .int x3), (5, .long x5), (8, .long x8), (10, .int x10)]) hx hb dX7_solves_181 hl (k := 4) rfl (by rw [ex7_25]; rfl) (by decide) rfl (fun ls hl => ?_)
        refine lv_goto (tgt := 88) hx hb dX7_solves_184 (by decide) ?_
        exact hag88 _ _ _ _ _ hf  hh (lv_sub hl [1, 2, 3, 4, 0] rfl)
      · replace hf := itn c24 hf
        refine lv_aload_n hx hb dX7_solves_125 rfl (lv_at hl 0 rfl) ?_
        refine r_X7_48 (b' := 134) F hh in_122 sh_122 rfl dX7_solves_126 ?_
        refine lv_bipush (v := 9) hx hb dX7_solves_129 (by decide) ?_
        refine lv_iload hx hb dX7_solves_131 (lv_at hl 4 rfl) ?_
        refine lv_imul hx hb dX7_solves_133 ?_
        refine lv_iload hx hb dX7_solves_134 (lv_at hl 6 rfl) ?_
        refine lv_iadd hx hb dX7_solves_136 ?_
        refine lv_lload hx hb dX7_solves_137 (lv_at hl 3 rfl) ?_
        refine lv_aload_n hx hb dX7_solves_139 rfl (lv_at hl 0 rfl) ?_
        refine r_X7_48 (b' := 134) F hh in_122 sh_122 rfl dX7_solves_140 ?_
        refine lv_bipush (v := 9) hx hb dX7_solves_143 (by decide) ?_
        refine lv_iload hx hb dX7_solves_145 (lv_at hl 4 rfl) ?_
        refine lv_imul hx hb dX7_solves_147 ?_
        refine lv_iload hx hb dX7_solves_148 (lv_at hl 6 rfl) ?_
        refine lv_iadd hx hb dX7_solves_150 ?_
        obtain ⟨t26, ht26, hf⟩ := ob hf
        refine g_lald F hh in_134 sh_134 ht26 dX7_solves_151 ?_
        refine lv_lmul hx hb dX7_solves_152 ?_
        refine lv_lload hx hb dX7_solves_153 (lv_at hl 5 rfl) ?_
        refine lv_aload_n hx hb dX7_solves_155 rfl (lv_at hl 0 rfl) ?_
        refine r_X7_48 (b' := 134) F hh in_122 sh_122 rfl dX7_solves_156 ?_
        refine lv_bipush (v := 9) hx hb dX7_solves_159 (by decide) ?_
        refine lv_iload_n hx hb dX7_solves_161 rfl (lv_at hl 1 rfl) ?_
        refine lv_imul hx hb dX7_solves_162 ?_
        refine lv_iload hx hb dX7_solves_163 (lv_at hl 6 rfl) ?_
        refine lv_iadd hx hb dX7_solves_165 ?_
        obtain ⟨t27, ht27, hf⟩ := ob hf
        refine g_lald F hh in_134 sh_134 ht27 dX7_solves_166 ?_
        refine lv_lmul hx hb dX7_solves_167 ?_
        refine lv_lsub hx hb dX7_solves_168 ?_
        refine lv_aload_n hx hb dX7_solves_169 rfl (lv_at hl 0 rfl) ?_
        refine r_X7_198 F hh in_122 sh_122 dX7_solves_170 ?_
        obtain ⟨t28, ht28, hf⟩ := ob hf
        refine g_ldiv hx hb ht28 dX7_solves_173 ?_
        obtain ⟨z29, hz29, hf⟩ := ob hf
        refine g_last F hh in_134 sh_134 hz29 dX7_solves_174 (fun H locs hh => ?_)
        obtain ⟨x10_30, ex10_30⟩ : ∃ y : Int32, y = x10 + (1 : Int32) := ⟨_, rfl⟩
        replace hf := lt_e ex10_30 hf
        refine lv_iinc (v := x10_30) (lv' := [(10, .int x10_30), (0, .ref (G.1 122)), (2, .int x2), (3, .int x3), (5, .long x5), (7, .int x7), (8, .long x8)]) hx hb dX7_solves_175 hl (k := 6) rfl (by rw [ex10_30]; rfl) (by decide) rfl (fun ls hl => ?_)
        refine lv_goto (tgt := 112) hx hb dX7_solves_178 (by decide) ?_
        exact ih _ _ _ _ _ _ _ hf  hh (lv_sub hl [1, 2, 3, 4, 5, 6, 0] rfl)
set_option maxRecDepth 100000 in
set_option maxHeartbeats 4000000 in
theorem w_X7_solves_88 {ag21 : Int32 → Int32 → Sto → Option (Int32 × Sto)} {Z : Int32 × Sto} (F : Fx rM p s m args cd cX7_solves 11 RX7 G) (hr : meth.sig.returnType = (some .int)) (hlk : meth.locks = false) (hag21 : ∀ (x2 : Int32) (x3 : Int32) (z : Sto), ag21 x2 x3 z = some Z → ∀ {H : Heap} {locs : List Loc} {ls : Array Slot}, Hh rM G z s H locs → lv_has ls 11 [(0, .ref (G.1 122)), (2, .int x2), (3, .int x3)] → W p l e rmX7_solves s m args below meth cd H locs 0 0 (MQ below (QI rM G Z.1 Z.2) args s 0 0 (Am rM G)) (F0 m 21 ls [])) : ∀ (n : Nat), ∀ (x2 : Int32) (x3 : Int32) (x5 : Int64) (x7 : Int32) (z : Sto), wl5 (b_X7_solves_88 ag21) n x2 x3 x5 x7 z = some Z → ∀ {H : Heap} {locs : List Loc} {ls : Array Slot}, Hh rM G z s H locs → lv_has ls 11 [(0, .ref (G.1 122)), (2, .int x2), (3, .int x3), (5, .long x5), (7, .int x7)] → W p l e rmX7_solves s m args below meth cd H locs 0 0 (MQ below (QI rM G Z.1 Z.2) args s 0 0 (Am rM G)) (F0 m 88 ls []) := by
  have hx := F.1
  have hb := F.2.1
  intro n
  induction n with
  | zero =>
    intro x2 x3 x5 x7 z hf
    exact absurd hf (by intro h; cases h)
  | succ n ih =>
    intro x2 x3 x5 x7 z hf  H locs ls hh hl
    replace hf : b_X7_solves_88 ag21 (wl5 (b_X7_solves_88 ag21) n) x2 x3 x5 x7 z = some Z := hf
    unfold b_X7_solves_88 at hf
    refine lv_iload hx hb dX7_solves_88 (lv_at hl 4 rfl) ?_
    refine lv_bipush (v := 12) hx hb dX7_solves_90 (by decide) ?_
    refine lv_icmp_ge (tgt := 187) hx hb dX7_solves_92 (by decide) (fun c16 => ?_) (fun c16 => ?_)
    · replace hf := itp c16 hf
      refine lv_aload_n hx hb dX7_solves_187 rfl (lv_at hl 0 rfl) ?_
      refine lv_lload hx hb dX7_solves_188 (lv_at hl 3 rfl) ?_
      refine s_X7_198 F hh in_122 sh_122 dX7_solves_190 (fun z17 ez17 H locs hh => ?_)
      replace hf := lt_e ez17 hf
      refine lv_aload_n hx hb dX7_solves_193 rfl (lv_at hl 0 rfl) ?_
      refine r_X7_51 (b' := 135) F hh in_122 sh_122 rfl dX7_solves_194 ?_
      refine lv_iload_n hx hb dX7_solves_197 rfl (lv_at hl 1 rfl) ?_
      refine lv_iload_n hx hb dX7_solves_198 rfl (lv_at hl 2 rfl) ?_
      obtain ⟨z18, hz18, hf⟩ := ob hf
      refine g_iast F hh in_135 sh_135 hz18 dX7_solves_199 (fun H locs hh => ?_)
      obtain ⟨x2_19, ex2_19⟩ : ∃ y : Int32, y = x2 + (1 : Int32) := ⟨_, rfl⟩
      replace hf := lt_e ex2_19 hf
      refine lv_iinc (v := x2_19) (lv' := [(2, .int x2_19), (0, .ref (G.1 122)), (3, .int x3), (5, .long x5), (7, .int x7)]) hx hb dX7_solves_200 hl (k := 1) rfl (by rw [ex2_19]; rfl) (by decide) rfl (fun ls hl => ?_)
      obtain ⟨x3_20, ex3_20⟩ : ∃ y : Int32, y = x3 + (-1 : Int32) := ⟨_, rfl⟩
      replace hf := lt_e ex3_20 hf
      refine lv_iinc (v := x3_20) (lv' := [(3, .int x3_20), (2, .int x2_19), (0, .ref (G.1 122)), (5, .long x5), (7, .int x7)]) hx hb dX7_solves_203 hl (k := 2) rfl (by rw [ex3_20]; rfl) (by decide) rfl (fun ls hl => ?_)
      refine lv_goto (tgt := 21) hx hb dX7_solves_206 (by decide) ?_
      exact hag21 _ _ _ hf  hh (lv_sub hl [2, 1, 0] rfl)
    · replace hf := itn c16 hf
      refine lv_aload_n hx hb dX7_solves_95 rfl (lv_at hl 0 rfl) ?_
      refine r_X7_48 (b' := 134) F hh in_122 sh_122 rfl dX7_solves_96 ?_
      refine lv_bipush (v := 9) hx hb dX7_solves_99 (by decide) ?_
      refine lv_iload hx hb dX7_solves_101 (lv_at hl 4 rfl) ?_
      refine lv_imul hx hb dX7_solves_103 ?_
      refine lv_iload_n hx hb dX7_solves_104 rfl (lv_at hl 2 rfl) ?_
      refine lv_iadd hx hb dX7_solves_105 ?_
      obtain ⟨t21, ht21, hf⟩ := ob hf
      refine g_lald F hh in_134 sh_134 ht21 dX7_solves_106 ?_
      refine lv_lstore (lv' := [(8, .long t21), (0, .ref (G.1 122)), (2, .int x2), (3, .int x3), (5, .long x5), (7, .int x7)]) hx hb dX7_solves_107 hl (by decide) rfl (fun ls hl => ?_)
      refine lv_iconst (v := 0) hx hb dX7_solves_109 (by decide) ?_
      refine lv_istore (lv' := [(10, .int (0 : Int32)), (8, .long t21), (0, .ref (G.1 122)), (2, .int x2), (3, .int x3), (5, .long x5), (7, .int x7)]) hx hb dX7_solves_110 hl (by decide) rfl (fun ls hl => ?_)
      exact w_X7_solves_112 F hr hlk hag21 ih fu _ _ _ _ _ _ _ hf  hh (lv_sub hl [2, 3, 4, 5, 6, 1, 0] rfl)
set_option maxRecDepth 100000 in
set_option maxHeartbeats 4000000 in
theorem w_X7_solves_58 {ag21 : Int32 → Int32 → Sto → Option (Int32 × Sto)} {Z : Int32 × Sto} (F : Fx rM p s m args cd cX7_solves 11 RX7 G) (hr : meth.sig.returnType = (some .int)) (hlk : meth.locks = false) (hag21 : ∀ (x2 : Int32) (x3 : Int32) (z : Sto), ag21 x2 x3 z = some Z → ∀ {H : Heap} {locs : List Loc} {ls : Array Slot}, Hh rM G z s H locs → lv_has ls 11 [(0, .ref (G.1 122)), (2, .int x2), (3, .int x3)] → W p l e rmX7_solves s m args below meth cd H locs 0 0 (MQ below (QI rM G Z.1 Z.2) args s 0 0 (Am rM G)) (F0 m 21 ls [])) {x2 : Int32} {x3 : Int32} {x4 : Int32} {z : Sto} {H : Heap} {locs : List Loc} {ls : Array Slot} (hf : j_X7_solves_58 ag21 x2 x3 x4 z = some Z) (hh : Hh rM G z s H locs) (hl : lv_has ls 11 [(0, .ref (G.1 122)), (2, .int x2), (3, .int x3), (4, .int x4)]) : W p l e rmX7_solves s m args below meth cd H locs 0 0 (MQ below (QI rM G Z.1 Z.2) args s 0 0 (Am rM G)) (F0 m 58 ls []) := by
  have hx := F.1
  have hb := F.2.1
  unfold j_X7_solves_58 at hf
  refine lv_iload hx hb dX7_solves_58 (lv_at hl 3 rfl) ?_
  refine lv_bipush (v := 12) hx hb dX7_solves_60 (by decide) ?_
  refine lv_icmp_ge (tgt := 203) hx hb dX7_solves_62 (by decide) (fun c11 => ?_) (fun c11 => ?_)
  · replace hf := itp c11 hf
    obtain ⟨x3_12, ex3_12⟩ : ∃ y : Int32, y = x3 + (-1 : Int32) := ⟨_, rfl⟩
    replace hf := lt_e ex3_12 hf
    refine lv_iinc (v := x3_12) (lv' := [(3, .int x3_12), (0, .ref (G.1 122)), (2, .int x2), (4, .int x4)]) hx hb dX7_solves_203 hl (k := 2) rfl (by rw [ex3_12]; rfl) (by decide) rfl (fun ls hl => ?_)
    refine lv_goto (tgt := 21) hx hb dX7_solves_206 (by decide) ?_
    exact hag21 _ _ _ hf  hh (lv_sub hl [1, 2, 0] rfl)
  · replace hf := itn c11 hf
    refine lv_aload_n hx hb dX7_solves_65 rfl (lv_at hl 0 rfl) ?_
    refine lv_iload_n hx hb dX7_solves_66 rfl (lv_at hl 1 rfl) ?_
    refine lv_iload hx hb dX7_solves_67 (lv_at hl 3 rfl) ?_
    obtain ⟨z14, ht13, hf⟩ := ob hf
    refine m_X7_202 F hh (c_X7_swaps ht13) in_122 sh_122 rfl hl (Nat.le_of_ble_eq_true rfl) dX7_solves_69 (fun H locs hh => ?_)
    refine lv_aload_n hx hb dX7_solves_72 rfl (lv_at hl 0 rfl) ?_
    refine r_X7_48 (b' := 134) F hh in_122 sh_122 rfl dX7_solves_73 ?_
    refine lv_bipush (v := 9) hx hb dX7_solves_76 (by decide) ?_
    refine lv_iload_n hx hb dX7_solves_78 rfl (lv_at hl 1 rfl) ?_
    refine lv_imul hx hb dX7_solves_79 ?_
    refine lv_iload_n hx hb dX7_solves_80 rfl (lv_at hl 2 rfl) ?_
    refine lv_iadd hx hb dX7_solves_81 ?_
    obtain ⟨t15, ht15, hf⟩ := ob hf
    refine g_lald F hh in_134 sh_134 ht15 dX7_solves_82 ?_
    refine lv_lstore (lv' := [(5, .long t15), (0, .ref (G.1 122)), (2, .int x2), (3, .int x3), (4, .int x4)]) hx hb dX7_solves_83 hl (by decide) rfl (fun ls hl => ?_)
    refine lv_iconst (v := 0) hx hb dX7_solves_85 (by decide) ?_
    refine lv_istore (lv' := [(7, .int (0 : Int32)), (5, .long t15), (0, .ref (G.1 122)), (2, .int x2), (3, .int x3), (4, .int x4)]) hx hb dX7_solves_86 hl (by decide) rfl (fun ls hl => ?_)
    exact w_X7_solves_88 F hr hlk hag21 fu _ _ _ _ _ hf  hh (lv_sub hl [2, 3, 4, 1, 0] rfl)
set_option maxRecDepth 100000 in
set_option maxHeartbeats 4000000 in
theorem w_X7_solves_28 {ag21 : Int32 → Int32 → Sto → Option (Int32 × Sto)} {Z : Int32 × Sto} (F : Fx rM p s m args cd cX7_solves 11 RX7 G) (hr : meth.sig.returnType = (some .int)) (hlk : meth.locks = false) (hag21 : ∀ (x2 : Int32) (x3 : Int32) (z : Sto), ag21 x2 x3 z = some Z → ∀ {H : Heap} {locs : List Loc} {ls : Array Slot}, Hh rM G z s H locs → lv_has ls 11 [(0, .ref (G.1 122)), (2, .int x2), (3, .int x3)] → W p l e rmX7_solves s m args below meth cd H locs 0 0 (MQ below (QI rM G Z.1 Z.2) args s 0 0 (Am rM G)) (F0 m 21 ls [])) : ∀ (n : Nat), ∀ (x2 : Int32) (x3 : Int32) (x4 : Int32) (z : Sto), wl4 (b_X7_solves_28 ag21) n x2 x3 x4 z = some Z → ∀ {H : Heap} {locs : List Loc} {ls : Array Slot}, Hh rM G z s H locs → lv_has ls 11 [(0, .ref (G.1 122)), (2, .int x2), (3, .int x3), (4, .int x4)] → W p l e rmX7_solves s m args below meth cd H locs 0 0 (MQ below (QI rM G Z.1 Z.2) args s 0 0 (Am rM G)) (F0 m 28 ls []) := by
  have hx := F.1
  have hb := F.2.1
  intro n
  induction n with
  | zero =>
    intro x2 x3 x4 z hf
    exact absurd hf (by intro h; cases h)
  | succ n ih =>
    intro x2 x3 x4 z hf  H locs ls hh hl
    replace hf : b_X7_solves_28 ag21 (wl4 (b_X7_solves_28 ag21) n) x2 x3 x4 z = some Z := hf
    unfold b_X7_solves_28 at hf
    refine lv_iload hx hb dX7_solves_28 (lv_at hl 3 rfl) ?_
    refine lv_bipush (v := 12) hx hb dX7_solves_30 (by decide) ?_
    refine lv_icmp_ge (tgt := 58) hx hb dX7_solves_32 (by decide) (fun c7 => ?_) (fun c7 => ?_)
    · replace hf := itp c7 hf
      exact w_X7_solves_58 F hr hlk hag21 hf  hh (lv_sub hl [0, 1, 2, 3] rfl)
    · replace hf := itn c7 hf
      refine lv_aload_n hx hb dX7_solves_35 rfl (lv_at hl 0 rfl) ?_
      refine r_X7_48 (b' := 134) F hh in_122 sh_122 rfl dX7_solves_36 ?_
      refine lv_bipush (v := 9) hx hb dX7_solves_39 (by decide) ?_
      refine lv_iload hx hb dX7_solves_41 (lv_at hl 3 rfl) ?_
      refine lv_imul hx hb dX7_solves_43 ?_
      refine lv_iload_n hx hb dX7_solves_44 rfl (lv_at hl 2 rfl) ?_
      refine lv_iadd hx hb dX7_solves_45 ?_
      obtain ⟨t8, ht8, hf⟩ := ob hf
      refine g_lald F hh in_134 sh_134 ht8 dX7_solves_46 ?_
      refine lv_lconst (v := 0) hx hb dX7_solves_47 (by decide) ?_
      refine W.lcmp hx hb dX7_solves_48 ?_
      refine lv_if_ne (tgt := 58) hx hb dX7_solves_49 (by decide) (fun c9 => ?_) (fun c9 => ?_)
      · replace hf := itn c9 hf
        exact w_X7_solves_58 F hr hlk hag21 hf  hh (lv_sub hl [0, 1, 2, 3] rfl)
      · replace hf := itp c9 hf
        obtain ⟨x4_10, ex4_10⟩ : ∃ y : Int32, y = x4 + (1 : Int32) := ⟨_, rfl⟩
        replace hf := lt_e ex4_10 hf
        refine lv_iinc (v := x4_10) (lv' := [(4, .int x4_10), (0, .ref (G.1 122)), (2, .int x2), (3, .int x3)]) hx hb dX7_solves_52 hl (k := 3) rfl (by rw [ex4_10]; rfl) (by decide) rfl (fun ls hl => ?_)
        refine lv_goto (tgt := 28) hx hb dX7_solves_55 (by decide) ?_
        exact ih _ _ _ _ hf  hh (lv_sub hl [1, 2, 3, 0] rfl)
set_option maxRecDepth 100000 in
set_option maxHeartbeats 4000000 in
theorem w_X7_solves_21  {Z : Int32 × Sto} (F : Fx rM p s m args cd cX7_solves 11 RX7 G) (hr : meth.sig.returnType = (some .int)) (hlk : meth.locks = false)  : ∀ (n : Nat), ∀ (x2 : Int32) (x3 : Int32) (z : Sto), wl3 (b_X7_solves_21) n x2 x3 z = some Z → ∀ {H : Heap} {locs : List Loc} {ls : Array Slot}, Hh rM G z s H locs → lv_has ls 11 [(0, .ref (G.1 122)), (2, .int x2), (3, .int x3)] → W p l e rmX7_solves s m args below meth cd H locs 0 0 (MQ below (QI rM G Z.1 Z.2) args s 0 0 (Am rM G)) (F0 m 21 ls []) := by
  have hx := F.1
  have hb := F.2.1
  intro n
  induction n with
  | zero =>
    intro x2 x3 z hf
    exact absurd hf (by intro h; cases h)
  | succ n ih =>
    intro x2 x3 z hf  H locs ls hh hl
    replace hf : b_X7_solves_21 (wl3 (b_X7_solves_21) n) x2 x3 z = some Z := hf
    unfold b_X7_solves_21 at hf
    refine lv_iload_n hx hb dX7_solves_21 rfl (lv_at hl 2 rfl) ?_
    refine lv_if_lt (tgt := 209) hx hb dX7_solves_22 (by decide) (fun c6 => ?_) (fun c6 => ?_)
    · replace hf := itp c6 hf
      refine lv_iload_n hx hb dX7_solves_209 rfl (lv_at hl 1 rfl) ?_
      exact g_iretW F hr hlk hh hf dX7_solves_210
    · replace hf := itn c6 hf
      refine lv_iload_n hx hb dX7_solves_25 rfl (lv_at hl 1 rfl) ?_
      refine lv_istore (lv' := [(4, .int x2), (0, .ref (G.1 122)), (2, .int x2), (3, .int x3)]) hx hb dX7_solves_26 hl (by decide) rfl (fun ls hl => ?_)
      exact w_X7_solves_28 F hr hlk ih fu _ _ _ _ hf  hh (lv_sub hl [1, 2, 3, 0] rfl)
set_option maxRecDepth 100000 in
set_option maxHeartbeats 4000000 in
theorem w_X7_solves {Z : Int32 × Sto} (F : Fx rM p s m args cd cX7_solves 11 RX7 G) (hr : meth.sig.returnType = (some .int)) (hlk : meth.locks = false) {x1 : Int32} {z : Sto} {H : Heap} {locs : List Loc} {ls : Array Slot} (hf : f_X7_solves x1 z = some Z) (hh : Hh rM G z s H locs) (hl : lv_has ls 11 [(0, .ref (G.1 122)), (1, .int x1)]) : W p l e rmX7_solves s m args below meth cd H locs 0 0 (MQ below (QI rM G Z.1 Z.2) args s 0 0 (Am rM G)) (F0 m 0 ls []) := by
  have hx := F.1
  have hb := F.2.1
  unfold f_X7_solves at hf
  refine lv_aload_n hx hb dX7_solves_0 rfl (lv_at hl 0 rfl) ?_
  refine lv_iload_n hx hb dX7_solves_1 rfl (lv_at hl 1 rfl) ?_
  obtain ⟨z2, ht1, hf⟩ := ob hf
  refine m_X7_195 F hh (c_X7_laysCells ht1) in_122 sh_122 rfl hl (Nat.le_of_ble_eq_true rfl) dX7_solves_2 (fun H locs hh => ?_)
  refine lv_iconst (v := 0) hx hb dX7_solves_5 (by decide) ?_
  refine lv_istore_n (lv' := [(2, .int (0 : Int32)), (0, .ref (G.1 122)), (1, .int x1)]) hx hb dX7_solves_6 rfl hl (by decide) rfl (fun ls hl => ?_)
  refine lv_aload_n hx hb dX7_solves_7 rfl (lv_at hl 1 rfl) ?_
  refine lv_lconst (v := 1) hx hb dX7_solves_8 (by decide) ?_
  refine s_X7_198 F hh in_122 sh_122 dX7_solves_9 (fun z3 ez3 H locs hh => ?_)
  replace hf := lt_e ez3 hf
  refine lv_aload_n hx hb dX7_solves_12 rfl (lv_at hl 1 rfl) ?_
  refine r_X7_7 (b' := 123) F hh in_122 sh_122 rfl dX7_solves_13 ?_
  refine lv_iconst (v := 1) hx hb dX7_solves_16 (by decide) ?_
  obtain ⟨t4, ht4, hf⟩ := ob hf
  refine g_iald F hh in_123 sh_123 ht4 dX7_solves_17 ?_
  refine lv_iconst (v := 1) hx hb dX7_solves_18 (by decide) ?_
  refine lv_isub hx hb dX7_solves_19 ?_
  refine lv_topi (fun x3_5 ex3_5 => ?_)
  replace hf := lt_e ex3_5 hf
  refine lv_istore_n (lv' := [(3, .int x3_5), (2, .int (0 : Int32)), (0, .ref (G.1 122)), (1, .int x1)]) hx hb dX7_solves_20 rfl hl (by decide) rfl (fun ls hl => ?_)
  exact w_X7_solves_21 F hr hlk fu _ _ _ hf  hh (lv_sub hl [2, 1, 0] rfl)
theorem c_X7_solves {l : Launch} {G : Gm} {x1 : Int32} {z : Sto} {Z : Int32 × Sto} (hf : f_X7_solves x1 z = some Z) : Met l yX7_solves (Cond.code yX7_solves cX7_solves 11 (some .int) :: TT) rmX7_solves (va_Pc [.ref (G.1 122), .int x1] (GS rM G z)) (QI rM G Z.1 Z.2) 0 0 (Am rM G) := by
  refine g_met [(0, .ref (G.1 122)), (1, .int x1)] (by decide) (Nat.le_of_ble_eq_true rfl) rfl ?_
  intro p e s m below meth cd F hr hlk ls H locs hl hh
  exact w_X7_solves F hr hlk hf hh hl
def f_X7_allBars  (z : Sto) : Option (Int32) := bd (rdI z 123 42 (1 : Int32)) fun t1 => some (((1 : Int32) <<< (t1 &&& 31)) - (1 : Int32))
set_option maxRecDepth 100000 in
set_option maxHeartbeats 4000000 in
theorem w_X7_allBars {Z : Int32} (F : Fx rM p s m args cd cX7_allBars 1 RX7 G) (hr : meth.sig.returnType = (some .int)) (hlk : meth.locks = false)  {z : Sto} {H : Heap} {locs : List Loc} {ls : Array Slot} (hf : f_X7_allBars  z = some Z) (hh : Hh rM G z s H locs) (hl : lv_has ls 1 [(0, .ref (G.1 122))]) : W p l e rmX7_allBars s m args below meth cd H locs 0 0 (MQ below (QI rM G Z z) args s 0 0 (Am rM G)) (F0 m 0 ls []) := by
  have hx := F.1
  have hb := F.2.1
  unfold f_X7_allBars at hf
  refine lv_iconst (v := 1) hx hb dX7_allBars_0 (by decide) ?_
  refine lv_aload_n hx hb dX7_allBars_1 rfl (lv_at hl 0 rfl) ?_
  refine r_X7_7 (b' := 123) F hh in_122 sh_122 rfl dX7_allBars_2 ?_
  refine lv_iconst (v := 1) hx hb dX7_allBars_5 (by decide) ?_
  obtain ⟨t1, ht1, hf⟩ := ob hf
  refine g_iald F hh in_123 sh_123 ht1 dX7_allBars_6 ?_
  refine lv_ishl hx hb dX7_allBars_7 ?_
  refine lv_iconst (v := 1) hx hb dX7_allBars_8 (by decide) ?_
  refine lv_isub hx hb dX7_allBars_9 ?_
  exact g_iret F hr hlk hh (Option.some.inj hf) rfl dX7_allBars_10
theorem c_X7_allBars {l : Launch} {G : Gm}  {z : Sto} {Z : Int32} (hf : f_X7_allBars  z = some Z) : Met l yX7_allBars (Cond.code yX7_allBars cX7_allBars 1 (some .int) :: TT) rmX7_allBars (va_Pc [.ref (G.1 122)] (GS rM G z)) (QI rM G Z z) 0 0 (Am rM G) := by
  refine g_met [(0, .ref (G.1 122))] (by decide) (Nat.le_of_ble_eq_true rfl) rfl ?_
  intro p e s m below meth cd F hr hlk ls H locs hl hh
  exact w_X7_allBars F hr hlk hf hh hl
def f_X7_laysAll  (z : Sto) : Option (Sto) := bd (f_X7_allBars z) fun t1 => bd2 (f_X7_solves t1 z) fun t2 z3 => lt (upI z3 122 17 t2) fun z4 => some z4
set_option maxRecDepth 100000 in
set_option maxHeartbeats 4000000 in
theorem w_X7_laysAll {Z : Sto} (F : Fx rM p s m args cd cX7_laysAll 1 RX7 G) (hr : meth.sig.returnType = none) (hlk : meth.locks = false)  {z : Sto} {H : Heap} {locs : List Loc} {ls : Array Slot} (hf : f_X7_laysAll  z = some Z) (hh : Hh rM G z s H locs) (hl : lv_has ls 1 [(0, .ref (G.1 122))]) : W p l e rmX7_laysAll s m args below meth cd H locs 0 0 (MQ below (QV rM G Z) args s 0 0 (Am rM G)) (F0 m 0 ls []) := by
  have hx := F.1
  have hb := F.2.1
  unfold f_X7_laysAll at hf
  refine lv_aload_n hx hb dX7_laysAll_0 rfl (lv_at hl 0 rfl) ?_
  refine lv_aload_n hx hb dX7_laysAll_1 rfl (lv_at hl 0 rfl) ?_
  refine lv_aload_n hx hb dX7_laysAll_2 rfl (lv_at hl 0 rfl) ?_
  obtain ⟨t1, ht1, hf⟩ := ob hf
  refine m_X7_206 F hh (c_X7_allBars ht1) in_122 sh_122 rfl hl (Nat.le_of_ble_eq_true rfl) dX7_laysAll_3 (fun H locs hh => ?_)
  obtain ⟨t2, z3, ht2, hf⟩ := ob2 hf
  refine m_X7_210 (r := t2) (σ' := z3) F hh (c_X7_solves ht2) in_122 sh_122 rfl hl (Nat.le_of_ble_eq_true rfl) dX7_laysAll_6 (fun H locs hh => ?_)
  refine s_X7_213 F hh in_122 sh_122 dX7_laysAll_9 (fun z4 ez4 H locs hh => ?_)
  replace hf := lt_e ez4 hf
  exact g_vret F hr hlk hh (Option.some.inj hf) dX7_laysAll_12
theorem c_X7_laysAll {l : Launch} {G : Gm}  {z : Sto} {Z : Sto} (hf : f_X7_laysAll  z = some Z) : Met l yX7_laysAll (Cond.code yX7_laysAll cX7_laysAll 1 none :: TT) rmX7_laysAll (va_Pc [.ref (G.1 122)] (GS rM G z)) (QV rM G Z) 0 0 (Am rM G) := by
  refine g_met [(0, .ref (G.1 122))] (by decide) (Nat.le_of_ble_eq_true rfl) rfl ?_
  intro p e s m below meth cd F hr hlk ls H locs hl hh
  exact w_X7_laysAll F hr hlk hf hh hl
def b_X7_rowOf_5 (z : Sto)  (ag5 : Int32 → Int32 → Int32 → Option (Int32)) (x1 : Int32) (x2 : Int32) (x3 : Int32) : Option (Int32) := if (z.1 122 17) ≤ x3 then (some x2) else (bd (rdI z 135 12 x3) fun t2 => if t2 = x1 then (lt (x3 + (1 : Int32)) fun x3_5 => ag5 x1 x3 x3_5) else (lt (x3 + (1 : Int32)) fun x3_4 => ag5 x1 x2 x3_4))
def f_X7_rowOf (x1 : Int32) (z : Sto) : Option (Int32) := wl3 (b_X7_rowOf_5 z) fu x1 (-4 : Int32) (0 : Int32)
set_option maxRecDepth 100000 in
set_option maxHeartbeats 4000000 in
theorem w_X7_rowOf_5 {z : Sto}  {Z : Int32} (F : Fx rM p s m args cd cX7_rowOf 4 RX7 G) (hr : meth.sig.returnType = (some .int)) (hlk : meth.locks = false)  : ∀ (n : Nat), ∀ (x1 : Int32) (x2 : Int32) (x3 : Int32), wl3 (b_X7_rowOf_5 z) n x1 x2 x3 = some Z → ∀ {H : Heap} {locs : List Loc} {ls : Array Slot}, Hh rM G z s H locs → lv_has ls 4 [(0, .ref (G.1 122)), (1, .int x1), (2, .int x2), (3, .int x3)] → W p l e rmX7_rowOf s m args below meth cd H locs 0 0 (MQ below (QI rM G Z z) args s 0 0 (Am rM G)) (F0 m 5 ls []) := by
  have hx := F.1
  have hb := F.2.1
  intro n
  induction n with
  | zero =>
    intro x1 x2 x3 hf
    exact absurd hf (by intro h; cases h)
  | succ n ih =>
    intro x1 x2 x3 hf  H locs ls hh hl
    replace hf : b_X7_rowOf_5 z (wl3 (b_X7_rowOf_5 z) n) x1 x2 x3 = some Z := hf
    unfold b_X7_rowOf_5 at hf
    refine lv_iload_n hx hb dX7_rowOf_5 rfl (lv_at hl 3 rfl) ?_
    refine lv_aload_n hx hb dX7_rowOf_6 rfl (lv_at hl 0 rfl) ?_
    refine r_X7_213 F hh in_122 sh_122 dX7_rowOf_7 ?_
    refine lv_icmp_ge (tgt := 35) hx hb dX7_rowOf_10 (by decide) (fun c1 => ?_) (fun c1 => ?_)
    · replace hf := itp c1 hf
      refine lv_iload_n hx hb dX7_rowOf_35 rfl (lv_at hl 2 rfl) ?_
      exact g_iret F hr hlk hh (Option.some.inj hf) rfl dX7_rowOf_36
    · replace hf := itn c1 hf
      refine lv_aload_n hx hb dX7_rowOf_13 rfl (lv_at hl 0 rfl) ?_
      refine r_X7_51 (b' := 135) F hh in_122 sh_122 rfl dX7_rowOf_14 ?_
      refine lv_iload_n hx hb dX7_rowOf_17 rfl (lv_at hl 3 rfl) ?_
      obtain ⟨t2, ht2, hf⟩ := ob hf
      refine g_iald F hh in_135 sh_135 ht2 dX7_rowOf_18 ?_
      refine lv_iload_n hx hb dX7_rowOf_19 rfl (lv_at hl 1 rfl) ?_
      refine lv_icmp_ne (tgt := 27) hx hb dX7_rowOf_20 (by decide) (fun c3 => ?_) (fun c3 => ?_)
      · replace hf := itn c3 hf
        refine lv_iload_n hx hb dX7_rowOf_27 rfl (lv_at hl 2 rfl) ?_
        refine lv_istore_n (lv' := [(2, .int x2), (0, .ref (G.1 122)), (1, .int x1), (3, .int x3)]) hx hb dX7_rowOf_28 rfl hl (by decide) rfl (fun ls hl => ?_)
        obtain ⟨x3_4, ex3_4⟩ : ∃ y : Int32, y = x3 + (1 : Int32) := ⟨_, rfl⟩
        replace hf := lt_e ex3_4 hf
        refine lv_iinc (v := x3_4) (lv' := [(3, .int x3_4), (2, .int x2), (0, .ref (G.1 122)), (1, .int x1)]) hx hb dX7_rowOf_29 hl (k := 3) rfl (by rw [ex3_4]; rfl) (by decide) rfl (fun ls hl => ?_)
        refine lv_goto (tgt := 5) hx hb dX7_rowOf_32 (by decide) ?_
        exact ih _ _ _ hf  hh (lv_sub hl [2, 3, 1, 0] rfl)
      · replace hf := itp c3 hf
        refine lv_iload_n hx hb dX7_rowOf_23 rfl (lv_at hl 3 rfl) ?_
        refine lv_goto (tgt := 28) hx hb dX7_rowOf_24 (by decide) ?_
        refine lv_istore_n (lv' := [(2, .int x3), (0, .ref (G.1 122)), (1, .int x1), (3, .int x3)]) hx hb dX7_rowOf_28 rfl hl (by decide) rfl (fun ls hl => ?_)
        obtain ⟨x3_5, ex3_5⟩ : ∃ y : Int32, y = x3 + (1 : Int32) := ⟨_, rfl⟩
        replace hf := lt_e ex3_5 hf
        refine lv_iinc (v := x3_5) (lv' := [(3, .int x3_5), (2, .int x3), (0, .ref (G.1 122)), (1, .int x1)]) hx hb dX7_rowOf_29 hl (k := 3) rfl (by rw [ex3_5]; rfl) (by decide) rfl (fun ls hl => ?_)
        refine lv_goto (tgt := 5) hx hb dX7_rowOf_32 (by decide) ?_
        exact ih _ _ _ hf  hh (lv_sub hl [2, 3, 1, 0] rfl)
set_option maxRecDepth 100000 in
set_option maxHeartbeats 4000000 in
theorem w_X7_rowOf {Z : Int32} (F : Fx rM p s m args cd cX7_rowOf 4 RX7 G) (hr : meth.sig.returnType = (some .int)) (hlk : meth.locks = false) {x1 : Int32} {z : Sto} {H : Heap} {locs : List Loc} {ls : Array Slot} (hf : f_X7_rowOf x1 z = some Z) (hh : Hh rM G z s H locs) (hl : lv_has ls 4 [(0, .ref (G.1 122)), (1, .int x1)]) : W p l e rmX7_rowOf s m args below meth cd H locs 0 0 (MQ below (QI rM G Z z) args s 0 0 (Am rM G)) (F0 m 0 ls []) := by
  have hx := F.1
  have hb := F.2.1
  unfold f_X7_rowOf at hf
  refine lv_bipush (v := -4) hx hb dX7_rowOf_0 (by decide) ?_
  refine lv_istore_n (lv' := [(2, .int (-4 : Int32)), (0, .ref (G.1 122)), (1, .int x1)]) hx hb dX7_rowOf_2 rfl hl (by decide) rfl (fun ls hl => ?_)
  refine lv_iconst (v := 0) hx hb dX7_rowOf_3 (by decide) ?_
  refine lv_istore_n (lv' := [(3, .int (0 : Int32)), (2, .int (-4 : Int32)), (0, .ref (G.1 122)), (1, .int x1)]) hx hb dX7_rowOf_4 rfl hl (by decide) rfl (fun ls hl => ?_)
  exact w_X7_rowOf_5 F hr hlk fu _ _ _ hf  hh (lv_sub hl [2, 3, 1, 0] rfl)
theorem c_X7_rowOf {l : Launch} {G : Gm} {x1 : Int32} {z : Sto} {Z : Int32} (hf : f_X7_rowOf x1 z = some Z) : Met l yX7_rowOf (Cond.code yX7_rowOf cX7_rowOf 4 (some .int) :: TT) rmX7_rowOf (va_Pc [.ref (G.1 122), .int x1] (GS rM G z)) (QI rM G Z z) 0 0 (Am rM G) := by
  refine g_met [(0, .ref (G.1 122)), (1, .int x1)] (by decide) (Nat.le_of_ble_eq_true rfl) rfl ?_
  intro p e s m below meth cd F hr hlk ls H locs hl hh
  exact w_X7_rowOf F hr hlk hf hh hl
def b_X7_leader_4 (z : Sto)  (ag4 : Int32 → Int32 → Option (Int32)) (x2 : Int32) (x3 : Int32) : Option (Int32) := bd (rdI z 123 42 (1 : Int32)) fun t1 => if t1 ≤ x3 then (some (-4 : Int32)) else (bd (f_X7_rowOf x3 z) fun t3 => if 0 ≤ t3 then (lt (x3 + (1 : Int32)) fun x3_5 => ag4 x2 x3_5) else (if x2 = 0 then (some x3) else (lt (x2 + (-1 : Int32)) fun x2_7 => lt (x3 + (1 : Int32)) fun x3_8 => ag4 x2_7 x3_8)))
def f_X7_leader (x1 : Int32) (z : Sto) : Option (Int32) := wl2 (b_X7_leader_4 z) fu x1 (0 : Int32)
set_option maxRecDepth 100000 in
set_option maxHeartbeats 4000000 in
theorem w_X7_leader_4 {z : Sto}  {Z : Int32} (F : Fx rM p s m args cd cX7_leader 4 RX7 G) (hr : meth.sig.returnType = (some .int)) (hlk : meth.locks = false)  : ∀ (n : Nat), ∀ (x2 : Int32) (x3 : Int32), wl2 (b_X7_leader_4 z) n x2 x3 = some Z → ∀ {H : Heap} {locs : List Loc} {ls : Array Slot}, Hh rM G z s H locs → lv_has ls 4 [(0, .ref (G.1 122)), (2, .int x2), (3, .int x3)] → W p l e rmX7_leader s m args below meth cd H locs 0 0 (MQ below (QI rM G Z z) args s 0 0 (Am rM G)) (F0 m 4 ls []) := by
  have hx := F.1
  have hb := F.2.1
  intro n
  induction n with
  | zero =>
    intro x2 x3 hf
    exact absurd hf (by intro h; cases h)
  | succ n ih =>
    intro x2 x3 hf  H locs ls hh hl
    replace hf : b_X7_leader_4 z (wl2 (b_X7_leader_4 z) n) x2 x3 = some Z := hf
    unfold b_X7_leader_4 at hf
    refine lv_iload_n hx hb dX7_leader_4 rfl (lv_at hl 2 rfl) ?_
    refine lv_aload_n hx hb dX7_leader_5 rfl (lv_at hl 0 rfl) ?_
    refine r_X7_7 (b' := 123) F hh in_122 sh_122 rfl dX7_leader_6 ?_
    refine lv_iconst (v := 1) hx hb dX7_leader_9 (by decide) ?_
    obtain ⟨t1, ht1, hf⟩ := ob hf
    refine g_iald F hh in_123 sh_123 ht1 dX7_leader_10 ?_
    refine lv_icmp_ge (tgt := 37) hx hb dX7_leader_11 (by decide) (fun c2 => ?_) (fun c2 => ?_)
    · replace hf := itp c2 hf
      refine lv_bipush (v := -4) hx hb dX7_leader_37 (by decide) ?_
      exact g_iret F hr hlk hh (Option.some.inj hf) rfl dX7_leader_39
    · replace hf := itn c2 hf
      refine lv_aload_n hx hb dX7_leader_14 rfl (lv_at hl 0 rfl) ?_
      refine lv_iload_n hx hb dX7_leader_15 rfl (lv_at hl 2 rfl) ?_
      obtain ⟨t3, ht3, hf⟩ := ob hf
      refine m_X7_216 F hh (c_X7_rowOf ht3) in_122 sh_122 rfl hl (Nat.le_of_ble_eq_true rfl) dX7_leader_16 (fun H locs hh => ?_)
      refine lv_if_ge (tgt := 31) hx hb dX7_leader_19 (by decide) (fun c4 => ?_) (fun c4 => ?_)
      · replace hf := itp c4 hf
        obtain ⟨x3_5, ex3_5⟩ : ∃ y : Int32, y = x3 + (1 : Int32) := ⟨_, rfl⟩
        replace hf := lt_e ex3_5 hf
        refine lv_iinc (v := x3_5) (lv' := [(3, .int x3_5), (0, .ref (G.1 122)), (2, .int x2)]) hx hb dX7_leader_31 hl (k := 2) rfl (by rw [ex3_5]; rfl) (by decide) rfl (fun ls hl => ?_)
        refine lv_goto (tgt := 4) hx hb dX7_leader_34 (by decide) ?_
        exact ih _ _ hf  hh (lv_sub hl [1, 2, 0] rfl)
      · replace hf := itn c4 hf
        refine lv_iload_n hx hb dX7_leader_22 rfl (lv_at hl 1 rfl) ?_
        refine lv_if_ne (tgt := 28) hx hb dX7_leader_23 (by decide) (fun c6 => ?_) (fun c6 => ?_)
        · replace hf := itn c6 hf
          obtain ⟨x2_7, ex2_7⟩ : ∃ y : Int32, y = x2 + (-1 : Int32) := ⟨_, rfl⟩
          replace hf := lt_e ex2_7 hf
          refine lv_iinc (v := x2_7) (lv' := [(2, .int x2_7), (0, .ref (G.1 122)), (3, .int x3)]) hx hb dX7_leader_28 hl (k := 1) rfl (by rw [ex2_7]; rfl) (by decide) rfl (fun ls hl => ?_)
          obtain ⟨x3_8, ex3_8⟩ : ∃ y : Int32, y = x3 + (1 : Int32) := ⟨_, rfl⟩
          replace hf := lt_e ex3_8 hf
          refine lv_iinc (v := x3_8) (lv' := [(3, .int x3_8), (2, .int x2_7), (0, .ref (G.1 122))]) hx hb dX7_leader_31 hl (k := 2) rfl (by rw [ex3_8]; rfl) (by decide) rfl (fun ls hl => ?_)
          refine lv_goto (tgt := 4) hx hb dX7_leader_34 (by decide) ?_
          exact ih _ _ hf  hh (lv_sub hl [2, 1, 0] rfl)
        · replace hf := itp c6 hf
          refine lv_iload_n hx hb dX7_leader_26 rfl (lv_at hl 2 rfl) ?_
          exact g_iret F hr hlk hh (Option.some.inj hf) rfl dX7_leader_27
set_option maxRecDepth 100000 in
set_option maxHeartbeats 4000000 in
theorem w_X7_leader {Z : Int32} (F : Fx rM p s m args cd cX7_leader 4 RX7 G) (hr : meth.sig.returnType = (some .int)) (hlk : meth.locks = false) {x1 : Int32} {z : Sto} {H : Heap} {locs : List Loc} {ls : Array Slot} (hf : f_X7_leader x1 z = some Z) (hh : Hh rM G z s H locs) (hl : lv_has ls 4 [(0, .ref (G.1 122)), (1, .int x1)]) : W p l e rmX7_leader s m args below meth cd H locs 0 0 (MQ below (QI rM G Z z) args s 0 0 (Am rM G)) (F0 m 0 ls []) := by
  have hx := F.1
  have hb := F.2.1
  unfold f_X7_leader at hf
  refine lv_iload_n hx hb dX7_leader_0 rfl (lv_at hl 1 rfl) ?_
  refine lv_istore_n (lv' := [(2, .int x1), (0, .ref (G.1 122)), (1, .int x1)]) hx hb dX7_leader_1 rfl hl (by decide) rfl (fun ls hl => ?_)
  refine lv_iconst (v := 0) hx hb dX7_leader_2 (by decide) ?_
  refine lv_istore_n (lv' := [(3, .int (0 : Int32)), (2, .int x1), (0, .ref (G.1 122)), (1, .int x1)]) hx hb dX7_leader_3 rfl hl (by decide) rfl (fun ls hl => ?_)
  exact w_X7_leader_4 F hr hlk fu _ _ hf  hh (lv_sub hl [2, 1, 0] rfl)
theorem c_X7_leader {l : Launch} {G : Gm} {x1 : Int32} {z : Sto} {Z : Int32} (hf : f_X7_leader x1 z = some Z) : Met l yX7_leader (Cond.code yX7_leader cX7_leader 4 (some .int) :: TT) rmX7_leader (va_Pc [.ref (G.1 122), .int x1] (GS rM G z)) (QI rM G Z z) 0 0 (Am rM G) := by
  refine g_met [(0, .ref (G.1 122)), (1, .int x1)] (by decide) (Nat.le_of_ble_eq_true rfl) rfl ?_
  intro p e s m below meth cd F hr hlk ls H locs hl hh
  exact w_X7_leader F hr hlk hf hh hl
def f_X7_partOf (x1 : Int32) (x2 : Int32) (z : Sto) : Option (Int64) := bd (f_X7_leader x1 z) fun t1 => bd (f_X7_rowOf x2 z) fun t2 => if 0 ≤ t2 then (bd (rdL z 134 108 (((9 : Int32) * t2) + t1)) fun t4 => some (-t4)) else (if x2 = t1 then (some (z.2 122 16)) else (some (0 : Int64)))
set_option maxRecDepth 100000 in
set_option maxHeartbeats 4000000 in
theorem w_X7_partOf {Z : Int64} (F : Fx rM p s m args cd cX7_partOf 5 RX7 G) (hr : meth.sig.returnType = (some .long)) (hlk : meth.locks = false) {x1 : Int32} {x2 : Int32} {z : Sto} {H : Heap} {locs : List Loc} {ls : Array Slot} (hf : f_X7_partOf x1 x2 z = some Z) (hh : Hh rM G z s H locs) (hl : lv_has ls 5 [(0, .ref (G.1 122)), (1, .int x1), (2, .int x2)]) : W p l e rmX7_partOf s m args below meth cd H locs 0 0 (MQ below (QL rM G Z z) args s 0 0 (Am rM G)) (F0 m 0 ls []) := by
  have hx := F.1
  have hb := F.2.1
  unfold f_X7_partOf at hf
  refine lv_aload_n hx hb dX7_partOf_0 rfl (lv_at hl 0 rfl) ?_
  refine lv_iload_n hx hb dX7_partOf_1 rfl (lv_at hl 1 rfl) ?_
  obtain ⟨t1, ht1, hf⟩ := ob hf
  refine m_X7_219 F hh (c_X7_leader ht1) in_122 sh_122 rfl hl (Nat.le_of_ble_eq_true rfl) dX7_partOf_2 (fun H locs hh => ?_)
  refine lv_istore_n (lv' := [(3, .int t1), (0, .ref (G.1 122)), (1, .int x1), (2, .int x2)]) hx hb dX7_partOf_5 rfl hl (by decide) rfl (fun ls hl => ?_)
  refine lv_aload_n hx hb dX7_partOf_6 rfl (lv_at hl 1 rfl) ?_
  refine lv_iload_n hx hb dX7_partOf_7 rfl (lv_at hl 3 rfl) ?_
  obtain ⟨t2, ht2, hf⟩ := ob hf
  refine m_X7_216 F hh (c_X7_rowOf ht2) in_122 sh_122 rfl hl (Nat.le_of_ble_eq_true rfl) dX7_partOf_8 (fun H locs hh => ?_)
  refine lv_istore (lv' := [(4, .int t2), (3, .int t1), (0, .ref (G.1 122)), (1, .int x1), (2, .int x2)]) hx hb dX7_partOf_11 hl (by decide) rfl (fun ls hl => ?_)
  refine lv_iload hx hb dX7_partOf_13 (lv_at hl 0 rfl) ?_
  refine lv_if_ge (tgt := 34) hx hb dX7_partOf_15 (by decide) (fun c3 => ?_) (fun c3 => ?_)
  · replace hf := itp c3 hf
    refine lv_aload_n hx hb dX7_partOf_34 rfl (lv_at hl 2 rfl) ?_
    refine r_X7_48 (b' := 134) F hh in_122 sh_122 rfl dX7_partOf_35 ?_
    refine lv_bipush (v := 9) hx hb dX7_partOf_38 (by decide) ?_
    refine lv_iload hx hb dX7_partOf_40 (lv_at hl 0 rfl) ?_
    refine lv_imul hx hb dX7_partOf_42 ?_
    refine lv_iload_n hx hb dX7_partOf_43 rfl (lv_at hl 1 rfl) ?_
    refine lv_iadd hx hb dX7_partOf_44 ?_
    obtain ⟨t4, ht4, hf⟩ := ob hf
    refine g_lald F hh in_134 sh_134 ht4 dX7_partOf_45 ?_
    refine lv_lneg hx hb dX7_partOf_46 ?_
    exact g_lret F hr hlk hh (Option.some.inj hf) rfl dX7_partOf_47
  · replace hf := itn c3 hf
    refine lv_iload_n hx hb dX7_partOf_18 rfl (lv_at hl 4 rfl) ?_
    refine lv_iload_n hx hb dX7_partOf_19 rfl (lv_at hl 1 rfl) ?_
    refine lv_icmp_ne (tgt := 30) hx hb dX7_partOf_20 (by decide) (fun c5 => ?_) (fun c5 => ?_)
    · replace hf := itn c5 hf
      refine lv_lconst (v := 0) hx hb dX7_partOf_30 (by decide) ?_
      refine lv_goto (tgt := 47) hx hb dX7_partOf_31 (by decide) ?_
      exact g_lret F hr hlk hh (Option.some.inj hf) rfl dX7_partOf_47
    · replace hf := itp c5 hf
      refine lv_aload_n hx hb dX7_partOf_23 rfl (lv_at hl 2 rfl) ?_
      refine r_X7_198 F hh in_122 sh_122 dX7_partOf_24 ?_
      refine lv_goto (tgt := 47) hx hb dX7_partOf_27 (by decide) ?_
      exact g_lret F hr hlk hh (Option.some.inj hf) rfl dX7_partOf_47
theorem c_X7_partOf {l : Launch} {G : Gm} {x1 : Int32} {x2 : Int32} {z : Sto} {Z : Int64} (hf : f_X7_partOf x1 x2 z = some Z) : Met l yX7_partOf (Cond.code yX7_partOf cX7_partOf 5 (some .long) :: TT) rmX7_partOf (va_Pc [.ref (G.1 122), .int x1, .int x2] (GS rM G z)) (QL rM G Z z) 0 0 (Am rM G) := by
  refine g_met [(0, .ref (G.1 122)), (1, .int x1), (2, .int x2)] (by decide) (Nat.le_of_ble_eq_true rfl) rfl ?_
  intro p e s m below meth cd F hr hlk ls H locs hl hh
  exact w_X7_partOf F hr hlk hf hh hl
def b_X7_pullOf_5 (z : Sto)  (ag5 : Int32 → Int64 → Int32 → Option (Int64)) (x1 : Int32) (x2 : Int64) (x4 : Int32) : Option (Int64) := bd (rdI z 123 42 (1 : Int32)) fun t1 => if (t1 - (z.1 122 17)) ≤ x4 then (some x2) else (bd (rdI z 123 42 ((33 : Int32) + x4)) fun t3 => bd (f_X7_partOf x4 x1 z) fun t4 => lt ((x2 + ((Int32.toInt64 t3) * t4))) fun x2_5 => lt (x4 + (1 : Int32)) fun x4_6 => ag5 x1 x2_5 x4_6)
def f_X7_pullOf (x1 : Int32) (z : Sto) : Option (Int64) := wl3 (b_X7_pullOf_5 z) fu x1 (0 : Int64) (0 : Int32)
set_option maxRecDepth 100000 in
set_option maxHeartbeats 4000000 in
theorem w_X7_pullOf_5 {z : Sto}  {Z : Int64} (F : Fx rM p s m args cd cX7_pullOf 5 RX7 G) (hr : meth.sig.returnType = (some .long)) (hlk : meth.locks = false)  : ∀ (n : Nat), ∀ (x1 : Int32) (x2 : Int64) (x4 : Int32), wl3 (b_X7_pullOf_5 z) n x1 x2 x4 = some Z → ∀ {H : Heap} {locs : List Loc} {ls : Array Slot}, Hh rM G z s H locs → lv_has ls 5 [(0, .ref (G.1 122)), (1, .int x1), (2, .long x2), (4, .int x4)] → W p l e rmX7_pullOf s m args below meth cd H locs 0 0 (MQ below (QL rM G Z z) args s 0 0 (Am rM G)) (F0 m 5 ls []) := by
  have hx := F.1
  have hb := F.2.1
  intro n
  induction n with
  | zero =>
    intro x1 x2 x4 hf
    exact absurd hf (by intro h; cases h)
  | succ n ih =>
    intro x1 x2 x4 hf  H locs ls hh hl
    replace hf : b_X7_pullOf_5 z (wl3 (b_X7_pullOf_5 z) n) x1 x2 x4 = some Z := hf
    unfold b_X7_pullOf_5 at hf
    refine lv_iload hx hb dX7_pullOf_5 (lv_at hl 3 rfl) ?_
    refine lv_aload_n hx hb dX7_pullOf_7 rfl (lv_at hl 0 rfl) ?_
    refine r_X7_7 (b' := 123) F hh in_122 sh_122 rfl dX7_pullOf_8 ?_
    refine lv_iconst (v := 1) hx hb dX7_pullOf_11 (by decide) ?_
    obtain ⟨t1, ht1, hf⟩ := ob hf
    refine g_iald F hh in_123 sh_123 ht1 dX7_pullOf_12 ?_
    refine lv_aload_n hx hb dX7_pullOf_13 rfl (lv_at hl 0 rfl) ?_
    refine r_X7_213 F hh in_122 sh_122 dX7_pullOf_14 ?_
    refine lv_isub hx hb dX7_pullOf_17 ?_
    refine lv_icmp_ge (tgt := 49) hx hb dX7_pullOf_18 (by decide) (fun c2 => ?_) (fun c2 => ?_)
    · replace hf := itp c2 hf
      refine lv_lload_n hx hb dX7_pullOf_49 rfl (lv_at hl 2 rfl) ?_
      exact g_lret F hr hlk hh (Option.some.inj hf) rfl dX7_pullOf_50
    · replace hf := itn c2 hf
      refine lv_lload_n hx hb dX7_pullOf_21 rfl (lv_at hl 2 rfl) ?_
      refine lv_aload_n hx hb dX7_pullOf_22 rfl (lv_at hl 0 rfl) ?_
      refine r_X7_7 (b' := 123) F hh in_122 sh_122 rfl dX7_pullOf_23 ?_
      refine lv_bipush (v := 33) hx hb dX7_pullOf_26 (by decide) ?_
      refine lv_iload hx hb dX7_pullOf_28 (lv_at hl 3 rfl) ?_
      refine lv_iadd hx hb dX7_pullOf_30 ?_
      obtain ⟨t3, ht3, hf⟩ := ob hf
      refine g_iald F hh in_123 sh_123 ht3 dX7_pullOf_31 ?_
      refine lv_i2l hx hb dX7_pullOf_32 rfl ?_
      refine lv_aload_n hx hb dX7_pullOf_33 rfl (lv_at hl 0 rfl) ?_
      refine lv_iload hx hb dX7_pullOf_34 (lv_at hl 3 rfl) ?_
      refine lv_iload_n hx hb dX7_pullOf_36 rfl (lv_at hl 1 rfl) ?_
      obtain ⟨t4, ht4, hf⟩ := ob hf
      refine m_X7_222 F hh (c_X7_partOf ht4) in_122 sh_122 rfl hl (Nat.le_of_ble_eq_true rfl) dX7_pullOf_37 (fun H locs hh => ?_)
      refine lv_lmul hx hb dX7_pullOf_40 ?_
      refine lv_ladd hx hb dX7_pullOf_41 ?_
      refine lv_topl (fun x2_5 ex2_5 => ?_)
      replace hf := lt_e ex2_5 hf
      refine lv_lstore_n (lv' := [(2, .long x2_5), (0, .ref (G.1 122)), (1, .int x1), (4, .int x4)]) hx hb dX7_pullOf_42 rfl hl (by decide) rfl (fun ls hl => ?_)
      obtain ⟨x4_6, ex4_6⟩ : ∃ y : Int32, y = x4 + (1 : Int32) := ⟨_, rfl⟩
      replace hf := lt_e ex4_6 hf
      refine lv_iinc (v := x4_6) (lv' := [(4, .int x4_6), (2, .long x2_5), (0, .ref (G.1 122)), (1, .int x1)]) hx hb dX7_pullOf_43 hl (k := 3) rfl (by rw [ex4_6]; rfl) (by decide) rfl (fun ls hl => ?_)
      refine lv_goto (tgt := 5) hx hb dX7_pullOf_46 (by decide) ?_
      exact ih _ _ _ hf  hh (lv_sub hl [2, 3, 1, 0] rfl)
set_option maxRecDepth 100000 in
set_option maxHeartbeats 4000000 in
theorem w_X7_pullOf {Z : Int64} (F : Fx rM p s m args cd cX7_pullOf 5 RX7 G) (hr : meth.sig.returnType = (some .long)) (hlk : meth.locks = false) {x1 : Int32} {z : Sto} {H : Heap} {locs : List Loc} {ls : Array Slot} (hf : f_X7_pullOf x1 z = some Z) (hh : Hh rM G z s H locs) (hl : lv_has ls 5 [(0, .ref (G.1 122)), (1, .int x1)]) : W p l e rmX7_pullOf s m args below meth cd H locs 0 0 (MQ below (QL rM G Z z) args s 0 0 (Am rM G)) (F0 m 0 ls []) := by
  have hx := F.1
  have hb := F.2.1
  unfold f_X7_pullOf at hf
  refine lv_lconst (v := 0) hx hb dX7_pullOf_0 (by decide) ?_
  refine lv_lstore_n (lv' := [(2, .long (0 : Int64)), (0, .ref (G.1 122)), (1, .int x1)]) hx hb dX7_pullOf_1 rfl hl (by decide) rfl (fun ls hl => ?_)
  refine lv_iconst (v := 0) hx hb dX7_pullOf_2 (by decide) ?_
  refine lv_istore (lv' := [(4, .int (0 : Int32)), (2, .long (0 : Int64)), (0, .ref (G.1 122)), (1, .int x1)]) hx hb dX7_pullOf_3 hl (by decide) rfl (fun ls hl => ?_)
  exact w_X7_pullOf_5 F hr hlk fu _ _ _ hf  hh (lv_sub hl [2, 3, 1, 0] rfl)
theorem c_X7_pullOf {l : Launch} {G : Gm} {x1 : Int32} {z : Sto} {Z : Int64} (hf : f_X7_pullOf x1 z = some Z) : Met l yX7_pullOf (Cond.code yX7_pullOf cX7_pullOf 5 (some .long) :: TT) rmX7_pullOf (va_Pc [.ref (G.1 122), .int x1] (GS rM G z)) (QL rM G Z z) 0 0 (Am rM G) := by
  refine g_met [(0, .ref (G.1 122)), (1, .int x1)] (by decide) (Nat.le_of_ble_eq_true rfl) rfl ?_
  intro p e s m below meth cd F hr hlk ls H locs hl hh
  exact w_X7_pullOf F hr hlk hf hh hl
def b_X7_isNeeded_4 (z : Sto)  (ag4 : Int32 → Int32 → Int32 → Option (Int32)) (x1 : Int32) (x2 : Int32) (x3 : Int32) : Option (Int32) := bd (rdI z 123 42 (1 : Int32)) fun t1 => if (t1 - (z.1 122 17)) ≤ x3 then (bd (bz x2) fun t3 => some t3) else (if x2 = 0 then (lt (x3 + (1 : Int32)) fun x3_5 => ag4 x1 (0 : Int32) x3_5) else (bd (f_X7_partOf x3 x1 z) fun t6 => if (lg_cmp t6 (0 : Int64)) = 0 then (lt (x3 + (1 : Int32)) fun x3_9 => ag4 x1 (1 : Int32) x3_9) else (lt (x3 + (1 : Int32)) fun x3_8 => ag4 x1 (0 : Int32) x3_8)))
def f_X7_isNeeded (x1 : Int32) (z : Sto) : Option (Int32) := wl3 (b_X7_isNeeded_4 z) fu x1 (1 : Int32) (0 : Int32)
set_option maxRecDepth 100000 in
set_option maxHeartbeats 4000000 in
theorem w_X7_isNeeded_4 {z : Sto}  {Z : Int32} (F : Fx rM p s m args cd cX7_isNeeded 4 RX7 G) (hr : meth.sig.returnType = (some .boolean)) (hlk : meth.locks = false)  : ∀ (n : Nat), ∀ (x1 : Int32) (x2 : Int32) (x3 : Int32), wl3 (b_X7_isNeeded_4 z) n x1 x2 x3 = some Z → ∀ {H : Heap} {locs : List Loc} {ls : Array Slot}, Hh rM G z s H locs → lv_has ls 4 [(0, .ref (G.1 122)), (1, .int x1), (2, .int x2), (3, .int x3)] → W p l e rmX7_isNeeded s m args below meth cd H locs 0 0 (MQ below (QI rM G Z z) args s 0 0 (Am rM G)) (F0 m 4 ls []) := by
  have hx := F.1
  have hb := F.2.1
  intro n
  induction n with
  | zero =>
    intro x1 x2 x3 hf
    exact absurd hf (by intro h; cases h)
  | succ n ih =>
    intro x1 x2 x3 hf  H locs ls hh hl
    replace hf : b_X7_isNeeded_4 z (wl3 (b_X7_isNeeded_4 z) n) x1 x2 x3 = some Z := hf
    unfold b_X7_isNeeded_4 at hf
    refine lv_iload_n hx hb dX7_isNeeded_4 rfl (lv_at hl 3 rfl) ?_
    refine lv_aload_n hx hb dX7_isNeeded_5 rfl (lv_at hl 0 rfl) ?_
    refine r_X7_7 (b' := 123) F hh in_122 sh_122 rfl dX7_isNeeded_6 ?_
    refine lv_iconst (v := 1) hx hb dX7_isNeeded_9 (by decide) ?_
    obtain ⟨t1, ht1, hf⟩ := ob hf
    refine g_iald F hh in_123 sh_123 ht1 dX7_isNeeded_10 ?_
    refine lv_aload_n hx hb dX7_isNeeded_11 rfl (lv_at hl 0 rfl) ?_
    refine r_X7_213 F hh in_122 sh_122 dX7_isNeeded_12 ?_
    refine lv_isub hx hb dX7_isNeeded_15 ?_
    refine lv_icmp_ge (tgt := 46) hx hb dX7_isNeeded_16 (by decide) (fun c2 => ?_) (fun c2 => ?_)
    · replace hf := itp c2 hf
      refine lv_iload_n hx hb dX7_isNeeded_46 rfl (lv_at hl 2 rfl) ?_
      obtain ⟨t3, ht3, hf⟩ := ob hf
      exact g_zret F hr hlk (bz_e ht3).2 hh ((bz_e ht3).1.symm.trans (Option.some.inj hf)) rfl dX7_isNeeded_47
    · replace hf := itn c2 hf
      refine lv_iload_n hx hb dX7_isNeeded_19 rfl (lv_at hl 2 rfl) ?_
      refine lv_if_eq (tgt := 38) hx hb dX7_isNeeded_20 (by decide) (fun c4 => ?_) (fun c4 => ?_)
      · replace hf := itp c4 hf
        refine lv_iconst (v := 0) hx hb dX7_isNeeded_38 (by decide) ?_
        refine lv_istore_n (lv' := [(2, .int (0 : Int32)), (0, .ref (G.1 122)), (1, .int x1), (3, .int x3)]) hx hb dX7_isNeeded_39 rfl hl (by decide) rfl (fun ls hl => ?_)
        obtain ⟨x3_5, ex3_5⟩ : ∃ y : Int32, y = x3 + (1 : Int32) := ⟨_, rfl⟩
        replace hf := lt_e ex3_5 hf
        refine lv_iinc (v := x3_5) (lv' := [(3, .int x3_5), (2, .int (0 : Int32)), (0, .ref (G.1 122)), (1, .int x1)]) hx hb dX7_isNeeded_40 hl (k := 3) rfl (by rw [ex3_5]; rfl) (by decide) rfl (fun ls hl => ?_)
        refine lv_goto (tgt := 4) hx hb dX7_isNeeded_43 (by decide) ?_
        exact ih _ _ _ hf  hh (lv_sub hl [2, 3, 1, 0] rfl)
      · replace hf := itn c4 hf
        refine lv_aload_n hx hb dX7_isNeeded_23 rfl (lv_at hl 0 rfl) ?_
        refine lv_iload_n hx hb dX7_isNeeded_24 rfl (lv_at hl 3 rfl) ?_
        refine lv_iload_n hx hb dX7_isNeeded_25 rfl (lv_at hl 1 rfl) ?_
        obtain ⟨t6, ht6, hf⟩ := ob hf
        refine m_X7_222 F hh (c_X7_partOf ht6) in_122 sh_122 rfl hl (Nat.le_of_ble_eq_true rfl) dX7_isNeeded_26 (fun H locs hh => ?_)
        refine lv_lconst (v := 0) hx hb dX7_isNeeded_29 (by decide) ?_
        refine W.lcmp hx hb dX7_isNeeded_30 ?_
        refine lv_if_ne (tgt := 38) hx hb dX7_isNeeded_31 (by decide) (fun c7 => ?_) (fun c7 => ?_)
        · replace hf := itn c7 hf
          refine lv_iconst (v := 0) hx hb dX7_isNeeded_38 (by decide) ?_
          refine lv_istore_n (lv' := [(2, .int (0 : Int32)), (0, .ref (G.1 122)), (1, .int x1), (3, .int x3)]) hx hb dX7_isNeeded_39 rfl hl (by decide) rfl (fun ls hl => ?_)
          obtain ⟨x3_8, ex3_8⟩ : ∃ y : Int32, y = x3 + (1 : Int32) := ⟨_, rfl⟩
          replace hf := lt_e ex3_8 hf
          refine lv_iinc (v := x3_8) (lv' := [(3, .int x3_8), (2, .int (0 : Int32)), (0, .ref (G.1 122)), (1, .int x1)]) hx hb dX7_isNeeded_40 hl (k := 3) rfl (by rw [ex3_8]; rfl) (by decide) rfl (fun ls hl => ?_)
          refine lv_goto (tgt := 4) hx hb dX7_isNeeded_43 (by decide) ?_
          exact ih _ _ _ hf  hh (lv_sub hl [2, 3, 1, 0] rfl)
        · replace hf := itp c7 hf
          refine lv_iconst (v := 1) hx hb dX7_isNeeded_34 (by decide) ?_
          refine lv_goto (tgt := 39) hx hb dX7_isNeeded_35 (by decide) ?_
          refine lv_istore_n (lv' := [(2, .int (1 : Int32)), (0, .ref (G.1 122)), (1, .int x1), (3, .int x3)]) hx hb dX7_isNeeded_39 rfl hl (by decide) rfl (fun ls hl => ?_)
          obtain ⟨x3_9, ex3_9⟩ : ∃ y : Int32, y = x3 + (1 : Int32) := ⟨_, rfl⟩
          replace hf := lt_e ex3_9 hf
          refine lv_iinc (v := x3_9) (lv' := [(3, .int x3_9), (2, .int (1 : Int32)), (0, .ref (G.1 122)), (1, .int x1)]) hx hb dX7_isNeeded_40 hl (k := 3) rfl (by rw [ex3_9]; rfl) (by decide) rfl (fun ls hl => ?_)
          refine lv_goto (tgt := 4) hx hb dX7_isNeeded_43 (by decide) ?_
          exact ih _ _ _ hf  hh (lv_sub hl [2, 3, 1, 0] rfl)
set_option maxRecDepth 100000 in
set_option maxHeartbeats 4000000 in
theorem w_X7_isNeeded {Z : Int32} (F : Fx rM p s m args cd cX7_isNeeded 4 RX7 G) (hr : meth.sig.returnType = (some .boolean)) (hlk : meth.locks = false) {x1 : Int32} {z : Sto} {H : Heap} {locs : List Loc} {ls : Array Slot} (hf : f_X7_isNeeded x1 z = some Z) (hh : Hh rM G z s H locs) (hl : lv_has ls 4 [(0, .ref (G.1 122)), (1, .int x1)]) : W p l e rmX7_isNeeded s m args below meth cd H locs 0 0 (MQ below (QI rM G Z z) args s 0 0 (Am rM G)) (F0 m 0 ls []) := by
  have hx := F.1
  have hb := F.2.1
  unfold f_X7_isNeeded at hf
  refine lv_iconst (v := 1) hx hb dX7_isNeeded_0 (by decide) ?_
  refine lv_istore_n (lv' := [(2, .int (1 : Int32)), (0, .ref (G.1 122)), (1, .int x1)]) hx hb dX7_isNeeded_1 rfl hl (by decide) rfl (fun ls hl => ?_)
  refine lv_iconst (v := 0) hx hb dX7_isNeeded_2 (by decide) ?_
  refine lv_istore_n (lv' := [(3, .int (0 : Int32)), (2, .int (1 : Int32)), (0, .ref (G.1 122)), (1, .int x1)]) hx hb dX7_isNeeded_3 rfl hl (by decide) rfl (fun ls hl => ?_)
  exact w_X7_isNeeded_4 F hr hlk fu _ _ _ hf  hh (lv_sub hl [2, 3, 1, 0] rfl)
theorem c_X7_isNeeded {l : Launch} {G : Gm} {x1 : Int32} {z : Sto} {Z : Int32} (hf : f_X7_isNeeded x1 z = some Z) : Met l yX7_isNeeded (Cond.code yX7_isNeeded cX7_isNeeded 4 (some .boolean) :: TT) rmX7_isNeeded (va_Pc [.ref (G.1 122), .int x1] (GS rM G z)) (QI rM G Z z) 0 0 (Am rM G) := by
  refine g_met [(0, .ref (G.1 122)), (1, .int x1)] (by decide) (Nat.le_of_ble_eq_true rfl) rfl ?_
  intro p e s m below meth cd F hr hlk ls H locs hl hh
  exact w_X7_isNeeded F hr hlk hf hh hl
def b_X7_common_28 (z : Sto)  (ag28 : Int64 → Int64 → Option (Int64)) (x4 : Int64) (x6 : Int64) : Option (Int64) := if (lg_cmp x6 (0 : Int64)) = 0 then (some x4) else (bd (rmL x4 x6) fun t5 => ag28 x6 t5)
def j_X7_common_12 (z : Sto)  (x2 : Int64) (k0 : Int64) : Option (Int64) := if 0 ≤ (lg_cmp x2 (0 : Int64)) then (wl2 (b_X7_common_28 z) fu k0 x2) else (lt ((-x2)) fun x6_3 => wl2 (b_X7_common_28 z) fu k0 x6_3)
def f_X7_common (x0 : Int64) (x2 : Int64) (z : Sto) : Option (Int64) := if 0 ≤ (lg_cmp x0 (0 : Int64)) then (j_X7_common_12 z x2 x0) else (j_X7_common_12 z x2 ((-x0)))
set_option maxRecDepth 100000 in
set_option maxHeartbeats 4000000 in
theorem w_X7_common_28 {z : Sto}  {Z : Int64} (F : Fx rM p s m args cd cX7_common 10 RX7 G) (hr : meth.sig.returnType = (some .long)) (hlk : meth.locks = false)  : ∀ (n : Nat), ∀ (x4 : Int64) (x6 : Int64), wl2 (b_X7_common_28 z) n x4 x6 = some Z → ∀ {H : Heap} {locs : List Loc} {ls : Array Slot}, Hh rM G z s H locs → lv_has ls 10 [(4, .long x4), (6, .long x6)] → W p l e rmX7_common s m args below meth cd H locs 0 0 (MQ below (QL rM G Z z) args s 0 0 (Am rM G)) (F0 m 28 ls []) := by
  have hx := F.1
  have hb := F.2.1
  intro n
  induction n with
  | zero =>
    intro x4 x6 hf
    exact absurd hf (by intro h; cases h)
  | succ n ih =>
    intro x4 x6 hf  H locs ls hh hl
    replace hf : b_X7_common_28 z (wl2 (b_X7_common_28 z) n) x4 x6 = some Z := hf
    unfold b_X7_common_28 at hf
    refine lv_lload hx hb dX7_common_28 (lv_at hl 1 rfl) ?_
    refine lv_lconst (v := 0) hx hb dX7_common_30 (by decide) ?_
    refine W.lcmp hx hb dX7_common_31 ?_
    refine lv_if_eq (tgt := 53) hx hb dX7_common_32 (by decide) (fun c4 => ?_) (fun c4 => ?_)
    · replace hf := itp c4 hf
      refine lv_lload hx hb dX7_common_53 (lv_at hl 0 rfl) ?_
      exact g_lret F hr hlk hh (Option.some.inj hf) rfl dX7_common_55
    · replace hf := itn c4 hf
      refine lv_lload hx hb dX7_common_35 (lv_at hl 0 rfl) ?_
      refine lv_lload hx hb dX7_common_37 (lv_at hl 1 rfl) ?_
      obtain ⟨t5, ht5, hf⟩ := ob hf
      refine g_lrem hx hb ht5 dX7_common_39 ?_
      refine lv_lstore (lv' := [(8, .long t5), (4, .long x4), (6, .long x6)]) hx hb dX7_common_40 hl (by decide) rfl (fun ls hl => ?_)
      refine lv_lload hx hb dX7_common_42 (lv_at hl 2 rfl) ?_
      refine lv_lstore (lv' := [(4, .long x6), (8, .long t5), (6, .long x6)]) hx hb dX7_common_44 hl (by decide) rfl (fun ls hl => ?_)
      refine lv_lload hx hb dX7_common_46 (lv_at hl 1 rfl) ?_
      refine lv_lstore (lv' := [(6, .long t5), (4, .long x6), (8, .long t5)]) hx hb dX7_common_48 hl (by decide) rfl (fun ls hl => ?_)
      refine lv_goto (tgt := 28) hx hb dX7_common_50 (by decide) ?_
      exact ih _ _ hf  hh (lv_sub hl [1, 0] rfl)
set_option maxRecDepth 100000 in
set_option maxHeartbeats 4000000 in
theorem w_X7_common_12 {z : Sto}  {Z : Int64} (F : Fx rM p s m args cd cX7_common 10 RX7 G) (hr : meth.sig.returnType = (some .long)) (hlk : meth.locks = false)  {x2 : Int64} {k0 : Int64} {H : Heap} {locs : List Loc} {ls : Array Slot} (hf : j_X7_common_12 z x2 k0 = some Z) (hh : Hh rM G z s H locs) (hl : lv_has ls 10 [(2, .long x2)]) : W p l e rmX7_common s m args below meth cd H locs 0 0 (MQ below (QL rM G Z z) args s 0 0 (Am rM G)) (F0 m 12 ls [.long k0]) := by
  have hx := F.1
  have hb := F.2.1
  unfold j_X7_common_12 at hf
  refine lv_lstore (lv' := [(4, .long k0), (2, .long x2)]) hx hb dX7_common_12 hl (by decide) rfl (fun ls hl => ?_)
  refine lv_lload_n hx hb dX7_common_14 rfl (lv_at hl 1 rfl) ?_
  refine lv_lconst (v := 0) hx hb dX7_common_15 (by decide) ?_
  refine W.lcmp hx hb dX7_common_16 ?_
  refine lv_if_ge (tgt := 25) hx hb dX7_common_17 (by decide) (fun c2 => ?_) (fun c2 => ?_)
  · replace hf := itp c2 hf
    refine lv_lload_n hx hb dX7_common_25 rfl (lv_at hl 1 rfl) ?_
    refine lv_lstore (lv' := [(6, .long x2), (4, .long k0), (2, .long x2)]) hx hb dX7_common_26 hl (by decide) rfl (fun ls hl => ?_)
    exact w_X7_common_28 F hr hlk fu _ _ hf  hh (lv_sub hl [1, 0] rfl)
  · replace hf := itn c2 hf
    refine lv_lload_n hx hb dX7_common_20 rfl (lv_at hl 1 rfl) ?_
    refine lv_lneg hx hb dX7_common_21 ?_
    refine lv_goto (tgt := 26) hx hb dX7_common_22 (by decide) ?_
    refine lv_topl (fun x6_3 ex6_3 => ?_)
    replace hf := lt_e ex6_3 hf
    refine lv_lstore (lv' := [(6, .long x6_3), (4, .long k0), (2, .long x2)]) hx hb dX7_common_26 hl (by decide) rfl (fun ls hl => ?_)
    exact w_X7_common_28 F hr hlk fu _ _ hf  hh (lv_sub hl [1, 0] rfl)
set_option maxRecDepth 100000 in
set_option maxHeartbeats 4000000 in
theorem w_X7_common {Z : Int64} (F : Fx rM p s m args cd cX7_common 10 RX7 G) (hr : meth.sig.returnType = (some .long)) (hlk : meth.locks = false) {x0 : Int64} {x2 : Int64} {z : Sto} {H : Heap} {locs : List Loc} {ls : Array Slot} (hf : f_X7_common x0 x2 z = some Z) (hh : Hh rM G z s H locs) (hl : lv_has ls 10 [(0, .long x0), (2, .long x2)]) : W p l e rmX7_common s m args below meth cd H locs 0 0 (MQ below (QL rM G Z z) args s 0 0 (Am rM G)) (F0 m 0 ls []) := by
  have hx := F.1
  have hb := F.2.1
  unfold f_X7_common at hf
  refine lv_lload_n hx hb dX7_common_0 rfl (lv_at hl 0 rfl) ?_
  refine lv_lconst (v := 0) hx hb dX7_common_1 (by decide) ?_
  refine W.lcmp hx hb dX7_common_2 ?_
  refine lv_if_ge (tgt := 11) hx hb dX7_common_3 (by decide) (fun c1 => ?_) (fun c1 => ?_)
  · replace hf := itp c1 hf
    refine lv_lload_n hx hb dX7_common_11 rfl (lv_at hl 0 rfl) ?_
    exact w_X7_common_12 F hr hlk hf  hh (lv_sub hl [1] rfl)
  · replace hf := itn c1 hf
    refine lv_lload_n hx hb dX7_common_6 rfl (lv_at hl 0 rfl) ?_
    refine lv_lneg hx hb dX7_common_7 ?_
    refine lv_goto (tgt := 12) hx hb dX7_common_8 (by decide) ?_
    exact w_X7_common_12 F hr hlk hf  hh (lv_sub hl [1] rfl)
theorem c_X7_common {l : Launch} {G : Gm} {x0 : Int64} {x2 : Int64} {z : Sto} {Z : Int64} (hf : f_X7_common x0 x2 z = some Z) : Met l yX7_common (Cond.code yX7_common cX7_common 10 (some .long) :: TT) rmX7_common (va_Pc [.long x0, .long x2] (GS rM G z)) (QL rM G Z z) 0 0 (Am rM G) := by
  refine g_met [(0, .long x0), (2, .long x2)] (by decide) (Nat.le_of_ble_eq_true rfl) rfl ?_
  intro p e s m below meth cd F hr hlk ls H locs hl hh
  exact w_X7_common F hr hlk hf hh hl
def j_X7_told_77 (z : Sto)  (k0 : Int64) : Option (Int64) := if 0 ≤ (lg_cmp k0 (0 : Int64)) then (some k0) else (some (-k0))
def f_X7_told (x0 : Int64) (x2 : Int64) (x4 : Int32) (z : Sto) : Option (Int64) := bd (f_X7_common x0 x2 z) fun t1 => bd (dvL x0 t1) fun t2 => bd (dvL x2 t1) fun t3 => if x4 = (2 : Int32) then (bd (f_X7_sign t2 z) fun t6 => bd (f_X7_sign t3 z) fun t7 => if (t6 * t7) = 0 then (some (0 : Int64)) else (bd (f_X7_sign t2 z) fun t9 => bd (f_X7_sign t3 z) fun t10 => if (t9 * t10) ≤ 0 then (some (2 : Int64)) else (some (1 : Int64)))) else (if x4 = 0 then (j_X7_told_77 z t2) else (j_X7_told_77 z t3))
set_option maxRecDepth 100000 in
set_option maxHeartbeats 4000000 in
theorem w_X7_told_77 {z : Sto}  {Z : Int64} (F : Fx rM p s m args cd cX7_told 13 RX7 G) (hr : meth.sig.returnType = (some .long)) (hlk : meth.locks = false)  {k0 : Int64} {H : Heap} {locs : List Loc} {ls : Array Slot} (hf : j_X7_told_77 z k0 = some Z) (hh : Hh rM G z s H locs) (hl : lv_has ls 13 []) : W p l e rmX7_told s m args below meth cd H locs 0 0 (MQ below (QL rM G Z z) args s 0 0 (Am rM G)) (F0 m 77 ls [.long k0]) := by
  have hx := F.1
  have hb := F.2.1
  unfold j_X7_told_77 at hf
  refine lv_lstore (lv' := [(11, .long k0)]) hx hb dX7_told_77 hl (by decide) rfl (fun ls hl => ?_)
  refine lv_lload hx hb dX7_told_79 (lv_at hl 0 rfl) ?_
  refine lv_lconst (v := 0) hx hb dX7_told_81 (by decide) ?_
  refine W.lcmp hx hb dX7_told_82 ?_
  refine lv_if_ge (tgt := 92) hx hb dX7_told_83 (by decide) (fun c12 => ?_) (fun c12 => ?_)
  · replace hf := itp c12 hf
    refine lv_lload hx hb dX7_told_92 (lv_at hl 0 rfl) ?_
    exact g_lret F hr hlk hh (Option.some.inj hf) rfl dX7_told_94
  · replace hf := itn c12 hf
    refine lv_lload hx hb dX7_told_86 (lv_at hl 0 rfl) ?_
    refine lv_lneg hx hb dX7_told_88 ?_
    refine lv_goto (tgt := 94) hx hb dX7_told_89 (by decide) ?_
    exact g_lret F hr hlk hh (Option.some.inj hf) rfl dX7_told_94
set_option maxRecDepth 100000 in
set_option maxHeartbeats 4000000 in
theorem w_X7_told {Z : Int64} (F : Fx rM p s m args cd cX7_told 13 RX7 G) (hr : meth.sig.returnType = (some .long)) (hlk : meth.locks = false) {x0 : Int64} {x2 : Int64} {x4 : Int32} {z : Sto} {H : Heap} {locs : List Loc} {ls : Array Slot} (hf : f_X7_told x0 x2 x4 z = some Z) (hh : Hh rM G z s H locs) (hl : lv_has ls 13 [(0, .long x0), (2, .long x2), (4, .int x4)]) : W p l e rmX7_told s m args below meth cd H locs 0 0 (MQ below (QL rM G Z z) args s 0 0 (Am rM G)) (F0 m 0 ls []) := by
  have hx := F.1
  have hb := F.2.1
  unfold f_X7_told at hf
  refine lv_lload_n hx hb dX7_told_0 rfl (lv_at hl 0 rfl) ?_
  refine lv_lload_n hx hb dX7_told_1 rfl (lv_at hl 1 rfl) ?_
  obtain ⟨t1, ht1, hf⟩ := ob hf
  refine m_X7_226 F hh (c_X7_common ht1) rfl hl (Nat.le_of_ble_eq_true rfl) dX7_told_2 (fun H locs hh => ?_)
  refine lv_lstore (lv' := [(5, .long t1), (0, .long x0), (2, .long x2), (4, .int x4)]) hx hb dX7_told_5 hl (by decide) rfl (fun ls hl => ?_)
  refine lv_lload_n hx hb dX7_told_7 rfl (lv_at hl 1 rfl) ?_
  refine lv_lload hx hb dX7_told_8 (lv_at hl 0 rfl) ?_
  obtain ⟨t2, ht2, hf⟩ := ob hf
  refine g_ldiv hx hb ht2 dX7_told_10 ?_
  refine lv_lstore (lv' := [(7, .long t2), (5, .long t1), (0, .long x0), (2, .long x2), (4, .int x4)]) hx hb dX7_told_11 hl (by decide) rfl (fun ls hl => ?_)
  refine lv_lload_n hx hb dX7_told_13 rfl (lv_at hl 3 rfl) ?_
  refine lv_lload hx hb dX7_told_14 (lv_at hl 1 rfl) ?_
  obtain ⟨t3, ht3, hf⟩ := ob hf
  refine g_ldiv hx hb ht3 dX7_told_16 ?_
  refine lv_lstore (lv' := [(9, .long t3), (7, .long t2), (5, .long t1), (0, .long x0), (2, .long x2), (4, .int x4)]) hx hb dX7_told_17 hl (by decide) rfl (fun ls hl => ?_)
  refine lv_iload hx hb dX7_told_19 (lv_at hl 5 rfl) ?_
  refine lv_iconst (v := 2) hx hb dX7_told_21 (by decide) ?_
  refine lv_icmp_ne (tgt := 65) hx hb dX7_told_22 (by decide) (fun c4 => ?_) (fun c4 => ?_)
  · replace hf := itn c4 hf
    refine lv_iload hx hb dX7_told_65 (lv_at hl 5 rfl) ?_
    refine lv_if_ne (tgt := 75) hx hb dX7_told_67 (by decide) (fun c5 => ?_) (fun c5 => ?_)
    · replace hf := itn c5 hf
      refine lv_lload hx hb dX7_told_75 (lv_at hl 0 rfl) ?_
      exact w_X7_told_77 F hr hlk hf  hh (lv_sub hl [] rfl)
    · replace hf := itp c5 hf
      refine lv_lload hx hb dX7_told_70 (lv_at hl 1 rfl) ?_
      refine lv_goto (tgt := 77) hx hb dX7_told_72 (by decide) ?_
      exact w_X7_told_77 F hr hlk hf  hh (lv_sub hl [] rfl)
  · replace hf := itp c4 hf
    refine lv_lload hx hb dX7_told_25 (lv_at hl 1 rfl) ?_
    obtain ⟨t6, ht6, hf⟩ := ob hf
    refine m_X7_94 F hh (c_X7_sign ht6) rfl hl (Nat.le_of_ble_eq_true rfl) dX7_told_27 (fun H locs hh => ?_)
    refine lv_lload hx hb dX7_told_30 (lv_at hl 0 rfl) ?_
    obtain ⟨t7, ht7, hf⟩ := ob hf
    refine m_X7_94 F hh (c_X7_sign ht7) rfl hl (Nat.le_of_ble_eq_true rfl) dX7_told_32 (fun H locs hh => ?_)
    refine lv_imul hx hb dX7_told_35 ?_
    refine lv_if_ne (tgt := 43) hx hb dX7_told_36 (by decide) (fun c8 => ?_) (fun c8 => ?_)
    · replace hf := itn c8 hf
      refine lv_lload hx hb dX7_told_43 (lv_at hl 1 rfl) ?_
      obtain ⟨t9, ht9, hf⟩ := ob hf
      refine m_X7_94 F hh (c_X7_sign ht9) rfl hl (Nat.le_of_ble_eq_true rfl) dX7_told_45 (fun H locs hh => ?_)
      refine lv_lload hx hb dX7_told_48 (lv_at hl 0 rfl) ?_
      obtain ⟨t10, ht10, hf⟩ := ob hf
      refine m_X7_94 F hh (c_X7_sign ht10) rfl hl (Nat.le_of_ble_eq_true rfl) dX7_told_50 (fun H locs hh => ?_)
      refine lv_imul hx hb dX7_told_53 ?_
      refine lv_if_le (tgt := 61) hx hb dX7_told_54 (by decide) (fun c11 => ?_) (fun c11 => ?_)
      · replace hf := itp c11 hf
        refine lv_ldc2 hx hb F.2.2.2.1 (F.2.2.2.2.1 _ lk1159) dX7_told_61 ?_
        exact g_lret F hr hlk hh (Option.some.inj hf) rfl dX7_told_64
      · replace hf := itn c11 hf
        refine lv_lconst (v := 1) hx hb dX7_told_57 (by decide) ?_
        refine lv_goto (tgt := 64) hx hb dX7_told_58 (by decide) ?_
        exact g_lret F hr hlk hh (Option.some.inj hf) rfl dX7_told_64
    · replace hf := itp c8 hf
      refine lv_lconst (v := 0) hx hb dX7_told_39 (by decide) ?_
      refine lv_goto (tgt := 64) hx hb dX7_told_40 (by decide) ?_
      exact g_lret F hr hlk hh (Option.some.inj hf) rfl dX7_told_64
theorem c_X7_told {l : Launch} {G : Gm} {x0 : Int64} {x2 : Int64} {x4 : Int32} {z : Sto} {Z : Int64} (hf : f_X7_told x0 x2 x4 z = some Z) : Met l yX7_told (Cond.code yX7_told cX7_told 13 (some .long) :: TT) rmX7_told (va_Pc [.long x0, .long x2, .int x4] (GS rM G z)) (QL rM G Z z) 0 0 (Am rM G) := by
  refine g_met [(0, .long x0), (2, .long x2), (4, .int x4)] (by decide) (Nat.le_of_ble_eq_true rfl) rfl ?_
  intro p e s m below meth cd F hr hlk ls H locs hl hh
  exact w_X7_told F hr hlk hf hh hl
def b_X7_at_15 (z : Sto)  (ag15 : Int32 → Int32 → Int32 → Int32 → Option (Int32)) (x1 : Int32) (x2 : Int32) (x3 : Int32) (x4 : Int32) : Option (Int32) := bd (rdI z 123 42 (1 : Int32)) fun t3 => if ((2 : Int32) * t3) ≤ x4 then (if x2 = 0 then (bd (f_X7_x x1 z) fun t11 => some t11) else (if x2 = (1 : Int32) then (bd (f_X7_y x1 z) fun t10 => some t10) else (if x2 = (2 : Int32) then (bd (f_X7_barsOf x1 z) fun t9 => some t9) else (if x2 = (3 : Int32) then (some x3) else (some (-1 : Int32)))))) else (bd (f_X7_from x4 z) fun t12 => if t12 = x1 then (bd (f_X7_to x4 z) fun t16 => lt ((x3 ||| ((1 : Int32) <<< (t16 &&& 31)))) fun x3_17 => lt (x4 + (1 : Int32)) fun x4_18 => ag15 x1 x2 x3_17 x4_18) else (lt ((x3 ||| (0 : Int32))) fun x3_14 => lt (x4 + (1 : Int32)) fun x4_15 => ag15 x1 x2 x3_14 x4_15))
def f_X7_at (x1 : Int32) (x2 : Int32) (z : Sto) : Option (Int32) := bd (f_X7_isJoint x1 z) fun t1 => if t1 = 0 then (some (-1 : Int32)) else (wl4 (b_X7_at_15 z) fu x1 x2 (0 : Int32) (0 : Int32))
set_option maxRecDepth 100000 in
set_option maxHeartbeats 4000000 in
theorem w_X7_at_15 {z : Sto}  {Z : Int32} (F : Fx rM p s m args cd cX7_at 5 RX7 G) (hr : meth.sig.returnType = (some .int)) (hlk : meth.locks = false)  : ∀ (n : Nat), ∀ (x1 : Int32) (x2 : Int32) (x3 : Int32) (x4 : Int32), wl4 (b_X7_at_15 z) n x1 x2 x3 x4 = some Z → ∀ {H : Heap} {locs : List Loc} {ls : Array Slot}, Hh rM G z s H locs → lv_has ls 5 [(0, .ref (G.1 122)), (1, .int x1), (2, .int x2), (3, .int x3), (4, .int x4)] → W p l e rmX7_at s m args below meth cd H locs 0 0 (MQ below (QI rM G Z z) args s 0 0 (Am rM G)) (F0 m 15 ls []) := by
  have hx := F.1
  have hb := F.2.1
  intro n
  induction n with
  | zero =>
    intro x1 x2 x3 x4 hf
    exact absurd hf (by intro h; cases h)
  | succ n ih =>
    intro x1 x2 x3 x4 hf  H locs ls hh hl
    replace hf : b_X7_at_15 z (wl4 (b_X7_at_15 z) n) x1 x2 x3 x4 = some Z := hf
    unfold b_X7_at_15 at hf
    refine lv_iload hx hb dX7_at_15 (lv_at hl 4 rfl) ?_
    refine lv_iconst (v := 2) hx hb dX7_at_17 (by decide) ?_
    refine lv_aload_n hx hb dX7_at_18 rfl (lv_at hl 0 rfl) ?_
    refine r_X7_7 (b' := 123) F hh in_122 sh_122 rfl dX7_at_19 ?_
    refine lv_iconst (v := 1) hx hb dX7_at_22 (by decide) ?_
    obtain ⟨t3, ht3, hf⟩ := ob hf
    refine g_iald F hh in_123 sh_123 ht3 dX7_at_23 ?_
    refine lv_imul hx hb dX7_at_24 ?_
    refine lv_icmp_ge (tgt := 59) hx hb dX7_at_25 (by decide) (fun c4 => ?_) (fun c4 => ?_)
    · replace hf := itp c4 hf
      refine lv_iload_n hx hb dX7_at_59 rfl (lv_at hl 2 rfl) ?_
      refine lv_if_ne (tgt := 71) hx hb dX7_at_60 (by decide) (fun c5 => ?_) (fun c5 => ?_)
      · replace hf := itn c5 hf
        refine lv_iload_n hx hb dX7_at_71 rfl (lv_at hl 2 rfl) ?_
        refine lv_iconst (v := 1) hx hb dX7_at_72 (by decide) ?_
        refine lv_icmp_ne (tgt := 84) hx hb dX7_at_73 (by decide) (fun c6 => ?_) (fun c6 => ?_)
        · replace hf := itn c6 hf
          refine lv_iload_n hx hb dX7_at_84 rfl (lv_at hl 2 rfl) ?_
          refine lv_iconst (v := 2) hx hb dX7_at_85 (by decide) ?_
          refine lv_icmp_ne (tgt := 97) hx hb dX7_at_86 (by decide) (fun c7 => ?_) (fun c7 => ?_)
          · replace hf := itn c7 hf
            refine lv_iload_n hx hb dX7_at_97 rfl (lv_at hl 2 rfl) ?_
            refine lv_iconst (v := 3) hx hb dX7_at_98 (by decide) ?_
            refine lv_icmp_ne (tgt := 106) hx hb dX7_at_99 (by decide) (fun c8 => ?_) (fun c8 => ?_)
            · replace hf := itn c8 hf
              refine lv_iconst (v := -1) hx hb dX7_at_106 (by decide) ?_
              exact g_iret F hr hlk hh (Option.some.inj hf) rfl dX7_at_107
            · replace hf := itp c8 hf
              refine lv_iload_n hx hb dX7_at_102 rfl (lv_at hl 3 rfl) ?_
              refine lv_goto (tgt := 107) hx hb dX7_at_103 (by decide) ?_
              exact g_iret F hr hlk hh (Option.some.inj hf) rfl dX7_at_107
          · replace hf := itp c7 hf
            refine lv_aload_n hx hb dX7_at_89 rfl (lv_at hl 0 rfl) ?_
            refine lv_iload_n hx hb dX7_at_90 rfl (lv_at hl 1 rfl) ?_
            obtain ⟨t9, ht9, hf⟩ := ob hf
            refine m_X7_142 F hh (c_X7_barsOf ht9) in_122 sh_122 rfl hl (Nat.le_of_ble_eq_true rfl) dX7_at_91 (fun H locs hh => ?_)
            refine lv_goto (tgt := 107) hx hb dX7_at_94 (by decide) ?_
            exact g_iret F hr hlk hh (Option.some.inj hf) rfl dX7_at_107
        · replace hf := itp c6 hf
          refine lv_aload_n hx hb dX7_at_76 rfl (lv_at hl 0 rfl) ?_
          refine lv_iload_n hx hb dX7_at_77 rfl (lv_at hl 1 rfl) ?_
          obtain ⟨t10, ht10, hf⟩ := ob hf
          refine m_X7_87 F hh (c_X7_y ht10) in_122 sh_122 rfl hl (Nat.le_of_ble_eq_true rfl) dX7_at_78 (fun H locs hh => ?_)
          refine lv_goto (tgt := 107) hx hb dX7_at_81 (by decide) ?_
          exact g_iret F hr hlk hh (Option.some.inj hf) rfl dX7_at_107
      · replace hf := itp c5 hf
        refine lv_aload_n hx hb dX7_at_63 rfl (lv_at hl 0 rfl) ?_
        refine lv_iload_n hx hb dX7_at_64 rfl (lv_at hl 1 rfl) ?_
        obtain ⟨t11, ht11, hf⟩ := ob hf
        refine m_X7_83 F hh (c_X7_x ht11) in_122 sh_122 rfl hl (Nat.le_of_ble_eq_true rfl) dX7_at_65 (fun H locs hh => ?_)
        refine lv_goto (tgt := 107) hx hb dX7_at_68 (by decide) ?_
        exact g_iret F hr hlk hh (Option.some.inj hf) rfl dX7_at_107
    · replace hf := itn c4 hf
      refine lv_iload_n hx hb dX7_at_28 rfl (lv_at hl 3 rfl) ?_
      refine lv_aload_n hx hb dX7_at_29 rfl (lv_at hl 0 rfl) ?_
      refine lv_iload hx hb dX7_at_30 (lv_at hl 4 rfl) ?_
      obtain ⟨t12, ht12, hf⟩ := ob hf
      refine m_X7_98 F hh (c_X7_from ht12) in_122 sh_122 rfl hl (Nat.le_of_ble_eq_true rfl) dX7_at_32 (fun H locs hh => ?_)
      refine lv_iload_n hx hb dX7_at_35 rfl (lv_at hl 1 rfl) ?_
      refine lv_icmp_ne (tgt := 50) hx hb dX7_at_36 (by decide) (fun c13 => ?_) (fun c13 => ?_)
      · replace hf := itn c13 hf
        refine lv_iconst (v := 0) hx hb dX7_at_50 (by decide) ?_
        refine lv_ior hx hb dX7_at_51 ?_
        refine lv_topi (fun x3_14 ex3_14 => ?_)
        replace hf := lt_e ex3_14 hf
        refine lv_istore_n (lv' := [(3, .int x3_14), (0, .ref (G.1 122)), (1, .int x1), (2, .int x2), (4, .int x4)]) hx hb dX7_at_52 rfl hl (by decide) rfl (fun ls hl => ?_)
        obtain ⟨x4_15, ex4_15⟩ : ∃ y : Int32, y = x4 + (1 : Int32) := ⟨_, rfl⟩
        replace hf := lt_e ex4_15 hf
        refine lv_iinc (v := x4_15) (lv' := [(4, .int x4_15), (3, .int x3_14), (0, .ref (G.1 122)), (1, .int x1), (2, .int x2)]) hx hb dX7_at_53 hl (k := 4) rfl (by rw [ex4_15]; rfl) (by decide) rfl (fun ls hl => ?_)
        refine lv_goto (tgt := 15) hx hb dX7_at_56 (by decide) ?_
        exact ih _ _ _ _ hf  hh (lv_sub hl [2, 3, 4, 1, 0] rfl)
      · replace hf := itp c13 hf
        refine lv_iconst (v := 1) hx hb dX7_at_39 (by decide) ?_
        refine lv_aload_n hx hb dX7_at_40 rfl (lv_at hl 0 rfl) ?_
        refine lv_iload hx hb dX7_at_41 (lv_at hl 4 rfl) ?_
        obtain ⟨t16, ht16, hf⟩ := ob hf
        refine m_X7_101 F hh (c_X7_to ht16) in_122 sh_122 rfl hl (Nat.le_of_ble_eq_true rfl) dX7_at_43 (fun H locs hh => ?_)
        refine lv_ishl hx hb dX7_at_46 ?_
        refine lv_goto (tgt := 51) hx hb dX7_at_47 (by decide) ?_
        refine lv_ior hx hb dX7_at_51 ?_
        refine lv_topi (fun x3_17 ex3_17 => ?_)
        replace hf := lt_e ex3_17 hf
        refine lv_istore_n (lv' := [(3, .int x3_17), (0, .ref (G.1 122)), (1, .int x1), (2, .int x2), (4, .int x4)]) hx hb dX7_at_52 rfl hl (by decide) rfl (fun ls hl => ?_)
        obtain ⟨x4_18, ex4_18⟩ : ∃ y : Int32, y = x4 + (1 : Int32) := ⟨_, rfl⟩
        replace hf := lt_e ex4_18 hf
        refine lv_iinc (v := x4_18) (lv' := [(4, .int x4_18), (3, .int x3_17), (0, .ref (G.1 122)), (1, .int x1), (2, .int x2)]) hx hb dX7_at_53 hl (k := 4) rfl (by rw [ex4_18]; rfl) (by decide) rfl (fun ls hl => ?_)
        refine lv_goto (tgt := 15) hx hb dX7_at_56 (by decide) ?_
        exact ih _ _ _ _ hf  hh (lv_sub hl [2, 3, 4, 1, 0] rfl)
set_option maxRecDepth 100000 in
set_option maxHeartbeats 4000000 in
theorem w_X7_at {Z : Int32} (F : Fx rM p s m args cd cX7_at 5 RX7 G) (hr : meth.sig.returnType = (some .int)) (hlk : meth.locks = false) {x1 : Int32} {x2 : Int32} {z : Sto} {H : Heap} {locs : List Loc} {ls : Array Slot} (hf : f_X7_at x1 x2 z = some Z) (hh : Hh rM G z s H locs) (hl : lv_has ls 5 [(0, .ref (G.1 122)), (1, .int x1), (2, .int x2)]) : W p l e rmX7_at s m args below meth cd H locs 0 0 (MQ below (QI rM G Z z) args s 0 0 (Am rM G)) (F0 m 0 ls []) := by
  have hx := F.1
  have hb := F.2.1
  unfold f_X7_at at hf
  refine lv_aload_n hx hb dX7_at_0 rfl (lv_at hl 0 rfl) ?_
  refine lv_iload_n hx hb dX7_at_1 rfl (lv_at hl 1 rfl) ?_
  obtain ⟨t1, ht1, hf⟩ := ob hf
  refine m_X7_128 F hh (c_X7_isJoint ht1) in_122 sh_122 rfl hl (Nat.le_of_ble_eq_true rfl) dX7_at_2 (fun H locs hh => ?_)
  refine lv_if_ne (tgt := 10) hx hb dX7_at_5 (by decide) (fun c2 => ?_) (fun c2 => ?_)
  · replace hf := itn c2 hf
    refine lv_iconst (v := 0) hx hb dX7_at_10 (by decide) ?_
    refine lv_istore_n (lv' := [(3, .int (0 : Int32)), (0, .ref (G.1 122)), (1, .int x1), (2, .int x2)]) hx hb dX7_at_11 rfl hl (by decide) rfl (fun ls hl => ?_)
    refine lv_iconst (v := 0) hx hb dX7_at_12 (by decide) ?_
    refine lv_istore (lv' := [(4, .int (0 : Int32)), (3, .int (0 : Int32)), (0, .ref (G.1 122)), (1, .int x1), (2, .int x2)]) hx hb dX7_at_13 hl (by decide) rfl (fun ls hl => ?_)
    exact w_X7_at_15 F hr hlk fu _ _ _ _ hf  hh (lv_sub hl [2, 3, 4, 1, 0] rfl)
  · replace hf := itp c2 hf
    refine lv_iconst (v := -1) hx hb dX7_at_8 (by decide) ?_
    exact g_iret F hr hlk hh (Option.some.inj hf) rfl dX7_at_9
theorem c_X7_at {l : Launch} {G : Gm} {x1 : Int32} {x2 : Int32} {z : Sto} {Z : Int32} (hf : f_X7_at x1 x2 z = some Z) : Met l yX7_at (Cond.code yX7_at cX7_at 5 (some .int) :: TT) rmX7_at (va_Pc [.ref (G.1 122), .int x1, .int x2] (GS rM G z)) (QI rM G Z z) 0 0 (Am rM G) := by
  refine g_met [(0, .ref (G.1 122)), (1, .int x1), (2, .int x2)] (by decide) (Nat.le_of_ble_eq_true rfl) rfl ?_
  intro p e s m below meth cd F hr hlk ls H locs hl hh
  exact w_X7_at F hr hlk hf hh hl
def f_X7_of (x1 : Int32) (x2 : Int32) (z : Sto) : Option (Int32 × Sto) := bd (f_X7_isBar x1 z) fun t1 => if t1 = 0 then (some ((-1 : Int32), z)) else (bd (f_X7_laysAll z) fun z4 => if x2 = 0 then (bd (f_X7_from (((2 : Int32) * x1)) z4) fun t6 => some (t6, z4)) else (if x2 = 1 then (bd (f_X7_to (((2 : Int32) * x1)) z4) fun t8 => some (t8, z4)) else (if x2 = 2 then (bd (f_X7_rowOf x1 z4) fun t10 => if 0 ≤ t10 then (some ((0 : Int32), z4)) else (some ((1 : Int32), z4))) else (if x2 = 3 then (bd (f_X7_isNeeded x1 z4) fun t13 => if t13 = 0 then (some ((0 : Int32), z4)) else (some ((1 : Int32), z4))) else (some ((-1 : Int32), z4))))))
set_option maxRecDepth 100000 in
set_option maxHeartbeats 4000000 in
theorem w_X7_of {Z : Int32 × Sto} (F : Fx rM p s m args cd cX7_of 3 RX7 G) (hr : meth.sig.returnType = (some .int)) (hlk : meth.locks = false) {x1 : Int32} {x2 : Int32} {z : Sto} {H : Heap} {locs : List Loc} {ls : Array Slot} (hf : f_X7_of x1 x2 z = some Z) (hh : Hh rM G z s H locs) (hl : lv_has ls 3 [(0, .ref (G.1 122)), (1, .int x1), (2, .int x2)]) : W p l e rmX7_of s m args below meth cd H locs 0 0 (MQ below (QI rM G Z.1 Z.2) args s 0 0 (Am rM G)) (F0 m 0 ls []) := by
  have hx := F.1
  have hb := F.2.1
  unfold f_X7_of at hf
  refine lv_aload_n hx hb dX7_of_0 rfl (lv_at hl 0 rfl) ?_
  refine lv_iload_n hx hb dX7_of_1 rfl (lv_at hl 1 rfl) ?_
  obtain ⟨t1, ht1, hf⟩ := ob hf
  refine m_X7_152 F hh (c_X7_isBar ht1) in_122 sh_122 rfl hl (Nat.le_of_ble_eq_true rfl) dX7_of_2 (fun H locs hh => ?_)
  refine lv_if_ne (tgt := 10) hx hb dX7_of_5 (by decide) (fun c2 => ?_) (fun c2 => ?_)
  · replace hf := itn c2 hf
    refine lv_aload_n hx hb dX7_of_10 rfl (lv_at hl 0 rfl) ?_
    obtain ⟨z4, ht3, hf⟩ := ob hf
    refine m_X7_232 F hh (c_X7_laysAll ht3) in_122 sh_122 rfl hl (Nat.le_of_ble_eq_true rfl) dX7_of_11 (fun H locs hh => ?_)
    refine lv_iload_n hx hb dX7_of_14 rfl (lv_at hl 2 rfl) ?_
    by_cases c5 : x2 = 0
    · replace hf := itp c5 hf
      refine lv_tableIn (tgt := 44) (off := 29) hx hb dX7_of_15 (by rw [c5]; decide) (by rw [c5]; decide) (by rw [c5]; rfl) (by decide) ?_
      refine lv_aload_n hx hb dX7_of_44 rfl (lv_at hl 0 rfl) ?_
      refine lv_iconst (v := 2) hx hb dX7_of_45 (by decide) ?_
      refine lv_iload_n hx hb dX7_of_46 rfl (lv_at hl 1 rfl) ?_
      refine lv_imul hx hb dX7_of_47 ?_
      obtain ⟨t6, ht6, hf⟩ := ob hf
      refine m_X7_98 F hh (c_X7_from ht6) in_122 sh_122 rfl hl (Nat.le_of_ble_eq_true rfl) dX7_of_48 (fun H locs hh => ?_)
      exact g_iretW F hr hlk hh hf dX7_of_51
    replace hf := itn c5 hf
    by_cases c7 : x2 = 1
    · replace hf := itp c7 hf
      refine lv_tableIn (tgt := 52) (off := 37) hx hb dX7_of_15 (by rw [c7]; decide) (by rw [c7]; decide) (by rw [c7]; rfl) (by decide) ?_
      refine lv_aload_n hx hb dX7_of_52 rfl (lv_at hl 0 rfl) ?_
      refine lv_iconst (v := 2) hx hb dX7_of_53 (by decide) ?_
      refine lv_iload_n hx hb dX7_of_54 rfl (lv_at hl 1 rfl) ?_
      refine lv_imul hx hb dX7_of_55 ?_
      obtain ⟨t8, ht8, hf⟩ := ob hf
      refine m_X7_101 F hh (c_X7_to ht8) in_122 sh_122 rfl hl (Nat.le_of_ble_eq_true rfl) dX7_of_56 (fun H locs hh => ?_)
      exact g_iretW F hr hlk hh hf dX7_of_59
    replace hf := itn c7 hf
    by_cases c9 : x2 = 2
    · replace hf := itp c9 hf
      refine lv_tableIn (tgt := 60) (off := 45) hx hb dX7_of_15 (by rw [c9]; decide) (by rw [c9]; decide) (by rw [c9]; rfl) (by decide) ?_
      refine lv_aload_n hx hb dX7_of_60 rfl (lv_at hl 0 rfl) ?_
      refine lv_iload_n hx hb dX7_of_61 rfl (lv_at hl 1 rfl) ?_
      obtain ⟨t10, ht10, hf⟩ := ob hf
      refine m_X7_216 F hh (c_X7_rowOf ht10) in_122 sh_122 rfl hl (Nat.le_of_ble_eq_true rfl) dX7_of_62 (fun H locs hh => ?_)
      refine lv_if_ge (tgt := 72) hx hb dX7_of_65 (by decide) (fun c11 => ?_) (fun c11 => ?_)
      · replace hf := itp c11 hf
        refine lv_iconst (v := 0) hx hb dX7_of_72 (by decide) ?_
        exact g_iretW F hr hlk hh hf dX7_of_73
      · replace hf := itn c11 hf
        refine lv_iconst (v := 1) hx hb dX7_of_68 (by decide) ?_
        refine lv_goto (tgt := 73) hx hb dX7_of_69 (by decide) ?_
        exact g_iretW F hr hlk hh hf dX7_of_73
    replace hf := itn c9 hf
    by_cases c12 : x2 = 3
    · replace hf := itp c12 hf
      refine lv_tableIn (tgt := 74) (off := 59) hx hb dX7_of_15 (by rw [c12]; decide) (by rw [c12]; decide) (by rw [c12]; rfl) (by decide) ?_
      refine lv_aload_n hx hb dX7_of_74 rfl (lv_at hl 0 rfl) ?_
      refine lv_iload_n hx hb dX7_of_75 rfl (lv_at hl 1 rfl) ?_
      obtain ⟨t13, ht13, hf⟩ := ob hf
      refine m_X7_235 F hh (c_X7_isNeeded ht13) in_122 sh_122 rfl hl (Nat.le_of_ble_eq_true rfl) dX7_of_76 (fun H locs hh => ?_)
      refine lv_if_eq (tgt := 86) hx hb dX7_of_79 (by decide) (fun c14 => ?_) (fun c14 => ?_)
      · replace hf := itp c14 hf
        refine lv_iconst (v := 0) hx hb dX7_of_86 (by decide) ?_
        exact g_iretW F hr hlk hh hf dX7_of_87
      · replace hf := itn c14 hf
        refine lv_iconst (v := 1) hx hb dX7_of_82 (by decide) ?_
        refine lv_goto (tgt := 87) hx hb dX7_of_83 (by decide) ?_
        exact g_iretW F hr hlk hh hf dX7_of_87
    replace hf := itn c12 hf
    refine lv_tableOut (tgt := 88) hx hb dX7_of_15 (tb_out4 c5 c7 c9 c12) (by decide) ?_
    refine lv_iconst (v := -1) hx hb dX7_of_88 (by decide) ?_
    exact g_iretW F hr hlk hh hf dX7_of_89
  · replace hf := itp c2 hf
    refine lv_iconst (v := -1) hx hb dX7_of_8 (by decide) ?_
    exact g_iretW F hr hlk hh hf dX7_of_9
theorem c_X7_of {l : Launch} {G : Gm} {x1 : Int32} {x2 : Int32} {z : Sto} {Z : Int32 × Sto} (hf : f_X7_of x1 x2 z = some Z) : Met l yX7_of (Cond.code yX7_of cX7_of 3 (some .int) :: TT) rmX7_of (va_Pc [.ref (G.1 122), .int x1, .int x2] (GS rM G z)) (QI rM G Z.1 Z.2) 0 0 (Am rM G) := by
  refine g_met [(0, .ref (G.1 122)), (1, .int x1), (2, .int x2)] (by decide) (Nat.le_of_ble_eq_true rfl) rfl ?_
  intro p e s m below meth cd F hr hlk ls H locs hl hh
  exact w_X7_of F hr hlk hf hh hl
def f_X7_stress (x1 : Int32) (x2 : Int32) (x3 : Int32) (z : Sto) : Option (Int64 × Sto) := bd (f_X7_laysAll z) fun z2 => bd (rdI z2 123 42 (1 : Int32)) fun t3 => bd (f_X7_in ((Int32.toInt64 x1)) (0 : Int64) ((Int32.toInt64 ((t3 - (z2.1 122 17)) - (1 : Int32)))) z2) fun t4 => if t4 = 0 then (some ((-1 : Int64), z2)) else (bd (f_X7_isBar x2 z2) fun t6 => if t6 = 0 then (some ((-1 : Int64), z2)) else (bd (f_X7_in ((Int32.toInt64 x3)) (0 : Int64) (2 : Int64) z2) fun t8 => if t8 = 0 then (some ((-1 : Int64), z2)) else (bd (f_X7_partOf x1 x2 z2) fun t10 => bd (f_X7_told t10 ((z2.2 122 16)) x3 z2) fun t11 => some (t11, z2))))
set_option maxRecDepth 100000 in
set_option maxHeartbeats 4000000 in
theorem w_X7_stress {Z : Int64 × Sto} (F : Fx rM p s m args cd cX7_stress 4 RX7 G) (hr : meth.sig.returnType = (some .long)) (hlk : meth.locks = false) {x1 : Int32} {x2 : Int32} {x3 : Int32} {z : Sto} {H : Heap} {locs : List Loc} {ls : Array Slot} (hf : f_X7_stress x1 x2 x3 z = some Z) (hh : Hh rM G z s H locs) (hl : lv_has ls 4 [(0, .ref (G.1 122)), (1, .int x1), (2, .int x2), (3, .int x3)]) : W p l e rmX7_stress s m args below meth cd H locs 0 0 (MQ below (QL rM G Z.1 Z.2) args s 0 0 (Am rM G)) (F0 m 0 ls []) := by
  have hx := F.1
  have hb := F.2.1
  unfold f_X7_stress at hf
  refine lv_aload_n hx hb dX7_stress_0 rfl (lv_at hl 0 rfl) ?_
  obtain ⟨z2, ht1, hf⟩ := ob hf
  refine m_X7_232 F hh (c_X7_laysAll ht1) in_122 sh_122 rfl hl (Nat.le_of_ble_eq_true rfl) dX7_stress_1 (fun H locs hh => ?_)
  refine lv_iload_n hx hb dX7_stress_4 rfl (lv_at hl 1 rfl) ?_
  refine lv_i2l hx hb dX7_stress_5 rfl ?_
  refine lv_lconst (v := 0) hx hb dX7_stress_6 (by decide) ?_
  refine lv_aload_n hx hb dX7_stress_7 rfl (lv_at hl 0 rfl) ?_
  refine r_X7_7 (b' := 123) F hh in_122 sh_122 rfl dX7_stress_8 ?_
  refine lv_iconst (v := 1) hx hb dX7_stress_11 (by decide) ?_
  obtain ⟨t3, ht3, hf⟩ := ob hf
  refine g_iald F hh in_123 sh_123 ht3 dX7_stress_12 ?_
  refine lv_aload_n hx hb dX7_stress_13 rfl (lv_at hl 0 rfl) ?_
  refine r_X7_213 F hh in_122 sh_122 dX7_stress_14 ?_
  refine lv_isub hx hb dX7_stress_17 ?_
  refine lv_iconst (v := 1) hx hb dX7_stress_18 (by decide) ?_
  refine lv_isub hx hb dX7_stress_19 ?_
  refine lv_i2l hx hb dX7_stress_20 rfl ?_
  obtain ⟨t4, ht4, hf⟩ := ob hf
  refine m_X7_79 F hh (c_X7_in ht4) rfl hl (Nat.le_of_ble_eq_true rfl) dX7_stress_21 (fun H locs hh => ?_)
  refine lv_if_eq (tgt := 47) hx hb dX7_stress_24 (by decide) (fun c5 => ?_) (fun c5 => ?_)
  · replace hf := itp c5 hf
    refine lv_ldc2 hx hb F.2.2.2.1 (F.2.2.2.2.1 _ lk1160) dX7_stress_47 ?_
    exact g_lretW F hr hlk hh hf dX7_stress_50
  · replace hf := itn c5 hf
    refine lv_aload_n hx hb dX7_stress_27 rfl (lv_at hl 0 rfl) ?_
    refine lv_iload_n hx hb dX7_stress_28 rfl (lv_at hl 2 rfl) ?_
    obtain ⟨t6, ht6, hf⟩ := ob hf
    refine m_X7_152 F hh (c_X7_isBar ht6) in_122 sh_122 rfl hl (Nat.le_of_ble_eq_true rfl) dX7_stress_29 (fun H locs hh => ?_)
    refine lv_if_eq (tgt := 47) hx hb dX7_stress_32 (by decide) (fun c7 => ?_) (fun c7 => ?_)
    · replace hf := itp c7 hf
      refine lv_ldc2 hx hb F.2.2.2.1 (F.2.2.2.2.1 _ lk1160) dX7_stress_47 ?_
      exact g_lretW F hr hlk hh hf dX7_stress_50
    · replace hf := itn c7 hf
      refine lv_iload_n hx hb dX7_stress_35 rfl (lv_at hl 3 rfl) ?_
      refine lv_i2l hx hb dX7_stress_36 rfl ?_
      refine lv_lconst (v := 0) hx hb dX7_stress_37 (by decide) ?_
      refine lv_ldc2 hx hb F.2.2.2.1 (F.2.2.2.2.1 _ lk1159) dX7_stress_38 ?_
      obtain ⟨t8, ht8, hf⟩ := ob hf
      refine m_X7_79 F hh (c_X7_in ht8) rfl hl (Nat.le_of_ble_eq_true rfl) dX7_stress_41 (fun H locs hh => ?_)
      refine lv_if_ne (tgt := 51) hx hb dX7_stress_44 (by decide) (fun c9 => ?_) (fun c9 => ?_)
      · replace hf := itn c9 hf
        refine lv_aload_n hx hb dX7_stress_51 rfl (lv_at hl 0 rfl) ?_
        refine lv_iload_n hx hb dX7_stress_52 rfl (lv_at hl 1 rfl) ?_
        refine lv_iload_n hx hb dX7_stress_53 rfl (lv_at hl 2 rfl) ?_
        obtain ⟨t10, ht10, hf⟩ := ob hf
        refine m_X7_222 F hh (c_X7_partOf ht10) in_122 sh_122 rfl hl (Nat.le_of_ble_eq_true rfl) dX7_stress_54 (fun H locs hh => ?_)
        refine lv_aload_n hx hb dX7_stress_57 rfl (lv_at hl 0 rfl) ?_
        refine r_X7_198 F hh in_122 sh_122 dX7_stress_58 ?_
        refine lv_iload_n hx hb dX7_stress_61 rfl (lv_at hl 3 rfl) ?_
        obtain ⟨t11, ht11, hf⟩ := ob hf
        refine m_X7_240 F hh (c_X7_told ht11) rfl hl (Nat.le_of_ble_eq_true rfl) dX7_stress_62 (fun H locs hh => ?_)
        exact g_lretW F hr hlk hh hf dX7_stress_65
      · replace hf := itp c9 hf
        refine lv_ldc2 hx hb F.2.2.2.1 (F.2.2.2.2.1 _ lk1160) dX7_stress_47 ?_
        exact g_lretW F hr hlk hh hf dX7_stress_50
theorem c_X7_stress {l : Launch} {G : Gm} {x1 : Int32} {x2 : Int32} {x3 : Int32} {z : Sto} {Z : Int64 × Sto} (hf : f_X7_stress x1 x2 x3 z = some Z) : Met l yX7_stress (Cond.code yX7_stress cX7_stress 4 (some .long) :: TT) rmX7_stress (va_Pc [.ref (G.1 122), .int x1, .int x2, .int x3] (GS rM G z)) (QL rM G Z.1 Z.2) 0 0 (Am rM G) := by
  refine g_met [(0, .ref (G.1 122)), (1, .int x1), (2, .int x2), (3, .int x3)] (by decide) (Nat.le_of_ble_eq_true rfl) rfl ?_
  intro p e s m below meth cd F hr hlk ls H locs hl hh
  exact w_X7_stress F hr hlk hf hh hl
def f_X7_pull (x1 : Int32) (x2 : Int32) (z : Sto) : Option (Int64 × Sto) := bd (f_X7_isBar x1 z) fun t1 => if t1 = 0 then (some ((-1 : Int64), z)) else (bd (f_X7_in ((Int32.toInt64 x2)) (0 : Int64) (2 : Int64) z) fun t3 => if t3 = 0 then (some ((-1 : Int64), z)) else (bd (f_X7_laysAll z) fun z6 => bd (f_X7_pullOf x1 z6) fun t7 => bd (f_X7_told t7 ((z6.2 122 16)) x2 z6) fun t8 => some (t8, z6)))
set_option maxRecDepth 100000 in
set_option maxHeartbeats 4000000 in
theorem w_X7_pull {Z : Int64 × Sto} (F : Fx rM p s m args cd cX7_pull 3 RX7 G) (hr : meth.sig.returnType = (some .long)) (hlk : meth.locks = false) {x1 : Int32} {x2 : Int32} {z : Sto} {H : Heap} {locs : List Loc} {ls : Array Slot} (hf : f_X7_pull x1 x2 z = some Z) (hh : Hh rM G z s H locs) (hl : lv_has ls 3 [(0, .ref (G.1 122)), (1, .int x1), (2, .int x2)]) : W p l e rmX7_pull s m args below meth cd H locs 0 0 (MQ below (QL rM G Z.1 Z.2) args s 0 0 (Am rM G)) (F0 m 0 ls []) := by
  have hx := F.1
  have hb := F.2.1
  unfold f_X7_pull at hf
  refine lv_aload_n hx hb dX7_pull_0 rfl (lv_at hl 0 rfl) ?_
  refine lv_iload_n hx hb dX7_pull_1 rfl (lv_at hl 1 rfl) ?_
  obtain ⟨t1, ht1, hf⟩ := ob hf
  refine m_X7_152 F hh (c_X7_isBar ht1) in_122 sh_122 rfl hl (Nat.le_of_ble_eq_true rfl) dX7_pull_2 (fun H locs hh => ?_)
  refine lv_if_eq (tgt := 20) hx hb dX7_pull_5 (by decide) (fun c2 => ?_) (fun c2 => ?_)
  · replace hf := itp c2 hf
    refine lv_ldc2 hx hb F.2.2.2.1 (F.2.2.2.2.1 _ lk1160) dX7_pull_20 ?_
    exact g_lretW F hr hlk hh hf dX7_pull_23
  · replace hf := itn c2 hf
    refine lv_iload_n hx hb dX7_pull_8 rfl (lv_at hl 2 rfl) ?_
    refine lv_i2l hx hb dX7_pull_9 rfl ?_
    refine lv_lconst (v := 0) hx hb dX7_pull_10 (by decide) ?_
    refine lv_ldc2 hx hb F.2.2.2.1 (F.2.2.2.2.1 _ lk1159) dX7_pull_11 ?_
    obtain ⟨t3, ht3, hf⟩ := ob hf
    refine m_X7_79 F hh (c_X7_in ht3) rfl hl (Nat.le_of_ble_eq_true rfl) dX7_pull_14 (fun H locs hh => ?_)
    refine lv_if_ne (tgt := 24) hx hb dX7_pull_17 (by decide) (fun c4 => ?_) (fun c4 => ?_)
    · replace hf := itn c4 hf
      refine lv_aload_n hx hb dX7_pull_24 rfl (lv_at hl 0 rfl) ?_
      obtain ⟨z6, ht5, hf⟩ := ob hf
      refine m_X7_232 F hh (c_X7_laysAll ht5) in_122 sh_122 rfl hl (Nat.le_of_ble_eq_true rfl) dX7_pull_25 (fun H locs hh => ?_)
      refine lv_aload_n hx hb dX7_pull_28 rfl (lv_at hl 0 rfl) ?_
      refine lv_iload_n hx hb dX7_pull_29 rfl (lv_at hl 1 rfl) ?_
      obtain ⟨t7, ht7, hf⟩ := ob hf
      refine m_X7_244 F hh (c_X7_pullOf ht7) in_122 sh_122 rfl hl (Nat.le_of_ble_eq_true rfl) dX7_pull_30 (fun H locs hh => ?_)
      refine lv_aload_n hx hb dX7_pull_33 rfl (lv_at hl 0 rfl) ?_
      refine r_X7_198 F hh in_122 sh_122 dX7_pull_34 ?_
      refine lv_iload_n hx hb dX7_pull_37 rfl (lv_at hl 2 rfl) ?_
      obtain ⟨t8, ht8, hf⟩ := ob hf
      refine m_X7_240 F hh (c_X7_told ht8) rfl hl (Nat.le_of_ble_eq_true rfl) dX7_pull_38 (fun H locs hh => ?_)
      exact g_lretW F hr hlk hh hf dX7_pull_41
    · replace hf := itp c4 hf
      refine lv_ldc2 hx hb F.2.2.2.1 (F.2.2.2.2.1 _ lk1160) dX7_pull_20 ?_
      exact g_lretW F hr hlk hh hf dX7_pull_23
theorem c_X7_pull {l : Launch} {G : Gm} {x1 : Int32} {x2 : Int32} {z : Sto} {Z : Int64 × Sto} (hf : f_X7_pull x1 x2 z = some Z) : Met l yX7_pull (Cond.code yX7_pull cX7_pull 3 (some .long) :: TT) rmX7_pull (va_Pc [.ref (G.1 122), .int x1, .int x2] (GS rM G z)) (QL rM G Z.1 Z.2) 0 0 (Am rM G) := by
  refine g_met [(0, .ref (G.1 122)), (1, .int x1), (2, .int x2)] (by decide) (Nat.le_of_ble_eq_true rfl) rfl ?_
  intro p e s m below meth cd F hr hlk ls H locs hl hh
  exact w_X7_pull F hr hlk hf hh hl
def f_X7_isStiff (x1 : Int32) (z : Sto) : Option (Int32 × Sto) := bd (rdI z 123 42 (0 : Int32)) fun t1 => if t1 ≤ (1 : Int32) then (some ((0 : Int32), z)) else (bd2 (f_X7_solves x1 z) fun t3 z4 => bd (rdI z4 123 42 (0 : Int32)) fun t5 => if t3 = (((2 : Int32) * t5) - (3 : Int32)) then (some ((1 : Int32), z4)) else (some ((0 : Int32), z4)))
set_option maxRecDepth 100000 in
set_option maxHeartbeats 4000000 in
theorem w_X7_isStiff {Z : Int32 × Sto} (F : Fx rM p s m args cd cX7_isStiff 2 RX7 G) (hr : meth.sig.returnType = (some .boolean)) (hlk : meth.locks = false) {x1 : Int32} {z : Sto} {H : Heap} {locs : List Loc} {ls : Array Slot} (hf : f_X7_isStiff x1 z = some Z) (hh : Hh rM G z s H locs) (hl : lv_has ls 2 [(0, .ref (G.1 122)), (1, .int x1)]) : W p l e rmX7_isStiff s m args below meth cd H locs 0 0 (MQ below (QI rM G Z.1 Z.2) args s 0 0 (Am rM G)) (F0 m 0 ls []) := by
  have hx := F.1
  have hb := F.2.1
  unfold f_X7_isStiff at hf
  refine lv_aload_n hx hb dX7_isStiff_0 rfl (lv_at hl 0 rfl) ?_
  refine r_X7_7 (b' := 123) F hh in_122 sh_122 rfl dX7_isStiff_1 ?_
  refine lv_iconst (v := 0) hx hb dX7_isStiff_4 (by decide) ?_
  obtain ⟨t1, ht1, hf⟩ := ob hf
  refine g_iald F hh in_123 sh_123 ht1 dX7_isStiff_5 ?_
  refine lv_iconst (v := 1) hx hb dX7_isStiff_6 (by decide) ?_
  refine lv_icmp_le (tgt := 32) hx hb dX7_isStiff_7 (by decide) (fun c2 => ?_) (fun c2 => ?_)
  · replace hf := itp c2 hf
    refine lv_iconst (v := 0) hx hb dX7_isStiff_32 (by decide) ?_
    exact g_zretW F hr hlk rfl hh hf dX7_isStiff_33
  · replace hf := itn c2 hf
    refine lv_aload_n hx hb dX7_isStiff_10 rfl (lv_at hl 0 rfl) ?_
    refine lv_iload_n hx hb dX7_isStiff_11 rfl (lv_at hl 1 rfl) ?_
    obtain ⟨t3, z4, ht3, hf⟩ := ob2 hf
    refine m_X7_210 (r := t3) (σ' := z4) F hh (c_X7_solves ht3) in_122 sh_122 rfl hl (Nat.le_of_ble_eq_true rfl) dX7_isStiff_12 (fun H locs hh => ?_)
    refine lv_iconst (v := 2) hx hb dX7_isStiff_15 (by decide) ?_
    refine lv_aload_n hx hb dX7_isStiff_16 rfl (lv_at hl 0 rfl) ?_
    refine r_X7_7 (b' := 123) F hh in_122 sh_122 rfl dX7_isStiff_17 ?_
    refine lv_iconst (v := 0) hx hb dX7_isStiff_20 (by decide) ?_
    obtain ⟨t5, ht5, hf⟩ := ob hf
    refine g_iald F hh in_123 sh_123 ht5 dX7_isStiff_21 ?_
    refine lv_imul hx hb dX7_isStiff_22 ?_
    refine lv_iconst (v := 3) hx hb dX7_isStiff_23 (by decide) ?_
    refine lv_isub hx hb dX7_isStiff_24 ?_
    refine lv_icmp_ne (tgt := 32) hx hb dX7_isStiff_25 (by decide) (fun c6 => ?_) (fun c6 => ?_)
    · replace hf := itn c6 hf
      refine lv_iconst (v := 0) hx hb dX7_isStiff_32 (by decide) ?_
      exact g_zretW F hr hlk rfl hh hf dX7_isStiff_33
    · replace hf := itp c6 hf
      refine lv_iconst (v := 1) hx hb dX7_isStiff_28 (by decide) ?_
      refine lv_goto (tgt := 33) hx hb dX7_isStiff_29 (by decide) ?_
      exact g_zretW F hr hlk rfl hh hf dX7_isStiff_33
theorem c_X7_isStiff {l : Launch} {G : Gm} {x1 : Int32} {z : Sto} {Z : Int32 × Sto} (hf : f_X7_isStiff x1 z = some Z) : Met l yX7_isStiff (Cond.code yX7_isStiff cX7_isStiff 2 (some .boolean) :: TT) rmX7_isStiff (va_Pc [.ref (G.1 122), .int x1] (GS rM G z)) (QI rM G Z.1 Z.2) 0 0 (Am rM G) := by
  refine g_met [(0, .ref (G.1 122)), (1, .int x1)] (by decide) (Nat.le_of_ble_eq_true rfl) rfl ?_
  intro p e s m below meth cd F hr hlk ls H locs hl hh
  exact w_X7_isStiff F hr hlk hf hh hl
def b_X7_fail_77 (ag62 : Int32 → Int32 → Int64 → Int64 → Int32 → Sto → Option (Int64 × Sto)) (ag77 : Int32 → Int32 → Int64 → Int64 → Int32 → Int64 → Int32 → Sto → Option (Int64 × Sto)) (x1 : Int32) (x2 : Int32) (x3 : Int64) (x5 : Int64) (x7 : Int32) (x8 : Int64) (x10 : Int32) (z : Sto) : Option (Int64 × Sto) := bd (rdI z 123 42 (1 : Int32)) fun t12 => if t12 ≤ x10 then (if (lg_cmp x8 (0 : Int64)) ≤ 0 then (lt ((x3 + (0 : Int64))) fun x3_15 => lt (x7 + (1 : Int32)) fun x7_16 => ag62 x1 x2 x3_15 x5 x7_16 z) else (bd2 (f_X7_isStiff x7 z) fun t17 z18 => if t17 = 0 then (lt ((x3 + (0 : Int64))) fun x3_20 => lt (x7 + (1 : Int32)) fun x7_21 => ag62 x1 x2 x3_20 x5 x7_21 z18) else (lt ((x3 + x8)) fun x3_22 => lt (x7 + (1 : Int32)) fun x7_23 => ag62 x1 x2 x3_22 x5 x7_23 z18))) else (if ((x7 >>> (x10 &&& 31)) &&& (1 : Int32)) = (1 : Int32) then (lt ((x8 * (Int32.toInt64 ((10 : Int32) - x1)))) fun x8_27 => lt (x10 + (1 : Int32)) fun x10_28 => ag77 x1 x2 x3 x5 x7 x8_27 x10_28 z) else (lt ((x8 * (Int32.toInt64 x1))) fun x8_25 => lt (x10 + (1 : Int32)) fun x10_26 => ag77 x1 x2 x3 x5 x7 x8_25 x10_26 z))
def b_X7_fail_62  (ag62 : Int32 → Int32 → Int64 → Int64 → Int32 → Sto → Option (Int64 × Sto)) (x1 : Int32) (x2 : Int32) (x3 : Int64) (x5 : Int64) (x7 : Int32) (z : Sto) : Option (Int64 × Sto) := bd (f_X7_allBars z) fun t9 => if t9 < x7 then (bd (f_X7_told x3 x5 x2 z) fun t11 => some (t11, z)) else (wl8 (b_X7_fail_77 ag62) fu x1 x2 x3 x5 x7 (1 : Int64) (0 : Int32) z)
def b_X7_fail_34  (ag34 : Int32 → Int32 → Int64 → Int64 → Int32 → Sto → Option (Int64 × Sto)) (x1 : Int32) (x2 : Int32) (x3 : Int64) (x5 : Int64) (x7 : Int32) (z : Sto) : Option (Int64 × Sto) := bd (rdI z 123 42 (1 : Int32)) fun t5 => if t5 ≤ x7 then (wl6 (b_X7_fail_62) fu x1 x2 x3 x5 (0 : Int32) z) else (lt ((x5 * (10 : Int64))) fun x5_7 => lt (x7 + (1 : Int32)) fun x7_8 => ag34 x1 x2 x3 x5_7 x7_8 z)
def f_X7_fail (x1 : Int32) (x2 : Int32) (z : Sto) : Option (Int64 × Sto) := bd (f_X7_in ((Int32.toInt64 x1)) (0 : Int64) (10 : Int64) z) fun t1 => if t1 = 0 then (some ((-1 : Int64), z)) else (bd (f_X7_in ((Int32.toInt64 x2)) (0 : Int64) (1 : Int64) z) fun t3 => if t3 = 0 then (some ((-1 : Int64), z)) else (wl6 (b_X7_fail_34) fu x1 x2 (0 : Int64) (1 : Int64) (0 : Int32) z))
set_option maxRecDepth 100000 in
set_option maxHeartbeats 4000000 in
theorem w_X7_fail_77 {ag62 : Int32 → Int32 → Int64 → Int64 → Int32 → Sto → Option (Int64 × Sto)} {Z : Int64 × Sto} (F : Fx rM p s m args cd cX7_fail 11 RX7 G) (hr : meth.sig.returnType = (some .long)) (hlk : meth.locks = false) (hag62 : ∀ (x1 : Int32) (x2 : Int32) (x3 : Int64) (x5 : Int64) (x7 : Int32) (z : Sto), ag62 x1 x2 x3 x5 x7 z = some Z → ∀ {H : Heap} {locs : List Loc} {ls : Array Slot}, Hh rM G z s H locs → lv_has ls 11 [(0, .ref (G.1 122)), (1, .int x1), (2, .int x2), (3, .long x3), (5, .long x5), (7, .int x7)] → W p l e rmX7_fail s m args below meth cd H locs 0 0 (MQ below (QL rM G Z.1 Z.2) args s 0 0 (Am rM G)) (F0 m 62 ls [])) : ∀ (n : Nat), ∀ (x1 : Int32) (x2 : Int32) (x3 : Int64) (x5 : Int64) (x7 : Int32) (x8 : Int64) (x10 : Int32) (z : Sto), wl8 (b_X7_fail_77 ag62) n x1 x2 x3 x5 x7 x8 x10 z = some Z → ∀ {H : Heap} {locs : List Loc} {ls : Array Slot}, Hh rM G z s H locs → lv_has ls 11 [(0, .ref (G.1 122)), (1, .int x1), (2, .int x2), (3, .long x3), (5, .long x5), (7, .int x7), (8, .long x8), (10, .int x10)] → W p l e rmX7_fail s m args below meth cd H locs 0 0 (MQ below (QL rM G Z.1 Z.2) args s 0 0 (Am rM G)) (F0 m 77 ls []) := by
  have hx := F.1
  have hb := F.2.1
  intro n
  induction n with
  | zero =>
    intro x1 x2 x3 x5 x7 x8 x10 z hf
    exact absurd hf (by intro h; cases h)
  | succ n ih =>
    intro x1 x2 x3 x5 x7 x8 x10 z hf  H locs ls hh hl
    replace hf : b_X7_fail_77 ag62 (wl8 (b_X7_fail_77 ag62) n) x1 x2 x3 x5 x7 x8 x10 z = some Z := hf
    unfold b_X7_fail_77 at hf
    refine lv_iload hx hb dX7_fail_77 (lv_at hl 7 rfl) ?_
    refine lv_aload_n hx hb dX7_fail_79 rfl (lv_at hl 0 rfl) ?_
    refine r_X7_7 (b' := 123) F hh in_122 sh_122 rfl dX7_fail_80 ?_
    refine lv_iconst (v := 1) hx hb dX7_fail_83 (by decide) ?_
    obtain ⟨t12, ht12, hf⟩ := ob hf
    refine g_iald F hh in_123 sh_123 ht12 dX7_fail_84 ?_
    refine lv_icmp_ge (tgt := 120) hx hb dX7_fail_85 (by decide) (fun c13 => ?_) (fun c13 => ?_)
    · replace hf := itp c13 hf
      refine lv_lload_n hx hb dX7_fail_120 rfl (lv_at hl 3 rfl) ?_
      refine lv_lload hx hb dX7_fail_121 (lv_at hl 6 rfl) ?_
      refine lv_lconst (v := 0) hx hb dX7_fail_123 (by decide) ?_
      refine W.lcmp hx hb dX7_fail_124 ?_
      refine lv_if_le (tgt := 142) hx hb dX7_fail_125 (by decide) (fun c14 => ?_) (fun c14 => ?_)
      · replace hf := itp c14 hf
        refine lv_lconst (v := 0) hx hb dX7_fail_142 (by decide) ?_
        refine lv_ladd hx hb dX7_fail_143 ?_
        refine lv_topl (fun x3_15 ex3_15 => ?_)
        replace hf := lt_e ex3_15 hf
        refine lv_lstore_n (lv' := [(3, .long x3_15), (0, .ref (G.1 122)), (1, .int x1), (2, .int x2), (5, .long x5), (7, .int x7), (8, .long x8), (10, .int x10)]) hx hb dX7_fail_144 rfl hl (by decide) rfl (fun ls hl => ?_)
        obtain ⟨x7_16, ex7_16⟩ : ∃ y : Int32, y = x7 + (1 : Int32) := ⟨_, rfl⟩
        replace hf := lt_e ex7_16 hf
        refine lv_iinc (v := x7_16) (lv' := [(7, .int x7_16), (3, .long x3_15), (0, .ref (G.1 122)), (1, .int x1), (2, .int x2), (5, .long x5), (8, .long x8), (10, .int x10)]) hx hb dX7_fail_145 hl (k := 5) rfl (by rw [ex7_16]; rfl) (by decide) rfl (fun ls hl => ?_)
        refine lv_goto (tgt := 62) hx hb dX7_fail_148 (by decide) ?_
        exact hag62 _ _ _ _ _ _ hf  hh (lv_sub hl [2, 3, 4, 1, 5, 0] rfl)
      · replace hf := itn c14 hf
        refine lv_aload_n hx hb dX7_fail_128 rfl (lv_at hl 0 rfl) ?_
        refine lv_iload hx hb dX7_fail_129 (lv_at hl 5 rfl) ?_
        obtain ⟨t17, z18, ht17, hf⟩ := ob2 hf
        refine m_X7_250 (r := t17) (σ' := z18) F hh (c_X7_isStiff ht17) in_122 sh_122 rfl hl (Nat.le_of_ble_eq_true rfl) dX7_fail_131 (fun H locs hh => ?_)
        refine lv_if_eq (tgt := 142) hx hb dX7_fail_134 (by decide) (fun c19 => ?_) (fun c19 => ?_)
        · replace hf := itp c19 hf
          refine lv_lconst (v := 0) hx hb dX7_fail_142 (by decide) ?_
          refine lv_ladd hx hb dX7_fail_143 ?_
          refine lv_topl (fun x3_20 ex3_20 => ?_)
          replace hf := lt_e ex3_20 hf
          refine lv_lstore_n (lv' := [(3, .long x3_20), (0, .ref (G.1 122)), (1, .int x1), (2, .int x2), (5, .long x5), (7, .int x7), (8, .long x8), (10, .int x10)]) hx hb dX7_fail_144 rfl hl (by decide) rfl (fun ls hl => ?_)
          obtain ⟨x7_21, ex7_21⟩ : ∃ y : Int32, y = x7 + (1 : Int32) := ⟨_, rfl⟩
          replace hf := lt_e ex7_21 hf
          refine lv_iinc (v := x7_21) (lv' := [(7, .int x7_21), (3, .long x3_20), (0, .ref (G.1 122)), (1, .int x1), (2, .int x2), (5, .long x5), (8, .long x8), (10, .int x10)]) hx hb dX7_fail_145 hl (k := 5) rfl (by rw [ex7_21]; rfl) (by decide) rfl (fun ls hl => ?_)
          refine lv_goto (tgt := 62) hx hb dX7_fail_148 (by decide) ?_
          exact hag62 _ _ _ _ _ _ hf  hh (lv_sub hl [2, 3, 4, 1, 5, 0] rfl)
        · replace hf := itn c19 hf
          refine lv_lload hx hb dX7_fail_137 (lv_at hl 6 rfl) ?_
          refine lv_goto (tgt := 143) hx hb dX7_fail_139 (by decide) ?_
          refine lv_ladd hx hb dX7_fail_143 ?_
          refine lv_topl (fun x3_22 ex3_22 => ?_)
          replace hf := lt_e ex3_22 hf
          refine lv_lstore_n (lv' := [(3, .long x3_22), (0, .ref (G.1 122)), (1, .int x1), (2, .int x2), (5, .long x5), (7, .int x7), (8, .long x8), (10, .int x10)]) hx hb dX7_fail_144 rfl hl (by decide) rfl (fun ls hl => ?_)
          obtain ⟨x7_23, ex7_23⟩ : ∃ y : Int32, y = x7 + (1 : Int32) := ⟨_, rfl⟩
          replace hf := lt_e ex7_23 hf
          refine lv_iinc (v := x7_23) (lv' := [(7, .int x7_23), (3, .long x3_22), (0, .ref (G.1 122)), (1, .int x1), (2, .int x2), (5, .long x5), (8, .long x8), (10, .int x10)]) hx hb dX7_fail_145 hl (k := 5) rfl (by rw [ex7_23]; rfl) (by decide) rfl (fun ls hl => ?_)
          refine lv_goto (tgt := 62) hx hb dX7_fail_148 (by decide) ?_
          exact hag62 _ _ _ _ _ _ hf  hh (lv_sub hl [2, 3, 4, 1, 5, 0] rfl)
    · replace hf := itn c13 hf
      refine lv_lload hx hb dX7_fail_88 (lv_at hl 6 rfl) ?_
      refine lv_iload hx hb dX7_fail_90 (lv_at hl 5 rfl) ?_
      refine lv_iload hx hb dX7_fail_92 (lv_at hl 7 rfl) ?_
      refine lv_ishr hx hb dX7_fail_94 ?_
      refine lv_iconst (v := 1) hx hb dX7_fail_95 (by decide) ?_
      refine lv_iand hx hb dX7_fail_96 ?_
      refine lv_iconst (v := 1) hx hb dX7_fail_97 (by decide) ?_
      refine lv_icmp_ne (tgt := 109) hx hb dX7_fail_98 (by decide) (fun c24 => ?_) (fun c24 => ?_)
      · replace hf := itn c24 hf
        refine lv_iload_n hx hb dX7_fail_109 rfl (lv_at hl 1 rfl) ?_
        refine lv_i2l hx hb dX7_fail_110 rfl ?_
        refine lv_lmul hx hb dX7_fail_111 ?_
        refine lv_topl (fun x8_25 ex8_25 => ?_)
        replace hf := lt_e ex8_25 hf
        refine lv_lstore (lv' := [(8, .long x8_25), (0, .ref (G.1 122)), (1, .int x1), (2, .int x2), (3, .long x3), (5, .long x5), (7, .int x7), (10, .int x10)]) hx hb dX7_fail_112 hl (by decide) rfl (fun ls hl => ?_)
        obtain ⟨x10_26, ex10_26⟩ : ∃ y : Int32, y = x10 + (1 : Int32) := ⟨_, rfl⟩
        replace hf := lt_e ex10_26 hf
        refine lv_iinc (v := x10_26) (lv' := [(10, .int x10_26), (8, .long x8_25), (0, .ref (G.1 122)), (1, .int x1), (2, .int x2), (3, .long x3), (5, .long x5), (7, .int x7)]) hx hb dX7_fail_114 hl (k := 7) rfl (by rw [ex10_26]; rfl) (by decide) rfl (fun ls hl => ?_)
        refine lv_goto (tgt := 77) hx hb dX7_fail_117 (by decide) ?_
        exact ih _ _ _ _ _ _ _ _ hf  hh (lv_sub hl [2, 3, 4, 5, 6, 7, 1, 0] rfl)
      · replace hf := itp c24 hf
        refine lv_bipush (v := 10) hx hb dX7_fail_101 (by decide) ?_
        refine lv_iload_n hx hb dX7_fail_103 rfl (lv_at hl 1 rfl) ?_
        refine lv_isub hx hb dX7_fail_104 ?_
        refine lv_i2l hx hb dX7_fail_105 rfl ?_
        refine lv_goto (tgt := 111) hx hb dX7_fail_106 (by decide) ?_
        refine lv_lmul hx hb dX7_fail_111 ?_
        refine lv_topl (fun x8_27 ex8_27 => ?_)
        replace hf := lt_e ex8_27 hf
        refine lv_lstore (lv' := [(8, .long x8_27), (0, .ref (G.1 122)), (1, .int x1), (2, .int x2), (3, .long x3), (5, .long x5), (7, .int x7), (10, .int x10)]) hx hb dX7_fail_112 hl (by decide) rfl (fun ls hl => ?_)
        obtain ⟨x10_28, ex10_28⟩ : ∃ y : Int32, y = x10 + (1 : Int32) := ⟨_, rfl⟩
        replace hf := lt_e ex10_28 hf
        refine lv_iinc (v := x10_28) (lv' := [(10, .int x10_28), (8, .long x8_27), (0, .ref (G.1 122)), (1, .int x1), (2, .int x2), (3, .long x3), (5, .long x5), (7, .int x7)]) hx hb dX7_fail_114 hl (k := 7) rfl (by rw [ex10_28]; rfl) (by decide) rfl (fun ls hl => ?_)
        refine lv_goto (tgt := 77) hx hb dX7_fail_117 (by decide) ?_
        exact ih _ _ _ _ _ _ _ _ hf  hh (lv_sub hl [2, 3, 4, 5, 6, 7, 1, 0] rfl)
set_option maxRecDepth 100000 in
set_option maxHeartbeats 4000000 in
theorem w_X7_fail_62  {Z : Int64 × Sto} (F : Fx rM p s m args cd cX7_fail 11 RX7 G) (hr : meth.sig.returnType = (some .long)) (hlk : meth.locks = false)  : ∀ (n : Nat), ∀ (x1 : Int32) (x2 : Int32) (x3 : Int64) (x5 : Int64) (x7 : Int32) (z : Sto), wl6 (b_X7_fail_62) n x1 x2 x3 x5 x7 z = some Z → ∀ {H : Heap} {locs : List Loc} {ls : Array Slot}, Hh rM G z s H locs → lv_has ls 11 [(0, .ref (G.1 122)), (1, .int x1), (2, .int x2), (3, .long x3), (5, .long x5), (7, .int x7)] → W p l e rmX7_fail s m args below meth cd H locs 0 0 (MQ below (QL rM G Z.1 Z.2) args s 0 0 (Am rM G)) (F0 m 62 ls []) := by
  have hx := F.1
  have hb := F.2.1
  intro n
  induction n with
  | zero =>
    intro x1 x2 x3 x5 x7 z hf
    exact absurd hf (by intro h; cases h)
  | succ n ih =>
    intro x1 x2 x3 x5 x7 z hf  H locs ls hh hl
    replace hf : b_X7_fail_62 (wl6 (b_X7_fail_62) n) x1 x2 x3 x5 x7 z = some Z := hf
    unfold b_X7_fail_62 at hf
    refine lv_iload hx hb dX7_fail_62 (lv_at hl 5 rfl) ?_
    refine lv_aload_n hx hb dX7_fail_64 rfl (lv_at hl 0 rfl) ?_
    obtain ⟨t9, ht9, hf⟩ := ob hf
    refine m_X7_206 F hh (c_X7_allBars ht9) in_122 sh_122 rfl hl (Nat.le_of_ble_eq_true rfl) dX7_fail_65 (fun H locs hh => ?_)
    refine lv_icmp_gt (tgt := 151) hx hb dX7_fail_68 (by decide) (fun c10 => ?_) (fun c10 => ?_)
    · replace hf := itp c10 hf
      refine lv_lload_n hx hb dX7_fail_151 rfl (lv_at hl 3 rfl) ?_
      refine lv_lload hx hb dX7_fail_152 (lv_at hl 4 rfl) ?_
      refine lv_iload_n hx hb dX7_fail_154 rfl (lv_at hl 2 rfl) ?_
      obtain ⟨t11, ht11, hf⟩ := ob hf
      refine m_X7_240 F hh (c_X7_told ht11) rfl hl (Nat.le_of_ble_eq_true rfl) dX7_fail_155 (fun H locs hh => ?_)
      exact g_lretW F hr hlk hh hf dX7_fail_158
    · replace hf := itn c10 hf
      refine lv_lconst (v := 1) hx hb dX7_fail_71 (by decide) ?_
      refine lv_lstore (lv' := [(8, .long (1 : Int64)), (0, .ref (G.1 122)), (1, .int x1), (2, .int x2), (3, .long x3), (5, .long x5), (7, .int x7)]) hx hb dX7_fail_72 hl (by decide) rfl (fun ls hl => ?_)
      refine lv_iconst (v := 0) hx hb dX7_fail_74 (by decide) ?_
      refine lv_istore (lv' := [(10, .int (0 : Int32)), (8, .long (1 : Int64)), (0, .ref (G.1 122)), (1, .int x1), (2, .int x2), (3, .long x3), (5, .long x5), (7, .int x7)]) hx hb dX7_fail_75 hl (by decide) rfl (fun ls hl => ?_)
      exact w_X7_fail_77 F hr hlk ih fu _ _ _ _ _ _ _ _ hf  hh (lv_sub hl [2, 3, 4, 5, 6, 7, 1, 0] rfl)
set_option maxRecDepth 100000 in
set_option maxHeartbeats 4000000 in
theorem w_X7_fail_34  {Z : Int64 × Sto} (F : Fx rM p s m args cd cX7_fail 11 RX7 G) (hr : meth.sig.returnType = (some .long)) (hlk : meth.locks = false)  : ∀ (n : Nat), ∀ (x1 : Int32) (x2 : Int32) (x3 : Int64) (x5 : Int64) (x7 : Int32) (z : Sto), wl6 (b_X7_fail_34) n x1 x2 x3 x5 x7 z = some Z → ∀ {H : Heap} {locs : List Loc} {ls : Array Slot}, Hh rM G z s H locs → lv_has ls 11 [(0, .ref (G.1 122)), (1, .int x1), (2, .int x2), (3, .long x3), (5, .long x5), (7, .int x7)] → W p l e rmX7_fail s m args below meth cd H locs 0 0 (MQ below (QL rM G Z.1 Z.2) args s 0 0 (Am rM G)) (F0 m 34 ls []) := by
  have hx := F.1
  have hb := F.2.1
  intro n
  induction n with
  | zero =>
    intro x1 x2 x3 x5 x7 z hf
    exact absurd hf (by intro h; cases h)
  | succ n ih =>
    intro x1 x2 x3 x5 x7 z hf  H locs ls hh hl
    replace hf : b_X7_fail_34 (wl6 (b_X7_fail_34) n) x1 x2 x3 x5 x7 z = some Z := hf
    unfold b_X7_fail_34 at hf
    refine lv_iload hx hb dX7_fail_34 (lv_at hl 5 rfl) ?_
    refine lv_aload_n hx hb dX7_fail_36 rfl (lv_at hl 0 rfl) ?_
    refine r_X7_7 (b' := 123) F hh in_122 sh_122 rfl dX7_fail_37 ?_
    refine lv_iconst (v := 1) hx hb dX7_fail_40 (by decide) ?_
    obtain ⟨t5, ht5, hf⟩ := ob hf
    refine g_iald F hh in_123 sh_123 ht5 dX7_fail_41 ?_
    refine lv_icmp_ge (tgt := 59) hx hb dX7_fail_42 (by decide) (fun c6 => ?_) (fun c6 => ?_)
    · replace hf := itp c6 hf
      refine lv_iconst (v := 0) hx hb dX7_fail_59 (by decide) ?_
      refine lv_istore (lv' := [(7, .int (0 : Int32)), (0, .ref (G.1 122)), (1, .int x1), (2, .int x2), (3, .long x3), (5, .long x5)]) hx hb dX7_fail_60 hl (by decide) rfl (fun ls hl => ?_)
      exact w_X7_fail_62 F hr hlk fu _ _ _ _ _ _ hf  hh (lv_sub hl [1, 2, 3, 4, 5, 0] rfl)
    · replace hf := itn c6 hf
      refine lv_lload hx hb dX7_fail_45 (lv_at hl 4 rfl) ?_
      refine lv_ldc2 hx hb F.2.2.2.1 (F.2.2.2.2.1 _ lk1179) dX7_fail_47 ?_
      refine lv_lmul hx hb dX7_fail_50 ?_
      refine lv_topl (fun x5_7 ex5_7 => ?_)
      replace hf := lt_e ex5_7 hf
      refine lv_lstore (lv' := [(5, .long x5_7), (0, .ref (G.1 122)), (1, .int x1), (2, .int x2), (3, .long x3), (7, .int x7)]) hx hb dX7_fail_51 hl (by decide) rfl (fun ls hl => ?_)
      obtain ⟨x7_8, ex7_8⟩ : ∃ y : Int32, y = x7 + (1 : Int32) := ⟨_, rfl⟩
      replace hf := lt_e ex7_8 hf
      refine lv_iinc (v := x7_8) (lv' := [(7, .int x7_8), (5, .long x5_7), (0, .ref (G.1 122)), (1, .int x1), (2, .int x2), (3, .long x3)]) hx hb dX7_fail_53 hl (k := 5) rfl (by rw [ex7_8]; rfl) (by decide) rfl (fun ls hl => ?_)
      refine lv_goto (tgt := 34) hx hb dX7_fail_56 (by decide) ?_
      exact ih _ _ _ _ _ _ hf  hh (lv_sub hl [2, 3, 4, 5, 1, 0] rfl)
set_option maxRecDepth 100000 in
set_option maxHeartbeats 4000000 in
theorem w_X7_fail {Z : Int64 × Sto} (F : Fx rM p s m args cd cX7_fail 11 RX7 G) (hr : meth.sig.returnType = (some .long)) (hlk : meth.locks = false) {x1 : Int32} {x2 : Int32} {z : Sto} {H : Heap} {locs : List Loc} {ls : Array Slot} (hf : f_X7_fail x1 x2 z = some Z) (hh : Hh rM G z s H locs) (hl : lv_has ls 11 [(0, .ref (G.1 122)), (1, .int x1), (2, .int x2)]) : W p l e rmX7_fail s m args below meth cd H locs 0 0 (MQ below (QL rM G Z.1 Z.2) args s 0 0 (Am rM G)) (F0 m 0 ls []) := by
  have hx := F.1
  have hb := F.2.1
  unfold f_X7_fail at hf
  refine lv_iload_n hx hb dX7_fail_0 rfl (lv_at hl 1 rfl) ?_
  refine lv_i2l hx hb dX7_fail_1 rfl ?_
  refine lv_lconst (v := 0) hx hb dX7_fail_2 (by decide) ?_
  refine lv_ldc2 hx hb F.2.2.2.1 (F.2.2.2.2.1 _ lk1179) dX7_fail_3 ?_
  obtain ⟨t1, ht1, hf⟩ := ob hf
  refine m_X7_79 F hh (c_X7_in ht1) rfl hl (Nat.le_of_ble_eq_true rfl) dX7_fail_6 (fun H locs hh => ?_)
  refine lv_if_eq (tgt := 22) hx hb dX7_fail_9 (by decide) (fun c2 => ?_) (fun c2 => ?_)
  · replace hf := itp c2 hf
    refine lv_ldc2 hx hb F.2.2.2.1 (F.2.2.2.2.1 _ lk1160) dX7_fail_22 ?_
    exact g_lretW F hr hlk hh hf dX7_fail_25
  · replace hf := itn c2 hf
    refine lv_iload_n hx hb dX7_fail_12 rfl (lv_at hl 2 rfl) ?_
    refine lv_i2l hx hb dX7_fail_13 rfl ?_
    refine lv_lconst (v := 0) hx hb dX7_fail_14 (by decide) ?_
    refine lv_lconst (v := 1) hx hb dX7_fail_15 (by decide) ?_
    obtain ⟨t3, ht3, hf⟩ := ob hf
    refine m_X7_79 F hh (c_X7_in ht3) rfl hl (Nat.le_of_ble_eq_true rfl) dX7_fail_16 (fun H locs hh => ?_)
    refine lv_if_ne (tgt := 26) hx hb dX7_fail_19 (by decide) (fun c4 => ?_) (fun c4 => ?_)
    · replace hf := itn c4 hf
      refine lv_lconst (v := 0) hx hb dX7_fail_26 (by decide) ?_
      refine lv_lstore_n (lv' := [(3, .long (0 : Int64)), (0, .ref (G.1 122)), (1, .int x1), (2, .int x2)]) hx hb dX7_fail_27 rfl hl (by decide) rfl (fun ls hl => ?_)
      refine lv_lconst (v := 1) hx hb dX7_fail_28 (by decide) ?_
      refine lv_lstore (lv' := [(5, .long (1 : Int64)), (3, .long (0 : Int64)), (0, .ref (G.1 122)), (1, .int x1), (2, .int x2)]) hx hb dX7_fail_29 hl (by decide) rfl (fun ls hl => ?_)
      refine lv_iconst (v := 0) hx hb dX7_fail_31 (by decide) ?_
      refine lv_istore (lv' := [(7, .int (0 : Int32)), (5, .long (1 : Int64)), (3, .long (0 : Int64)), (0, .ref (G.1 122)), (1, .int x1), (2, .int x2)]) hx hb dX7_fail_32 hl (by decide) rfl (fun ls hl => ?_)
      exact w_X7_fail_34 F hr hlk fu _ _ _ _ _ _ hf  hh (lv_sub hl [3, 4, 5, 2, 1, 0] rfl)
    · replace hf := itp c4 hf
      refine lv_ldc2 hx hb F.2.2.2.1 (F.2.2.2.2.1 _ lk1160) dX7_fail_22 ?_
      exact g_lretW F hr hlk hh hf dX7_fail_25
theorem c_X7_fail {l : Launch} {G : Gm} {x1 : Int32} {x2 : Int32} {z : Sto} {Z : Int64 × Sto} (hf : f_X7_fail x1 x2 z = some Z) : Met l yX7_fail (Cond.code yX7_fail cX7_fail 11 (some .long) :: TT) rmX7_fail (va_Pc [.ref (G.1 122), .int x1, .int x2] (GS rM G z)) (QL rM G Z.1 Z.2) 0 0 (Am rM G) := by
  refine g_met [(0, .ref (G.1 122)), (1, .int x1), (2, .int x2)] (by decide) (Nat.le_of_ble_eq_true rfl) rfl ?_
  intro p e s m below meth cd F hr hlk ls H locs hl hh
  exact w_X7_fail F hr hlk hf hh hl
def j_X7_isAhead_59 (z : Sto)  (x1 : Int32) (x2 : Int32) (x3 : Int32) (k0 : Int32) : Option (Int32) := bd (f_X7_stepX x1 z) fun t13 => bd (f_X7_stepY x2 z) fun t14 => bd (f_X7_stepY x1 z) fun t15 => bd (f_X7_stepX x2 z) fun t16 => lt (((t13 * t14) - (t15 * t16))) fun x5_17 => if x3 = k0 then (if x5_17 ≤ 0 then (some (0 : Int32)) else (some (1 : Int32))) else (if x3 = 0 then (some (1 : Int32)) else (some (0 : Int32)))
def j_X7_isAhead_54 (z : Sto)  (x1 : Int32) (x2 : Int32) (x3 : Int32) : Option (Int32) := j_X7_isAhead_59 z x1 x2 x3 (1 : Int32)
def j_X7_isAhead_58 (z : Sto)  (x1 : Int32) (x2 : Int32) (x3 : Int32) : Option (Int32) := j_X7_isAhead_59 z x1 x2 x3 (0 : Int32)
def j_X7_isAhead_29 (z : Sto)  (x1 : Int32) (x2 : Int32) (k0 : Int32) : Option (Int32) := bd (f_X7_stepY x2 z) fun t7 => if t7 < 0 then (j_X7_isAhead_54 z x1 x2 k0) else (bd (f_X7_stepY x2 z) fun t9 => if t9 = 0 then (bd (f_X7_stepX x2 z) fun t11 => if 0 ≤ t11 then (j_X7_isAhead_58 z x1 x2 k0) else (j_X7_isAhead_54 z x1 x2 k0)) else (j_X7_isAhead_58 z x1 x2 k0))
def j_X7_isAhead_24 (z : Sto)  (x1 : Int32) (x2 : Int32) : Option (Int32) := j_X7_isAhead_29 z x1 x2 (1 : Int32)
def j_X7_isAhead_28 (z : Sto)  (x1 : Int32) (x2 : Int32) : Option (Int32) := j_X7_isAhead_29 z x1 x2 (0 : Int32)
def f_X7_isAhead (x1 : Int32) (x2 : Int32) (z : Sto) : Option (Int32) := bd (f_X7_stepY x1 z) fun t1 => if t1 < 0 then (j_X7_isAhead_24 z x1 x2) else (bd (f_X7_stepY x1 z) fun t3 => if t3 = 0 then (bd (f_X7_stepX x1 z) fun t5 => if 0 ≤ t5 then (j_X7_isAhead_28 z x1 x2) else (j_X7_isAhead_24 z x1 x2)) else (j_X7_isAhead_28 z x1 x2))
set_option maxRecDepth 100000 in
set_option maxHeartbeats 4000000 in
theorem w_X7_isAhead_59 {z : Sto}  {Z : Int32} (F : Fx rM p s m args cd cX7_isAhead 6 RX7 G) (hr : meth.sig.returnType = (some .boolean)) (hlk : meth.locks = false)  {x1 : Int32} {x2 : Int32} {x3 : Int32} {k0 : Int32} {H : Heap} {locs : List Loc} {ls : Array Slot} (hf : j_X7_isAhead_59 z x1 x2 x3 k0 = some Z) (hh : Hh rM G z s H locs) (hl : lv_has ls 6 [(0, .ref (G.1 122)), (1, .int x1), (2, .int x2), (3, .int x3)]) : W p l e rmX7_isAhead s m args below meth cd H locs 0 0 (MQ below (QI rM G Z z) args s 0 0 (Am rM G)) (F0 m 59 ls [.int k0]) := by
  have hx := F.1
  have hb := F.2.1
  unfold j_X7_isAhead_59 at hf
  refine lv_istore (lv' := [(4, .int k0), (0, .ref (G.1 122)), (1, .int x1), (2, .int x2), (3, .int x3)]) hx hb dX7_isAhead_59 hl (by decide) rfl (fun ls hl => ?_)
  refine lv_aload_n hx hb dX7_isAhead_61 rfl (lv_at hl 1 rfl) ?_
  refine lv_iload_n hx hb dX7_isAhead_62 rfl (lv_at hl 2 rfl) ?_
  obtain ⟨t13, ht13, hf⟩ := ob hf
  refine m_X7_189 F hh (c_X7_stepX ht13) in_122 sh_122 rfl hl (Nat.le_of_ble_eq_true rfl) dX7_isAhead_63 (fun H locs hh => ?_)
  refine lv_aload_n hx hb dX7_isAhead_66 rfl (lv_at hl 1 rfl) ?_
  refine lv_iload_n hx hb dX7_isAhead_67 rfl (lv_at hl 3 rfl) ?_
  obtain ⟨t14, ht14, hf⟩ := ob hf
  refine m_X7_192 F hh (c_X7_stepY ht14) in_122 sh_122 rfl hl (Nat.le_of_ble_eq_true rfl) dX7_isAhead_68 (fun H locs hh => ?_)
  refine lv_imul hx hb dX7_isAhead_71 ?_
  refine lv_aload_n hx hb dX7_isAhead_72 rfl (lv_at hl 1 rfl) ?_
  refine lv_iload_n hx hb dX7_isAhead_73 rfl (lv_at hl 2 rfl) ?_
  obtain ⟨t15, ht15, hf⟩ := ob hf
  refine m_X7_192 F hh (c_X7_stepY ht15) in_122 sh_122 rfl hl (Nat.le_of_ble_eq_true rfl) dX7_isAhead_74 (fun H locs hh => ?_)
  refine lv_aload_n hx hb dX7_isAhead_77 rfl (lv_at hl 1 rfl) ?_
  refine lv_iload_n hx hb dX7_isAhead_78 rfl (lv_at hl 3 rfl) ?_
  obtain ⟨t16, ht16, hf⟩ := ob hf
  refine m_X7_189 F hh (c_X7_stepX ht16) in_122 sh_122 rfl hl (Nat.le_of_ble_eq_true rfl) dX7_isAhead_79 (fun H locs hh => ?_)
  refine lv_imul hx hb dX7_isAhead_82 ?_
  refine lv_isub hx hb dX7_isAhead_83 ?_
  refine lv_topi (fun x5_17 ex5_17 => ?_)
  replace hf := lt_e ex5_17 hf
  refine lv_istore (lv' := [(5, .int x5_17), (4, .int k0), (0, .ref (G.1 122)), (1, .int x1), (2, .int x2), (3, .int x3)]) hx hb dX7_isAhead_84 hl (by decide) rfl (fun ls hl => ?_)
  refine lv_iload_n hx hb dX7_isAhead_86 rfl (lv_at hl 5 rfl) ?_
  refine lv_iload hx hb dX7_isAhead_87 (lv_at hl 1 rfl) ?_
  refine lv_icmp_eq (tgt := 104) hx hb dX7_isAhead_89 (by decide) (fun c18 => ?_) (fun c18 => ?_)
  · replace hf := itp c18 hf
    refine lv_iload hx hb dX7_isAhead_104 (lv_at hl 0 rfl) ?_
    refine lv_if_le (tgt := 113) hx hb dX7_isAhead_106 (by decide) (fun c19 => ?_) (fun c19 => ?_)
    · replace hf := itp c19 hf
      refine lv_iconst (v := 0) hx hb dX7_isAhead_113 (by decide) ?_
      exact g_zret F hr hlk rfl hh (Option.some.inj hf) rfl dX7_isAhead_114
    · replace hf := itn c19 hf
      refine lv_iconst (v := 1) hx hb dX7_isAhead_109 (by decide) ?_
      refine lv_goto (tgt := 114) hx hb dX7_isAhead_110 (by decide) ?_
      exact g_zret F hr hlk rfl hh (Option.some.inj hf) rfl dX7_isAhead_114
  · replace hf := itn c18 hf
    refine lv_iload_n hx hb dX7_isAhead_92 rfl (lv_at hl 5 rfl) ?_
    refine lv_if_ne (tgt := 100) hx hb dX7_isAhead_93 (by decide) (fun c20 => ?_) (fun c20 => ?_)
    · replace hf := itn c20 hf
      refine lv_iconst (v := 0) hx hb dX7_isAhead_100 (by decide) ?_
      refine lv_goto (tgt := 114) hx hb dX7_isAhead_101 (by decide) ?_
      exact g_zret F hr hlk rfl hh (Option.some.inj hf) rfl dX7_isAhead_114
    · replace hf := itp c20 hf
      refine lv_iconst (v := 1) hx hb dX7_isAhead_96 (by decide) ?_
      refine lv_goto (tgt := 114) hx hb dX7_isAhead_97 (by decide) ?_
      exact g_zret F hr hlk rfl hh (Option.some.inj hf) rfl dX7_isAhead_114
set_option maxRecDepth 100000 in
set_option maxHeartbeats 4000000 in
theorem w_X7_isAhead_54 {z : Sto}  {Z : Int32} (F : Fx rM p s m args cd cX7_isAhead 6 RX7 G) (hr : meth.sig.returnType = (some .boolean)) (hlk : meth.locks = false)  {x1 : Int32} {x2 : Int32} {x3 : Int32} {H : Heap} {locs : List Loc} {ls : Array Slot} (hf : j_X7_isAhead_54 z x1 x2 x3 = some Z) (hh : Hh rM G z s H locs) (hl : lv_has ls 6 [(0, .ref (G.1 122)), (1, .int x1), (2, .int x2), (3, .int x3)]) : W p l e rmX7_isAhead s m args below meth cd H locs 0 0 (MQ below (QI rM G Z z) args s 0 0 (Am rM G)) (F0 m 54 ls []) := by
  have hx := F.1
  have hb := F.2.1
  unfold j_X7_isAhead_54 at hf
  refine lv_iconst (v := 1) hx hb dX7_isAhead_54 (by decide) ?_
  refine lv_goto (tgt := 59) hx hb dX7_isAhead_55 (by decide) ?_
  exact w_X7_isAhead_59 F hr hlk hf  hh (lv_sub hl [0, 1, 2, 3] rfl)
set_option maxRecDepth 100000 in
set_option maxHeartbeats 4000000 in
theorem w_X7_isAhead_58 {z : Sto}  {Z : Int32} (F : Fx rM p s m args cd cX7_isAhead 6 RX7 G) (hr : meth.sig.returnType = (some .boolean)) (hlk : meth.locks = false)  {x1 : Int32} {x2 : Int32} {x3 : Int32} {H : Heap} {locs : List Loc} {ls : Array Slot} (hf : j_X7_isAhead_58 z x1 x2 x3 = some Z) (hh : Hh rM G z s H locs) (hl : lv_has ls 6 [(0, .ref (G.1 122)), (1, .int x1), (2, .int x2), (3, .int x3)]) : W p l e rmX7_isAhead s m args below meth cd H locs 0 0 (MQ below (QI rM G Z z) args s 0 0 (Am rM G)) (F0 m 58 ls []) := by
  have hx := F.1
  have hb := F.2.1
  unfold j_X7_isAhead_58 at hf
  refine lv_iconst (v := 0) hx hb dX7_isAhead_58 (by decide) ?_
  exact w_X7_isAhead_59 F hr hlk hf  hh (lv_sub hl [0, 1, 2, 3] rfl)
set_option maxRecDepth 100000 in
set_option maxHeartbeats 4000000 in
theorem w_X7_isAhead_29 {z : Sto}  {Z : Int32} (F : Fx rM p s m args cd cX7_isAhead 6 RX7 G) (hr : meth.sig.returnType = (some .boolean)) (hlk : meth.locks = false)  {x1 : Int32} {x2 : Int32} {k0 : Int32} {H : Heap} {locs : List Loc} {ls : Array Slot} (hf : j_X7_isAhead_29 z x1 x2 k0 = some Z) (hh : Hh rM G z s H locs) (hl : lv_has ls 6 [(0, .ref (G.1 122)), (1, .int x1), (2, .int x2)]) : W p l e rmX7_isAhead s m args below meth cd H locs 0 0 (MQ below (QI rM G Z z) args s 0 0 (Am rM G)) (F0 m 29 ls [.int k0]) := by
  have hx := F.1
  have hb := F.2.1
  unfold j_X7_isAhead_29 at hf
  refine lv_istore_n (lv' := [(3, .int k0), (0, .ref (G.1 122)), (1, .int x1), (2, .int x2)]) hx hb dX7_isAhead_29 rfl hl (by decide) rfl (fun ls hl => ?_)
  refine lv_aload_n hx hb dX7_isAhead_30 rfl (lv_at hl 1 rfl) ?_
  refine lv_iload_n hx hb dX7_isAhead_31 rfl (lv_at hl 3 rfl) ?_
  obtain ⟨t7, ht7, hf⟩ := ob hf
  refine m_X7_192 F hh (c_X7_stepY ht7) in_122 sh_122 rfl hl (Nat.le_of_ble_eq_true rfl) dX7_isAhead_32 (fun H locs hh => ?_)
  refine lv_if_lt (tgt := 54) hx hb dX7_isAhead_35 (by decide) (fun c8 => ?_) (fun c8 => ?_)
  · replace hf := itp c8 hf
    exact w_X7_isAhead_54 F hr hlk hf  hh (lv_sub hl [1, 2, 3, 0] rfl)
  · replace hf := itn c8 hf
    refine lv_aload_n hx hb dX7_isAhead_38 rfl (lv_at hl 1 rfl) ?_
    refine lv_iload_n hx hb dX7_isAhead_39 rfl (lv_at hl 3 rfl) ?_
    obtain ⟨t9, ht9, hf⟩ := ob hf
    refine m_X7_192 F hh (c_X7_stepY ht9) in_122 sh_122 rfl hl (Nat.le_of_ble_eq_true rfl) dX7_isAhead_40 (fun H locs hh => ?_)
    refine lv_if_ne (tgt := 58) hx hb dX7_isAhead_43 (by decide) (fun c10 => ?_) (fun c10 => ?_)
    · replace hf := itn c10 hf
      exact w_X7_isAhead_58 F hr hlk hf  hh (lv_sub hl [1, 2, 3, 0] rfl)
    · replace hf := itp c10 hf
      refine lv_aload_n hx hb dX7_isAhead_46 rfl (lv_at hl 1 rfl) ?_
      refine lv_iload_n hx hb dX7_isAhead_47 rfl (lv_at hl 3 rfl) ?_
      obtain ⟨t11, ht11, hf⟩ := ob hf
      refine m_X7_189 F hh (c_X7_stepX ht11) in_122 sh_122 rfl hl (Nat.le_of_ble_eq_true rfl) dX7_isAhead_48 (fun H locs hh => ?_)
      refine lv_if_ge (tgt := 58) hx hb dX7_isAhead_51 (by decide) (fun c12 => ?_) (fun c12 => ?_)
      · replace hf := itp c12 hf
        exact w_X7_isAhead_58 F hr hlk hf  hh (lv_sub hl [1, 2, 3, 0] rfl)
      · replace hf := itn c12 hf
        exact w_X7_isAhead_54 F hr hlk hf  hh (lv_sub hl [1, 2, 3, 0] rfl)
set_option maxRecDepth 100000 in
set_option maxHeartbeats 4000000 in
theorem w_X7_isAhead_24 {z : Sto}  {Z : Int32} (F : Fx rM p s m args cd cX7_isAhead 6 RX7 G) (hr : meth.sig.returnType = (some .boolean)) (hlk : meth.locks = false)  {x1 : Int32} {x2 : Int32} {H : Heap} {locs : List Loc} {ls : Array Slot} (hf : j_X7_isAhead_24 z x1 x2 = some Z) (hh : Hh rM G z s H locs) (hl : lv_has ls 6 [(0, .ref (G.1 122)), (1, .int x1), (2, .int x2)]) : W p l e rmX7_isAhead s m args below meth cd H locs 0 0 (MQ below (QI rM G Z z) args s 0 0 (Am rM G)) (F0 m 24 ls []) := by
  have hx := F.1
  have hb := F.2.1
  unfold j_X7_isAhead_24 at hf
  refine lv_iconst (v := 1) hx hb dX7_isAhead_24 (by decide) ?_
  refine lv_goto (tgt := 29) hx hb dX7_isAhead_25 (by decide) ?_
  exact w_X7_isAhead_29 F hr hlk hf  hh (lv_sub hl [0, 1, 2] rfl)
set_option maxRecDepth 100000 in
set_option maxHeartbeats 4000000 in
theorem w_X7_isAhead_28 {z : Sto}  {Z : Int32} (F : Fx rM p s m args cd cX7_isAhead 6 RX7 G) (hr : meth.sig.returnType = (some .boolean)) (hlk : meth.locks = false)  {x1 : Int32} {x2 : Int32} {H : Heap} {locs : List Loc} {ls : Array Slot} (hf : j_X7_isAhead_28 z x1 x2 = some Z) (hh : Hh rM G z s H locs) (hl : lv_has ls 6 [(0, .ref (G.1 122)), (1, .int x1), (2, .int x2)]) : W p l e rmX7_isAhead s m args below meth cd H locs 0 0 (MQ below (QI rM G Z z) args s 0 0 (Am rM G)) (F0 m 28 ls []) := by
  have hx := F.1
  have hb := F.2.1
  unfold j_X7_isAhead_28 at hf
  refine lv_iconst (v := 0) hx hb dX7_isAhead_28 (by decide) ?_
  exact w_X7_isAhead_29 F hr hlk hf  hh (lv_sub hl [0, 1, 2] rfl)
set_option maxRecDepth 100000 in
set_option maxHeartbeats 4000000 in
theorem w_X7_isAhead {Z : Int32} (F : Fx rM p s m args cd cX7_isAhead 6 RX7 G) (hr : meth.sig.returnType = (some .boolean)) (hlk : meth.locks = false) {x1 : Int32} {x2 : Int32} {z : Sto} {H : Heap} {locs : List Loc} {ls : Array Slot} (hf : f_X7_isAhead x1 x2 z = some Z) (hh : Hh rM G z s H locs) (hl : lv_has ls 6 [(0, .ref (G.1 122)), (1, .int x1), (2, .int x2)]) : W p l e rmX7_isAhead s m args below meth cd H locs 0 0 (MQ below (QI rM G Z z) args s 0 0 (Am rM G)) (F0 m 0 ls []) := by
  have hx := F.1
  have hb := F.2.1
  unfold f_X7_isAhead at hf
  refine lv_aload_n hx hb dX7_isAhead_0 rfl (lv_at hl 0 rfl) ?_
  refine lv_iload_n hx hb dX7_isAhead_1 rfl (lv_at hl 1 rfl) ?_
  obtain ⟨t1, ht1, hf⟩ := ob hf
  refine m_X7_192 F hh (c_X7_stepY ht1) in_122 sh_122 rfl hl (Nat.le_of_ble_eq_true rfl) dX7_isAhead_2 (fun H locs hh => ?_)
  refine lv_if_lt (tgt := 24) hx hb dX7_isAhead_5 (by decide) (fun c2 => ?_) (fun c2 => ?_)
  · replace hf := itp c2 hf
    exact w_X7_isAhead_24 F hr hlk hf  hh (lv_sub hl [0, 1, 2] rfl)
  · replace hf := itn c2 hf
    refine lv_aload_n hx hb dX7_isAhead_8 rfl (lv_at hl 0 rfl) ?_
    refine lv_iload_n hx hb dX7_isAhead_9 rfl (lv_at hl 1 rfl) ?_
    obtain ⟨t3, ht3, hf⟩ := ob hf
    refine m_X7_192 F hh (c_X7_stepY ht3) in_122 sh_122 rfl hl (Nat.le_of_ble_eq_true rfl) dX7_isAhead_10 (fun H locs hh => ?_)
    refine lv_if_ne (tgt := 28) hx hb dX7_isAhead_13 (by decide) (fun c4 => ?_) (fun c4 => ?_)
    · replace hf := itn c4 hf
      exact w_X7_isAhead_28 F hr hlk hf  hh (lv_sub hl [0, 1, 2] rfl)
    · replace hf := itp c4 hf
      refine lv_aload_n hx hb dX7_isAhead_16 rfl (lv_at hl 0 rfl) ?_
      refine lv_iload_n hx hb dX7_isAhead_17 rfl (lv_at hl 1 rfl) ?_
      obtain ⟨t5, ht5, hf⟩ := ob hf
      refine m_X7_189 F hh (c_X7_stepX ht5) in_122 sh_122 rfl hl (Nat.le_of_ble_eq_true rfl) dX7_isAhead_18 (fun H locs hh => ?_)
      refine lv_if_ge (tgt := 28) hx hb dX7_isAhead_21 (by decide) (fun c6 => ?_) (fun c6 => ?_)
      · replace hf := itp c6 hf
        exact w_X7_isAhead_28 F hr hlk hf  hh (lv_sub hl [0, 1, 2] rfl)
      · replace hf := itn c6 hf
        exact w_X7_isAhead_24 F hr hlk hf  hh (lv_sub hl [0, 1, 2] rfl)
theorem c_X7_isAhead {l : Launch} {G : Gm} {x1 : Int32} {x2 : Int32} {z : Sto} {Z : Int32} (hf : f_X7_isAhead x1 x2 z = some Z) : Met l yX7_isAhead (Cond.code yX7_isAhead cX7_isAhead 6 (some .boolean) :: TT) rmX7_isAhead (va_Pc [.ref (G.1 122), .int x1, .int x2] (GS rM G z)) (QI rM G Z z) 0 0 (Am rM G) := by
  refine g_met [(0, .ref (G.1 122)), (1, .int x1), (2, .int x2)] (by decide) (Nat.le_of_ble_eq_true rfl) rfl ?_
  intro p e s m below meth cd F hr hlk ls H locs hl hh
  exact w_X7_isAhead F hr hlk hf hh hl
def b_X7_orderOf_4 (z : Sto)  (ag4 : Int32 → Int32 → Int32 → Option (Int32)) (x1 : Int32) (x2 : Int32) (x3 : Int32) : Option (Int32) := bd (rdI z 123 42 (1 : Int32)) fun t1 => if ((2 : Int32) * t1) ≤ x3 then (some x2) else (if x3 = x1 then (lt ((x2 + (0 : Int32))) fun x2_4 => lt (x3 + (1 : Int32)) fun x3_5 => ag4 x1 x2_4 x3_5) else (bd (f_X7_from x3 z) fun t6 => bd (f_X7_from x1 z) fun t7 => if t6 = t7 then (bd (f_X7_isAhead x3 x1 z) fun t11 => if t11 = 0 then (lt ((x2 + (0 : Int32))) fun x2_13 => lt (x3 + (1 : Int32)) fun x3_14 => ag4 x1 x2_13 x3_14) else (lt ((x2 + (1 : Int32))) fun x2_15 => lt (x3 + (1 : Int32)) fun x3_16 => ag4 x1 x2_15 x3_16)) else (lt ((x2 + (0 : Int32))) fun x2_9 => lt (x3 + (1 : Int32)) fun x3_10 => ag4 x1 x2_9 x3_10)))
def f_X7_orderOf (x1 : Int32) (z : Sto) : Option (Int32) := wl3 (b_X7_orderOf_4 z) fu x1 (0 : Int32) (0 : Int32)
set_option maxRecDepth 100000 in
set_option maxHeartbeats 4000000 in
theorem w_X7_orderOf_4 {z : Sto}  {Z : Int32} (F : Fx rM p s m args cd cX7_orderOf 4 RX7 G) (hr : meth.sig.returnType = (some .int)) (hlk : meth.locks = false)  : ∀ (n : Nat), ∀ (x1 : Int32) (x2 : Int32) (x3 : Int32), wl3 (b_X7_orderOf_4 z) n x1 x2 x3 = some Z → ∀ {H : Heap} {locs : List Loc} {ls : Array Slot}, Hh rM G z s H locs → lv_has ls 4 [(0, .ref (G.1 122)), (1, .int x1), (2, .int x2), (3, .int x3)] → W p l e rmX7_orderOf s m args below meth cd H locs 0 0 (MQ below (QI rM G Z z) args s 0 0 (Am rM G)) (F0 m 4 ls []) := by
  have hx := F.1
  have hb := F.2.1
  intro n
  induction n with
  | zero =>
    intro x1 x2 x3 hf
    exact absurd hf (by intro h; cases h)
  | succ n ih =>
    intro x1 x2 x3 hf  H locs ls hh hl
    replace hf : b_X7_orderOf_4 z (wl3 (b_X7_orderOf_4 z) n) x1 x2 x3 = some Z := hf
    unfold b_X7_orderOf_4 at hf
    refine lv_iload_n hx hb dX7_orderOf_4 rfl (lv_at hl 3 rfl) ?_
    refine lv_iconst (v := 2) hx hb dX7_orderOf_5 (by decide) ?_
    refine lv_aload_n hx hb dX7_orderOf_6 rfl (lv_at hl 0 rfl) ?_
    refine r_X7_7 (b' := 123) F hh in_122 sh_122 rfl dX7_orderOf_7 ?_
    refine lv_iconst (v := 1) hx hb dX7_orderOf_10 (by decide) ?_
    obtain ⟨t1, ht1, hf⟩ := ob hf
    refine g_iald F hh in_123 sh_123 ht1 dX7_orderOf_11 ?_
    refine lv_imul hx hb dX7_orderOf_12 ?_
    refine lv_icmp_ge (tgt := 57) hx hb dX7_orderOf_13 (by decide) (fun c2 => ?_) (fun c2 => ?_)
    · replace hf := itp c2 hf
      refine lv_iload_n hx hb dX7_orderOf_57 rfl (lv_at hl 2 rfl) ?_
      exact g_iret F hr hlk hh (Option.some.inj hf) rfl dX7_orderOf_58
    · replace hf := itn c2 hf
      refine lv_iload_n hx hb dX7_orderOf_16 rfl (lv_at hl 2 rfl) ?_
      refine lv_iload_n hx hb dX7_orderOf_17 rfl (lv_at hl 3 rfl) ?_
      refine lv_iload_n hx hb dX7_orderOf_18 rfl (lv_at hl 1 rfl) ?_
      refine lv_icmp_eq (tgt := 48) hx hb dX7_orderOf_19 (by decide) (fun c3 => ?_) (fun c3 => ?_)
      · replace hf := itp c3 hf
        refine lv_iconst (v := 0) hx hb dX7_orderOf_48 (by decide) ?_
        refine lv_iadd hx hb dX7_orderOf_49 ?_
        refine lv_topi (fun x2_4 ex2_4 => ?_)
        replace hf := lt_e ex2_4 hf
        refine lv_istore_n (lv' := [(2, .int x2_4), (0, .ref (G.1 122)), (1, .int x1), (3, .int x3)]) hx hb dX7_orderOf_50 rfl hl (by decide) rfl (fun ls hl => ?_)
        obtain ⟨x3_5, ex3_5⟩ : ∃ y : Int32, y = x3 + (1 : Int32) := ⟨_, rfl⟩
        replace hf := lt_e ex3_5 hf
        refine lv_iinc (v := x3_5) (lv' := [(3, .int x3_5), (2, .int x2_4), (0, .ref (G.1 122)), (1, .int x1)]) hx hb dX7_orderOf_51 hl (k := 3) rfl (by rw [ex3_5]; rfl) (by decide) rfl (fun ls hl => ?_)
        refine lv_goto (tgt := 4) hx hb dX7_orderOf_54 (by decide) ?_
        exact ih _ _ _ hf  hh (lv_sub hl [2, 3, 1, 0] rfl)
      · replace hf := itn c3 hf
        refine lv_aload_n hx hb dX7_orderOf_22 rfl (lv_at hl 0 rfl) ?_
        refine lv_iload_n hx hb dX7_orderOf_23 rfl (lv_at hl 3 rfl) ?_
        obtain ⟨t6, ht6, hf⟩ := ob hf
        refine m_X7_98 F hh (c_X7_from ht6) in_122 sh_122 rfl hl (Nat.le_of_ble_eq_true rfl) dX7_orderOf_24 (fun H locs hh => ?_)
        refine lv_aload_n hx hb dX7_orderOf_27 rfl (lv_at hl 0 rfl) ?_
        refine lv_iload_n hx hb dX7_orderOf_28 rfl (lv_at hl 1 rfl) ?_
        obtain ⟨t7, ht7, hf⟩ := ob hf
        refine m_X7_98 F hh (c_X7_from ht7) in_122 sh_122 rfl hl (Nat.le_of_ble_eq_true rfl) dX7_orderOf_29 (fun H locs hh => ?_)
        refine lv_icmp_ne (tgt := 48) hx hb dX7_orderOf_32 (by decide) (fun c8 => ?_) (fun c8 => ?_)
        · replace hf := itn c8 hf
          refine lv_iconst (v := 0) hx hb dX7_orderOf_48 (by decide) ?_
          refine lv_iadd hx hb dX7_orderOf_49 ?_
          refine lv_topi (fun x2_9 ex2_9 => ?_)
          replace hf := lt_e ex2_9 hf
          refine lv_istore_n (lv' := [(2, .int x2_9), (0, .ref (G.1 122)), (1, .int x1), (3, .int x3)]) hx hb dX7_orderOf_50 rfl hl (by decide) rfl (fun ls hl => ?_)
          obtain ⟨x3_10, ex3_10⟩ : ∃ y : Int32, y = x3 + (1 : Int32) := ⟨_, rfl⟩
          replace hf := lt_e ex3_10 hf
          refine lv_iinc (v := x3_10) (lv' := [(3, .int x3_10), (2, .int x2_9), (0, .ref (G.1 122)), (1, .int x1)]) hx hb dX7_orderOf_51 hl (k := 3) rfl (by rw [ex3_10]; rfl) (by decide) rfl (fun ls hl => ?_)
          refine lv_goto (tgt := 4) hx hb dX7_orderOf_54 (by decide) ?_
          exact ih _ _ _ hf  hh (lv_sub hl [2, 3, 1, 0] rfl)
        · replace hf := itp c8 hf
          refine lv_aload_n hx hb dX7_orderOf_35 rfl (lv_at hl 0 rfl) ?_
          refine lv_iload_n hx hb dX7_orderOf_36 rfl (lv_at hl 3 rfl) ?_
          refine lv_iload_n hx hb dX7_orderOf_37 rfl (lv_at hl 1 rfl) ?_
          obtain ⟨t11, ht11, hf⟩ := ob hf
          refine m_X7_253 F hh (c_X7_isAhead ht11) in_122 sh_122 rfl hl (Nat.le_of_ble_eq_true rfl) dX7_orderOf_38 (fun H locs hh => ?_)
          refine lv_if_eq (tgt := 48) hx hb dX7_orderOf_41 (by decide) (fun c12 => ?_) (fun c12 => ?_)
          · replace hf := itp c12 hf
            refine lv_iconst (v := 0) hx hb dX7_orderOf_48 (by decide) ?_
            refine lv_iadd hx hb dX7_orderOf_49 ?_
            refine lv_topi (fun x2_13 ex2_13 => ?_)
            replace hf := lt_e ex2_13 hf
            refine lv_istore_n (lv' := [(2, .int x2_13), (0, .ref (G.1 122)), (1, .int x1), (3, .int x3)]) hx hb dX7_orderOf_50 rfl hl (by decide) rfl (fun ls hl => ?_)
            obtain ⟨x3_14, ex3_14⟩ : ∃ y : Int32, y = x3 + (1 : Int32) := ⟨_, rfl⟩
            replace hf := lt_e ex3_14 hf
            refine lv_iinc (v := x3_14) (lv' := [(3, .int x3_14), (2, .int x2_13), (0, .ref (G.1 122)), (1, .int x1)]) hx hb dX7_orderOf_51 hl (k := 3) rfl (by rw [ex3_14]; rfl) (by decide) rfl (fun ls hl => ?_)
            refine lv_goto (tgt := 4) hx hb dX7_orderOf_54 (by decide) ?_
            exact ih _ _ _ hf  hh (lv_sub hl [2, 3, 1, 0] rfl)
          · replace hf := itn c12 hf
            refine lv_iconst (v := 1) hx hb dX7_orderOf_44 (by decide) ?_
            refine lv_goto (tgt := 49) hx hb dX7_orderOf_45 (by decide) ?_
            refine lv_iadd hx hb dX7_orderOf_49 ?_
            refine lv_topi (fun x2_15 ex2_15 => ?_)
            replace hf := lt_e ex2_15 hf
            refine lv_istore_n (lv' := [(2, .int x2_15), (0, .ref (G.1 122)), (1, .int x1), (3, .int x3)]) hx hb dX7_orderOf_50 rfl hl (by decide) rfl (fun ls hl => ?_)
            obtain ⟨x3_16, ex3_16⟩ : ∃ y : Int32, y = x3 + (1 : Int32) := ⟨_, rfl⟩
            replace hf := lt_e ex3_16 hf
            refine lv_iinc (v := x3_16) (lv' := [(3, .int x3_16), (2, .int x2_15), (0, .ref (G.1 122)), (1, .int x1)]) hx hb dX7_orderOf_51 hl (k := 3) rfl (by rw [ex3_16]; rfl) (by decide) rfl (fun ls hl => ?_)
            refine lv_goto (tgt := 4) hx hb dX7_orderOf_54 (by decide) ?_
            exact ih _ _ _ hf  hh (lv_sub hl [2, 3, 1, 0] rfl)
set_option maxRecDepth 100000 in
set_option maxHeartbeats 4000000 in
theorem w_X7_orderOf {Z : Int32} (F : Fx rM p s m args cd cX7_orderOf 4 RX7 G) (hr : meth.sig.returnType = (some .int)) (hlk : meth.locks = false) {x1 : Int32} {z : Sto} {H : Heap} {locs : List Loc} {ls : Array Slot} (hf : f_X7_orderOf x1 z = some Z) (hh : Hh rM G z s H locs) (hl : lv_has ls 4 [(0, .ref (G.1 122)), (1, .int x1)]) : W p l e rmX7_orderOf s m args below meth cd H locs 0 0 (MQ below (QI rM G Z z) args s 0 0 (Am rM G)) (F0 m 0 ls []) := by
  have hx := F.1
  have hb := F.2.1
  unfold f_X7_orderOf at hf
  refine lv_iconst (v := 0) hx hb dX7_orderOf_0 (by decide) ?_
  refine lv_istore_n (lv' := [(2, .int (0 : Int32)), (0, .ref (G.1 122)), (1, .int x1)]) hx hb dX7_orderOf_1 rfl hl (by decide) rfl (fun ls hl => ?_)
  refine lv_iconst (v := 0) hx hb dX7_orderOf_2 (by decide) ?_
  refine lv_istore_n (lv' := [(3, .int (0 : Int32)), (2, .int (0 : Int32)), (0, .ref (G.1 122)), (1, .int x1)]) hx hb dX7_orderOf_3 rfl hl (by decide) rfl (fun ls hl => ?_)
  exact w_X7_orderOf_4 F hr hlk fu _ _ _ hf  hh (lv_sub hl [2, 3, 1, 0] rfl)
theorem c_X7_orderOf {l : Launch} {G : Gm} {x1 : Int32} {z : Sto} {Z : Int32} (hf : f_X7_orderOf x1 z = some Z) : Met l yX7_orderOf (Cond.code yX7_orderOf cX7_orderOf 4 (some .int) :: TT) rmX7_orderOf (va_Pc [.ref (G.1 122), .int x1] (GS rM G z)) (QI rM G Z z) 0 0 (Am rM G) := by
  refine g_met [(0, .ref (G.1 122)), (1, .int x1)] (by decide) (Nat.le_of_ble_eq_true rfl) rfl ?_
  intro p e s m below meth cd F hr hlk ls H locs hl hh
  exact w_X7_orderOf F hr hlk hf hh hl
def b_X7_half_6 (z : Sto)  (ag6 : Int32 → Int32 → Int32 → Int32 → Option (Int32)) (x1 : Int32) (x2 : Int32) (x3 : Int32) (x4 : Int32) : Option (Int32) := bd (rdI z 123 42 (1 : Int32)) fun t1 => if ((2 : Int32) * t1) ≤ x4 then (some x3) else (bd (f_X7_from x4 z) fun t3 => if t3 = x1 then (bd (f_X7_orderOf x4 z) fun t6 => if t6 = x2 then (lt (x4 + (1 : Int32)) fun x4_9 => ag6 x1 x2 x4 x4_9) else (lt (x4 + (1 : Int32)) fun x4_8 => ag6 x1 x2 x3 x4_8)) else (lt (x4 + (1 : Int32)) fun x4_5 => ag6 x1 x2 x3 x4_5))
def f_X7_half (x1 : Int32) (x2 : Int32) (z : Sto) : Option (Int32) := wl4 (b_X7_half_6 z) fu x1 x2 (-4 : Int32) (0 : Int32)
set_option maxRecDepth 100000 in
set_option maxHeartbeats 4000000 in
theorem w_X7_half_6 {z : Sto}  {Z : Int32} (F : Fx rM p s m args cd cX7_half 5 RX7 G) (hr : meth.sig.returnType = (some .int)) (hlk : meth.locks = false)  : ∀ (n : Nat), ∀ (x1 : Int32) (x2 : Int32) (x3 : Int32) (x4 : Int32), wl4 (b_X7_half_6 z) n x1 x2 x3 x4 = some Z → ∀ {H : Heap} {locs : List Loc} {ls : Array Slot}, Hh rM G z s H locs → lv_has ls 5 [(0, .ref (G.1 122)), (1, .int x1), (2, .int x2), (3, .int x3), (4, .int x4)] → W p l e rmX7_half s m args below meth cd H locs 0 0 (MQ below (QI rM G Z z) args s 0 0 (Am rM G)) (F0 m 6 ls []) := by
  have hx := F.1
  have hb := F.2.1
  intro n
  induction n with
  | zero =>
    intro x1 x2 x3 x4 hf
    exact absurd hf (by intro h; cases h)
  | succ n ih =>
    intro x1 x2 x3 x4 hf  H locs ls hh hl
    replace hf : b_X7_half_6 z (wl4 (b_X7_half_6 z) n) x1 x2 x3 x4 = some Z := hf
    unfold b_X7_half_6 at hf
    refine lv_iload hx hb dX7_half_6 (lv_at hl 4 rfl) ?_
    refine lv_iconst (v := 2) hx hb dX7_half_8 (by decide) ?_
    refine lv_aload_n hx hb dX7_half_9 rfl (lv_at hl 0 rfl) ?_
    refine r_X7_7 (b' := 123) F hh in_122 sh_122 rfl dX7_half_10 ?_
    refine lv_iconst (v := 1) hx hb dX7_half_13 (by decide) ?_
    obtain ⟨t1, ht1, hf⟩ := ob hf
    refine g_iald F hh in_123 sh_123 ht1 dX7_half_14 ?_
    refine lv_imul hx hb dX7_half_15 ?_
    refine lv_icmp_ge (tgt := 52) hx hb dX7_half_16 (by decide) (fun c2 => ?_) (fun c2 => ?_)
    · replace hf := itp c2 hf
      refine lv_iload_n hx hb dX7_half_52 rfl (lv_at hl 3 rfl) ?_
      exact g_iret F hr hlk hh (Option.some.inj hf) rfl dX7_half_53
    · replace hf := itn c2 hf
      refine lv_aload_n hx hb dX7_half_19 rfl (lv_at hl 0 rfl) ?_
      refine lv_iload hx hb dX7_half_20 (lv_at hl 4 rfl) ?_
      obtain ⟨t3, ht3, hf⟩ := ob hf
      refine m_X7_98 F hh (c_X7_from ht3) in_122 sh_122 rfl hl (Nat.le_of_ble_eq_true rfl) dX7_half_22 (fun H locs hh => ?_)
      refine lv_iload_n hx hb dX7_half_25 rfl (lv_at hl 1 rfl) ?_
      refine lv_icmp_ne (tgt := 44) hx hb dX7_half_26 (by decide) (fun c4 => ?_) (fun c4 => ?_)
      · replace hf := itn c4 hf
        refine lv_iload_n hx hb dX7_half_44 rfl (lv_at hl 3 rfl) ?_
        refine lv_istore_n (lv' := [(3, .int x3), (0, .ref (G.1 122)), (1, .int x1), (2, .int x2), (4, .int x4)]) hx hb dX7_half_45 rfl hl (by decide) rfl (fun ls hl => ?_)
        obtain ⟨x4_5, ex4_5⟩ : ∃ y : Int32, y = x4 + (1 : Int32) := ⟨_, rfl⟩
        replace hf := lt_e ex4_5 hf
        refine lv_iinc (v := x4_5) (lv' := [(4, .int x4_5), (3, .int x3), (0, .ref (G.1 122)), (1, .int x1), (2, .int x2)]) hx hb dX7_half_46 hl (k := 4) rfl (by rw [ex4_5]; rfl) (by decide) rfl (fun ls hl => ?_)
        refine lv_goto (tgt := 6) hx hb dX7_half_49 (by decide) ?_
        exact ih _ _ _ _ hf  hh (lv_sub hl [2, 3, 4, 1, 0] rfl)
      · replace hf := itp c4 hf
        refine lv_aload_n hx hb dX7_half_29 rfl (lv_at hl 0 rfl) ?_
        refine lv_iload hx hb dX7_half_30 (lv_at hl 4 rfl) ?_
        obtain ⟨t6, ht6, hf⟩ := ob hf
        refine m_X7_256 F hh (c_X7_orderOf ht6) in_122 sh_122 rfl hl (Nat.le_of_ble_eq_true rfl) dX7_half_32 (fun H locs hh => ?_)
        refine lv_iload_n hx hb dX7_half_35 rfl (lv_at hl 2 rfl) ?_
        refine lv_icmp_ne (tgt := 44) hx hb dX7_half_36 (by decide) (fun c7 => ?_) (fun c7 => ?_)
        · replace hf := itn c7 hf
          refine lv_iload_n hx hb dX7_half_44 rfl (lv_at hl 3 rfl) ?_
          refine lv_istore_n (lv' := [(3, .int x3), (0, .ref (G.1 122)), (1, .int x1), (2, .int x2), (4, .int x4)]) hx hb dX7_half_45 rfl hl (by decide) rfl (fun ls hl => ?_)
          obtain ⟨x4_8, ex4_8⟩ : ∃ y : Int32, y = x4 + (1 : Int32) := ⟨_, rfl⟩
          replace hf := lt_e ex4_8 hf
          refine lv_iinc (v := x4_8) (lv' := [(4, .int x4_8), (3, .int x3), (0, .ref (G.1 122)), (1, .int x1), (2, .int x2)]) hx hb dX7_half_46 hl (k := 4) rfl (by rw [ex4_8]; rfl) (by decide) rfl (fun ls hl => ?_)
          refine lv_goto (tgt := 6) hx hb dX7_half_49 (by decide) ?_
          exact ih _ _ _ _ hf  hh (lv_sub hl [2, 3, 4, 1, 0] rfl)
        · replace hf := itp c7 hf
          refine lv_iload hx hb dX7_half_39 (lv_at hl 4 rfl) ?_
          refine lv_goto (tgt := 45) hx hb dX7_half_41 (by decide) ?_
          refine lv_istore_n (lv' := [(3, .int x4), (0, .ref (G.1 122)), (1, .int x1), (2, .int x2), (4, .int x4)]) hx hb dX7_half_45 rfl hl (by decide) rfl (fun ls hl => ?_)
          obtain ⟨x4_9, ex4_9⟩ : ∃ y : Int32, y = x4 + (1 : Int32) := ⟨_, rfl⟩
          replace hf := lt_e ex4_9 hf
          refine lv_iinc (v := x4_9) (lv' := [(4, .int x4_9), (3, .int x4), (0, .ref (G.1 122)), (1, .int x1), (2, .int x2)]) hx hb dX7_half_46 hl (k := 4) rfl (by rw [ex4_9]; rfl) (by decide) rfl (fun ls hl => ?_)
          refine lv_goto (tgt := 6) hx hb dX7_half_49 (by decide) ?_
          exact ih _ _ _ _ hf  hh (lv_sub hl [2, 3, 4, 1, 0] rfl)
set_option maxRecDepth 100000 in
set_option maxHeartbeats 4000000 in
theorem w_X7_half {Z : Int32} (F : Fx rM p s m args cd cX7_half 5 RX7 G) (hr : meth.sig.returnType = (some .int)) (hlk : meth.locks = false) {x1 : Int32} {x2 : Int32} {z : Sto} {H : Heap} {locs : List Loc} {ls : Array Slot} (hf : f_X7_half x1 x2 z = some Z) (hh : Hh rM G z s H locs) (hl : lv_has ls 5 [(0, .ref (G.1 122)), (1, .int x1), (2, .int x2)]) : W p l e rmX7_half s m args below meth cd H locs 0 0 (MQ below (QI rM G Z z) args s 0 0 (Am rM G)) (F0 m 0 ls []) := by
  have hx := F.1
  have hb := F.2.1
  unfold f_X7_half at hf
  refine lv_bipush (v := -4) hx hb dX7_half_0 (by decide) ?_
  refine lv_istore_n (lv' := [(3, .int (-4 : Int32)), (0, .ref (G.1 122)), (1, .int x1), (2, .int x2)]) hx hb dX7_half_2 rfl hl (by decide) rfl (fun ls hl => ?_)
  refine lv_iconst (v := 0) hx hb dX7_half_3 (by decide) ?_
  refine lv_istore (lv' := [(4, .int (0 : Int32)), (3, .int (-4 : Int32)), (0, .ref (G.1 122)), (1, .int x1), (2, .int x2)]) hx hb dX7_half_4 hl (by decide) rfl (fun ls hl => ?_)
  exact w_X7_half_6 F hr hlk fu _ _ _ _ hf  hh (lv_sub hl [2, 3, 4, 1, 0] rfl)
theorem c_X7_half {l : Launch} {G : Gm} {x1 : Int32} {x2 : Int32} {z : Sto} {Z : Int32} (hf : f_X7_half x1 x2 z = some Z) : Met l yX7_half (Cond.code yX7_half cX7_half 5 (some .int) :: TT) rmX7_half (va_Pc [.ref (G.1 122), .int x1, .int x2] (GS rM G z)) (QI rM G Z z) 0 0 (Am rM G) := by
  refine g_met [(0, .ref (G.1 122)), (1, .int x1), (2, .int x2)] (by decide) (Nat.le_of_ble_eq_true rfl) rfl ?_
  intro p e s m below meth cd F hr hlk ls H locs hl hh
  exact w_X7_half F hr hlk hf hh hl
