variable {p : Program} {l : Launch} {e : Env} {s : State} {m : MethodId} {args : Array Value} {below : List Frame} {meth : Method} {cd : Code} {G : Gm}

def j_X6_point_74  (x3 : Int32) (k0 : Int64) (z : Sto) : Option (Int64 × Sto) := bd (f_X6_partOf k0 ((z.2 95 3)) x3 z) fun t13 => some (t13, z)
def f_X6_point (x1 : Int32) (x2 : Int32) (x3 : Int32) (z : Sto) : Option (Int64 × Sto) := bd (f_X6_settle z) fun z2 => bd (f_X0_has x1 z2) fun t3 => if t3 = 0 then (some ((-1 : Int64), z2)) else (if x2 < 0 then (some ((-1 : Int64), z2)) else (if (1 : Int32) < x2 then (some ((-1 : Int64), z2)) else (bd (f_X6_isPart x3 z2) fun t7 => if t7 = 0 then (some ((-1 : Int64), z2)) else (if 0 ≤ (z2.1 100 1) then (if x2 = 0 then (bd (rdL z2 107 18 x1) fun t12 => j_X6_point_74 x3 t12 z2) else (bd (rdL z2 108 18 x1) fun t11 => j_X6_point_74 x3 t11 z2)) else (some ((-4 : Int64), z2))))))
set_option maxRecDepth 100000 in
set_option maxHeartbeats 4000000 in
theorem w_X6_point_74  {Z : Int64 × Sto} (F : Fx rC p s m args cd cX6_point 4 RX6 G) (hr : meth.sig.returnType = (some .long)) (hlk : meth.locks = false)  {x3 : Int32} {k0 : Int64} {z : Sto} {H : Heap} {locs : List Loc} {ls : Array Slot} (hf : j_X6_point_74 x3 k0 z = some Z) (hh : Hh rC G z s H locs) (hl : lv_has ls 4 [(0, .ref (G.1 0)), (3, .int x3)]) : W p l e rmX6_point s m args below meth cd H locs 0 0 (MQ below (QL rC G Z.1 Z.2) args s 0 0 (Am rC G)) (F0 m 74 ls [.long k0]) := by
  have hx := F.1
  have hb := F.2.1
  unfold j_X6_point_74 at hf
  refine lv_aload_n hx hb dX6_point_74 rfl (lv_at hl 0 rfl) ?_
  refine r_X6_35 (b' := 95) F hh in_0 sh_0 rfl dX6_point_75 ?_
  refine r_X6_176 F hh in_95 sh_95 dX6_point_78 ?_
  refine lv_iload_n hx hb dX6_point_81 rfl (lv_at hl 1 rfl) ?_
  obtain ⟨t13, ht13, hf⟩ := ob hf
  refine m_X6_180 F hh (c_X6_partOf ht13) rfl hl (Nat.le_of_ble_eq_true rfl) dX6_point_82 (fun H locs hh => ?_)
  exact g_lretW F hr hlk hh hf dX6_point_85
set_option maxRecDepth 100000 in
set_option maxHeartbeats 4000000 in
theorem w_X6_point {Z : Int64 × Sto} (F : Fx rC p s m args cd cX6_point 4 RX6 G) (hr : meth.sig.returnType = (some .long)) (hlk : meth.locks = false) {x1 : Int32} {x2 : Int32} {x3 : Int32} {z : Sto} {H : Heap} {locs : List Loc} {ls : Array Slot} (hf : f_X6_point x1 x2 x3 z = some Z) (hh : Hh rC G z s H locs) (hl : lv_has ls 4 [(0, .ref (G.1 0)), (1, .int x1), (2, .int x2), (3, .int x3)]) : W p l e rmX6_point s m args below meth cd H locs 0 0 (MQ below (QL rC G Z.1 Z.2) args s 0 0 (Am rC G)) (F0 m 0 ls []) := by
  have hx := F.1
  have hb := F.2.1
  unfold f_X6_point at hf
  refine lv_aload_n hx hb dX6_point_0 rfl (lv_at hl 0 rfl) ?_
  obtain ⟨z2, ht1, hf⟩ := ob hf
  refine m_X6_122 F hh (c_X6_settle ht1) in_0 sh_0 rfl hl (Nat.le_of_ble_eq_true rfl) dX6_point_1 (fun H locs hh => ?_)
  refine lv_aload_n hx hb dX6_point_4 rfl (lv_at hl 0 rfl) ?_
  refine r_X6_42 (b' := 100) F hh in_0 sh_0 rfl dX6_point_5 ?_
  refine lv_iload_n hx hb dX6_point_8 rfl (lv_at hl 1 rfl) ?_
  obtain ⟨t3, ht3, hf⟩ := ob hf
  refine m_X6_203 F hh (c_X0_has ht3) in_100 sh_100 rfl hl (Nat.le_of_ble_eq_true rfl) dX6_point_9 (fun H locs hh => ?_)
  refine lv_if_eq (tgt := 31) hx hb dX6_point_12 (by decide) (fun c4 => ?_) (fun c4 => ?_)
  · replace hf := itp c4 hf
    refine lv_ldc2 hx hb F.2.2.2.1 (F.2.2.2.2.1 _ lk625) dX6_point_31 ?_
    exact g_lretW F hr hlk hh hf dX6_point_34
  · replace hf := itn c4 hf
    refine lv_iload_n hx hb dX6_point_15 rfl (lv_at hl 2 rfl) ?_
    refine lv_if_lt (tgt := 31) hx hb dX6_point_16 (by decide) (fun c5 => ?_) (fun c5 => ?_)
    · replace hf := itp c5 hf
      refine lv_ldc2 hx hb F.2.2.2.1 (F.2.2.2.2.1 _ lk625) dX6_point_31 ?_
      exact g_lretW F hr hlk hh hf dX6_point_34
    · replace hf := itn c5 hf
      refine lv_iload_n hx hb dX6_point_19 rfl (lv_at hl 2 rfl) ?_
      refine lv_iconst (v := 1) hx hb dX6_point_20 (by decide) ?_
      refine lv_icmp_gt (tgt := 31) hx hb dX6_point_21 (by decide) (fun c6 => ?_) (fun c6 => ?_)
      · replace hf := itp c6 hf
        refine lv_ldc2 hx hb F.2.2.2.1 (F.2.2.2.2.1 _ lk625) dX6_point_31 ?_
        exact g_lretW F hr hlk hh hf dX6_point_34
      · replace hf := itn c6 hf
        refine lv_iload_n hx hb dX6_point_24 rfl (lv_at hl 3 rfl) ?_
        obtain ⟨t7, ht7, hf⟩ := ob hf
        refine m_X6_167 F hh (c_X6_isPart ht7) rfl hl (Nat.le_of_ble_eq_true rfl) dX6_point_25 (fun H locs hh => ?_)
        refine lv_if_ne (tgt := 35) hx hb dX6_point_28 (by decide) (fun c8 => ?_) (fun c8 => ?_)
        · replace hf := itn c8 hf
          refine lv_aload_n hx hb dX6_point_35 rfl (lv_at hl 0 rfl) ?_
          refine r_X6_42 (b' := 100) F hh in_0 sh_0 rfl dX6_point_36 ?_
          refine r_X6_157 F hh in_100 sh_100 dX6_point_39 ?_
          refine lv_if_ge (tgt := 49) hx hb dX6_point_42 (by decide) (fun c9 => ?_) (fun c9 => ?_)
          · replace hf := itp c9 hf
            refine lv_iload_n hx hb dX6_point_49 rfl (lv_at hl 2 rfl) ?_
            refine lv_if_ne (tgt := 65) hx hb dX6_point_50 (by decide) (fun c10 => ?_) (fun c10 => ?_)
            · replace hf := itn c10 hf
              refine lv_aload_n hx hb dX6_point_65 rfl (lv_at hl 0 rfl) ?_
              refine r_X6_42 (b' := 100) F hh in_0 sh_0 rfl dX6_point_66 ?_
              refine r_X6_228 (b' := 108) F hh in_100 sh_100 rfl dX6_point_69 ?_
              refine lv_iload_n hx hb dX6_point_72 rfl (lv_at hl 1 rfl) ?_
              obtain ⟨t11, ht11, hf⟩ := ob hf
              refine g_lald F hh in_108 sh_108 ht11 dX6_point_73 ?_
              exact w_X6_point_74 F hr hlk hf  hh (lv_sub hl [0, 3] rfl)
            · replace hf := itp c10 hf
              refine lv_aload_n hx hb dX6_point_53 rfl (lv_at hl 0 rfl) ?_
              refine r_X6_42 (b' := 100) F hh in_0 sh_0 rfl dX6_point_54 ?_
              refine r_X6_225 (b' := 107) F hh in_100 sh_100 rfl dX6_point_57 ?_
              refine lv_iload_n hx hb dX6_point_60 rfl (lv_at hl 1 rfl) ?_
              obtain ⟨t12, ht12, hf⟩ := ob hf
              refine g_lald F hh in_107 sh_107 ht12 dX6_point_61 ?_
              refine lv_goto (tgt := 74) hx hb dX6_point_62 (by decide) ?_
              exact w_X6_point_74 F hr hlk hf  hh (lv_sub hl [0, 3] rfl)
          · replace hf := itn c9 hf
            refine lv_ldc2 hx hb F.2.2.2.1 (F.2.2.2.2.1 _ lk696) dX6_point_45 ?_
            exact g_lretW F hr hlk hh hf dX6_point_48
        · replace hf := itp c8 hf
          refine lv_ldc2 hx hb F.2.2.2.1 (F.2.2.2.2.1 _ lk625) dX6_point_31 ?_
          exact g_lretW F hr hlk hh hf dX6_point_34
theorem c_X6_point {l : Launch} {G : Gm} {x1 : Int32} {x2 : Int32} {x3 : Int32} {z : Sto} {Z : Int64 × Sto} (hf : f_X6_point x1 x2 x3 z = some Z) : Met l yX6_point (Cond.code yX6_point cX6_point 4 (some .long) :: TT) rmX6_point (va_Pc [.ref (G.1 0), .int x1, .int x2, .int x3] (GS rC G z)) (QL rC G Z.1 Z.2) 0 0 (Am rC G) := by
  refine g_met [(0, .ref (G.1 0)), (1, .int x1), (2, .int x2), (3, .int x3)] (by decide) (Nat.le_of_ble_eq_true rfl) rfl ?_
  intro p e s m below meth cd F hr hlk ls H locs hl hh
  exact w_X6_point F hr hlk hf hh hl
def f_X6_plane (x1 : Int32) (x2 : Int32) (x3 : Int32) (z : Sto) : Option (Int64 × Sto) := bd (f_X6_settle z) fun z2 => bd (f_X0_has x1 z2) fun t3 => if t3 = 0 then (some ((-1 : Int64), z2)) else (if x2 < 0 then (some ((-1 : Int64), z2)) else (if (2 : Int32) < x2 then (some ((-1 : Int64), z2)) else (bd (f_X6_isPart x3 z2) fun t7 => if t7 = 0 then (some ((-1 : Int64), z2)) else (if 0 ≤ (z2.1 100 1) then (bd (f_X0_planeNumber x1 x2 z2) fun t10 => bd (f_X6_partOf t10 ((z2.2 95 3)) x3 z2) fun t11 => some (t11, z2)) else (some ((-4 : Int64), z2))))))
set_option maxRecDepth 100000 in
set_option maxHeartbeats 4000000 in
theorem w_X6_plane {Z : Int64 × Sto} (F : Fx rC p s m args cd cX6_plane 4 RX6 G) (hr : meth.sig.returnType = (some .long)) (hlk : meth.locks = false) {x1 : Int32} {x2 : Int32} {x3 : Int32} {z : Sto} {H : Heap} {locs : List Loc} {ls : Array Slot} (hf : f_X6_plane x1 x2 x3 z = some Z) (hh : Hh rC G z s H locs) (hl : lv_has ls 4 [(0, .ref (G.1 0)), (1, .int x1), (2, .int x2), (3, .int x3)]) : W p l e rmX6_plane s m args below meth cd H locs 0 0 (MQ below (QL rC G Z.1 Z.2) args s 0 0 (Am rC G)) (F0 m 0 ls []) := by
  have hx := F.1
  have hb := F.2.1
  unfold f_X6_plane at hf
  refine lv_aload_n hx hb dX6_plane_0 rfl (lv_at hl 0 rfl) ?_
  obtain ⟨z2, ht1, hf⟩ := ob hf
  refine m_X6_122 F hh (c_X6_settle ht1) in_0 sh_0 rfl hl (Nat.le_of_ble_eq_true rfl) dX6_plane_1 (fun H locs hh => ?_)
  refine lv_aload_n hx hb dX6_plane_4 rfl (lv_at hl 0 rfl) ?_
  refine r_X6_42 (b' := 100) F hh in_0 sh_0 rfl dX6_plane_5 ?_
  refine lv_iload_n hx hb dX6_plane_8 rfl (lv_at hl 1 rfl) ?_
  obtain ⟨t3, ht3, hf⟩ := ob hf
  refine m_X6_203 F hh (c_X0_has ht3) in_100 sh_100 rfl hl (Nat.le_of_ble_eq_true rfl) dX6_plane_9 (fun H locs hh => ?_)
  refine lv_if_eq (tgt := 31) hx hb dX6_plane_12 (by decide) (fun c4 => ?_) (fun c4 => ?_)
  · replace hf := itp c4 hf
    refine lv_ldc2 hx hb F.2.2.2.1 (F.2.2.2.2.1 _ lk625) dX6_plane_31 ?_
    exact g_lretW F hr hlk hh hf dX6_plane_34
  · replace hf := itn c4 hf
    refine lv_iload_n hx hb dX6_plane_15 rfl (lv_at hl 2 rfl) ?_
    refine lv_if_lt (tgt := 31) hx hb dX6_plane_16 (by decide) (fun c5 => ?_) (fun c5 => ?_)
    · replace hf := itp c5 hf
      refine lv_ldc2 hx hb F.2.2.2.1 (F.2.2.2.2.1 _ lk625) dX6_plane_31 ?_
      exact g_lretW F hr hlk hh hf dX6_plane_34
    · replace hf := itn c5 hf
      refine lv_iload_n hx hb dX6_plane_19 rfl (lv_at hl 2 rfl) ?_
      refine lv_iconst (v := 2) hx hb dX6_plane_20 (by decide) ?_
      refine lv_icmp_gt (tgt := 31) hx hb dX6_plane_21 (by decide) (fun c6 => ?_) (fun c6 => ?_)
      · replace hf := itp c6 hf
        refine lv_ldc2 hx hb F.2.2.2.1 (F.2.2.2.2.1 _ lk625) dX6_plane_31 ?_
        exact g_lretW F hr hlk hh hf dX6_plane_34
      · replace hf := itn c6 hf
        refine lv_iload_n hx hb dX6_plane_24 rfl (lv_at hl 3 rfl) ?_
        obtain ⟨t7, ht7, hf⟩ := ob hf
        refine m_X6_167 F hh (c_X6_isPart ht7) rfl hl (Nat.le_of_ble_eq_true rfl) dX6_plane_25 (fun H locs hh => ?_)
        refine lv_if_ne (tgt := 35) hx hb dX6_plane_28 (by decide) (fun c8 => ?_) (fun c8 => ?_)
        · replace hf := itn c8 hf
          refine lv_aload_n hx hb dX6_plane_35 rfl (lv_at hl 0 rfl) ?_
          refine r_X6_42 (b' := 100) F hh in_0 sh_0 rfl dX6_plane_36 ?_
          refine r_X6_157 F hh in_100 sh_100 dX6_plane_39 ?_
          refine lv_if_ge (tgt := 49) hx hb dX6_plane_42 (by decide) (fun c9 => ?_) (fun c9 => ?_)
          · replace hf := itp c9 hf
            refine lv_aload_n hx hb dX6_plane_49 rfl (lv_at hl 0 rfl) ?_
            refine r_X6_42 (b' := 100) F hh in_0 sh_0 rfl dX6_plane_50 ?_
            refine lv_iload_n hx hb dX6_plane_53 rfl (lv_at hl 1 rfl) ?_
            refine lv_iload_n hx hb dX6_plane_54 rfl (lv_at hl 2 rfl) ?_
            obtain ⟨t10, ht10, hf⟩ := ob hf
            refine m_X6_231 F hh (c_X0_planeNumber ht10) in_100 sh_100 rfl hl (Nat.le_of_ble_eq_true rfl) dX6_plane_55 (fun H locs hh => ?_)
            refine lv_aload_n hx hb dX6_plane_58 rfl (lv_at hl 0 rfl) ?_
            refine r_X6_35 (b' := 95) F hh in_0 sh_0 rfl dX6_plane_59 ?_
            refine r_X6_176 F hh in_95 sh_95 dX6_plane_62 ?_
            refine lv_iload_n hx hb dX6_plane_65 rfl (lv_at hl 3 rfl) ?_
            obtain ⟨t11, ht11, hf⟩ := ob hf
            refine m_X6_180 F hh (c_X6_partOf ht11) rfl hl (Nat.le_of_ble_eq_true rfl) dX6_plane_66 (fun H locs hh => ?_)
            exact g_lretW F hr hlk hh hf dX6_plane_69
          · replace hf := itn c9 hf
            refine lv_ldc2 hx hb F.2.2.2.1 (F.2.2.2.2.1 _ lk696) dX6_plane_45 ?_
            exact g_lretW F hr hlk hh hf dX6_plane_48
        · replace hf := itp c8 hf
          refine lv_ldc2 hx hb F.2.2.2.1 (F.2.2.2.2.1 _ lk625) dX6_plane_31 ?_
          exact g_lretW F hr hlk hh hf dX6_plane_34
theorem c_X6_plane {l : Launch} {G : Gm} {x1 : Int32} {x2 : Int32} {x3 : Int32} {z : Sto} {Z : Int64 × Sto} (hf : f_X6_plane x1 x2 x3 z = some Z) : Met l yX6_plane (Cond.code yX6_plane cX6_plane 4 (some .long) :: TT) rmX6_plane (va_Pc [.ref (G.1 0), .int x1, .int x2, .int x3] (GS rC G z)) (QL rC G Z.1 Z.2) 0 0 (Am rC G) := by
  refine g_met [(0, .ref (G.1 0)), (1, .int x1), (2, .int x2), (3, .int x3)] (by decide) (Nat.le_of_ble_eq_true rfl) rfl ?_
  intro p e s m below meth cd F hr hlk ls H locs hl hh
  exact w_X6_plane F hr hlk hf hh hl
def f_X6_height (x1 : Int32) (x2 : Int32) (z : Sto) : Option (Int64 × Sto) := bd (f_X1_hasJoint 1 x1 z) fun t1 => if t1 = 0 then (some ((-1 : Int64), z)) else (bd (f_X6_isPart x2 z) fun t3 => if t3 = 0 then (some ((-1 : Int64), z)) else (bd (f_X6_settle z) fun z6 => if 0 ≤ (z6.1 100 1) then (bd (f_X0_heightAt x1 z6) fun t8 => bd (f_X6_partOf t8 ((z6.2 95 3)) x2 z6) fun t9 => some (t9, z6)) else (some ((-4 : Int64), z6))))
set_option maxRecDepth 100000 in
set_option maxHeartbeats 4000000 in
theorem w_X6_height {Z : Int64 × Sto} (F : Fx rC p s m args cd cX6_height 3 RX6 G) (hr : meth.sig.returnType = (some .long)) (hlk : meth.locks = false) {x1 : Int32} {x2 : Int32} {z : Sto} {H : Heap} {locs : List Loc} {ls : Array Slot} (hf : f_X6_height x1 x2 z = some Z) (hh : Hh rC G z s H locs) (hl : lv_has ls 3 [(0, .ref (G.1 0)), (1, .int x1), (2, .int x2)]) : W p l e rmX6_height s m args below meth cd H locs 0 0 (MQ below (QL rC G Z.1 Z.2) args s 0 0 (Am rC G)) (F0 m 0 ls []) := by
  have hx := F.1
  have hb := F.2.1
  unfold f_X6_height at hf
  refine lv_aload_n hx hb dX6_height_0 rfl (lv_at hl 0 rfl) ?_
  refine r_X6_12 (b' := 1) F hh in_0 sh_0 rfl dX6_height_1 ?_
  refine lv_iload_n hx hb dX6_height_4 rfl (lv_at hl 1 rfl) ?_
  obtain ⟨t1, ht1, hf⟩ := ob hf
  refine m_X6_82 F hh (c_X1_hasJoint fr_1 ht1) in_1 sh_1 rfl hl (Nat.le_of_ble_eq_true rfl) dX6_height_5 (fun H locs hh => ?_)
  refine lv_if_eq (tgt := 18) hx hb dX6_height_8 (by decide) (fun c2 => ?_) (fun c2 => ?_)
  · replace hf := itp c2 hf
    refine lv_ldc2 hx hb F.2.2.2.1 (F.2.2.2.2.1 _ lk625) dX6_height_18 ?_
    exact g_lretW F hr hlk hh hf dX6_height_21
  · replace hf := itn c2 hf
    refine lv_iload_n hx hb dX6_height_11 rfl (lv_at hl 2 rfl) ?_
    obtain ⟨t3, ht3, hf⟩ := ob hf
    refine m_X6_167 F hh (c_X6_isPart ht3) rfl hl (Nat.le_of_ble_eq_true rfl) dX6_height_12 (fun H locs hh => ?_)
    refine lv_if_ne (tgt := 22) hx hb dX6_height_15 (by decide) (fun c4 => ?_) (fun c4 => ?_)
    · replace hf := itn c4 hf
      refine lv_aload_n hx hb dX6_height_22 rfl (lv_at hl 0 rfl) ?_
      obtain ⟨z6, ht5, hf⟩ := ob hf
      refine m_X6_122 F hh (c_X6_settle ht5) in_0 sh_0 rfl hl (Nat.le_of_ble_eq_true rfl) dX6_height_23 (fun H locs hh => ?_)
      refine lv_aload_n hx hb dX6_height_26 rfl (lv_at hl 0 rfl) ?_
      refine r_X6_42 (b' := 100) F hh in_0 sh_0 rfl dX6_height_27 ?_
      refine r_X6_157 F hh in_100 sh_100 dX6_height_30 ?_
      refine lv_if_ge (tgt := 40) hx hb dX6_height_33 (by decide) (fun c7 => ?_) (fun c7 => ?_)
      · replace hf := itp c7 hf
        refine lv_aload_n hx hb dX6_height_40 rfl (lv_at hl 0 rfl) ?_
        refine r_X6_42 (b' := 100) F hh in_0 sh_0 rfl dX6_height_41 ?_
        refine lv_aload_n hx hb dX6_height_44 rfl (lv_at hl 0 rfl) ?_
        refine r_X6_12 (b' := 1) F hh in_0 sh_0 rfl dX6_height_45 ?_
        refine lv_iload_n hx hb dX6_height_48 rfl (lv_at hl 1 rfl) ?_
        obtain ⟨t8, ht8, hf⟩ := ob hf
        refine m_X6_235 F hh (c_X0_heightAt ht8) in_100 sh_100 rfl hl (Nat.le_of_ble_eq_true rfl) dX6_height_49 (fun H locs hh => ?_)
        refine lv_aload_n hx hb dX6_height_52 rfl (lv_at hl 0 rfl) ?_
        refine r_X6_35 (b' := 95) F hh in_0 sh_0 rfl dX6_height_53 ?_
        refine r_X6_176 F hh in_95 sh_95 dX6_height_56 ?_
        refine lv_iload_n hx hb dX6_height_59 rfl (lv_at hl 2 rfl) ?_
        obtain ⟨t9, ht9, hf⟩ := ob hf
        refine m_X6_180 F hh (c_X6_partOf ht9) rfl hl (Nat.le_of_ble_eq_true rfl) dX6_height_60 (fun H locs hh => ?_)
        exact g_lretW F hr hlk hh hf dX6_height_63
      · replace hf := itn c7 hf
        refine lv_ldc2 hx hb F.2.2.2.1 (F.2.2.2.2.1 _ lk696) dX6_height_36 ?_
        exact g_lretW F hr hlk hh hf dX6_height_39
    · replace hf := itp c4 hf
      refine lv_ldc2 hx hb F.2.2.2.1 (F.2.2.2.2.1 _ lk625) dX6_height_18 ?_
      exact g_lretW F hr hlk hh hf dX6_height_21
theorem c_X6_height {l : Launch} {G : Gm} {x1 : Int32} {x2 : Int32} {z : Sto} {Z : Int64 × Sto} (hf : f_X6_height x1 x2 z = some Z) : Met l yX6_height (Cond.code yX6_height cX6_height 3 (some .long) :: TT) rmX6_height (va_Pc [.ref (G.1 0), .int x1, .int x2] (GS rC G z)) (QL rC G Z.1 Z.2) 0 0 (Am rC G) := by
  refine g_met [(0, .ref (G.1 0)), (1, .int x1), (2, .int x2)] (by decide) (Nat.le_of_ble_eq_true rfl) rfl ?_
  intro p e s m below meth cd F hr hlk ls H locs hl hh
  exact w_X6_height F hr hlk hf hh hl
def b_X6_corner_58  (ag58 : Int32 → Int32 → Int32 → Int32 → Int64 → Int32 → Sto → Option (Int64 × Sto)) (x1 : Int32) (x2 : Int32) (x3 : Int32) (x4 : Int32) (x5 : Int64) (x7 : Int32) (z : Sto) : Option (Int64 × Sto) := if ((2 : Int32) * (z.1 1 1)) ≤ x7 then (bd (f_X6_partOf x5 ((z.2 95 3)) x4 z) fun t13 => some (t13, z)) else (bd (f_X1_startOf 1 x7 z) fun t14 => if t14 = x1 then (bd (rdI z 101 18 x7) fun t17 => if x2 ≤ t17 then (lt (x7 + (1 : Int32)) fun x7_19 => ag58 x1 x2 x3 x4 x5 x7_19 z) else (bd (rdL z 97 9 (x7 / (2 : Int32))) fun t20 => if x3 = 0 then (bd (f_X1_stepX 1 x7 z) fun t25 => lt ((x5 + (t20 * (Int32.toInt64 t25)))) fun x5_26 => lt (x7 + (1 : Int32)) fun x7_27 => ag58 x1 x2 x3 x4 x5_26 x7_27 z) else (bd (f_X1_stepY 1 x7 z) fun t22 => lt ((x5 + (t20 * (Int32.toInt64 t22)))) fun x5_23 => lt (x7 + (1 : Int32)) fun x7_24 => ag58 x1 x2 x3 x4 x5_23 x7_24 z))) else (lt (x7 + (1 : Int32)) fun x7_16 => ag58 x1 x2 x3 x4 x5 x7_16 z))
def f_X6_corner (x1 : Int32) (x2 : Int32) (x3 : Int32) (x4 : Int32) (z : Sto) : Option (Int64 × Sto) := bd (f_X1_hasJoint 1 x1 z) fun t1 => if t1 = 0 then (some ((-1 : Int64), z)) else (if x2 < 0 then (some ((-1 : Int64), z)) else (bd (f_X1_barsOf 1 x1 z) fun t4 => if t4 < x2 then (some ((-1 : Int64), z)) else (if x3 < 0 then (some ((-1 : Int64), z)) else (if (1 : Int32) < x3 then (some ((-1 : Int64), z)) else (bd (f_X6_isPart x4 z) fun t8 => if t8 = 0 then (some ((-1 : Int64), z)) else (bd (f_X6_settle z) fun z11 => wl7 (b_X6_corner_58) fu x1 x2 x3 x4 (0 : Int64) (0 : Int32) z11))))))
set_option maxRecDepth 100000 in
set_option maxHeartbeats 4000000 in
theorem w_X6_corner_58  {Z : Int64 × Sto} (F : Fx rC p s m args cd cX6_corner 8 RX6 G) (hr : meth.sig.returnType = (some .long)) (hlk : meth.locks = false)  : ∀ (n : Nat), ∀ (x1 : Int32) (x2 : Int32) (x3 : Int32) (x4 : Int32) (x5 : Int64) (x7 : Int32) (z : Sto), wl7 (b_X6_corner_58) n x1 x2 x3 x4 x5 x7 z = some Z → ∀ {H : Heap} {locs : List Loc} {ls : Array Slot}, Hh rC G z s H locs → lv_has ls 8 [(0, .ref (G.1 0)), (1, .int x1), (2, .int x2), (3, .int x3), (4, .int x4), (5, .long x5), (7, .int x7)] → W p l e rmX6_corner s m args below meth cd H locs 0 0 (MQ below (QL rC G Z.1 Z.2) args s 0 0 (Am rC G)) (F0 m 58 ls []) := by
  have hx := F.1
  have hb := F.2.1
  intro n
  induction n with
  | zero =>
    intro x1 x2 x3 x4 x5 x7 z hf
    exact absurd hf (by intro h; cases h)
  | succ n ih =>
    intro x1 x2 x3 x4 x5 x7 z hf  H locs ls hh hl
    replace hf : b_X6_corner_58 (wl7 (b_X6_corner_58) n) x1 x2 x3 x4 x5 x7 z = some Z := hf
    unfold b_X6_corner_58 at hf
    refine lv_iload hx hb dX6_corner_58 (lv_at hl 6 rfl) ?_
    refine lv_iconst (v := 2) hx hb dX6_corner_60 (by decide) ?_
    refine lv_aload_n hx hb dX6_corner_61 rfl (lv_at hl 0 rfl) ?_
    refine r_X6_12 (b' := 1) F hh in_0 sh_0 rfl dX6_corner_62 ?_
    refine r_X6_90 F hh in_1 sh_1 dX6_corner_65 ?_
    refine lv_imul hx hb dX6_corner_68 ?_
    refine lv_icmp_ge (tgt := 149) hx hb dX6_corner_69 (by decide) (fun c12 => ?_) (fun c12 => ?_)
    · replace hf := itp c12 hf
      refine lv_lload hx hb dX6_corner_149 (lv_at hl 5 rfl) ?_
      refine lv_aload_n hx hb dX6_corner_151 rfl (lv_at hl 0 rfl) ?_
      refine r_X6_35 (b' := 95) F hh in_0 sh_0 rfl dX6_corner_152 ?_
      refine r_X6_176 F hh in_95 sh_95 dX6_corner_155 ?_
      refine lv_iload hx hb dX6_corner_158 (lv_at hl 4 rfl) ?_
      obtain ⟨t13, ht13, hf⟩ := ob hf
      refine m_X6_180 F hh (c_X6_partOf ht13) rfl hl (Nat.le_of_ble_eq_true rfl) dX6_corner_160 (fun H locs hh => ?_)
      exact g_lretW F hr hlk hh hf dX6_corner_163
    · replace hf := itn c12 hf
      refine lv_aload_n hx hb dX6_corner_72 rfl (lv_at hl 0 rfl) ?_
      refine r_X6_12 (b' := 1) F hh in_0 sh_0 rfl dX6_corner_73 ?_
      refine lv_iload hx hb dX6_corner_76 (lv_at hl 6 rfl) ?_
      obtain ⟨t14, ht14, hf⟩ := ob hf
      refine m_X6_239 F hh (c_X1_startOf fr_1 ht14) in_1 sh_1 rfl hl (Nat.le_of_ble_eq_true rfl) dX6_corner_78 (fun H locs hh => ?_)
      refine lv_iload_n hx hb dX6_corner_81 rfl (lv_at hl 1 rfl) ?_
      refine lv_icmp_ne (tgt := 143) hx hb dX6_corner_82 (by decide) (fun c15 => ?_) (fun c15 => ?_)
      · replace hf := itn c15 hf
        obtain ⟨x7_16, ex7_16⟩ : ∃ y : Int32, y = x7 + (1 : Int32) := ⟨_, rfl⟩
        replace hf := lt_e ex7_16 hf
        refine lv_iinc (v := x7_16) (lv' := [(7, .int x7_16), (0, .ref (G.1 0)), (1, .int x1), (2, .int x2), (3, .int x3), (4, .int x4), (5, .long x5)]) hx hb dX6_corner_143 hl (k := 6) rfl (by rw [ex7_16]; rfl) (by decide) rfl (fun ls hl => ?_)
        refine lv_goto (tgt := 58) hx hb dX6_corner_146 (by decide) ?_
        exact ih _ _ _ _ _ _ _ hf  hh (lv_sub hl [1, 2, 3, 4, 5, 6, 0] rfl)
      · replace hf := itp c15 hf
        refine lv_aload_n hx hb dX6_corner_85 rfl (lv_at hl 0 rfl) ?_
        refine r_X6_42 (b' := 100) F hh in_0 sh_0 rfl dX6_corner_86 ?_
        refine r_X6_242 (b' := 101) F hh in_100 sh_100 rfl dX6_corner_89 ?_
        refine lv_iload hx hb dX6_corner_92 (lv_at hl 6 rfl) ?_
        obtain ⟨t17, ht17, hf⟩ := ob hf
        refine g_iald F hh in_101 sh_101 ht17 dX6_corner_94 ?_
        refine lv_iload_n hx hb dX6_corner_95 rfl (lv_at hl 2 rfl) ?_
        refine lv_icmp_ge (tgt := 143) hx hb dX6_corner_96 (by decide) (fun c18 => ?_) (fun c18 => ?_)
        · replace hf := itp c18 hf
          obtain ⟨x7_19, ex7_19⟩ : ∃ y : Int32, y = x7 + (1 : Int32) := ⟨_, rfl⟩
          replace hf := lt_e ex7_19 hf
          refine lv_iinc (v := x7_19) (lv' := [(7, .int x7_19), (0, .ref (G.1 0)), (1, .int x1), (2, .int x2), (3, .int x3), (4, .int x4), (5, .long x5)]) hx hb dX6_corner_143 hl (k := 6) rfl (by rw [ex7_19]; rfl) (by decide) rfl (fun ls hl => ?_)
          refine lv_goto (tgt := 58) hx hb dX6_corner_146 (by decide) ?_
          exact ih _ _ _ _ _ _ _ hf  hh (lv_sub hl [1, 2, 3, 4, 5, 6, 0] rfl)
        · replace hf := itn c18 hf
          refine lv_lload hx hb dX6_corner_99 (lv_at hl 5 rfl) ?_
          refine lv_aload_n hx hb dX6_corner_101 rfl (lv_at hl 0 rfl) ?_
          refine r_X6_35 (b' := 95) F hh in_0 sh_0 rfl dX6_corner_102 ?_
          refine r_X6_184 (b' := 97) F hh in_95 sh_95 rfl dX6_corner_105 ?_
          refine lv_iload hx hb dX6_corner_108 (lv_at hl 6 rfl) ?_
          refine lv_iconst (v := 2) hx hb dX6_corner_110 (by decide) ?_
          refine lv_idiv hx hb dX6_corner_111 (by decide) ?_
          obtain ⟨t20, ht20, hf⟩ := ob hf
          refine g_lald F hh in_97 sh_97 ht20 dX6_corner_112 ?_
          refine lv_iload_n hx hb dX6_corner_113 rfl (lv_at hl 3 rfl) ?_
          refine lv_if_ne (tgt := 129) hx hb dX6_corner_114 (by decide) (fun c21 => ?_) (fun c21 => ?_)
          · replace hf := itn c21 hf
            refine lv_aload_n hx hb dX6_corner_129 rfl (lv_at hl 0 rfl) ?_
            refine r_X6_12 (b' := 1) F hh in_0 sh_0 rfl dX6_corner_130 ?_
            refine lv_iload hx hb dX6_corner_133 (lv_at hl 6 rfl) ?_
            obtain ⟨t22, ht22, hf⟩ := ob hf
            refine m_X6_248 F hh (c_X1_stepY fr_1 ht22) in_1 sh_1 rfl hl (Nat.le_of_ble_eq_true rfl) dX6_corner_135 (fun H locs hh => ?_)
            refine lv_i2l hx hb dX6_corner_138 rfl ?_
            refine lv_lmul hx hb dX6_corner_139 ?_
            refine lv_ladd hx hb dX6_corner_140 ?_
            refine lv_topl (fun x5_23 ex5_23 => ?_)
            replace hf := lt_e ex5_23 hf
            refine lv_lstore (lv' := [(5, .long x5_23), (0, .ref (G.1 0)), (1, .int x1), (2, .int x2), (3, .int x3), (4, .int x4), (7, .int x7)]) hx hb dX6_corner_141 hl (by decide) rfl (fun ls hl => ?_)
            obtain ⟨x7_24, ex7_24⟩ : ∃ y : Int32, y = x7 + (1 : Int32) := ⟨_, rfl⟩
            replace hf := lt_e ex7_24 hf
            refine lv_iinc (v := x7_24) (lv' := [(7, .int x7_24), (5, .long x5_23), (0, .ref (G.1 0)), (1, .int x1), (2, .int x2), (3, .int x3), (4, .int x4)]) hx hb dX6_corner_143 hl (k := 6) rfl (by rw [ex7_24]; rfl) (by decide) rfl (fun ls hl => ?_)
            refine lv_goto (tgt := 58) hx hb dX6_corner_146 (by decide) ?_
            exact ih _ _ _ _ _ _ _ hf  hh (lv_sub hl [2, 3, 4, 5, 6, 1, 0] rfl)
          · replace hf := itp c21 hf
            refine lv_aload_n hx hb dX6_corner_117 rfl (lv_at hl 0 rfl) ?_
            refine r_X6_12 (b' := 1) F hh in_0 sh_0 rfl dX6_corner_118 ?_
            refine lv_iload hx hb dX6_corner_121 (lv_at hl 6 rfl) ?_
            obtain ⟨t25, ht25, hf⟩ := ob hf
            refine m_X6_245 F hh (c_X1_stepX fr_1 ht25) in_1 sh_1 rfl hl (Nat.le_of_ble_eq_true rfl) dX6_corner_123 (fun H locs hh => ?_)
            refine lv_goto (tgt := 138) hx hb dX6_corner_126 (by decide) ?_
            refine lv_i2l hx hb dX6_corner_138 rfl ?_
            refine lv_lmul hx hb dX6_corner_139 ?_
            refine lv_ladd hx hb dX6_corner_140 ?_
            refine lv_topl (fun x5_26 ex5_26 => ?_)
            replace hf := lt_e ex5_26 hf
            refine lv_lstore (lv' := [(5, .long x5_26), (0, .ref (G.1 0)), (1, .int x1), (2, .int x2), (3, .int x3), (4, .int x4), (7, .int x7)]) hx hb dX6_corner_141 hl (by decide) rfl (fun ls hl => ?_)
            obtain ⟨x7_27, ex7_27⟩ : ∃ y : Int32, y = x7 + (1 : Int32) := ⟨_, rfl⟩
            replace hf := lt_e ex7_27 hf
            refine lv_iinc (v := x7_27) (lv' := [(7, .int x7_27), (5, .long x5_26), (0, .ref (G.1 0)), (1, .int x1), (2, .int x2), (3, .int x3), (4, .int x4)]) hx hb dX6_corner_143 hl (k := 6) rfl (by rw [ex7_27]; rfl) (by decide) rfl (fun ls hl => ?_)
            refine lv_goto (tgt := 58) hx hb dX6_corner_146 (by decide) ?_
            exact ih _ _ _ _ _ _ _ hf  hh (lv_sub hl [2, 3, 4, 5, 6, 1, 0] rfl)
set_option maxRecDepth 100000 in
set_option maxHeartbeats 4000000 in
theorem w_X6_corner {Z : Int64 × Sto} (F : Fx rC p s m args cd cX6_corner 8 RX6 G) (hr : meth.sig.returnType = (some .long)) (hlk : meth.locks = false) {x1 : Int32} {x2 : Int32} {x3 : Int32} {x4 : Int32} {z : Sto} {H : Heap} {locs : List Loc} {ls : Array Slot} (hf : f_X6_corner x1 x2 x3 x4 z = some Z) (hh : Hh rC G z s H locs) (hl : lv_has ls 8 [(0, .ref (G.1 0)), (1, .int x1), (2, .int x2), (3, .int x3), (4, .int x4)]) : W p l e rmX6_corner s m args below meth cd H locs 0 0 (MQ below (QL rC G Z.1 Z.2) args s 0 0 (Am rC G)) (F0 m 0 ls []) := by
  have hx := F.1
  have hb := F.2.1
  unfold f_X6_corner at hf
  refine lv_aload_n hx hb dX6_corner_0 rfl (lv_at hl 0 rfl) ?_
  refine r_X6_12 (b' := 1) F hh in_0 sh_0 rfl dX6_corner_1 ?_
  refine lv_iload_n hx hb dX6_corner_4 rfl (lv_at hl 1 rfl) ?_
  obtain ⟨t1, ht1, hf⟩ := ob hf
  refine m_X6_82 F hh (c_X1_hasJoint fr_1 ht1) in_1 sh_1 rfl hl (Nat.le_of_ble_eq_true rfl) dX6_corner_5 (fun H locs hh => ?_)
  refine lv_if_eq (tgt := 44) hx hb dX6_corner_8 (by decide) (fun c2 => ?_) (fun c2 => ?_)
  · replace hf := itp c2 hf
    refine lv_ldc2 hx hb F.2.2.2.1 (F.2.2.2.2.1 _ lk625) dX6_corner_44 ?_
    exact g_lretW F hr hlk hh hf dX6_corner_47
  · replace hf := itn c2 hf
    refine lv_iload_n hx hb dX6_corner_11 rfl (lv_at hl 2 rfl) ?_
    refine lv_if_lt (tgt := 44) hx hb dX6_corner_12 (by decide) (fun c3 => ?_) (fun c3 => ?_)
    · replace hf := itp c3 hf
      refine lv_ldc2 hx hb F.2.2.2.1 (F.2.2.2.2.1 _ lk625) dX6_corner_44 ?_
      exact g_lretW F hr hlk hh hf dX6_corner_47
    · replace hf := itn c3 hf
      refine lv_iload_n hx hb dX6_corner_15 rfl (lv_at hl 2 rfl) ?_
      refine lv_aload_n hx hb dX6_corner_16 rfl (lv_at hl 0 rfl) ?_
      refine r_X6_12 (b' := 1) F hh in_0 sh_0 rfl dX6_corner_17 ?_
      refine lv_iload_n hx hb dX6_corner_20 rfl (lv_at hl 1 rfl) ?_
      obtain ⟨t4, ht4, hf⟩ := ob hf
      refine m_X6_78 F hh (c_X1_barsOf fr_1 ht4) in_1 sh_1 rfl hl (Nat.le_of_ble_eq_true rfl) dX6_corner_21 (fun H locs hh => ?_)
      refine lv_icmp_gt (tgt := 44) hx hb dX6_corner_24 (by decide) (fun c5 => ?_) (fun c5 => ?_)
      · replace hf := itp c5 hf
        refine lv_ldc2 hx hb F.2.2.2.1 (F.2.2.2.2.1 _ lk625) dX6_corner_44 ?_
        exact g_lretW F hr hlk hh hf dX6_corner_47
      · replace hf := itn c5 hf
        refine lv_iload_n hx hb dX6_corner_27 rfl (lv_at hl 3 rfl) ?_
        refine lv_if_lt (tgt := 44) hx hb dX6_corner_28 (by decide) (fun c6 => ?_) (fun c6 => ?_)
        · replace hf := itp c6 hf
          refine lv_ldc2 hx hb F.2.2.2.1 (F.2.2.2.2.1 _ lk625) dX6_corner_44 ?_
          exact g_lretW F hr hlk hh hf dX6_corner_47
        · replace hf := itn c6 hf
          refine lv_iload_n hx hb dX6_corner_31 rfl (lv_at hl 3 rfl) ?_
          refine lv_iconst (v := 1) hx hb dX6_corner_32 (by decide) ?_
          refine lv_icmp_gt (tgt := 44) hx hb dX6_corner_33 (by decide) (fun c7 => ?_) (fun c7 => ?_)
          · replace hf := itp c7 hf
            refine lv_ldc2 hx hb F.2.2.2.1 (F.2.2.2.2.1 _ lk625) dX6_corner_44 ?_
            exact g_lretW F hr hlk hh hf dX6_corner_47
          · replace hf := itn c7 hf
            refine lv_iload hx hb dX6_corner_36 (lv_at hl 4 rfl) ?_
            obtain ⟨t8, ht8, hf⟩ := ob hf
            refine m_X6_167 F hh (c_X6_isPart ht8) rfl hl (Nat.le_of_ble_eq_true rfl) dX6_corner_38 (fun H locs hh => ?_)
            refine lv_if_ne (tgt := 48) hx hb dX6_corner_41 (by decide) (fun c9 => ?_) (fun c9 => ?_)
            · replace hf := itn c9 hf
              refine lv_aload_n hx hb dX6_corner_48 rfl (lv_at hl 0 rfl) ?_
              obtain ⟨z11, ht10, hf⟩ := ob hf
              refine m_X6_122 F hh (c_X6_settle ht10) in_0 sh_0 rfl hl (Nat.le_of_ble_eq_true rfl) dX6_corner_49 (fun H locs hh => ?_)
              refine lv_lconst (v := 0) hx hb dX6_corner_52 (by decide) ?_
              refine lv_lstore (lv' := [(5, .long (0 : Int64)), (0, .ref (G.1 0)), (1, .int x1), (2, .int x2), (3, .int x3), (4, .int x4)]) hx hb dX6_corner_53 hl (by decide) rfl (fun ls hl => ?_)
              refine lv_iconst (v := 0) hx hb dX6_corner_55 (by decide) ?_
              refine lv_istore (lv' := [(7, .int (0 : Int32)), (5, .long (0 : Int64)), (0, .ref (G.1 0)), (1, .int x1), (2, .int x2), (3, .int x3), (4, .int x4)]) hx hb dX6_corner_56 hl (by decide) rfl (fun ls hl => ?_)
              exact w_X6_corner_58 F hr hlk fu _ _ _ _ _ _ _ hf  hh (lv_sub hl [2, 3, 4, 5, 6, 1, 0] rfl)
            · replace hf := itp c9 hf
              refine lv_ldc2 hx hb F.2.2.2.1 (F.2.2.2.2.1 _ lk625) dX6_corner_44 ?_
              exact g_lretW F hr hlk hh hf dX6_corner_47
theorem c_X6_corner {l : Launch} {G : Gm} {x1 : Int32} {x2 : Int32} {x3 : Int32} {x4 : Int32} {z : Sto} {Z : Int64 × Sto} (hf : f_X6_corner x1 x2 x3 x4 z = some Z) : Met l yX6_corner (Cond.code yX6_corner cX6_corner 8 (some .long) :: TT) rmX6_corner (va_Pc [.ref (G.1 0), .int x1, .int x2, .int x3, .int x4] (GS rC G z)) (QL rC G Z.1 Z.2) 0 0 (Am rC G) := by
  refine g_met [(0, .ref (G.1 0)), (1, .int x1), (2, .int x2), (3, .int x3), (4, .int x4)] (by decide) (Nat.le_of_ble_eq_true rfl) rfl ?_
  intro p e s m below meth cd F hr hlk ls H locs hl hh
  exact w_X6_corner F hr hlk hf hh hl
def f_X6_type (x1 : Int32) (z : Sto) : Option (Int32 × Sto) := if x1 < (32 : Int32) then (some ((-1 : Int32), z)) else (if x1 ≤ (126 : Int32) then (bd2 (f_X5_put x1 z) fun t3 z4 => if t3 = 0 then (some ((-3 : Int32), z4)) else (some ((z4.1 111 1), z4))) else (some ((-1 : Int32), z)))
set_option maxRecDepth 100000 in
set_option maxHeartbeats 4000000 in
theorem w_X6_type {Z : Int32 × Sto} (F : Fx rC p s m args cd cX6_type 2 RX6 G) (hr : meth.sig.returnType = (some .int)) (hlk : meth.locks = false) {x1 : Int32} {z : Sto} {H : Heap} {locs : List Loc} {ls : Array Slot} (hf : f_X6_type x1 z = some Z) (hh : Hh rC G z s H locs) (hl : lv_has ls 2 [(0, .ref (G.1 0)), (1, .int x1)]) : W p l e rmX6_type s m args below meth cd H locs 0 0 (MQ below (QI rC G Z.1 Z.2) args s 0 0 (Am rC G)) (F0 m 0 ls []) := by
  have hx := F.1
  have hb := F.2.1
  unfold f_X6_type at hf
  refine lv_iload_n hx hb dX6_type_0 rfl (lv_at hl 1 rfl) ?_
  refine lv_bipush (v := 32) hx hb dX6_type_1 (by decide) ?_
  refine lv_icmp_lt (tgt := 12) hx hb dX6_type_3 (by decide) (fun c1 => ?_) (fun c1 => ?_)
  · replace hf := itp c1 hf
    refine lv_iconst (v := -1) hx hb dX6_type_12 (by decide) ?_
    exact g_iretW F hr hlk hh hf dX6_type_13
  · replace hf := itn c1 hf
    refine lv_iload_n hx hb dX6_type_6 rfl (lv_at hl 1 rfl) ?_
    refine lv_bipush (v := 126) hx hb dX6_type_7 (by decide) ?_
    refine lv_icmp_le (tgt := 14) hx hb dX6_type_9 (by decide) (fun c2 => ?_) (fun c2 => ?_)
    · replace hf := itp c2 hf
      refine lv_aload_n hx hb dX6_type_14 rfl (lv_at hl 0 rfl) ?_
      refine r_X6_49 (b' := 111) F hh in_0 sh_0 rfl dX6_type_15 ?_
      refine lv_iload_n hx hb dX6_type_18 rfl (lv_at hl 1 rfl) ?_
      obtain ⟨t3, z4, ht3, hf⟩ := ob2 hf
      refine m_X6_251 (r := t3) (σ' := z4) F hh (c_X5_put ht3) in_111 sh_111 rfl hl (Nat.le_of_ble_eq_true rfl) dX6_type_19 (fun H locs hh => ?_)
      refine lv_if_eq (tgt := 35) hx hb dX6_type_22 (by decide) (fun c5 => ?_) (fun c5 => ?_)
      · replace hf := itp c5 hf
        refine lv_bipush (v := -3) hx hb dX6_type_35 (by decide) ?_
        exact g_iretW F hr hlk hh hf dX6_type_37
      · replace hf := itn c5 hf
        refine lv_aload_n hx hb dX6_type_25 rfl (lv_at hl 0 rfl) ?_
        refine r_X6_49 (b' := 111) F hh in_0 sh_0 rfl dX6_type_26 ?_
        refine r_X6_254 F hh in_111 sh_111 dX6_type_29 ?_
        refine lv_goto (tgt := 37) hx hb dX6_type_32 (by decide) ?_
        exact g_iretW F hr hlk hh hf dX6_type_37
    · replace hf := itn c2 hf
      refine lv_iconst (v := -1) hx hb dX6_type_12 (by decide) ?_
      exact g_iretW F hr hlk hh hf dX6_type_13
theorem c_X6_type {l : Launch} {G : Gm} {x1 : Int32} {z : Sto} {Z : Int32 × Sto} (hf : f_X6_type x1 z = some Z) : Met l yX6_type (Cond.code yX6_type cX6_type 2 (some .int) :: TT) rmX6_type (va_Pc [.ref (G.1 0), .int x1] (GS rC G z)) (QI rC G Z.1 Z.2) 0 0 (Am rC G) := by
  refine g_met [(0, .ref (G.1 0)), (1, .int x1)] (by decide) (Nat.le_of_ble_eq_true rfl) rfl ?_
  intro p e s m below meth cd F hr hlk ls H locs hl hh
  exact w_X6_type F hr hlk hf hh hl
def f_X6_read  (z : Sto) : Option (Int32 × Sto) := bd2 (f_X5_tells z) fun t1 z2 => lt (upI z2 111 1 (0 : Int32)) fun z3 => if t1 = 0 then (some (((-20 : Int32) - (z3.1 111 2)), z3)) else (bd (f_X6_startStep z3) fun z6 => bd (f_X1_takeFigure 1 7 z6) fun z8 => some ((z8.1 1 1), z8))
set_option maxRecDepth 100000 in
set_option maxHeartbeats 4000000 in
theorem w_X6_read {Z : Int32 × Sto} (F : Fx rC p s m args cd cX6_read 2 RX6 G) (hr : meth.sig.returnType = (some .int)) (hlk : meth.locks = false)  {z : Sto} {H : Heap} {locs : List Loc} {ls : Array Slot} (hf : f_X6_read  z = some Z) (hh : Hh rC G z s H locs) (hl : lv_has ls 2 [(0, .ref (G.1 0))]) : W p l e rmX6_read s m args below meth cd H locs 0 0 (MQ below (QI rC G Z.1 Z.2) args s 0 0 (Am rC G)) (F0 m 0 ls []) := by
  have hx := F.1
  have hb := F.2.1
  unfold f_X6_read at hf
  refine lv_aload_n hx hb dX6_read_0 rfl (lv_at hl 0 rfl) ?_
  refine r_X6_49 (b' := 111) F hh in_0 sh_0 rfl dX6_read_1 ?_
  refine lv_aload_n hx hb dX6_read_4 rfl (lv_at hl 0 rfl) ?_
  refine r_X6_16 (b' := 7) F hh in_0 sh_0 rfl dX6_read_5 ?_
  obtain ⟨t1, z2, ht1, hf⟩ := ob2 hf
  refine m_X6_257 (r := t1) (σ' := z2) F hh (c_X5_tells ht1) in_111 sh_111 rfl hl (Nat.le_of_ble_eq_true rfl) dX6_read_8 (fun H locs hh => ?_)
  refine lv_istore_n (lv' := [(1, .int t1), (0, .ref (G.1 0))]) hx hb dX6_read_11 rfl hl (by decide) rfl (fun ls hl => ?_)
  refine lv_aload_n hx hb dX6_read_12 rfl (lv_at hl 1 rfl) ?_
  refine r_X6_49 (b' := 111) F hh in_0 sh_0 rfl dX6_read_13 ?_
  refine lv_iconst (v := 0) hx hb dX6_read_16 (by decide) ?_
  refine s_X6_254 F hh in_111 sh_111 dX6_read_17 (fun z3 ez3 H locs hh => ?_)
  replace hf := lt_e ez3 hf
  refine lv_iload_n hx hb dX6_read_20 rfl (lv_at hl 0 rfl) ?_
  refine lv_if_ne (tgt := 35) hx hb dX6_read_21 (by decide) (fun c4 => ?_) (fun c4 => ?_)
  · replace hf := itn c4 hf
    refine lv_aload_n hx hb dX6_read_35 rfl (lv_at hl 1 rfl) ?_
    obtain ⟨z6, ht5, hf⟩ := ob hf
    refine m_X6_64 F hh (c_X6_startStep ht5) in_0 sh_0 rfl hl (Nat.le_of_ble_eq_true rfl) dX6_read_36 (fun H locs hh => ?_)
    refine lv_aload_n hx hb dX6_read_39 rfl (lv_at hl 1 rfl) ?_
    refine r_X6_12 (b' := 1) F hh in_0 sh_0 rfl dX6_read_40 ?_
    refine lv_aload_n hx hb dX6_read_43 rfl (lv_at hl 1 rfl) ?_
    refine r_X6_16 (b' := 7) F hh in_0 sh_0 rfl dX6_read_44 ?_
    obtain ⟨z8, ht7, hf⟩ := ob hf
    refine m_X6_264 F hh (c_X1_takeFigure fr_1 fr_7 ht7) in_1 sh_1 rfl hl (Nat.le_of_ble_eq_true rfl) dX6_read_47 (fun H locs hh => ?_)
    refine lv_aload_n hx hb dX6_read_50 rfl (lv_at hl 1 rfl) ?_
    refine r_X6_12 (b' := 1) F hh in_0 sh_0 rfl dX6_read_51 ?_
    refine r_X6_90 F hh in_1 sh_1 dX6_read_54 ?_
    exact g_iretW F hr hlk hh hf dX6_read_57
  · replace hf := itp c4 hf
    refine lv_bipush (v := -20) hx hb dX6_read_24 (by decide) ?_
    refine lv_aload_n hx hb dX6_read_26 rfl (lv_at hl 1 rfl) ?_
    refine r_X6_49 (b' := 111) F hh in_0 sh_0 rfl dX6_read_27 ?_
    refine r_X6_261 F hh in_111 sh_111 dX6_read_30 ?_
    refine lv_isub hx hb dX6_read_33 ?_
    exact g_iretW F hr hlk hh hf dX6_read_34
theorem c_X6_read {l : Launch} {G : Gm}  {z : Sto} {Z : Int32 × Sto} (hf : f_X6_read  z = some Z) : Met l yX6_read (Cond.code yX6_read cX6_read 2 (some .int) :: TT) rmX6_read (va_Pc [.ref (G.1 0)] (GS rC G z)) (QI rC G Z.1 Z.2) 0 0 (Am rC G) := by
  refine g_met [(0, .ref (G.1 0))] (by decide) (Nat.le_of_ble_eq_true rfl) rfl ?_
  intro p e s m below meth cd F hr hlk ls H locs hl hh
  exact w_X6_read F hr hlk hf hh hl
def f_X6_driftOnce  (z : Sto) : Option (Sto) := lt (upI z 1 2 (Int64.toInt32 ((((Int32.toInt64 (z.1 1 2)) * (1103515245 : Int64)) + (12345 : Int64)) &&& (2147483647 : Int64)))) fun z1 => lt (((z1.1 1 2) / (65536 : Int32))) fun x1_2 => lt (((x1_2 / (8 : Int32)) - (x1_2 / (8 : Int32)) / (6 : Int32) * (6 : Int32))) fun x2_3 => lt (((x1_2 / (64 : Int32)) - (x1_2 / (64 : Int32)) / (6 : Int32) * (6 : Int32))) fun x3_4 => lt (((x1_2 / (512 : Int32)) - (x1_2 / (512 : Int32)) / (6 : Int32) * (6 : Int32))) fun x4_5 => if (x1_2 - x1_2 / (8 : Int32) * (8 : Int32)) = 0 then (bd (f_X1_refuseJoint 1 x2_3 x3_4 z1) fun t7 => if t7 = 0 then (bd2 (f_X1_putJoint 1 x2_3 x3_4 z1) fun t9 z10 => some z10) else (some z1)) else (if (x1_2 - x1_2 / (8 : Int32) * (8 : Int32)) = 1 then (bd (f_X1_refuseBar 1 x2_3 x3_4 z1) fun t12 => if t12 = 0 then (bd2 (f_X1_putBar 1 x2_3 x3_4 z1) fun t14 z15 => some z15) else (some z1)) else (if (x1_2 - x1_2 / (8 : Int32) * (8 : Int32)) = 2 then (bd (f_X1_refuseBar 1 x2_3 x3_4 z1) fun t17 => if t17 = 0 then (bd2 (f_X1_putBar 1 x2_3 x3_4 z1) fun t19 z20 => some z20) else (some z1)) else (if (x1_2 - x1_2 / (8 : Int32) * (8 : Int32)) = 3 then (bd (f_X1_refuseBar 1 x2_3 x3_4 z1) fun t22 => if t22 = 0 then (bd2 (f_X1_putBar 1 x2_3 x3_4 z1) fun t24 z25 => some z25) else (some z1)) else (if (x1_2 - x1_2 / (8 : Int32) * (8 : Int32)) = 4 then (bd (f_X1_refuseBar 1 x2_3 x3_4 z1) fun t27 => if t27 = 0 then (bd2 (f_X1_putBar 1 x2_3 x3_4 z1) fun t29 z30 => some z30) else (some z1)) else (if (x1_2 - x1_2 / (8 : Int32) * (8 : Int32)) = 5 then (bd2 (f_X1_refuseMove 1 x2_3 x3_4 x4_5 z1) fun t32 z33 => if t32 = 0 then (bd (f_X1_putAt 1 x2_3 x3_4 x4_5 z33) fun z36 => some z36) else (some z33)) else (if (x1_2 - x1_2 / (8 : Int32) * (8 : Int32)) = 6 then (bd (f_X1_hasBar 1 x2_3 z1) fun t38 => if t38 = 0 then (some z1) else (bd (f_X1_takeOut 1 x2_3 z1) fun z41 => some z41)) else (if (x1_2 - x1_2 / (8 : Int32) * (8 : Int32)) = 7 then (bd (f_X1_refuseWeight 1 x2_3 (((x3_4 + x4_5) - (5 : Int32))) z1) fun t43 => if t43 = 0 then (bd (wrI z1 6 9 x2_3 ((x3_4 + x4_5) - (5 : Int32))) fun z45 => some z45) else (some z1)) else (bd (f_X1_refuseBar 1 x2_3 x3_4 z1) fun t46 => if t46 = 0 then (bd2 (f_X1_putBar 1 x2_3 x3_4 z1) fun t48 z49 => some z49) else (some z1)))))))))
set_option maxRecDepth 100000 in
set_option maxHeartbeats 4000000 in
theorem w_X6_driftOnce {Z : Sto} (F : Fx rC p s m args cd cX6_driftOnce 5 RX6 G) (hr : meth.sig.returnType = none) (hlk : meth.locks = false)  {z : Sto} {H : Heap} {locs : List Loc} {ls : Array Slot} (hf : f_X6_driftOnce  z = some Z) (hh : Hh rC G z s H locs) (hl : lv_has ls 5 [(0, .ref (G.1 0))]) : W p l e rmX6_driftOnce s m args below meth cd H locs 0 0 (MQ below (QV rC G Z) args s 0 0 (Am rC G)) (F0 m 0 ls []) := by
  have hx := F.1
  have hb := F.2.1
  unfold f_X6_driftOnce at hf
  refine lv_aload_n hx hb dX6_driftOnce_0 rfl (lv_at hl 0 rfl) ?_
  refine r_X6_12 (b' := 1) F hh in_0 sh_0 rfl dX6_driftOnce_1 ?_
  refine lv_aload_n hx hb dX6_driftOnce_4 rfl (lv_at hl 0 rfl) ?_
  refine r_X6_12 (b' := 1) F hh in_0 sh_0 rfl dX6_driftOnce_5 ?_
  refine r_X6_278 F hh in_1 sh_1 dX6_driftOnce_8 ?_
  refine lv_i2l hx hb dX6_driftOnce_11 rfl ?_
  refine lv_ldc2 hx hb F.2.2.2.1 (F.2.2.2.2.1 _ lk773) dX6_driftOnce_12 ?_
  refine lv_lmul hx hb dX6_driftOnce_15 ?_
  refine lv_ldc2 hx hb F.2.2.2.1 (F.2.2.2.2.1 _ lk774) dX6_driftOnce_16 ?_
  refine lv_ladd hx hb dX6_driftOnce_19 ?_
  refine lv_ldc2 hx hb F.2.2.2.1 (F.2.2.2.2.1 _ lk775) dX6_driftOnce_20 ?_
  refine lv_land hx hb dX6_driftOnce_23 ?_
  refine lv_l2i hx hb dX6_driftOnce_24 rfl ?_
  refine s_X6_278 F hh in_1 sh_1 dX6_driftOnce_25 (fun z1 ez1 H locs hh => ?_)
  replace hf := lt_e ez1 hf
  refine lv_aload_n hx hb dX6_driftOnce_28 rfl (lv_at hl 0 rfl) ?_
  refine r_X6_12 (b' := 1) F hh in_0 sh_0 rfl dX6_driftOnce_29 ?_
  refine r_X6_278 F hh in_1 sh_1 dX6_driftOnce_32 ?_
  refine lv_ldcw hx hb F.2.2.2.1 (F.2.2.2.2.1 _ lk776) dX6_driftOnce_35 ?_
  refine lv_idiv hx hb dX6_driftOnce_38 (by decide) ?_
  refine lv_topi (fun x1_2 ex1_2 => ?_)
  replace hf := lt_e ex1_2 hf
  refine lv_istore_n (lv' := [(1, .int x1_2), (0, .ref (G.1 0))]) hx hb dX6_driftOnce_39 rfl hl (by decide) rfl (fun ls hl => ?_)
  refine lv_iload_n hx hb dX6_driftOnce_40 rfl (lv_at hl 0 rfl) ?_
  refine lv_bipush (v := 8) hx hb dX6_driftOnce_41 (by decide) ?_
  refine lv_idiv hx hb dX6_driftOnce_43 (by decide) ?_
  refine lv_bipush (v := 6) hx hb dX6_driftOnce_44 (by decide) ?_
  refine lv_irem hx hb dX6_driftOnce_46 (by decide) ?_
  refine lv_topi (fun x2_3 ex2_3 => ?_)
  replace hf := lt_e ex2_3 hf
  refine lv_istore_n (lv' := [(2, .int x2_3), (1, .int x1_2), (0, .ref (G.1 0))]) hx hb dX6_driftOnce_47 rfl hl (by decide) rfl (fun ls hl => ?_)
  refine lv_iload_n hx hb dX6_driftOnce_48 rfl (lv_at hl 1 rfl) ?_
  refine lv_bipush (v := 64) hx hb dX6_driftOnce_49 (by decide) ?_
  refine lv_idiv hx hb dX6_driftOnce_51 (by decide) ?_
  refine lv_bipush (v := 6) hx hb dX6_driftOnce_52 (by decide) ?_
  refine lv_irem hx hb dX6_driftOnce_54 (by decide) ?_
  refine lv_topi (fun x3_4 ex3_4 => ?_)
  replace hf := lt_e ex3_4 hf
  refine lv_istore_n (lv' := [(3, .int x3_4), (2, .int x2_3), (1, .int x1_2), (0, .ref (G.1 0))]) hx hb dX6_driftOnce_55 rfl hl (by decide) rfl (fun ls hl => ?_)
  refine lv_iload_n hx hb dX6_driftOnce_56 rfl (lv_at hl 2 rfl) ?_
  refine lv_sipush (v := 512) hx hb dX6_driftOnce_57 (by decide) ?_
  refine lv_idiv hx hb dX6_driftOnce_60 (by decide) ?_
  refine lv_bipush (v := 6) hx hb dX6_driftOnce_61 (by decide) ?_
  refine lv_irem hx hb dX6_driftOnce_63 (by decide) ?_
  refine lv_topi (fun x4_5 ex4_5 => ?_)
  replace hf := lt_e ex4_5 hf
  refine lv_istore (lv' := [(4, .int x4_5), (3, .int x3_4), (2, .int x2_3), (1, .int x1_2), (0, .ref (G.1 0))]) hx hb dX6_driftOnce_64 hl (by decide) rfl (fun ls hl => ?_)
  refine lv_iload_n hx hb dX6_driftOnce_66 rfl (lv_at hl 3 rfl) ?_
  refine lv_bipush (v := 8) hx hb dX6_driftOnce_67 (by decide) ?_
  refine lv_irem hx hb dX6_driftOnce_69 (by decide) ?_
  by_cases c6 : (x1_2 - x1_2 / (8 : Int32) * (8 : Int32)) = 0
  · replace hf := itp c6 hf
    refine lv_tableIn (tgt := 116) (off := 46) hx hb dX6_driftOnce_70 (by rw [c6]; decide) (by rw [c6]; decide) (by rw [c6]; rfl) (by decide) ?_
    refine lv_aload_n hx hb dX6_driftOnce_116 rfl (lv_at hl 4 rfl) ?_
    refine r_X6_12 (b' := 1) F hh in_0 sh_0 rfl dX6_driftOnce_117 ?_
    refine lv_iload_n hx hb dX6_driftOnce_120 rfl (lv_at hl 2 rfl) ?_
    refine lv_iload_n hx hb dX6_driftOnce_121 rfl (lv_at hl 1 rfl) ?_
    obtain ⟨t7, ht7, hf⟩ := ob hf
    refine m_X6_60 F hh (c_X1_refuseJoint fr_1 ht7) in_1 sh_1 rfl hl (Nat.le_of_ble_eq_true rfl) dX6_driftOnce_122 (fun H locs hh => ?_)
    refine lv_if_ne (tgt := 248) hx hb dX6_driftOnce_125 (by decide) (fun c8 => ?_) (fun c8 => ?_)
    · replace hf := itn c8 hf
      exact g_vret F hr hlk hh (Option.some.inj hf) dX6_driftOnce_248
    · replace hf := itp c8 hf
      refine lv_aload_n hx hb dX6_driftOnce_128 rfl (lv_at hl 4 rfl) ?_
      refine r_X6_12 (b' := 1) F hh in_0 sh_0 rfl dX6_driftOnce_129 ?_
      refine lv_iload_n hx hb dX6_driftOnce_132 rfl (lv_at hl 2 rfl) ?_
      refine lv_iload_n hx hb dX6_driftOnce_133 rfl (lv_at hl 1 rfl) ?_
      obtain ⟨t9, z10, ht9, hf⟩ := ob2 hf
      refine m_X6_67 (r := t9) (σ' := z10) F hh (c_X1_putJoint fr_1 ht9) in_1 sh_1 rfl hl (Nat.le_of_ble_eq_true rfl) dX6_driftOnce_134 (fun H locs hh => ?_)
      refine lv_pop hx hb dX6_driftOnce_137 rfl ?_
      refine lv_goto (tgt := 248) hx hb dX6_driftOnce_138 (by decide) ?_
      exact g_vret F hr hlk hh (Option.some.inj hf) dX6_driftOnce_248
  replace hf := itn c6 hf
  by_cases c11 : (x1_2 - x1_2 / (8 : Int32) * (8 : Int32)) = 1
  · replace hf := itp c11 hf
    refine lv_tableIn (tgt := 226) (off := 156) hx hb dX6_driftOnce_70 (by rw [c11]; decide) (by rw [c11]; decide) (by rw [c11]; rfl) (by decide) ?_
    refine lv_aload_n hx hb dX6_driftOnce_226 rfl (lv_at hl 4 rfl) ?_
    refine r_X6_12 (b' := 1) F hh in_0 sh_0 rfl dX6_driftOnce_227 ?_
    refine lv_iload_n hx hb dX6_driftOnce_230 rfl (lv_at hl 2 rfl) ?_
    refine lv_iload_n hx hb dX6_driftOnce_231 rfl (lv_at hl 1 rfl) ?_
    obtain ⟨t12, ht12, hf⟩ := ob hf
    refine m_X6_94 F hh (c_X1_refuseBar fr_1 ht12) in_1 sh_1 rfl hl (Nat.le_of_ble_eq_true rfl) dX6_driftOnce_232 (fun H locs hh => ?_)
    refine lv_if_ne (tgt := 248) hx hb dX6_driftOnce_235 (by decide) (fun c13 => ?_) (fun c13 => ?_)
    · replace hf := itn c13 hf
      exact g_vret F hr hlk hh (Option.some.inj hf) dX6_driftOnce_248
    · replace hf := itp c13 hf
      refine lv_aload_n hx hb dX6_driftOnce_238 rfl (lv_at hl 4 rfl) ?_
      refine r_X6_12 (b' := 1) F hh in_0 sh_0 rfl dX6_driftOnce_239 ?_
      refine lv_iload_n hx hb dX6_driftOnce_242 rfl (lv_at hl 2 rfl) ?_
      refine lv_iload_n hx hb dX6_driftOnce_243 rfl (lv_at hl 1 rfl) ?_
      obtain ⟨t14, z15, ht14, hf⟩ := ob2 hf
      refine m_X6_97 (r := t14) (σ' := z15) F hh (c_X1_putBar fr_1 ht14) in_1 sh_1 rfl hl (Nat.le_of_ble_eq_true rfl) dX6_driftOnce_244 (fun H locs hh => ?_)
      refine lv_pop hx hb dX6_driftOnce_247 rfl ?_
      exact g_vret F hr hlk hh (Option.some.inj hf) dX6_driftOnce_248
  replace hf := itn c11 hf
  by_cases c16 : (x1_2 - x1_2 / (8 : Int32) * (8 : Int32)) = 2
  · replace hf := itp c16 hf
    refine lv_tableIn (tgt := 226) (off := 156) hx hb dX6_driftOnce_70 (by rw [c16]; decide) (by rw [c16]; decide) (by rw [c16]; rfl) (by decide) ?_
    refine lv_aload_n hx hb dX6_driftOnce_226 rfl (lv_at hl 4 rfl) ?_
    refine r_X6_12 (b' := 1) F hh in_0 sh_0 rfl dX6_driftOnce_227 ?_
    refine lv_iload_n hx hb dX6_driftOnce_230 rfl (lv_at hl 2 rfl) ?_
    refine lv_iload_n hx hb dX6_driftOnce_231 rfl (lv_at hl 1 rfl) ?_
    obtain ⟨t17, ht17, hf⟩ := ob hf
    refine m_X6_94 F hh (c_X1_refuseBar fr_1 ht17) in_1 sh_1 rfl hl (Nat.le_of_ble_eq_true rfl) dX6_driftOnce_232 (fun H locs hh => ?_)
    refine lv_if_ne (tgt := 248) hx hb dX6_driftOnce_235 (by decide) (fun c18 => ?_) (fun c18 => ?_)
    · replace hf := itn c18 hf
      exact g_vret F hr hlk hh (Option.some.inj hf) dX6_driftOnce_248
    · replace hf := itp c18 hf
      refine lv_aload_n hx hb dX6_driftOnce_238 rfl (lv_at hl 4 rfl) ?_
      refine r_X6_12 (b' := 1) F hh in_0 sh_0 rfl dX6_driftOnce_239 ?_
      refine lv_iload_n hx hb dX6_driftOnce_242 rfl (lv_at hl 2 rfl) ?_
      refine lv_iload_n hx hb dX6_driftOnce_243 rfl (lv_at hl 1 rfl) ?_
      obtain ⟨t19, z20, ht19, hf⟩ := ob2 hf
      refine m_X6_97 (r := t19) (σ' := z20) F hh (c_X1_putBar fr_1 ht19) in_1 sh_1 rfl hl (Nat.le_of_ble_eq_true rfl) dX6_driftOnce_244 (fun H locs hh => ?_)
      refine lv_pop hx hb dX6_driftOnce_247 rfl ?_
      exact g_vret F hr hlk hh (Option.some.inj hf) dX6_driftOnce_248
  replace hf := itn c16 hf
  by_cases c21 : (x1_2 - x1_2 / (8 : Int32) * (8 : Int32)) = 3
  · replace hf := itp c21 hf
    refine lv_tableIn (tgt := 226) (off := 156) hx hb dX6_driftOnce_70 (by rw [c21]; decide) (by rw [c21]; decide) (by rw [c21]; rfl) (by decide) ?_
    refine lv_aload_n hx hb dX6_driftOnce_226 rfl (lv_at hl 4 rfl) ?_
    refine r_X6_12 (b' := 1) F hh in_0 sh_0 rfl dX6_driftOnce_227 ?_
    refine lv_iload_n hx hb dX6_driftOnce_230 rfl (lv_at hl 2 rfl) ?_
    refine lv_iload_n hx hb dX6_driftOnce_231 rfl (lv_at hl 1 rfl) ?_
    obtain ⟨t22, ht22, hf⟩ := ob hf
    refine m_X6_94 F hh (c_X1_refuseBar fr_1 ht22) in_1 sh_1 rfl hl (Nat.le_of_ble_eq_true rfl) dX6_driftOnce_232 (fun H locs hh => ?_)
    refine lv_if_ne (tgt := 248) hx hb dX6_driftOnce_235 (by decide) (fun c23 => ?_) (fun c23 => ?_)
    · replace hf := itn c23 hf
      exact g_vret F hr hlk hh (Option.some.inj hf) dX6_driftOnce_248
    · replace hf := itp c23 hf
      refine lv_aload_n hx hb dX6_driftOnce_238 rfl (lv_at hl 4 rfl) ?_
      refine r_X6_12 (b' := 1) F hh in_0 sh_0 rfl dX6_driftOnce_239 ?_
      refine lv_iload_n hx hb dX6_driftOnce_242 rfl (lv_at hl 2 rfl) ?_
      refine lv_iload_n hx hb dX6_driftOnce_243 rfl (lv_at hl 1 rfl) ?_
      obtain ⟨t24, z25, ht24, hf⟩ := ob2 hf
      refine m_X6_97 (r := t24) (σ' := z25) F hh (c_X1_putBar fr_1 ht24) in_1 sh_1 rfl hl (Nat.le_of_ble_eq_true rfl) dX6_driftOnce_244 (fun H locs hh => ?_)
      refine lv_pop hx hb dX6_driftOnce_247 rfl ?_
      exact g_vret F hr hlk hh (Option.some.inj hf) dX6_driftOnce_248
  replace hf := itn c21 hf
  by_cases c26 : (x1_2 - x1_2 / (8 : Int32) * (8 : Int32)) = 4
  · replace hf := itp c26 hf
    refine lv_tableIn (tgt := 226) (off := 156) hx hb dX6_driftOnce_70 (by rw [c26]; decide) (by rw [c26]; decide) (by rw [c26]; rfl) (by decide) ?_
    refine lv_aload_n hx hb dX6_driftOnce_226 rfl (lv_at hl 4 rfl) ?_
    refine r_X6_12 (b' := 1) F hh in_0 sh_0 rfl dX6_driftOnce_227 ?_
    refine lv_iload_n hx hb dX6_driftOnce_230 rfl (lv_at hl 2 rfl) ?_
    refine lv_iload_n hx hb dX6_driftOnce_231 rfl (lv_at hl 1 rfl) ?_
    obtain ⟨t27, ht27, hf⟩ := ob hf
    refine m_X6_94 F hh (c_X1_refuseBar fr_1 ht27) in_1 sh_1 rfl hl (Nat.le_of_ble_eq_true rfl) dX6_driftOnce_232 (fun H locs hh => ?_)
    refine lv_if_ne (tgt := 248) hx hb dX6_driftOnce_235 (by decide) (fun c28 => ?_) (fun c28 => ?_)
    · replace hf := itn c28 hf
      exact g_vret F hr hlk hh (Option.some.inj hf) dX6_driftOnce_248
    · replace hf := itp c28 hf
      refine lv_aload_n hx hb dX6_driftOnce_238 rfl (lv_at hl 4 rfl) ?_
      refine r_X6_12 (b' := 1) F hh in_0 sh_0 rfl dX6_driftOnce_239 ?_
      refine lv_iload_n hx hb dX6_driftOnce_242 rfl (lv_at hl 2 rfl) ?_
      refine lv_iload_n hx hb dX6_driftOnce_243 rfl (lv_at hl 1 rfl) ?_
      obtain ⟨t29, z30, ht29, hf⟩ := ob2 hf
      refine m_X6_97 (r := t29) (σ' := z30) F hh (c_X1_putBar fr_1 ht29) in_1 sh_1 rfl hl (Nat.le_of_ble_eq_true rfl) dX6_driftOnce_244 (fun H locs hh => ?_)
      refine lv_pop hx hb dX6_driftOnce_247 rfl ?_
      exact g_vret F hr hlk hh (Option.some.inj hf) dX6_driftOnce_248
  replace hf := itn c26 hf
  by_cases c31 : (x1_2 - x1_2 / (8 : Int32) * (8 : Int32)) = 5
  · replace hf := itp c31 hf
    refine lv_tableIn (tgt := 141) (off := 71) hx hb dX6_driftOnce_70 (by rw [c31]; decide) (by rw [c31]; decide) (by rw [c31]; rfl) (by decide) ?_
    refine lv_aload_n hx hb dX6_driftOnce_141 rfl (lv_at hl 4 rfl) ?_
    refine r_X6_12 (b' := 1) F hh in_0 sh_0 rfl dX6_driftOnce_142 ?_
    refine lv_iload_n hx hb dX6_driftOnce_145 rfl (lv_at hl 2 rfl) ?_
    refine lv_iload_n hx hb dX6_driftOnce_146 rfl (lv_at hl 1 rfl) ?_
    refine lv_iload hx hb dX6_driftOnce_147 (lv_at hl 0 rfl) ?_
    obtain ⟨t32, z33, ht32, hf⟩ := ob2 hf
    refine m_X6_70 (r := t32) (σ' := z33) F hh (c_X1_refuseMove fr_1 ht32) in_1 sh_1 rfl hl (Nat.le_of_ble_eq_true rfl) dX6_driftOnce_149 (fun H locs hh => ?_)
    refine lv_if_ne (tgt := 248) hx hb dX6_driftOnce_152 (by decide) (fun c34 => ?_) (fun c34 => ?_)
    · replace hf := itn c34 hf
      exact g_vret F hr hlk hh (Option.some.inj hf) dX6_driftOnce_248
    · replace hf := itp c34 hf
      refine lv_aload_n hx hb dX6_driftOnce_155 rfl (lv_at hl 4 rfl) ?_
      refine r_X6_12 (b' := 1) F hh in_0 sh_0 rfl dX6_driftOnce_156 ?_
      refine lv_iload_n hx hb dX6_driftOnce_159 rfl (lv_at hl 2 rfl) ?_
      refine lv_iload_n hx hb dX6_driftOnce_160 rfl (lv_at hl 1 rfl) ?_
      refine lv_iload hx hb dX6_driftOnce_161 (lv_at hl 0 rfl) ?_
      obtain ⟨z36, ht35, hf⟩ := ob hf
      refine m_X6_74 F hh (c_X1_putAt fr_1 ht35) in_1 sh_1 rfl hl (Nat.le_of_ble_eq_true rfl) dX6_driftOnce_163 (fun H locs hh => ?_)
      refine lv_goto (tgt := 248) hx hb dX6_driftOnce_166 (by decide) ?_
      exact g_vret F hr hlk hh (Option.some.inj hf) dX6_driftOnce_248
  replace hf := itn c31 hf
  by_cases c37 : (x1_2 - x1_2 / (8 : Int32) * (8 : Int32)) = 6
  · replace hf := itp c37 hf
    refine lv_tableIn (tgt := 169) (off := 99) hx hb dX6_driftOnce_70 (by rw [c37]; decide) (by rw [c37]; decide) (by rw [c37]; rfl) (by decide) ?_
    refine lv_aload_n hx hb dX6_driftOnce_169 rfl (lv_at hl 4 rfl) ?_
    refine r_X6_12 (b' := 1) F hh in_0 sh_0 rfl dX6_driftOnce_170 ?_
    refine lv_iload_n hx hb dX6_driftOnce_173 rfl (lv_at hl 2 rfl) ?_
    obtain ⟨t38, ht38, hf⟩ := ob hf
    refine m_X6_100 F hh (c_X1_hasBar fr_1 ht38) in_1 sh_1 rfl hl (Nat.le_of_ble_eq_true rfl) dX6_driftOnce_174 (fun H locs hh => ?_)
    refine lv_if_eq (tgt := 248) hx hb dX6_driftOnce_177 (by decide) (fun c39 => ?_) (fun c39 => ?_)
    · replace hf := itp c39 hf
      exact g_vret F hr hlk hh (Option.some.inj hf) dX6_driftOnce_248
    · replace hf := itn c39 hf
      refine lv_aload_n hx hb dX6_driftOnce_180 rfl (lv_at hl 4 rfl) ?_
      refine r_X6_12 (b' := 1) F hh in_0 sh_0 rfl dX6_driftOnce_181 ?_
      refine lv_iload_n hx hb dX6_driftOnce_184 rfl (lv_at hl 2 rfl) ?_
      obtain ⟨z41, ht40, hf⟩ := ob hf
      refine m_X6_103 F hh (c_X1_takeOut fr_1 ht40) in_1 sh_1 rfl hl (Nat.le_of_ble_eq_true rfl) dX6_driftOnce_185 (fun H locs hh => ?_)
      refine lv_goto (tgt := 248) hx hb dX6_driftOnce_188 (by decide) ?_
      exact g_vret F hr hlk hh (Option.some.inj hf) dX6_driftOnce_248
  replace hf := itn c37 hf
  by_cases c42 : (x1_2 - x1_2 / (8 : Int32) * (8 : Int32)) = 7
  · replace hf := itp c42 hf
    refine lv_tableIn (tgt := 191) (off := 121) hx hb dX6_driftOnce_70 (by rw [c42]; decide) (by rw [c42]; decide) (by rw [c42]; rfl) (by decide) ?_
    refine lv_aload_n hx hb dX6_driftOnce_191 rfl (lv_at hl 4 rfl) ?_
    refine r_X6_12 (b' := 1) F hh in_0 sh_0 rfl dX6_driftOnce_192 ?_
    refine lv_iload_n hx hb dX6_driftOnce_195 rfl (lv_at hl 2 rfl) ?_
    refine lv_iload_n hx hb dX6_driftOnce_196 rfl (lv_at hl 1 rfl) ?_
    refine lv_iload hx hb dX6_driftOnce_197 (lv_at hl 0 rfl) ?_
    refine lv_iadd hx hb dX6_driftOnce_199 ?_
    refine lv_iconst (v := 5) hx hb dX6_driftOnce_200 (by decide) ?_
    refine lv_isub hx hb dX6_driftOnce_201 ?_
    obtain ⟨t43, ht43, hf⟩ := ob hf
    refine m_X6_106 F hh (c_X1_refuseWeight fr_1 ht43) in_1 sh_1 rfl hl (Nat.le_of_ble_eq_true rfl) dX6_driftOnce_202 (fun H locs hh => ?_)
    refine lv_if_ne (tgt := 248) hx hb dX6_driftOnce_205 (by decide) (fun c44 => ?_) (fun c44 => ?_)
    · replace hf := itn c44 hf
      exact g_vret F hr hlk hh (Option.some.inj hf) dX6_driftOnce_248
    · replace hf := itp c44 hf
      refine lv_aload_n hx hb dX6_driftOnce_208 rfl (lv_at hl 4 rfl) ?_
      refine r_X6_12 (b' := 1) F hh in_0 sh_0 rfl dX6_driftOnce_209 ?_
      refine r_X6_109 (b' := 6) F hh in_1 sh_1 rfl dX6_driftOnce_212 ?_
      refine lv_iload_n hx hb dX6_driftOnce_215 rfl (lv_at hl 2 rfl) ?_
      refine lv_iload_n hx hb dX6_driftOnce_216 rfl (lv_at hl 1 rfl) ?_
      refine lv_iload hx hb dX6_driftOnce_217 (lv_at hl 0 rfl) ?_
      refine lv_iadd hx hb dX6_driftOnce_219 ?_
      refine lv_iconst (v := 5) hx hb dX6_driftOnce_220 (by decide) ?_
      refine lv_isub hx hb dX6_driftOnce_221 ?_
      obtain ⟨z45, hz45, hf⟩ := ob hf
      refine g_iast F hh in_6 sh_6 hz45 dX6_driftOnce_222 (fun H locs hh => ?_)
      refine lv_goto (tgt := 248) hx hb dX6_driftOnce_223 (by decide) ?_
      exact g_vret F hr hlk hh (Option.some.inj hf) dX6_driftOnce_248
  replace hf := itn c42 hf
  refine lv_tableOut (tgt := 226) hx hb dX6_driftOnce_70 (tb_out8 c6 c11 c16 c21 c26 c31 c37 c42) (by decide) ?_
  refine lv_aload_n hx hb dX6_driftOnce_226 rfl (lv_at hl 4 rfl) ?_
  refine r_X6_12 (b' := 1) F hh in_0 sh_0 rfl dX6_driftOnce_227 ?_
  refine lv_iload_n hx hb dX6_driftOnce_230 rfl (lv_at hl 2 rfl) ?_
  refine lv_iload_n hx hb dX6_driftOnce_231 rfl (lv_at hl 1 rfl) ?_
  obtain ⟨t46, ht46, hf⟩ := ob hf
  refine m_X6_94 F hh (c_X1_refuseBar fr_1 ht46) in_1 sh_1 rfl hl (Nat.le_of_ble_eq_true rfl) dX6_driftOnce_232 (fun H locs hh => ?_)
  refine lv_if_ne (tgt := 248) hx hb dX6_driftOnce_235 (by decide) (fun c47 => ?_) (fun c47 => ?_)
  · replace hf := itn c47 hf
    exact g_vret F hr hlk hh (Option.some.inj hf) dX6_driftOnce_248
  · replace hf := itp c47 hf
    refine lv_aload_n hx hb dX6_driftOnce_238 rfl (lv_at hl 4 rfl) ?_
    refine r_X6_12 (b' := 1) F hh in_0 sh_0 rfl dX6_driftOnce_239 ?_
    refine lv_iload_n hx hb dX6_driftOnce_242 rfl (lv_at hl 2 rfl) ?_
    refine lv_iload_n hx hb dX6_driftOnce_243 rfl (lv_at hl 1 rfl) ?_
    obtain ⟨t48, z49, ht48, hf⟩ := ob2 hf
    refine m_X6_97 (r := t48) (σ' := z49) F hh (c_X1_putBar fr_1 ht48) in_1 sh_1 rfl hl (Nat.le_of_ble_eq_true rfl) dX6_driftOnce_244 (fun H locs hh => ?_)
    refine lv_pop hx hb dX6_driftOnce_247 rfl ?_
    exact g_vret F hr hlk hh (Option.some.inj hf) dX6_driftOnce_248
theorem c_X6_driftOnce {l : Launch} {G : Gm}  {z : Sto} {Z : Sto} (hf : f_X6_driftOnce  z = some Z) : Met l yX6_driftOnce (Cond.code yX6_driftOnce cX6_driftOnce 5 none :: TT) rmX6_driftOnce (va_Pc [.ref (G.1 0)] (GS rC G z)) (QV rC G Z) 0 0 (Am rC G) := by
  refine g_met [(0, .ref (G.1 0))] (by decide) (Nat.le_of_ble_eq_true rfl) rfl ?_
  intro p e s m below meth cd F hr hlk ls H locs hl hh
  exact w_X6_driftOnce F hr hlk hf hh hl
def b_X6_drift_15  (ag15 : Int32 → Int32 → Sto → Option (Int32 × Sto)) (x1 : Int32) (x2 : Int32) (z : Sto) : Option (Int32 × Sto) := if x1 ≤ x2 then (some ((z.1 1 1), z)) else (bd (f_X6_startStep z) fun z5 => bd (f_X6_driftOnce z5) fun z7 => lt (x2 + (1 : Int32)) fun x2_8 => ag15 x1 x2_8 z7)
def f_X6_drift (x1 : Int32) (z : Sto) : Option (Int32 × Sto) := if x1 < (1 : Int32) then (some ((-1 : Int32), z)) else (if x1 ≤ (40 : Int32) then (wl3 (b_X6_drift_15) fu x1 (0 : Int32) z) else (some ((-1 : Int32), z)))
set_option maxRecDepth 100000 in
set_option maxHeartbeats 4000000 in
theorem w_X6_drift_15  {Z : Int32 × Sto} (F : Fx rC p s m args cd cX6_drift 3 RX6 G) (hr : meth.sig.returnType = (some .int)) (hlk : meth.locks = false)  : ∀ (n : Nat), ∀ (x1 : Int32) (x2 : Int32) (z : Sto), wl3 (b_X6_drift_15) n x1 x2 z = some Z → ∀ {H : Heap} {locs : List Loc} {ls : Array Slot}, Hh rC G z s H locs → lv_has ls 3 [(0, .ref (G.1 0)), (1, .int x1), (2, .int x2)] → W p l e rmX6_drift s m args below meth cd H locs 0 0 (MQ below (QI rC G Z.1 Z.2) args s 0 0 (Am rC G)) (F0 m 15 ls []) := by
  have hx := F.1
  have hb := F.2.1
  intro n
  induction n with
  | zero =>
    intro x1 x2 z hf
    exact absurd hf (by intro h; cases h)
  | succ n ih =>
    intro x1 x2 z hf  H locs ls hh hl
    replace hf : b_X6_drift_15 (wl3 (b_X6_drift_15) n) x1 x2 z = some Z := hf
    unfold b_X6_drift_15 at hf
    refine lv_iload_n hx hb dX6_drift_15 rfl (lv_at hl 2 rfl) ?_
    refine lv_iload_n hx hb dX6_drift_16 rfl (lv_at hl 1 rfl) ?_
    refine lv_icmp_ge (tgt := 34) hx hb dX6_drift_17 (by decide) (fun c3 => ?_) (fun c3 => ?_)
    · replace hf := itp c3 hf
      refine lv_aload_n hx hb dX6_drift_34 rfl (lv_at hl 0 rfl) ?_
      refine r_X6_12 (b' := 1) F hh in_0 sh_0 rfl dX6_drift_35 ?_
      refine r_X6_90 F hh in_1 sh_1 dX6_drift_38 ?_
      exact g_iretW F hr hlk hh hf dX6_drift_41
    · replace hf := itn c3 hf
      refine lv_aload_n hx hb dX6_drift_20 rfl (lv_at hl 0 rfl) ?_
      obtain ⟨z5, ht4, hf⟩ := ob hf
      refine m_X6_64 F hh (c_X6_startStep ht4) in_0 sh_0 rfl hl (Nat.le_of_ble_eq_true rfl) dX6_drift_21 (fun H locs hh => ?_)
      refine lv_aload_n hx hb dX6_drift_24 rfl (lv_at hl 0 rfl) ?_
      obtain ⟨z7, ht6, hf⟩ := ob hf
      refine m_X6_268 F hh (c_X6_driftOnce ht6) in_0 sh_0 rfl hl (Nat.le_of_ble_eq_true rfl) dX6_drift_25 (fun H locs hh => ?_)
      obtain ⟨x2_8, ex2_8⟩ : ∃ y : Int32, y = x2 + (1 : Int32) := ⟨_, rfl⟩
      replace hf := lt_e ex2_8 hf
      refine lv_iinc (v := x2_8) (lv' := [(2, .int x2_8), (0, .ref (G.1 0)), (1, .int x1)]) hx hb dX6_drift_28 hl (k := 2) rfl (by rw [ex2_8]; rfl) (by decide) rfl (fun ls hl => ?_)
      refine lv_goto (tgt := 15) hx hb dX6_drift_31 (by decide) ?_
      exact ih _ _ _ hf  hh (lv_sub hl [1, 2, 0] rfl)
set_option maxRecDepth 100000 in
set_option maxHeartbeats 4000000 in
theorem w_X6_drift {Z : Int32 × Sto} (F : Fx rC p s m args cd cX6_drift 3 RX6 G) (hr : meth.sig.returnType = (some .int)) (hlk : meth.locks = false) {x1 : Int32} {z : Sto} {H : Heap} {locs : List Loc} {ls : Array Slot} (hf : f_X6_drift x1 z = some Z) (hh : Hh rC G z s H locs) (hl : lv_has ls 3 [(0, .ref (G.1 0)), (1, .int x1)]) : W p l e rmX6_drift s m args below meth cd H locs 0 0 (MQ below (QI rC G Z.1 Z.2) args s 0 0 (Am rC G)) (F0 m 0 ls []) := by
  have hx := F.1
  have hb := F.2.1
  unfold f_X6_drift at hf
  refine lv_iload_n hx hb dX6_drift_0 rfl (lv_at hl 1 rfl) ?_
  refine lv_iconst (v := 1) hx hb dX6_drift_1 (by decide) ?_
  refine lv_icmp_lt (tgt := 11) hx hb dX6_drift_2 (by decide) (fun c1 => ?_) (fun c1 => ?_)
  · replace hf := itp c1 hf
    refine lv_iconst (v := -1) hx hb dX6_drift_11 (by decide) ?_
    exact g_iretW F hr hlk hh hf dX6_drift_12
  · replace hf := itn c1 hf
    refine lv_iload_n hx hb dX6_drift_5 rfl (lv_at hl 1 rfl) ?_
    refine lv_bipush (v := 40) hx hb dX6_drift_6 (by decide) ?_
    refine lv_icmp_le (tgt := 13) hx hb dX6_drift_8 (by decide) (fun c2 => ?_) (fun c2 => ?_)
    · replace hf := itp c2 hf
      refine lv_iconst (v := 0) hx hb dX6_drift_13 (by decide) ?_
      refine lv_istore_n (lv' := [(2, .int (0 : Int32)), (0, .ref (G.1 0)), (1, .int x1)]) hx hb dX6_drift_14 rfl hl (by decide) rfl (fun ls hl => ?_)
      exact w_X6_drift_15 F hr hlk fu _ _ _ hf  hh (lv_sub hl [1, 2, 0] rfl)
    · replace hf := itn c2 hf
      refine lv_iconst (v := -1) hx hb dX6_drift_11 (by decide) ?_
      exact g_iretW F hr hlk hh hf dX6_drift_12
theorem c_X6_drift {l : Launch} {G : Gm} {x1 : Int32} {z : Sto} {Z : Int32 × Sto} (hf : f_X6_drift x1 z = some Z) : Met l yX6_drift (Cond.code yX6_drift cX6_drift 3 (some .int) :: TT) rmX6_drift (va_Pc [.ref (G.1 0), .int x1] (GS rC G z)) (QI rC G Z.1 Z.2) 0 0 (Am rC G) := by
  refine g_met [(0, .ref (G.1 0)), (1, .int x1)] (by decide) (Nat.le_of_ble_eq_true rfl) rfl ?_
  intro p e s m below meth cd F hr hlk ls H locs hl hh
  exact w_X6_drift F hr hlk hf hh hl
def f_X6_undo  (z : Sto) : Option (Int32 × Sto) := if (z.1 19 1) = 0 then (some ((-4 : Int32), z)) else (bd (f_X2_takeBack 19 z) fun z3 => lt (upI z3 0 10 (0 : Int32)) fun z4 => some ((z4.1 19 1), z4))
set_option maxRecDepth 100000 in
set_option maxHeartbeats 4000000 in
theorem w_X6_undo {Z : Int32 × Sto} (F : Fx rC p s m args cd cX6_undo 1 RX6 G) (hr : meth.sig.returnType = (some .int)) (hlk : meth.locks = false)  {z : Sto} {H : Heap} {locs : List Loc} {ls : Array Slot} (hf : f_X6_undo  z = some Z) (hh : Hh rC G z s H locs) (hl : lv_has ls 1 [(0, .ref (G.1 0))]) : W p l e rmX6_undo s m args below meth cd H locs 0 0 (MQ below (QI rC G Z.1 Z.2) args s 0 0 (Am rC G)) (F0 m 0 ls []) := by
  have hx := F.1
  have hb := F.2.1
  unfold f_X6_undo at hf
  refine lv_aload_n hx hb dX6_undo_0 rfl (lv_at hl 0 rfl) ?_
  refine r_X6_25 (b' := 19) F hh in_0 sh_0 rfl dX6_undo_1 ?_
  refine r_X6_164 F hh in_19 sh_19 dX6_undo_4 ?_
  refine lv_if_ne (tgt := 13) hx hb dX6_undo_7 (by decide) (fun c1 => ?_) (fun c1 => ?_)
  · replace hf := itn c1 hf
    refine lv_aload_n hx hb dX6_undo_13 rfl (lv_at hl 0 rfl) ?_
    refine r_X6_25 (b' := 19) F hh in_0 sh_0 rfl dX6_undo_14 ?_
    refine lv_aload_n hx hb dX6_undo_17 rfl (lv_at hl 0 rfl) ?_
    refine r_X6_12 (b' := 1) F hh in_0 sh_0 rfl dX6_undo_18 ?_
    obtain ⟨z3, ht2, hf⟩ := ob hf
    refine m_X6_271 F hh (c_X2_takeBack hi_19 ht2) in_19 sh_19 rfl hl (Nat.le_of_ble_eq_true rfl) dX6_undo_21 (fun H locs hh => ?_)
    refine lv_aload_n hx hb dX6_undo_24 rfl (lv_at hl 0 rfl) ?_
    refine lv_iconst (v := 0) hx hb dX6_undo_25 (by decide) ?_
    refine s_X6_274 F hh in_0 sh_0 rfl rfl dX6_undo_26 (fun z4 ez4 H locs hh => ?_)
    replace hf := lt_e ez4 hf
    refine lv_aload_n hx hb dX6_undo_29 rfl (lv_at hl 0 rfl) ?_
    refine r_X6_25 (b' := 19) F hh in_0 sh_0 rfl dX6_undo_30 ?_
    refine r_X6_164 F hh in_19 sh_19 dX6_undo_33 ?_
    exact g_iretW F hr hlk hh hf dX6_undo_36
  · replace hf := itp c1 hf
    refine lv_bipush (v := -4) hx hb dX6_undo_10 (by decide) ?_
    exact g_iretW F hr hlk hh hf dX6_undo_12
theorem c_X6_undo {l : Launch} {G : Gm}  {z : Sto} {Z : Int32 × Sto} (hf : f_X6_undo  z = some Z) : Met l yX6_undo (Cond.code yX6_undo cX6_undo 1 (some .int) :: TT) rmX6_undo (va_Pc [.ref (G.1 0)] (GS rC G z)) (QI rC G Z.1 Z.2) 0 0 (Am rC G) := by
  refine g_met [(0, .ref (G.1 0))] (by decide) (Nat.le_of_ble_eq_true rfl) rfl ?_
  intro p e s m below meth cd F hr hlk ls H locs hl hh
  exact w_X6_undo F hr hlk hf hh hl
def f_X6_seed (x1 : Int32) (z : Sto) : Option (Int32 × Sto) := if 0 ≤ x1 then (lt ((z.1 1 2)) fun x2_2 => lt (upI z 1 2 x1) fun z3 => some (x2_2, z3)) else (some ((-1 : Int32), z))
set_option maxRecDepth 100000 in
set_option maxHeartbeats 4000000 in
theorem w_X6_seed {Z : Int32 × Sto} (F : Fx rC p s m args cd cX6_seed 3 RX6 G) (hr : meth.sig.returnType = (some .int)) (hlk : meth.locks = false) {x1 : Int32} {z : Sto} {H : Heap} {locs : List Loc} {ls : Array Slot} (hf : f_X6_seed x1 z = some Z) (hh : Hh rC G z s H locs) (hl : lv_has ls 3 [(0, .ref (G.1 0)), (1, .int x1)]) : W p l e rmX6_seed s m args below meth cd H locs 0 0 (MQ below (QI rC G Z.1 Z.2) args s 0 0 (Am rC G)) (F0 m 0 ls []) := by
  have hx := F.1
  have hb := F.2.1
  unfold f_X6_seed at hf
  refine lv_iload_n hx hb dX6_seed_0 rfl (lv_at hl 1 rfl) ?_
  refine lv_if_ge (tgt := 6) hx hb dX6_seed_1 (by decide) (fun c1 => ?_) (fun c1 => ?_)
  · replace hf := itp c1 hf
    refine lv_aload_n hx hb dX6_seed_6 rfl (lv_at hl 0 rfl) ?_
    refine r_X6_12 (b' := 1) F hh in_0 sh_0 rfl dX6_seed_7 ?_
    refine r_X6_278 F hh in_1 sh_1 dX6_seed_10 ?_
    refine lv_topi (fun x2_2 ex2_2 => ?_)
    replace hf := lt_e ex2_2 hf
    refine lv_istore_n (lv' := [(2, .int x2_2), (0, .ref (G.1 0)), (1, .int x1)]) hx hb dX6_seed_13 rfl hl (by decide) rfl (fun ls hl => ?_)
    refine lv_aload_n hx hb dX6_seed_14 rfl (lv_at hl 1 rfl) ?_
    refine r_X6_12 (b' := 1) F hh in_0 sh_0 rfl dX6_seed_15 ?_
    refine lv_iload_n hx hb dX6_seed_18 rfl (lv_at hl 2 rfl) ?_
    refine s_X6_278 F hh in_1 sh_1 dX6_seed_19 (fun z3 ez3 H locs hh => ?_)
    replace hf := lt_e ez3 hf
    refine lv_iload_n hx hb dX6_seed_22 rfl (lv_at hl 0 rfl) ?_
    exact g_iretW F hr hlk hh hf dX6_seed_23
  · replace hf := itn c1 hf
    refine lv_iconst (v := -1) hx hb dX6_seed_4 (by decide) ?_
    exact g_iretW F hr hlk hh hf dX6_seed_5
theorem c_X6_seed {l : Launch} {G : Gm} {x1 : Int32} {z : Sto} {Z : Int32 × Sto} (hf : f_X6_seed x1 z = some Z) : Met l yX6_seed (Cond.code yX6_seed cX6_seed 3 (some .int) :: TT) rmX6_seed (va_Pc [.ref (G.1 0), .int x1] (GS rC G z)) (QI rC G Z.1 Z.2) 0 0 (Am rC G) := by
  refine g_met [(0, .ref (G.1 0)), (1, .int x1)] (by decide) (Nat.le_of_ble_eq_true rfl) rfl ?_
  intro p e s m below meth cd F hr hlk ls H locs hl hh
  exact w_X6_seed F hr hlk hf hh hl
def f_X6_image  (z : Sto) : Option (Int32 × Sto) := bd (f_X1_takeAll 13 1 z) fun z2 => bd (f_X2_takeAll 57 19 z2) fun z4 => lt (upI z4 0 9 (1 : Int32)) fun z5 => some ((1 : Int32), z5)
set_option maxRecDepth 100000 in
set_option maxHeartbeats 4000000 in
theorem w_X6_image {Z : Int32 × Sto} (F : Fx rC p s m args cd cX6_image 1 RX6 G) (hr : meth.sig.returnType = (some .int)) (hlk : meth.locks = false)  {z : Sto} {H : Heap} {locs : List Loc} {ls : Array Slot} (hf : f_X6_image  z = some Z) (hh : Hh rC G z s H locs) (hl : lv_has ls 1 [(0, .ref (G.1 0))]) : W p l e rmX6_image s m args below meth cd H locs 0 0 (MQ below (QI rC G Z.1 Z.2) args s 0 0 (Am rC G)) (F0 m 0 ls []) := by
  have hx := F.1
  have hb := F.2.1
  unfold f_X6_image at hf
  refine lv_aload_n hx hb dX6_image_0 rfl (lv_at hl 0 rfl) ?_
  refine r_X6_19 (b' := 13) F hh in_0 sh_0 rfl dX6_image_1 ?_
  refine lv_aload_n hx hb dX6_image_4 rfl (lv_at hl 0 rfl) ?_
  refine r_X6_12 (b' := 1) F hh in_0 sh_0 rfl dX6_image_5 ?_
  obtain ⟨z2, ht1, hf⟩ := ob hf
  refine m_X6_281 F hh (c_X1_takeAll fr_13 fr_1 ht1) in_13 sh_13 rfl hl (Nat.le_of_ble_eq_true rfl) dX6_image_8 (fun H locs hh => ?_)
  refine lv_aload_n hx hb dX6_image_11 rfl (lv_at hl 0 rfl) ?_
  refine r_X6_29 (b' := 57) F hh in_0 sh_0 rfl dX6_image_12 ?_
  refine lv_aload_n hx hb dX6_image_15 rfl (lv_at hl 0 rfl) ?_
  refine r_X6_25 (b' := 19) F hh in_0 sh_0 rfl dX6_image_16 ?_
  obtain ⟨z4, ht3, hf⟩ := ob hf
  refine m_X6_284 F hh (c_X2_takeAll hi_57 hi_19 ht3) in_57 sh_57 rfl hl (Nat.le_of_ble_eq_true rfl) dX6_image_19 (fun H locs hh => ?_)
  refine lv_aload_n hx hb dX6_image_22 rfl (lv_at hl 0 rfl) ?_
  refine lv_iconst (v := 1) hx hb dX6_image_23 (by decide) ?_
  refine s_X6_287 F hh in_0 sh_0 rfl rfl dX6_image_24 (fun z5 ez5 H locs hh => ?_)
  replace hf := lt_e ez5 hf
  refine lv_iconst (v := 1) hx hb dX6_image_27 (by decide) ?_
  exact g_iretW F hr hlk hh hf dX6_image_28
theorem c_X6_image {l : Launch} {G : Gm}  {z : Sto} {Z : Int32 × Sto} (hf : f_X6_image  z = some Z) : Met l yX6_image (Cond.code yX6_image cX6_image 1 (some .int) :: TT) rmX6_image (va_Pc [.ref (G.1 0)] (GS rC G z)) (QI rC G Z.1 Z.2) 0 0 (Am rC G) := by
  refine g_met [(0, .ref (G.1 0))] (by decide) (Nat.le_of_ble_eq_true rfl) rfl ?_
  intro p e s m below meth cd F hr hlk ls H locs hl hh
  exact w_X6_image F hr hlk hf hh hl
def f_X6_restore  (z : Sto) : Option (Int32 × Sto) := if (z.1 0 9) = 0 then (some ((-4 : Int32), z)) else (bd (f_X1_takeAll 1 13 z) fun z3 => bd (f_X2_takeAll 19 57 z3) fun z5 => lt (upI z5 0 10 (0 : Int32)) fun z6 => some ((1 : Int32), z6))
set_option maxRecDepth 100000 in
set_option maxHeartbeats 4000000 in
theorem w_X6_restore {Z : Int32 × Sto} (F : Fx rC p s m args cd cX6_restore 1 RX6 G) (hr : meth.sig.returnType = (some .int)) (hlk : meth.locks = false)  {z : Sto} {H : Heap} {locs : List Loc} {ls : Array Slot} (hf : f_X6_restore  z = some Z) (hh : Hh rC G z s H locs) (hl : lv_has ls 1 [(0, .ref (G.1 0))]) : W p l e rmX6_restore s m args below meth cd H locs 0 0 (MQ below (QI rC G Z.1 Z.2) args s 0 0 (Am rC G)) (F0 m 0 ls []) := by
  have hx := F.1
  have hb := F.2.1
  unfold f_X6_restore at hf
  refine lv_aload_n hx hb dX6_restore_0 rfl (lv_at hl 0 rfl) ?_
  refine r_X6_287 F hh in_0 sh_0 dX6_restore_1 ?_
  refine lv_if_ne (tgt := 10) hx hb dX6_restore_4 (by decide) (fun c1 => ?_) (fun c1 => ?_)
  · replace hf := itn c1 hf
    refine lv_aload_n hx hb dX6_restore_10 rfl (lv_at hl 0 rfl) ?_
    refine r_X6_12 (b' := 1) F hh in_0 sh_0 rfl dX6_restore_11 ?_
    refine lv_aload_n hx hb dX6_restore_14 rfl (lv_at hl 0 rfl) ?_
    refine r_X6_19 (b' := 13) F hh in_0 sh_0 rfl dX6_restore_15 ?_
    obtain ⟨z3, ht2, hf⟩ := ob hf
    refine m_X6_281 F hh (c_X1_takeAll fr_1 fr_13 ht2) in_1 sh_1 rfl hl (Nat.le_of_ble_eq_true rfl) dX6_restore_18 (fun H locs hh => ?_)
    refine lv_aload_n hx hb dX6_restore_21 rfl (lv_at hl 0 rfl) ?_
    refine r_X6_25 (b' := 19) F hh in_0 sh_0 rfl dX6_restore_22 ?_
    refine lv_aload_n hx hb dX6_restore_25 rfl (lv_at hl 0 rfl) ?_
    refine r_X6_29 (b' := 57) F hh in_0 sh_0 rfl dX6_restore_26 ?_
    obtain ⟨z5, ht4, hf⟩ := ob hf
    refine m_X6_284 F hh (c_X2_takeAll hi_19 hi_57 ht4) in_19 sh_19 rfl hl (Nat.le_of_ble_eq_true rfl) dX6_restore_29 (fun H locs hh => ?_)
    refine lv_aload_n hx hb dX6_restore_32 rfl (lv_at hl 0 rfl) ?_
    refine lv_iconst (v := 0) hx hb dX6_restore_33 (by decide) ?_
    refine s_X6_274 F hh in_0 sh_0 rfl rfl dX6_restore_34 (fun z6 ez6 H locs hh => ?_)
    replace hf := lt_e ez6 hf
    refine lv_iconst (v := 1) hx hb dX6_restore_37 (by decide) ?_
    exact g_iretW F hr hlk hh hf dX6_restore_38
  · replace hf := itp c1 hf
    refine lv_bipush (v := -4) hx hb dX6_restore_7 (by decide) ?_
    exact g_iretW F hr hlk hh hf dX6_restore_9
theorem c_X6_restore {l : Launch} {G : Gm}  {z : Sto} {Z : Int32 × Sto} (hf : f_X6_restore  z = some Z) : Met l yX6_restore (Cond.code yX6_restore cX6_restore 1 (some .int) :: TT) rmX6_restore (va_Pc [.ref (G.1 0)] (GS rC G z)) (QI rC G Z.1 Z.2) 0 0 (Am rC G) := by
  refine g_met [(0, .ref (G.1 0))] (by decide) (Nat.le_of_ble_eq_true rfl) rfl ?_
  intro p e s m below meth cd F hr hlk ls H locs hl hh
  exact w_X6_restore F hr hlk hf hh hl
def f_X6_isSheet (x0 : Int32) (z : Sto) : Option (Int32) := if x0 < 0 then (some (0 : Int32)) else (if (4 : Int32) ≤ x0 then (some (0 : Int32)) else (some (1 : Int32)))
set_option maxRecDepth 100000 in
set_option maxHeartbeats 4000000 in
theorem w_X6_isSheet {Z : Int32} (F : Fx rC p s m args cd cX6_isSheet 1 RX6 G) (hr : meth.sig.returnType = (some .boolean)) (hlk : meth.locks = false) {x0 : Int32} {z : Sto} {H : Heap} {locs : List Loc} {ls : Array Slot} (hf : f_X6_isSheet x0 z = some Z) (hh : Hh rC G z s H locs) (hl : lv_has ls 1 [(0, .int x0)]) : W p l e rmX6_isSheet s m args below meth cd H locs 0 0 (MQ below (QI rC G Z z) args s 0 0 (Am rC G)) (F0 m 0 ls []) := by
  have hx := F.1
  have hb := F.2.1
  unfold f_X6_isSheet at hf
  refine lv_iload_n hx hb dX6_isSheet_0 rfl (lv_at hl 0 rfl) ?_
  refine lv_if_lt (tgt := 13) hx hb dX6_isSheet_1 (by decide) (fun c1 => ?_) (fun c1 => ?_)
  · replace hf := itp c1 hf
    refine lv_iconst (v := 0) hx hb dX6_isSheet_13 (by decide) ?_
    exact g_zret F hr hlk rfl hh (Option.some.inj hf) rfl dX6_isSheet_14
  · replace hf := itn c1 hf
    refine lv_iload_n hx hb dX6_isSheet_4 rfl (lv_at hl 0 rfl) ?_
    refine lv_iconst (v := 4) hx hb dX6_isSheet_5 (by decide) ?_
    refine lv_icmp_ge (tgt := 13) hx hb dX6_isSheet_6 (by decide) (fun c2 => ?_) (fun c2 => ?_)
    · replace hf := itp c2 hf
      refine lv_iconst (v := 0) hx hb dX6_isSheet_13 (by decide) ?_
      exact g_zret F hr hlk rfl hh (Option.some.inj hf) rfl dX6_isSheet_14
    · replace hf := itn c2 hf
      refine lv_iconst (v := 1) hx hb dX6_isSheet_9 (by decide) ?_
      refine lv_goto (tgt := 14) hx hb dX6_isSheet_10 (by decide) ?_
      exact g_zret F hr hlk rfl hh (Option.some.inj hf) rfl dX6_isSheet_14
theorem c_X6_isSheet {l : Launch} {G : Gm} {x0 : Int32} {z : Sto} {Z : Int32} (hf : f_X6_isSheet x0 z = some Z) : Met l yX6_isSheet (Cond.code yX6_isSheet cX6_isSheet 1 (some .boolean) :: TT) rmX6_isSheet (va_Pc [.int x0] (GS rC G z)) (QI rC G Z z) 0 0 (Am rC G) := by
  refine g_met [(0, .int x0)] (by decide) (Nat.le_of_ble_eq_true rfl) rfl ?_
  intro p e s m below meth cd F hr hlk ls H locs hl hh
  exact w_X6_isSheet F hr hlk hf hh hl
def f_X6_isLane (x0 : Int32) (z : Sto) : Option (Int32) := if x0 < 0 then (some (0 : Int32)) else (if (4 : Int32) ≤ x0 then (some (0 : Int32)) else (some (1 : Int32)))
set_option maxRecDepth 100000 in
set_option maxHeartbeats 4000000 in
theorem w_X6_isLane {Z : Int32} (F : Fx rC p s m args cd cX6_isLane 1 RX6 G) (hr : meth.sig.returnType = (some .boolean)) (hlk : meth.locks = false) {x0 : Int32} {z : Sto} {H : Heap} {locs : List Loc} {ls : Array Slot} (hf : f_X6_isLane x0 z = some Z) (hh : Hh rC G z s H locs) (hl : lv_has ls 1 [(0, .int x0)]) : W p l e rmX6_isLane s m args below meth cd H locs 0 0 (MQ below (QI rC G Z z) args s 0 0 (Am rC G)) (F0 m 0 ls []) := by
  have hx := F.1
  have hb := F.2.1
  unfold f_X6_isLane at hf
  refine lv_iload_n hx hb dX6_isLane_0 rfl (lv_at hl 0 rfl) ?_
  refine lv_if_lt (tgt := 13) hx hb dX6_isLane_1 (by decide) (fun c1 => ?_) (fun c1 => ?_)
  · replace hf := itp c1 hf
    refine lv_iconst (v := 0) hx hb dX6_isLane_13 (by decide) ?_
    exact g_zret F hr hlk rfl hh (Option.some.inj hf) rfl dX6_isLane_14
  · replace hf := itn c1 hf
    refine lv_iload_n hx hb dX6_isLane_4 rfl (lv_at hl 0 rfl) ?_
    refine lv_iconst (v := 4) hx hb dX6_isLane_5 (by decide) ?_
    refine lv_icmp_ge (tgt := 13) hx hb dX6_isLane_6 (by decide) (fun c2 => ?_) (fun c2 => ?_)
    · replace hf := itp c2 hf
      refine lv_iconst (v := 0) hx hb dX6_isLane_13 (by decide) ?_
      exact g_zret F hr hlk rfl hh (Option.some.inj hf) rfl dX6_isLane_14
    · replace hf := itn c2 hf
      refine lv_iconst (v := 1) hx hb dX6_isLane_9 (by decide) ?_
      refine lv_goto (tgt := 14) hx hb dX6_isLane_10 (by decide) ?_
      exact g_zret F hr hlk rfl hh (Option.some.inj hf) rfl dX6_isLane_14
theorem c_X6_isLane {l : Launch} {G : Gm} {x0 : Int32} {z : Sto} {Z : Int32} (hf : f_X6_isLane x0 z = some Z) : Met l yX6_isLane (Cond.code yX6_isLane cX6_isLane 1 (some .boolean) :: TT) rmX6_isLane (va_Pc [.int x0] (GS rC G z)) (QI rC G Z z) 0 0 (Am rC G) := by
  refine g_met [(0, .int x0)] (by decide) (Nat.le_of_ble_eq_true rfl) rfl ?_
  intro p e s m below meth cd F hr hlk ls H locs hl hh
  exact w_X6_isLane F hr hlk hf hh hl
def f_X6_refuseRow (x1 : Int32) (x2 : Int32) (z : Sto) : Option (Int32) := bd (f_X6_isSheet x1 z) fun t1 => if t1 = 0 then (some (-1 : Int32)) else (bd (f_X6_isLane x2 z) fun t3 => if t3 = 0 then (some (-1 : Int32)) else (bd (rdR 4 x1) fun t5 => if (z.1 (113 + 1 + 2 * t5) 0) = 0 then (some (-11 : Int32)) else (bd (rdR 4 x1) fun t7 => if (z.1 (113 + 1 + 2 * t7) 1) = x2 then (some (0 : Int32)) else (some (-12 : Int32)))))
set_option maxRecDepth 100000 in
set_option maxHeartbeats 4000000 in
theorem w_X6_refuseRow {Z : Int32} (F : Fx rC p s m args cd cX6_refuseRow 3 RX6 G) (hr : meth.sig.returnType = (some .int)) (hlk : meth.locks = false) {x1 : Int32} {x2 : Int32} {z : Sto} {H : Heap} {locs : List Loc} {ls : Array Slot} (hf : f_X6_refuseRow x1 x2 z = some Z) (hh : Hh rC G z s H locs) (hl : lv_has ls 3 [(0, .ref (G.1 0)), (1, .int x1), (2, .int x2)]) : W p l e rmX6_refuseRow s m args below meth cd H locs 0 0 (MQ below (QI rC G Z z) args s 0 0 (Am rC G)) (F0 m 0 ls []) := by
  have hx := F.1
  have hb := F.2.1
  unfold f_X6_refuseRow at hf
  refine lv_iload_n hx hb dX6_refuseRow_0 rfl (lv_at hl 1 rfl) ?_
  obtain ⟨t1, ht1, hf⟩ := ob hf
  refine m_X6_310 F hh (c_X6_isSheet ht1) rfl hl (Nat.le_of_ble_eq_true rfl) dX6_refuseRow_1 (fun H locs hh => ?_)
  refine lv_if_eq (tgt := 14) hx hb dX6_refuseRow_4 (by decide) (fun c2 => ?_) (fun c2 => ?_)
  · replace hf := itp c2 hf
    refine lv_iconst (v := -1) hx hb dX6_refuseRow_14 (by decide) ?_
    exact g_iret F hr hlk hh (Option.some.inj hf) rfl dX6_refuseRow_15
  · replace hf := itn c2 hf
    refine lv_iload_n hx hb dX6_refuseRow_7 rfl (lv_at hl 2 rfl) ?_
    obtain ⟨t3, ht3, hf⟩ := ob hf
    refine m_X6_313 F hh (c_X6_isLane ht3) rfl hl (Nat.le_of_ble_eq_true rfl) dX6_refuseRow_8 (fun H locs hh => ?_)
    refine lv_if_ne (tgt := 16) hx hb dX6_refuseRow_11 (by decide) (fun c4 => ?_) (fun c4 => ?_)
    · replace hf := itn c4 hf
      refine lv_aload_n hx hb dX6_refuseRow_16 rfl (lv_at hl 0 rfl) ?_
      refine r_X6_55 (b' := 113) F hh in_0 sh_0 rfl dX6_refuseRow_17 ?_
      refine lv_iload_n hx hb dX6_refuseRow_20 rfl (lv_at hl 1 rfl) ?_
      obtain ⟨t5, ht5, hf⟩ := ob hf
      refine g_rald F hh in_113 sh_113 ht5 dX6_refuseRow_21 ?_
      refine r_X6_320 F hh (roi0 (ro_of (rdR_e ht5).2.2)) (ros0 (ro_of (rdR_e ht5).2.2)) dX6_refuseRow_22 ?_
      refine lv_if_ne (tgt := 31) hx hb dX6_refuseRow_25 (by decide) (fun c6 => ?_) (fun c6 => ?_)
      · replace hf := itn c6 hf
        refine lv_aload_n hx hb dX6_refuseRow_31 rfl (lv_at hl 0 rfl) ?_
        refine r_X6_55 (b' := 113) F hh in_0 sh_0 rfl dX6_refuseRow_32 ?_
        refine lv_iload_n hx hb dX6_refuseRow_35 rfl (lv_at hl 1 rfl) ?_
        obtain ⟨t7, ht7, hf⟩ := ob hf
        refine g_rald F hh in_113 sh_113 ht7 dX6_refuseRow_36 ?_
        refine r_X6_328 F hh (roi0 (ro_of (rdR_e ht7).2.2)) (ros0 (ro_of (rdR_e ht7).2.2)) dX6_refuseRow_37 ?_
        refine lv_iload_n hx hb dX6_refuseRow_40 rfl (lv_at hl 2 rfl) ?_
        refine lv_icmp_ne (tgt := 48) hx hb dX6_refuseRow_41 (by decide) (fun c8 => ?_) (fun c8 => ?_)
        · replace hf := itn c8 hf
          refine lv_bipush (v := -12) hx hb dX6_refuseRow_48 (by decide) ?_
          exact g_iret F hr hlk hh (Option.some.inj hf) rfl dX6_refuseRow_50
        · replace hf := itp c8 hf
          refine lv_iconst (v := 0) hx hb dX6_refuseRow_44 (by decide) ?_
          refine lv_goto (tgt := 50) hx hb dX6_refuseRow_45 (by decide) ?_
          exact g_iret F hr hlk hh (Option.some.inj hf) rfl dX6_refuseRow_50
      · replace hf := itp c6 hf
        refine lv_bipush (v := -11) hx hb dX6_refuseRow_28 (by decide) ?_
        exact g_iret F hr hlk hh (Option.some.inj hf) rfl dX6_refuseRow_30
    · replace hf := itp c4 hf
      refine lv_iconst (v := -1) hx hb dX6_refuseRow_14 (by decide) ?_
      exact g_iret F hr hlk hh (Option.some.inj hf) rfl dX6_refuseRow_15
theorem c_X6_refuseRow {l : Launch} {G : Gm} {x1 : Int32} {x2 : Int32} {z : Sto} {Z : Int32} (hf : f_X6_refuseRow x1 x2 z = some Z) : Met l yX6_refuseRow (Cond.code yX6_refuseRow cX6_refuseRow 3 (some .int) :: TT) rmX6_refuseRow (va_Pc [.ref (G.1 0), .int x1, .int x2] (GS rC G z)) (QI rC G Z z) 0 0 (Am rC G) := by
  refine g_met [(0, .ref (G.1 0)), (1, .int x1), (2, .int x2)] (by decide) (Nat.le_of_ble_eq_true rfl) rfl ?_
  intro p e s m below meth cd F hr hlk ls H locs hl hh
  exact w_X6_refuseRow F hr hlk hf hh hl
def b_X6_isAtRest_22 (q1 : Nat) (z : Sto) (ag2 : Int32 → Int32 → Option (Int32)) (ag22 : Int32 → Int32 → Int64 → Int64 → Int32 → Option (Int32)) (x2 : Int32) (x3 : Int32) (x4 : Int64) (x6 : Int64) (x8 : Int32) : Option (Int32) := if ((2 : Int32) * (z.1 1 1)) ≤ x8 then (if (lg_cmp x4 (0 : Int64)) = 0 then (if (lg_cmp x6 (0 : Int64)) = 0 then (lt (x3 + (1 : Int32)) fun x3_5 => ag2 x2 x3_5) else (some (0 : Int32))) else (some (0 : Int32))) else (bd (f_X1_startOf 1 x8 z) fun t6 => if t6 = x3 then (bd (rdL z (q1) 24 (x2 + (x8 / (2 : Int32)))) fun t9 => bd (f_X1_stepX 1 x8 z) fun t10 => lt ((x4 + (t9 * (Int32.toInt64 t10)))) fun x4_11 => bd (rdL z (q1) 24 (x2 + (x8 / (2 : Int32)))) fun t12 => bd (f_X1_stepY 1 x8 z) fun t13 => lt ((x6 + (t12 * (Int32.toInt64 t13)))) fun x6_14 => lt (x8 + (1 : Int32)) fun x8_15 => ag22 x2 x3 x4_11 x6_14 x8_15) else (lt (x8 + (1 : Int32)) fun x8_8 => ag22 x2 x3 x4 x6 x8_8))
def b_X6_isAtRest_2 (q1 : Nat) (z : Sto)  (ag2 : Int32 → Int32 → Option (Int32)) (x2 : Int32) (x3 : Int32) : Option (Int32) := if (z.1 1 0) ≤ x3 then (some (1 : Int32)) else (wl5 (b_X6_isAtRest_22 q1 z ag2) fu x2 x3 (0 : Int64) (0 : Int64) (0 : Int32))
def f_X6_isAtRest (q1 : Nat) (x2 : Int32) (z : Sto) : Option (Int32) := wl2 (b_X6_isAtRest_2 q1 z) fu x2 (0 : Int32)
set_option maxRecDepth 100000 in
set_option maxHeartbeats 4000000 in
theorem w_X6_isAtRest_22 {q1 : Nat} {z : Sto} {ag2 : Int32 → Int32 → Option (Int32)} {Z : Int32} (F : Fx rC p s m args cd cX6_isAtRest 9 RX6 G) (hr : meth.sig.returnType = (some .boolean)) (hlk : meth.locks = false) (hq1 : LoC q1 24) (hag2 : ∀ (x2 : Int32) (x3 : Int32), ag2 x2 x3 = some Z → ∀ {H : Heap} {locs : List Loc} {ls : Array Slot}, Hh rC G z s H locs → lv_has ls 9 [(0, .ref (G.1 0)), (1, .ref (G.1 (q1))), (2, .int x2), (3, .int x3)] → W p l e rmX6_isAtRest s m args below meth cd H locs 0 0 (MQ below (QI rC G Z z) args s 0 0 (Am rC G)) (F0 m 2 ls [])) : ∀ (n : Nat), ∀ (x2 : Int32) (x3 : Int32) (x4 : Int64) (x6 : Int64) (x8 : Int32), wl5 (b_X6_isAtRest_22 q1 z ag2) n x2 x3 x4 x6 x8 = some Z → ∀ {H : Heap} {locs : List Loc} {ls : Array Slot}, Hh rC G z s H locs → lv_has ls 9 [(0, .ref (G.1 0)), (1, .ref (G.1 (q1))), (2, .int x2), (3, .int x3), (4, .long x4), (6, .long x6), (8, .int x8)] → W p l e rmX6_isAtRest s m args below meth cd H locs 0 0 (MQ below (QI rC G Z z) args s 0 0 (Am rC G)) (F0 m 22 ls []) := by
  have hx := F.1
  have hb := F.2.1
  intro n
  induction n with
  | zero =>
    intro x2 x3 x4 x6 x8 hf
    exact absurd hf (by intro h; cases h)
  | succ n ih =>
    intro x2 x3 x4 x6 x8 hf  H locs ls hh hl
    replace hf : b_X6_isAtRest_22 q1 z ag2 (wl5 (b_X6_isAtRest_22 q1 z ag2) n) x2 x3 x4 x6 x8 = some Z := hf
    unfold b_X6_isAtRest_22 at hf
    refine lv_iload hx hb dX6_isAtRest_22 (lv_at hl 6 rfl) ?_
    refine lv_iconst (v := 2) hx hb dX6_isAtRest_24 (by decide) ?_
    refine lv_aload_n hx hb dX6_isAtRest_25 rfl (lv_at hl 0 rfl) ?_
    refine r_X6_12 (b' := 1) F hh in_0 sh_0 rfl dX6_isAtRest_26 ?_
    refine r_X6_90 F hh in_1 sh_1 dX6_isAtRest_29 ?_
    refine lv_imul hx hb dX6_isAtRest_32 ?_
    refine lv_icmp_ge (tgt := 103) hx hb dX6_isAtRest_33 (by decide) (fun c2 => ?_) (fun c2 => ?_)
    · replace hf := itp c2 hf
      refine lv_lload hx hb dX6_isAtRest_103 (lv_at hl 4 rfl) ?_
      refine lv_lconst (v := 0) hx hb dX6_isAtRest_105 (by decide) ?_
      refine W.lcmp hx hb dX6_isAtRest_106 ?_
      refine lv_if_ne (tgt := 117) hx hb dX6_isAtRest_107 (by decide) (fun c3 => ?_) (fun c3 => ?_)
      · replace hf := itn c3 hf
        refine lv_iconst (v := 0) hx hb dX6_isAtRest_117 (by decide) ?_
        exact g_zret F hr hlk rfl hh (Option.some.inj hf) rfl dX6_isAtRest_118
      · replace hf := itp c3 hf
        refine lv_lload hx hb dX6_isAtRest_110 (lv_at hl 5 rfl) ?_
        refine lv_lconst (v := 0) hx hb dX6_isAtRest_112 (by decide) ?_
        refine W.lcmp hx hb dX6_isAtRest_113 ?_
        refine lv_if_eq (tgt := 119) hx hb dX6_isAtRest_114 (by decide) (fun c4 => ?_) (fun c4 => ?_)
        · replace hf := itp c4 hf
          obtain ⟨x3_5, ex3_5⟩ : ∃ y : Int32, y = x3 + (1 : Int32) := ⟨_, rfl⟩
          replace hf := lt_e ex3_5 hf
          refine lv_iinc (v := x3_5) (lv' := [(3, .int x3_5), (0, .ref (G.1 0)), (1, .ref (G.1 (q1))), (2, .int x2), (4, .long x4), (6, .long x6), (8, .int x8)]) hx hb dX6_isAtRest_119 hl (k := 3) rfl (by rw [ex3_5]; rfl) (by decide) rfl (fun ls hl => ?_)
          refine lv_goto (tgt := 2) hx hb dX6_isAtRest_122 (by decide) ?_
          exact hag2 _ _ hf  hh (lv_sub hl [1, 2, 3, 0] rfl)
        · replace hf := itn c4 hf
          refine lv_iconst (v := 0) hx hb dX6_isAtRest_117 (by decide) ?_
          exact g_zret F hr hlk rfl hh (Option.some.inj hf) rfl dX6_isAtRest_118
    · replace hf := itn c2 hf
      refine lv_aload_n hx hb dX6_isAtRest_36 rfl (lv_at hl 0 rfl) ?_
      refine r_X6_12 (b' := 1) F hh in_0 sh_0 rfl dX6_isAtRest_37 ?_
      refine lv_iload hx hb dX6_isAtRest_40 (lv_at hl 6 rfl) ?_
      obtain ⟨t6, ht6, hf⟩ := ob hf
      refine m_X6_239 F hh (c_X1_startOf fr_1 ht6) in_1 sh_1 rfl hl (Nat.le_of_ble_eq_true rfl) dX6_isAtRest_42 (fun H locs hh => ?_)
      refine lv_iload_n hx hb dX6_isAtRest_45 rfl (lv_at hl 3 rfl) ?_
      refine lv_icmp_ne (tgt := 97) hx hb dX6_isAtRest_46 (by decide) (fun c7 => ?_) (fun c7 => ?_)
      · replace hf := itn c7 hf
        obtain ⟨x8_8, ex8_8⟩ : ∃ y : Int32, y = x8 + (1 : Int32) := ⟨_, rfl⟩
        replace hf := lt_e ex8_8 hf
        refine lv_iinc (v := x8_8) (lv' := [(8, .int x8_8), (0, .ref (G.1 0)), (1, .ref (G.1 (q1))), (2, .int x2), (3, .int x3), (4, .long x4), (6, .long x6)]) hx hb dX6_isAtRest_97 hl (k := 6) rfl (by rw [ex8_8]; rfl) (by decide) rfl (fun ls hl => ?_)
        refine lv_goto (tgt := 22) hx hb dX6_isAtRest_100 (by decide) ?_
        exact ih _ _ _ _ _ hf  hh (lv_sub hl [1, 2, 3, 4, 5, 6, 0] rfl)
      · replace hf := itp c7 hf
        refine lv_lload hx hb dX6_isAtRest_49 (lv_at hl 4 rfl) ?_
        refine lv_aload_n hx hb dX6_isAtRest_51 rfl (lv_at hl 1 rfl) ?_
        refine lv_iload_n hx hb dX6_isAtRest_52 rfl (lv_at hl 2 rfl) ?_
        refine lv_iload hx hb dX6_isAtRest_53 (lv_at hl 6 rfl) ?_
        refine lv_iconst (v := 2) hx hb dX6_isAtRest_55 (by decide) ?_
        refine lv_idiv hx hb dX6_isAtRest_56 (by decide) ?_
        refine lv_iadd hx hb dX6_isAtRest_57 ?_
        obtain ⟨t9, ht9, hf⟩ := ob hf
        refine g_lald F hh (loi hq1) (los hq1) ht9 dX6_isAtRest_58 ?_
        refine lv_aload_n hx hb dX6_isAtRest_59 rfl (lv_at hl 0 rfl) ?_
        refine r_X6_12 (b' := 1) F hh in_0 sh_0 rfl dX6_isAtRest_60 ?_
        refine lv_iload hx hb dX6_isAtRest_63 (lv_at hl 6 rfl) ?_
        obtain ⟨t10, ht10, hf⟩ := ob hf
        refine m_X6_245 F hh (c_X1_stepX fr_1 ht10) in_1 sh_1 rfl hl (Nat.le_of_ble_eq_true rfl) dX6_isAtRest_65 (fun H locs hh => ?_)
        refine lv_i2l hx hb dX6_isAtRest_68 rfl ?_
        refine lv_lmul hx hb dX6_isAtRest_69 ?_
        refine lv_ladd hx hb dX6_isAtRest_70 ?_
        refine lv_topl (fun x4_11 ex4_11 => ?_)
        replace hf := lt_e ex4_11 hf
        refine lv_lstore (lv' := [(4, .long x4_11), (0, .ref (G.1 0)), (1, .ref (G.1 (q1))), (2, .int x2), (3, .int x3), (6, .long x6), (8, .int x8)]) hx hb dX6_isAtRest_71 hl (by decide) rfl (fun ls hl => ?_)
        refine lv_lload hx hb dX6_isAtRest_73 (lv_at hl 5 rfl) ?_
        refine lv_aload_n hx hb dX6_isAtRest_75 rfl (lv_at hl 2 rfl) ?_
        refine lv_iload_n hx hb dX6_isAtRest_76 rfl (lv_at hl 3 rfl) ?_
        refine lv_iload hx hb dX6_isAtRest_77 (lv_at hl 6 rfl) ?_
        refine lv_iconst (v := 2) hx hb dX6_isAtRest_79 (by decide) ?_
        refine lv_idiv hx hb dX6_isAtRest_80 (by decide) ?_
        refine lv_iadd hx hb dX6_isAtRest_81 ?_
        obtain ⟨t12, ht12, hf⟩ := ob hf
        refine g_lald F hh (loi hq1) (los hq1) ht12 dX6_isAtRest_82 ?_
        refine lv_aload_n hx hb dX6_isAtRest_83 rfl (lv_at hl 1 rfl) ?_
        refine r_X6_12 (b' := 1) F hh in_0 sh_0 rfl dX6_isAtRest_84 ?_
        refine lv_iload hx hb dX6_isAtRest_87 (lv_at hl 6 rfl) ?_
        obtain ⟨t13, ht13, hf⟩ := ob hf
        refine m_X6_248 F hh (c_X1_stepY fr_1 ht13) in_1 sh_1 rfl hl (Nat.le_of_ble_eq_true rfl) dX6_isAtRest_89 (fun H locs hh => ?_)
        refine lv_i2l hx hb dX6_isAtRest_92 rfl ?_
        refine lv_lmul hx hb dX6_isAtRest_93 ?_
        refine lv_ladd hx hb dX6_isAtRest_94 ?_
        refine lv_topl (fun x6_14 ex6_14 => ?_)
        replace hf := lt_e ex6_14 hf
        refine lv_lstore (lv' := [(6, .long x6_14), (4, .long x4_11), (0, .ref (G.1 0)), (1, .ref (G.1 (q1))), (2, .int x2), (3, .int x3), (8, .int x8)]) hx hb dX6_isAtRest_95 hl (by decide) rfl (fun ls hl => ?_)
        obtain ⟨x8_15, ex8_15⟩ : ∃ y : Int32, y = x8 + (1 : Int32) := ⟨_, rfl⟩
        replace hf := lt_e ex8_15 hf
        refine lv_iinc (v := x8_15) (lv' := [(8, .int x8_15), (6, .long x6_14), (4, .long x4_11), (0, .ref (G.1 0)), (1, .ref (G.1 (q1))), (2, .int x2), (3, .int x3)]) hx hb dX6_isAtRest_97 hl (k := 6) rfl (by rw [ex8_15]; rfl) (by decide) rfl (fun ls hl => ?_)
        refine lv_goto (tgt := 22) hx hb dX6_isAtRest_100 (by decide) ?_
        exact ih _ _ _ _ _ hf  hh (lv_sub hl [3, 4, 5, 6, 2, 1, 0] rfl)
set_option maxRecDepth 100000 in
set_option maxHeartbeats 4000000 in
theorem w_X6_isAtRest_2 {q1 : Nat} {z : Sto}  {Z : Int32} (F : Fx rC p s m args cd cX6_isAtRest 9 RX6 G) (hr : meth.sig.returnType = (some .boolean)) (hlk : meth.locks = false) (hq1 : LoC q1 24)  : ∀ (n : Nat), ∀ (x2 : Int32) (x3 : Int32), wl2 (b_X6_isAtRest_2 q1 z) n x2 x3 = some Z → ∀ {H : Heap} {locs : List Loc} {ls : Array Slot}, Hh rC G z s H locs → lv_has ls 9 [(0, .ref (G.1 0)), (1, .ref (G.1 (q1))), (2, .int x2), (3, .int x3)] → W p l e rmX6_isAtRest s m args below meth cd H locs 0 0 (MQ below (QI rC G Z z) args s 0 0 (Am rC G)) (F0 m 2 ls []) := by
  have hx := F.1
  have hb := F.2.1
  intro n
  induction n with
  | zero =>
    intro x2 x3 hf
    exact absurd hf (by intro h; cases h)
  | succ n ih =>
    intro x2 x3 hf  H locs ls hh hl
    replace hf : b_X6_isAtRest_2 q1 z (wl2 (b_X6_isAtRest_2 q1 z) n) x2 x3 = some Z := hf
    unfold b_X6_isAtRest_2 at hf
    refine lv_iload_n hx hb dX6_isAtRest_2 rfl (lv_at hl 3 rfl) ?_
    refine lv_aload_n hx hb dX6_isAtRest_3 rfl (lv_at hl 0 rfl) ?_
    refine r_X6_12 (b' := 1) F hh in_0 sh_0 rfl dX6_isAtRest_4 ?_
    refine r_X6_141 F hh in_1 sh_1 dX6_isAtRest_7 ?_
    refine lv_icmp_ge (tgt := 125) hx hb dX6_isAtRest_10 (by decide) (fun c1 => ?_) (fun c1 => ?_)
    · replace hf := itp c1 hf
      refine lv_iconst (v := 1) hx hb dX6_isAtRest_125 (by decide) ?_
      exact g_zret F hr hlk rfl hh (Option.some.inj hf) rfl dX6_isAtRest_126
    · replace hf := itn c1 hf
      refine lv_lconst (v := 0) hx hb dX6_isAtRest_13 (by decide) ?_
      refine lv_lstore (lv' := [(4, .long (0 : Int64)), (0, .ref (G.1 0)), (1, .ref (G.1 (q1))), (2, .int x2), (3, .int x3)]) hx hb dX6_isAtRest_14 hl (by decide) rfl (fun ls hl => ?_)
      refine lv_lconst (v := 0) hx hb dX6_isAtRest_16 (by decide) ?_
      refine lv_lstore (lv' := [(6, .long (0 : Int64)), (4, .long (0 : Int64)), (0, .ref (G.1 0)), (1, .ref (G.1 (q1))), (2, .int x2), (3, .int x3)]) hx hb dX6_isAtRest_17 hl (by decide) rfl (fun ls hl => ?_)
      refine lv_iconst (v := 0) hx hb dX6_isAtRest_19 (by decide) ?_
      refine lv_istore (lv' := [(8, .int (0 : Int32)), (6, .long (0 : Int64)), (4, .long (0 : Int64)), (0, .ref (G.1 0)), (1, .ref (G.1 (q1))), (2, .int x2), (3, .int x3)]) hx hb dX6_isAtRest_20 hl (by decide) rfl (fun ls hl => ?_)
      exact w_X6_isAtRest_22 F hr hlk hq1 ih fu _ _ _ _ _ hf  hh (lv_sub hl [3, 4, 5, 6, 2, 1, 0] rfl)
set_option maxRecDepth 100000 in
set_option maxHeartbeats 4000000 in
theorem w_X6_isAtRest {q1 : Nat} {Z : Int32} (F : Fx rC p s m args cd cX6_isAtRest 9 RX6 G) (hr : meth.sig.returnType = (some .boolean)) (hlk : meth.locks = false) (hq1 : LoC q1 24) {x2 : Int32} {z : Sto} {H : Heap} {locs : List Loc} {ls : Array Slot} (hf : f_X6_isAtRest q1 x2 z = some Z) (hh : Hh rC G z s H locs) (hl : lv_has ls 9 [(0, .ref (G.1 0)), (1, .ref (G.1 (q1))), (2, .int x2)]) : W p l e rmX6_isAtRest s m args below meth cd H locs 0 0 (MQ below (QI rC G Z z) args s 0 0 (Am rC G)) (F0 m 0 ls []) := by
  have hx := F.1
  have hb := F.2.1
  unfold f_X6_isAtRest at hf
  refine lv_iconst (v := 0) hx hb dX6_isAtRest_0 (by decide) ?_
  refine lv_istore_n (lv' := [(3, .int (0 : Int32)), (0, .ref (G.1 0)), (1, .ref (G.1 (q1))), (2, .int x2)]) hx hb dX6_isAtRest_1 rfl hl (by decide) rfl (fun ls hl => ?_)
  exact w_X6_isAtRest_2 F hr hlk hq1 fu _ _ hf  hh (lv_sub hl [1, 2, 3, 0] rfl)
theorem c_X6_isAtRest {l : Launch} {G : Gm} {q1 : Nat} {x2 : Int32} {z : Sto} {Z : Int32} (hq1 : LoC q1 24) (hf : f_X6_isAtRest q1 x2 z = some Z) : Met l yX6_isAtRest (Cond.code yX6_isAtRest cX6_isAtRest 9 (some .boolean) :: TT) rmX6_isAtRest (va_Pc [.ref (G.1 0), .ref (G.1 (q1)), .int x2] (GS rC G z)) (QI rC G Z z) 0 0 (Am rC G) := by
  refine g_met [(0, .ref (G.1 0)), (1, .ref (G.1 (q1))), (2, .int x2)] (by decide) (Nat.le_of_ble_eq_true rfl) rfl ?_
  intro p e s m below meth cd F hr hlk ls H locs hl hh
  exact w_X6_isAtRest F hr hlk hq1 hf hh hl
def j_X6_kindOf_40 (q1 : Nat) (z : Sto) (ag8 : Int32 → Int32 → Int32 → Int32 → Option (Int32)) (x2 : Int32) (x4 : Int32) (x5 : Int32) (k0 : Int32) : Option (Int32) := if x4 = 0 then (lt (x5 + (1 : Int32)) fun x5_12 => ag8 x2 k0 (0 : Int32) x5_12) else (bd (rdL z (q1) 24 (x2 + x5)) fun t13 => if (lg_cmp t13 (0 : Int64)) < 0 then (lt (x5 + (1 : Int32)) fun x5_15 => ag8 x2 k0 (0 : Int32) x5_15) else (lt (x5 + (1 : Int32)) fun x5_16 => ag8 x2 k0 (1 : Int32) x5_16))
def j_X6_kindOf_39 (q1 : Nat) (z : Sto) (ag8 : Int32 → Int32 → Int32 → Int32 → Option (Int32)) (x2 : Int32) (x4 : Int32) (x5 : Int32) : Option (Int32) := j_X6_kindOf_40 q1 z ag8 x2 x4 x5 (0 : Int32)
def b_X6_kindOf_8 (q1 : Nat) (z : Sto)  (ag8 : Int32 → Int32 → Int32 → Int32 → Option (Int32)) (x2 : Int32) (x3 : Int32) (x4 : Int32) (x5 : Int32) : Option (Int32) := if (z.1 1 1) ≤ x5 then (bd (f_X6_isAtRest (q1) x2 z) fun t2 => bd (f_X6_asBit t2 z) fun t3 => bd (f_X6_asBit x3 z) fun t4 => bd (f_X6_asBit x4 z) fun t5 => bd (f_X4_isMultiple (q1) x2 z) fun t6 => bd (f_X6_asBit t6 z) fun t7 => some (((t3 + ((2 : Int32) * t4)) + ((4 : Int32) * t5)) + ((8 : Int32) * t7))) else (if x3 = 0 then (j_X6_kindOf_39 q1 z ag8 x2 x4 x5) else (bd (rdL z (q1) 24 (x2 + x5)) fun t9 => if (lg_cmp t9 (0 : Int64)) = 0 then (j_X6_kindOf_39 q1 z ag8 x2 x4 x5) else (j_X6_kindOf_40 q1 z ag8 x2 x4 x5 (1 : Int32))))
def f_X6_kindOf (q1 : Nat) (x2 : Int32) (z : Sto) : Option (Int32) := wl4 (b_X6_kindOf_8 q1 z) fu x2 (1 : Int32) (1 : Int32) (0 : Int32)
set_option maxRecDepth 100000 in
set_option maxHeartbeats 4000000 in
theorem w_X6_kindOf_40 {q1 : Nat} {z : Sto} {ag8 : Int32 → Int32 → Int32 → Int32 → Option (Int32)} {Z : Int32} (F : Fx rC p s m args cd cX6_kindOf 6 RX6 G) (hr : meth.sig.returnType = (some .int)) (hlk : meth.locks = false) (hq1 : LoC q1 24) (hag8 : ∀ (x2 : Int32) (x3 : Int32) (x4 : Int32) (x5 : Int32), ag8 x2 x3 x4 x5 = some Z → ∀ {H : Heap} {locs : List Loc} {ls : Array Slot}, Hh rC G z s H locs → lv_has ls 6 [(0, .ref (G.1 0)), (1, .ref (G.1 (q1))), (2, .int x2), (3, .int x3), (4, .int x4), (5, .int x5)] → W p l e rmX6_kindOf s m args below meth cd H locs 0 0 (MQ below (QI rC G Z z) args s 0 0 (Am rC G)) (F0 m 8 ls [])) {x2 : Int32} {x4 : Int32} {x5 : Int32} {k0 : Int32} {H : Heap} {locs : List Loc} {ls : Array Slot} (hf : j_X6_kindOf_40 q1 z ag8 x2 x4 x5 k0 = some Z) (hh : Hh rC G z s H locs) (hl : lv_has ls 6 [(0, .ref (G.1 0)), (1, .ref (G.1 (q1))), (2, .int x2), (4, .int x4), (5, .int x5)]) : W p l e rmX6_kindOf s m args below meth cd H locs 0 0 (MQ below (QI rC G Z z) args s 0 0 (Am rC G)) (F0 m 40 ls [.int k0]) := by
  have hx := F.1
  have hb := F.2.1
  unfold j_X6_kindOf_40 at hf
  refine lv_istore_n (lv' := [(3, .int k0), (0, .ref (G.1 0)), (1, .ref (G.1 (q1))), (2, .int x2), (4, .int x4), (5, .int x5)]) hx hb dX6_kindOf_40 rfl hl (by decide) rfl (fun ls hl => ?_)
  refine lv_iload hx hb dX6_kindOf_41 (lv_at hl 4 rfl) ?_
  refine lv_if_eq (tgt := 61) hx hb dX6_kindOf_43 (by decide) (fun c11 => ?_) (fun c11 => ?_)
  · replace hf := itp c11 hf
    refine lv_iconst (v := 0) hx hb dX6_kindOf_61 (by decide) ?_
    refine lv_istore (lv' := [(4, .int (0 : Int32)), (3, .int k0), (0, .ref (G.1 0)), (1, .ref (G.1 (q1))), (2, .int x2), (5, .int x5)]) hx hb dX6_kindOf_62 hl (by decide) rfl (fun ls hl => ?_)
    obtain ⟨x5_12, ex5_12⟩ : ∃ y : Int32, y = x5 + (1 : Int32) := ⟨_, rfl⟩
    replace hf := lt_e ex5_12 hf
    refine lv_iinc (v := x5_12) (lv' := [(5, .int x5_12), (4, .int (0 : Int32)), (3, .int k0), (0, .ref (G.1 0)), (1, .ref (G.1 (q1))), (2, .int x2)]) hx hb dX6_kindOf_64 hl (k := 5) rfl (by rw [ex5_12]; rfl) (by decide) rfl (fun ls hl => ?_)
    refine lv_goto (tgt := 8) hx hb dX6_kindOf_67 (by decide) ?_
    exact hag8 _ _ _ _ hf  hh (lv_sub hl [3, 4, 5, 2, 1, 0] rfl)
  · replace hf := itn c11 hf
    refine lv_aload_n hx hb dX6_kindOf_46 rfl (lv_at hl 2 rfl) ?_
    refine lv_iload_n hx hb dX6_kindOf_47 rfl (lv_at hl 3 rfl) ?_
    refine lv_iload hx hb dX6_kindOf_48 (lv_at hl 5 rfl) ?_
    refine lv_iadd hx hb dX6_kindOf_50 ?_
    obtain ⟨t13, ht13, hf⟩ := ob hf
    refine g_lald F hh (loi hq1) (los hq1) ht13 dX6_kindOf_51 ?_
    refine lv_lconst (v := 0) hx hb dX6_kindOf_52 (by decide) ?_
    refine W.lcmp hx hb dX6_kindOf_53 ?_
    refine lv_if_lt (tgt := 61) hx hb dX6_kindOf_54 (by decide) (fun c14 => ?_) (fun c14 => ?_)
    · replace hf := itp c14 hf
      refine lv_iconst (v := 0) hx hb dX6_kindOf_61 (by decide) ?_
      refine lv_istore (lv' := [(4, .int (0 : Int32)), (3, .int k0), (0, .ref (G.1 0)), (1, .ref (G.1 (q1))), (2, .int x2), (5, .int x5)]) hx hb dX6_kindOf_62 hl (by decide) rfl (fun ls hl => ?_)
      obtain ⟨x5_15, ex5_15⟩ : ∃ y : Int32, y = x5 + (1 : Int32) := ⟨_, rfl⟩
      replace hf := lt_e ex5_15 hf
      refine lv_iinc (v := x5_15) (lv' := [(5, .int x5_15), (4, .int (0 : Int32)), (3, .int k0), (0, .ref (G.1 0)), (1, .ref (G.1 (q1))), (2, .int x2)]) hx hb dX6_kindOf_64 hl (k := 5) rfl (by rw [ex5_15]; rfl) (by decide) rfl (fun ls hl => ?_)
      refine lv_goto (tgt := 8) hx hb dX6_kindOf_67 (by decide) ?_
      exact hag8 _ _ _ _ hf  hh (lv_sub hl [3, 4, 5, 2, 1, 0] rfl)
    · replace hf := itn c14 hf
      refine lv_iconst (v := 1) hx hb dX6_kindOf_57 (by decide) ?_
      refine lv_goto (tgt := 62) hx hb dX6_kindOf_58 (by decide) ?_
      refine lv_istore (lv' := [(4, .int (1 : Int32)), (3, .int k0), (0, .ref (G.1 0)), (1, .ref (G.1 (q1))), (2, .int x2), (5, .int x5)]) hx hb dX6_kindOf_62 hl (by decide) rfl (fun ls hl => ?_)
      obtain ⟨x5_16, ex5_16⟩ : ∃ y : Int32, y = x5 + (1 : Int32) := ⟨_, rfl⟩
      replace hf := lt_e ex5_16 hf
      refine lv_iinc (v := x5_16) (lv' := [(5, .int x5_16), (4, .int (1 : Int32)), (3, .int k0), (0, .ref (G.1 0)), (1, .ref (G.1 (q1))), (2, .int x2)]) hx hb dX6_kindOf_64 hl (k := 5) rfl (by rw [ex5_16]; rfl) (by decide) rfl (fun ls hl => ?_)
      refine lv_goto (tgt := 8) hx hb dX6_kindOf_67 (by decide) ?_
      exact hag8 _ _ _ _ hf  hh (lv_sub hl [3, 4, 5, 2, 1, 0] rfl)
set_option maxRecDepth 100000 in
set_option maxHeartbeats 4000000 in
theorem w_X6_kindOf_39 {q1 : Nat} {z : Sto} {ag8 : Int32 → Int32 → Int32 → Int32 → Option (Int32)} {Z : Int32} (F : Fx rC p s m args cd cX6_kindOf 6 RX6 G) (hr : meth.sig.returnType = (some .int)) (hlk : meth.locks = false) (hq1 : LoC q1 24) (hag8 : ∀ (x2 : Int32) (x3 : Int32) (x4 : Int32) (x5 : Int32), ag8 x2 x3 x4 x5 = some Z → ∀ {H : Heap} {locs : List Loc} {ls : Array Slot}, Hh rC G z s H locs → lv_has ls 6 [(0, .ref (G.1 0)), (1, .ref (G.1 (q1))), (2, .int x2), (3, .int x3), (4, .int x4), (5, .int x5)] → W p l e rmX6_kindOf s m args below meth cd H locs 0 0 (MQ below (QI rC G Z z) args s 0 0 (Am rC G)) (F0 m 8 ls [])) {x2 : Int32} {x4 : Int32} {x5 : Int32} {H : Heap} {locs : List Loc} {ls : Array Slot} (hf : j_X6_kindOf_39 q1 z ag8 x2 x4 x5 = some Z) (hh : Hh rC G z s H locs) (hl : lv_has ls 6 [(0, .ref (G.1 0)), (1, .ref (G.1 (q1))), (2, .int x2), (4, .int x4), (5, .int x5)]) : W p l e rmX6_kindOf s m args below meth cd H locs 0 0 (MQ below (QI rC G Z z) args s 0 0 (Am rC G)) (F0 m 39 ls []) := by
  have hx := F.1
  have hb := F.2.1
  unfold j_X6_kindOf_39 at hf
  refine lv_iconst (v := 0) hx hb dX6_kindOf_39 (by decide) ?_
  exact w_X6_kindOf_40 F hr hlk hq1 hag8 hf  hh (lv_sub hl [0, 1, 2, 3, 4] rfl)
set_option maxRecDepth 100000 in
set_option maxHeartbeats 4000000 in
theorem w_X6_kindOf_8 {q1 : Nat} {z : Sto}  {Z : Int32} (F : Fx rC p s m args cd cX6_kindOf 6 RX6 G) (hr : meth.sig.returnType = (some .int)) (hlk : meth.locks = false) (hq1 : LoC q1 24)  : ∀ (n : Nat), ∀ (x2 : Int32) (x3 : Int32) (x4 : Int32) (x5 : Int32), wl4 (b_X6_kindOf_8 q1 z) n x2 x3 x4 x5 = some Z → ∀ {H : Heap} {locs : List Loc} {ls : Array Slot}, Hh rC G z s H locs → lv_has ls 6 [(0, .ref (G.1 0)), (1, .ref (G.1 (q1))), (2, .int x2), (3, .int x3), (4, .int x4), (5, .int x5)] → W p l e rmX6_kindOf s m args below meth cd H locs 0 0 (MQ below (QI rC G Z z) args s 0 0 (Am rC G)) (F0 m 8 ls []) := by
  have hx := F.1
  have hb := F.2.1
  intro n
  induction n with
  | zero =>
    intro x2 x3 x4 x5 hf
    exact absurd hf (by intro h; cases h)
  | succ n ih =>
    intro x2 x3 x4 x5 hf  H locs ls hh hl
    replace hf : b_X6_kindOf_8 q1 z (wl4 (b_X6_kindOf_8 q1 z) n) x2 x3 x4 x5 = some Z := hf
    unfold b_X6_kindOf_8 at hf
    refine lv_iload hx hb dX6_kindOf_8 (lv_at hl 5 rfl) ?_
    refine lv_aload_n hx hb dX6_kindOf_10 rfl (lv_at hl 0 rfl) ?_
    refine r_X6_12 (b' := 1) F hh in_0 sh_0 rfl dX6_kindOf_11 ?_
    refine r_X6_90 F hh in_1 sh_1 dX6_kindOf_14 ?_
    refine lv_icmp_ge (tgt := 70) hx hb dX6_kindOf_17 (by decide) (fun c1 => ?_) (fun c1 => ?_)
    · replace hf := itp c1 hf
      refine lv_aload_n hx hb dX6_kindOf_70 rfl (lv_at hl 0 rfl) ?_
      refine lv_aload_n hx hb dX6_kindOf_71 rfl (lv_at hl 1 rfl) ?_
      refine lv_iload_n hx hb dX6_kindOf_72 rfl (lv_at hl 2 rfl) ?_
      obtain ⟨t2, ht2, hf⟩ := ob hf
      refine m_X6_364 F hh (c_X6_isAtRest hq1 ht2) in_0 sh_0 rfl hl (Nat.le_of_ble_eq_true rfl) dX6_kindOf_73 (fun H locs hh => ?_)
      obtain ⟨t3, ht3, hf⟩ := ob hf
      refine m_X6_134 F hh (c_X6_asBit ht3) rfl hl (Nat.le_of_ble_eq_true rfl) dX6_kindOf_76 (fun H locs hh => ?_)
      refine lv_iconst (v := 2) hx hb dX6_kindOf_79 (by decide) ?_
      refine lv_iload_n hx hb dX6_kindOf_80 rfl (lv_at hl 3 rfl) ?_
      obtain ⟨t4, ht4, hf⟩ := ob hf
      refine m_X6_134 F hh (c_X6_asBit ht4) rfl hl (Nat.le_of_ble_eq_true rfl) dX6_kindOf_81 (fun H locs hh => ?_)
      refine lv_imul hx hb dX6_kindOf_84 ?_
      refine lv_iadd hx hb dX6_kindOf_85 ?_
      refine lv_iconst (v := 4) hx hb dX6_kindOf_86 (by decide) ?_
      refine lv_iload hx hb dX6_kindOf_87 (lv_at hl 4 rfl) ?_
      obtain ⟨t5, ht5, hf⟩ := ob hf
      refine m_X6_134 F hh (c_X6_asBit ht5) rfl hl (Nat.le_of_ble_eq_true rfl) dX6_kindOf_89 (fun H locs hh => ?_)
      refine lv_imul hx hb dX6_kindOf_92 ?_
      refine lv_iadd hx hb dX6_kindOf_93 ?_
      refine lv_bipush (v := 8) hx hb dX6_kindOf_94 (by decide) ?_
      refine lv_aload_n hx hb dX6_kindOf_96 rfl (lv_at hl 0 rfl) ?_
      refine r_X6_35 (b' := 95) F hh in_0 sh_0 rfl dX6_kindOf_97 ?_
      refine lv_aload_n hx hb dX6_kindOf_100 rfl (lv_at hl 1 rfl) ?_
      refine lv_iload_n hx hb dX6_kindOf_101 rfl (lv_at hl 2 rfl) ?_
      obtain ⟨t6, ht6, hf⟩ := ob hf
      refine m_X6_368 F hh (c_X4_isMultiple hq1 ht6) in_95 sh_95 rfl hl (Nat.le_of_ble_eq_true rfl) dX6_kindOf_102 (fun H locs hh => ?_)
      obtain ⟨t7, ht7, hf⟩ := ob hf
      refine m_X6_134 F hh (c_X6_asBit ht7) rfl hl (Nat.le_of_ble_eq_true rfl) dX6_kindOf_105 (fun H locs hh => ?_)
      refine lv_imul hx hb dX6_kindOf_108 ?_
      refine lv_iadd hx hb dX6_kindOf_109 ?_
      exact g_iret F hr hlk hh (Option.some.inj hf) rfl dX6_kindOf_110
    · replace hf := itn c1 hf
      refine lv_iload_n hx hb dX6_kindOf_20 rfl (lv_at hl 3 rfl) ?_
      refine lv_if_eq (tgt := 39) hx hb dX6_kindOf_21 (by decide) (fun c8 => ?_) (fun c8 => ?_)
      · replace hf := itp c8 hf
        exact w_X6_kindOf_39 F hr hlk hq1 ih hf  hh (lv_sub hl [0, 1, 2, 4, 5] rfl)
      · replace hf := itn c8 hf
        refine lv_aload_n hx hb dX6_kindOf_24 rfl (lv_at hl 1 rfl) ?_
        refine lv_iload_n hx hb dX6_kindOf_25 rfl (lv_at hl 2 rfl) ?_
        refine lv_iload hx hb dX6_kindOf_26 (lv_at hl 5 rfl) ?_
        refine lv_iadd hx hb dX6_kindOf_28 ?_
        obtain ⟨t9, ht9, hf⟩ := ob hf
        refine g_lald F hh (loi hq1) (los hq1) ht9 dX6_kindOf_29 ?_
        refine lv_lconst (v := 0) hx hb dX6_kindOf_30 (by decide) ?_
        refine W.lcmp hx hb dX6_kindOf_31 ?_
        refine lv_if_eq (tgt := 39) hx hb dX6_kindOf_32 (by decide) (fun c10 => ?_) (fun c10 => ?_)
        · replace hf := itp c10 hf
          exact w_X6_kindOf_39 F hr hlk hq1 ih hf  hh (lv_sub hl [0, 1, 2, 4, 5] rfl)
        · replace hf := itn c10 hf
          refine lv_iconst (v := 1) hx hb dX6_kindOf_35 (by decide) ?_
          refine lv_goto (tgt := 40) hx hb dX6_kindOf_36 (by decide) ?_
          exact w_X6_kindOf_40 F hr hlk hq1 ih hf  hh (lv_sub hl [0, 1, 2, 4, 5] rfl)
set_option maxRecDepth 100000 in
set_option maxHeartbeats 4000000 in
theorem w_X6_kindOf {q1 : Nat} {Z : Int32} (F : Fx rC p s m args cd cX6_kindOf 6 RX6 G) (hr : meth.sig.returnType = (some .int)) (hlk : meth.locks = false) (hq1 : LoC q1 24) {x2 : Int32} {z : Sto} {H : Heap} {locs : List Loc} {ls : Array Slot} (hf : f_X6_kindOf q1 x2 z = some Z) (hh : Hh rC G z s H locs) (hl : lv_has ls 6 [(0, .ref (G.1 0)), (1, .ref (G.1 (q1))), (2, .int x2)]) : W p l e rmX6_kindOf s m args below meth cd H locs 0 0 (MQ below (QI rC G Z z) args s 0 0 (Am rC G)) (F0 m 0 ls []) := by
  have hx := F.1
  have hb := F.2.1
  unfold f_X6_kindOf at hf
  refine lv_iconst (v := 1) hx hb dX6_kindOf_0 (by decide) ?_
  refine lv_istore_n (lv' := [(3, .int (1 : Int32)), (0, .ref (G.1 0)), (1, .ref (G.1 (q1))), (2, .int x2)]) hx hb dX6_kindOf_1 rfl hl (by decide) rfl (fun ls hl => ?_)
  refine lv_iconst (v := 1) hx hb dX6_kindOf_2 (by decide) ?_
  refine lv_istore (lv' := [(4, .int (1 : Int32)), (3, .int (1 : Int32)), (0, .ref (G.1 0)), (1, .ref (G.1 (q1))), (2, .int x2)]) hx hb dX6_kindOf_3 hl (by decide) rfl (fun ls hl => ?_)
  refine lv_iconst (v := 0) hx hb dX6_kindOf_5 (by decide) ?_
  refine lv_istore (lv' := [(5, .int (0 : Int32)), (4, .int (1 : Int32)), (3, .int (1 : Int32)), (0, .ref (G.1 0)), (1, .ref (G.1 (q1))), (2, .int x2)]) hx hb dX6_kindOf_6 hl (by decide) rfl (fun ls hl => ?_)
  exact w_X6_kindOf_8 F hr hlk hq1 fu _ _ _ _ hf  hh (lv_sub hl [3, 4, 5, 2, 1, 0] rfl)
theorem c_X6_kindOf {l : Launch} {G : Gm} {q1 : Nat} {x2 : Int32} {z : Sto} {Z : Int32} (hq1 : LoC q1 24) (hf : f_X6_kindOf q1 x2 z = some Z) : Met l yX6_kindOf (Cond.code yX6_kindOf cX6_kindOf 6 (some .int) :: TT) rmX6_kindOf (va_Pc [.ref (G.1 0), .ref (G.1 (q1)), .int x2] (GS rC G z)) (QI rC G Z z) 0 0 (Am rC G) := by
  refine g_met [(0, .ref (G.1 0)), (1, .ref (G.1 (q1))), (2, .int x2)] (by decide) (Nat.le_of_ble_eq_true rfl) rfl ?_
  intro p e s m below meth cd F hr hlk ls H locs hl hh
  exact w_X6_kindOf F hr hlk hq1 hf hh hl
def f_X6_what (x1 : Int32) (x2 : Int32) (x3 : Int32) (z : Sto) : Option (Int32 × Sto) := bd (f_X6_refuseRow x1 x2 z) fun t1 => if t1 = 0 then (bd (rdR 4 x1) fun t3 => bd (f_X3_holds (113 + 1 + 2 * t3) x3 ((z.1 1 1)) z) fun t4 => if t4 = 0 then (some ((-13 : Int32), z)) else (bd (f_X3_isSmall (113 + 1 + 2 * t3) x3 ((z.1 1 1)) z) fun t6 => if t6 = 0 then (some ((-2 : Int32), z)) else (bd (f_X6_settle z) fun z9 => bd (f_X6_kindOf (113 + 1 + 2 * t3 + 1) x3 z9) fun t10 => some (t10, z9)))) else (some (t1, z))
set_option maxRecDepth 100000 in
set_option maxHeartbeats 4000000 in
theorem w_X6_what {Z : Int32 × Sto} (F : Fx rC p s m args cd cX6_what 6 RX6 G) (hr : meth.sig.returnType = (some .int)) (hlk : meth.locks = false) {x1 : Int32} {x2 : Int32} {x3 : Int32} {z : Sto} {H : Heap} {locs : List Loc} {ls : Array Slot} (hf : f_X6_what x1 x2 x3 z = some Z) (hh : Hh rC G z s H locs) (hl : lv_has ls 6 [(0, .ref (G.1 0)), (1, .int x1), (2, .int x2), (3, .int x3)]) : W p l e rmX6_what s m args below meth cd H locs 0 0 (MQ below (QI rC G Z.1 Z.2) args s 0 0 (Am rC G)) (F0 m 0 ls []) := by
  have hx := F.1
  have hb := F.2.1
  unfold f_X6_what at hf
  refine lv_aload_n hx hb dX6_what_0 rfl (lv_at hl 0 rfl) ?_
  refine lv_iload_n hx hb dX6_what_1 rfl (lv_at hl 1 rfl) ?_
  refine lv_iload_n hx hb dX6_what_2 rfl (lv_at hl 2 rfl) ?_
  obtain ⟨t1, ht1, hf⟩ := ob hf
  refine m_X6_290 F hh (c_X6_refuseRow ht1) in_0 sh_0 rfl hl (Nat.le_of_ble_eq_true rfl) dX6_what_3 (fun H locs hh => ?_)
  refine lv_istore (lv' := [(4, .int t1), (0, .ref (G.1 0)), (1, .int x1), (2, .int x2), (3, .int x3)]) hx hb dX6_what_6 hl (by decide) rfl (fun ls hl => ?_)
  refine lv_iload hx hb dX6_what_8 (lv_at hl 0 rfl) ?_
  refine lv_if_eq (tgt := 16) hx hb dX6_what_10 (by decide) (fun c2 => ?_) (fun c2 => ?_)
  · replace hf := itp c2 hf
    refine lv_aload_n hx hb dX6_what_16 rfl (lv_at hl 1 rfl) ?_
    refine r_X6_55 (b' := 113) F hh in_0 sh_0 rfl dX6_what_17 ?_
    refine lv_iload_n hx hb dX6_what_20 rfl (lv_at hl 2 rfl) ?_
    obtain ⟨t3, ht3, hf⟩ := ob hf
    refine g_rald F hh in_113 sh_113 ht3 dX6_what_21 ?_
    refine lv_astore (lv' := [(5, .ref (G.1 (113 + 1 + 2 * t3))), (4, .int t1), (0, .ref (G.1 0)), (1, .int x1), (2, .int x2), (3, .int x3)]) hx hb dX6_what_22 hl (by decide) rfl (fun ls hl => ?_)
    refine lv_aload hx hb dX6_what_24 (lv_at hl 0 rfl) ?_
    refine lv_iload_n hx hb dX6_what_26 rfl (lv_at hl 5 rfl) ?_
    refine lv_aload_n hx hb dX6_what_27 rfl (lv_at hl 2 rfl) ?_
    refine r_X6_12 (b' := 1) F hh in_0 sh_0 rfl dX6_what_28 ?_
    refine r_X6_90 F hh in_1 sh_1 dX6_what_31 ?_
    obtain ⟨t4, ht4, hf⟩ := ob hf
    refine m_X6_293 F hh (c_X3_holds (ro_of (rdR_e ht3).2.2) ht4) (roi0 (ro_of (rdR_e ht3).2.2)) (ros0 (ro_of (rdR_e ht3).2.2)) rfl hl (Nat.le_of_ble_eq_true rfl) dX6_what_34 (fun H locs hh => ?_)
    refine lv_if_ne (tgt := 43) hx hb dX6_what_37 (by decide) (fun c5 => ?_) (fun c5 => ?_)
    · replace hf := itn c5 hf
      refine lv_aload hx hb dX6_what_43 (lv_at hl 0 rfl) ?_
      refine lv_iload_n hx hb dX6_what_45 rfl (lv_at hl 5 rfl) ?_
      refine lv_aload_n hx hb dX6_what_46 rfl (lv_at hl 2 rfl) ?_
      refine r_X6_12 (b' := 1) F hh in_0 sh_0 rfl dX6_what_47 ?_
      refine r_X6_90 F hh in_1 sh_1 dX6_what_50 ?_
      obtain ⟨t6, ht6, hf⟩ := ob hf
      refine m_X6_297 F hh (c_X3_isSmall (ro_of (rdR_e ht3).2.2) ht6) (roi0 (ro_of (rdR_e ht3).2.2)) (ros0 (ro_of (rdR_e ht3).2.2)) rfl hl (Nat.le_of_ble_eq_true rfl) dX6_what_53 (fun H locs hh => ?_)
      refine lv_if_ne (tgt := 62) hx hb dX6_what_56 (by decide) (fun c7 => ?_) (fun c7 => ?_)
      · replace hf := itn c7 hf
        refine lv_aload_n hx hb dX6_what_62 rfl (lv_at hl 2 rfl) ?_
        obtain ⟨z9, ht8, hf⟩ := ob hf
        refine m_X6_122 F hh (c_X6_settle ht8) in_0 sh_0 rfl hl (Nat.le_of_ble_eq_true rfl) dX6_what_63 (fun H locs hh => ?_)
        refine lv_aload_n hx hb dX6_what_66 rfl (lv_at hl 2 rfl) ?_
        refine lv_aload hx hb dX6_what_67 (lv_at hl 0 rfl) ?_
        refine r_X6_300 (b' := (113 + 1 + 2 * t3 + 1)) F hh (roi0 (ro_of (rdR_e ht3).2.2)) (ros0 (ro_of (rdR_e ht3).2.2)) rfl dX6_what_69 ?_
        refine lv_iload_n hx hb dX6_what_72 rfl (lv_at hl 5 rfl) ?_
        obtain ⟨t10, ht10, hf⟩ := ob hf
        refine m_X6_303 F hh (c_X6_kindOf (rol (ro_of (rdR_e ht3).2.2)) ht10) in_0 sh_0 rfl hl (Nat.le_of_ble_eq_true rfl) dX6_what_73 (fun H locs hh => ?_)
        exact g_iretW F hr hlk hh hf dX6_what_76
      · replace hf := itp c7 hf
        refine lv_bipush (v := -2) hx hb dX6_what_59 (by decide) ?_
        exact g_iretW F hr hlk hh hf dX6_what_61
    · replace hf := itp c5 hf
      refine lv_bipush (v := -13) hx hb dX6_what_40 (by decide) ?_
      exact g_iretW F hr hlk hh hf dX6_what_42
  · replace hf := itn c2 hf
    refine lv_iload hx hb dX6_what_13 (lv_at hl 0 rfl) ?_
    exact g_iretW F hr hlk hh hf dX6_what_15
theorem c_X6_what {l : Launch} {G : Gm} {x1 : Int32} {x2 : Int32} {x3 : Int32} {z : Sto} {Z : Int32 × Sto} (hf : f_X6_what x1 x2 x3 z = some Z) : Met l yX6_what (Cond.code yX6_what cX6_what 6 (some .int) :: TT) rmX6_what (va_Pc [.ref (G.1 0), .int x1, .int x2, .int x3] (GS rC G z)) (QI rC G Z.1 Z.2) 0 0 (Am rC G) := by
  refine g_met [(0, .ref (G.1 0)), (1, .int x1), (2, .int x2), (3, .int x3)] (by decide) (Nat.le_of_ble_eq_true rfl) rfl ?_
  intro p e s m below meth cd F hr hlk ls H locs hl hh
  exact w_X6_what F hr hlk hf hh hl
def b_X6_film_50  (ag50 : Int32 → Nat → Int32 → Sto → Option (Int32 × Sto)) (x3 : Int32) (t_5 : Nat) (x6 : Int32) (z : Sto) : Option (Int32 × Sto) := if (z.1 1 1) ≤ x6 then (some ((z.1 1 1), z)) else (bd (f_X4_signOf x6 z) fun t9 => bd (wrL z (113 + 1 + 2 * t_5 + 1) 24 (x3 + x6) (Int32.toInt64 t9)) fun z10 => lt (x6 + (1 : Int32)) fun x6_11 => ag50 x3 t_5 x6_11 z10)
def f_X6_film (x1 : Int32) (x2 : Int32) (x3 : Int32) (z : Sto) : Option (Int32 × Sto) := bd (f_X6_refuseRow x1 x2 z) fun t1 => if t1 = 0 then (bd (rdR 4 x1) fun t3 => bd (f_X3_holds (113 + 1 + 2 * t3) x3 ((z.1 1 1)) z) fun t4 => if t4 = 0 then (some ((-13 : Int32), z)) else (bd (f_X6_settle z) fun z7 => wl4 (b_X6_film_50) fu x3 t3 (0 : Int32) z7)) else (some (t1, z))
set_option maxRecDepth 100000 in
set_option maxHeartbeats 4000000 in
theorem w_X6_film_50  {Z : Int32 × Sto} (F : Fx rC p s m args cd cX6_film 7 RX6 G) (hr : meth.sig.returnType = (some .int)) (hlk : meth.locks = false)  : ∀ (n : Nat), ∀ (x3 : Int32) (t_5 : Nat) (x6 : Int32) (z : Sto), wl4 (b_X6_film_50) n x3 t_5 x6 z = some Z → t_5 < 4 → ∀ {H : Heap} {locs : List Loc} {ls : Array Slot}, Hh rC G z s H locs → lv_has ls 7 [(0, .ref (G.1 0)), (3, .int x3), (5, .ref (G.1 (113 + 1 + 2 * t_5))), (6, .int x6)] → W p l e rmX6_film s m args below meth cd H locs 0 0 (MQ below (QI rC G Z.1 Z.2) args s 0 0 (Am rC G)) (F0 m 50 ls []) := by
  have hx := F.1
  have hb := F.2.1
  intro n
  induction n with
  | zero =>
    intro x3 t_5 x6 z hf
    exact absurd hf (by intro h; cases h)
  | succ n ih =>
    intro x3 t_5 x6 z hf ht_5 H locs ls hh hl
    replace hf : b_X6_film_50 (wl4 (b_X6_film_50) n) x3 t_5 x6 z = some Z := hf
    unfold b_X6_film_50 at hf
    refine lv_iload hx hb dX6_film_50 (lv_at hl 3 rfl) ?_
    refine lv_aload_n hx hb dX6_film_52 rfl (lv_at hl 0 rfl) ?_
    refine r_X6_12 (b' := 1) F hh in_0 sh_0 rfl dX6_film_53 ?_
    refine r_X6_90 F hh in_1 sh_1 dX6_film_56 ?_
    refine lv_icmp_ge (tgt := 88) hx hb dX6_film_59 (by decide) (fun c8 => ?_) (fun c8 => ?_)
    · replace hf := itp c8 hf
      refine lv_aload_n hx hb dX6_film_88 rfl (lv_at hl 0 rfl) ?_
      refine r_X6_12 (b' := 1) F hh in_0 sh_0 rfl dX6_film_89 ?_
      refine r_X6_90 F hh in_1 sh_1 dX6_film_92 ?_
      exact g_iretW F hr hlk hh hf dX6_film_95
    · replace hf := itn c8 hf
      refine lv_aload hx hb dX6_film_62 (lv_at hl 2 rfl) ?_
      refine r_X6_300 (b' := (113 + 1 + 2 * t_5 + 1)) F hh (roi0 (ro_of ht_5)) (ros0 (ro_of ht_5)) rfl dX6_film_64 ?_
      refine lv_iload_n hx hb dX6_film_67 rfl (lv_at hl 1 rfl) ?_
      refine lv_iload hx hb dX6_film_68 (lv_at hl 3 rfl) ?_
      refine lv_iadd hx hb dX6_film_70 ?_
      refine lv_aload_n hx hb dX6_film_71 rfl (lv_at hl 0 rfl) ?_
      refine r_X6_35 (b' := 95) F hh in_0 sh_0 rfl dX6_film_72 ?_
      refine lv_iload hx hb dX6_film_75 (lv_at hl 3 rfl) ?_
      obtain ⟨t9, ht9, hf⟩ := ob hf
      refine m_X6_307 F hh (c_X4_signOf ht9) in_95 sh_95 rfl hl (Nat.le_of_ble_eq_true rfl) dX6_film_77 (fun H locs hh => ?_)
      refine lv_i2l hx hb dX6_film_80 rfl ?_
      obtain ⟨z10, hz10, hf⟩ := ob hf
      refine g_last F hh (roi1 (ro_of ht_5)) (ros1 (ro_of ht_5)) hz10 dX6_film_81 (fun H locs hh => ?_)
      obtain ⟨x6_11, ex6_11⟩ : ∃ y : Int32, y = x6 + (1 : Int32) := ⟨_, rfl⟩
      replace hf := lt_e ex6_11 hf
      refine lv_iinc (v := x6_11) (lv' := [(6, .int x6_11), (0, .ref (G.1 0)), (3, .int x3), (5, .ref (G.1 (113 + 1 + 2 * t_5)))]) hx hb dX6_film_82 hl (k := 3) rfl (by rw [ex6_11]; rfl) (by decide) rfl (fun ls hl => ?_)
      refine lv_goto (tgt := 50) hx hb dX6_film_85 (by decide) ?_
      exact ih _ _ _ _ hf ht_5 hh (lv_sub hl [1, 2, 3, 0] rfl)
set_option maxRecDepth 100000 in
set_option maxHeartbeats 4000000 in
theorem w_X6_film {Z : Int32 × Sto} (F : Fx rC p s m args cd cX6_film 7 RX6 G) (hr : meth.sig.returnType = (some .int)) (hlk : meth.locks = false) {x1 : Int32} {x2 : Int32} {x3 : Int32} {z : Sto} {H : Heap} {locs : List Loc} {ls : Array Slot} (hf : f_X6_film x1 x2 x3 z = some Z) (hh : Hh rC G z s H locs) (hl : lv_has ls 7 [(0, .ref (G.1 0)), (1, .int x1), (2, .int x2), (3, .int x3)]) : W p l e rmX6_film s m args below meth cd H locs 0 0 (MQ below (QI rC G Z.1 Z.2) args s 0 0 (Am rC G)) (F0 m 0 ls []) := by
  have hx := F.1
  have hb := F.2.1
  unfold f_X6_film at hf
  refine lv_aload_n hx hb dX6_film_0 rfl (lv_at hl 0 rfl) ?_
  refine lv_iload_n hx hb dX6_film_1 rfl (lv_at hl 1 rfl) ?_
  refine lv_iload_n hx hb dX6_film_2 rfl (lv_at hl 2 rfl) ?_
  obtain ⟨t1, ht1, hf⟩ := ob hf
  refine m_X6_290 F hh (c_X6_refuseRow ht1) in_0 sh_0 rfl hl (Nat.le_of_ble_eq_true rfl) dX6_film_3 (fun H locs hh => ?_)
  refine lv_istore (lv' := [(4, .int t1), (0, .ref (G.1 0)), (1, .int x1), (2, .int x2), (3, .int x3)]) hx hb dX6_film_6 hl (by decide) rfl (fun ls hl => ?_)
  refine lv_iload hx hb dX6_film_8 (lv_at hl 0 rfl) ?_
  refine lv_if_eq (tgt := 16) hx hb dX6_film_10 (by decide) (fun c2 => ?_) (fun c2 => ?_)
  · replace hf := itp c2 hf
    refine lv_aload_n hx hb dX6_film_16 rfl (lv_at hl 1 rfl) ?_
    refine r_X6_55 (b' := 113) F hh in_0 sh_0 rfl dX6_film_17 ?_
    refine lv_iload_n hx hb dX6_film_20 rfl (lv_at hl 2 rfl) ?_
    obtain ⟨t3, ht3, hf⟩ := ob hf
    refine g_rald F hh in_113 sh_113 ht3 dX6_film_21 ?_
    refine lv_astore (lv' := [(5, .ref (G.1 (113 + 1 + 2 * t3))), (4, .int t1), (0, .ref (G.1 0)), (1, .int x1), (2, .int x2), (3, .int x3)]) hx hb dX6_film_22 hl (by decide) rfl (fun ls hl => ?_)
    refine lv_aload hx hb dX6_film_24 (lv_at hl 0 rfl) ?_
    refine lv_iload_n hx hb dX6_film_26 rfl (lv_at hl 5 rfl) ?_
    refine lv_aload_n hx hb dX6_film_27 rfl (lv_at hl 2 rfl) ?_
    refine r_X6_12 (b' := 1) F hh in_0 sh_0 rfl dX6_film_28 ?_
    refine r_X6_90 F hh in_1 sh_1 dX6_film_31 ?_
    obtain ⟨t4, ht4, hf⟩ := ob hf
    refine m_X6_293 F hh (c_X3_holds (ro_of (rdR_e ht3).2.2) ht4) (roi0 (ro_of (rdR_e ht3).2.2)) (ros0 (ro_of (rdR_e ht3).2.2)) rfl hl (Nat.le_of_ble_eq_true rfl) dX6_film_34 (fun H locs hh => ?_)
    refine lv_if_ne (tgt := 43) hx hb dX6_film_37 (by decide) (fun c5 => ?_) (fun c5 => ?_)
    · replace hf := itn c5 hf
      refine lv_aload_n hx hb dX6_film_43 rfl (lv_at hl 2 rfl) ?_
      obtain ⟨z7, ht6, hf⟩ := ob hf
      refine m_X6_122 F hh (c_X6_settle ht6) in_0 sh_0 rfl hl (Nat.le_of_ble_eq_true rfl) dX6_film_44 (fun H locs hh => ?_)
      refine lv_iconst (v := 0) hx hb dX6_film_47 (by decide) ?_
      refine lv_istore (lv' := [(6, .int (0 : Int32)), (5, .ref (G.1 (113 + 1 + 2 * t3))), (4, .int t1), (0, .ref (G.1 0)), (1, .int x1), (2, .int x2), (3, .int x3)]) hx hb dX6_film_48 hl (by decide) rfl (fun ls hl => ?_)
      exact w_X6_film_50 F hr hlk fu _ _ _ _ hf (rdR_e ht3).2.2 hh (lv_sub hl [3, 6, 1, 0] rfl)
    · replace hf := itp c5 hf
      refine lv_bipush (v := -13) hx hb dX6_film_40 (by decide) ?_
      exact g_iretW F hr hlk hh hf dX6_film_42
  · replace hf := itn c2 hf
    refine lv_iload hx hb dX6_film_13 (lv_at hl 0 rfl) ?_
    exact g_iretW F hr hlk hh hf dX6_film_15
theorem c_X6_film {l : Launch} {G : Gm} {x1 : Int32} {x2 : Int32} {x3 : Int32} {z : Sto} {Z : Int32 × Sto} (hf : f_X6_film x1 x2 x3 z = some Z) : Met l yX6_film (Cond.code yX6_film cX6_film 7 (some .int) :: TT) rmX6_film (va_Pc [.ref (G.1 0), .int x1, .int x2, .int x3] (GS rC G z)) (QI rC G Z.1 Z.2) 0 0 (Am rC G) := by
  refine g_met [(0, .ref (G.1 0)), (1, .int x1), (2, .int x2), (3, .int x3)] (by decide) (Nat.le_of_ble_eq_true rfl) rfl ?_
  intro p e s m below meth cd F hr hlk ls H locs hl hh
  exact w_X6_film F hr hlk hf hh hl
def f_X6_sheet (x1 : Int32) (x2 : Int32) (x3 : Int32) (z : Sto) : Option (Int32 × Sto) := bd (f_X6_isSheet x1 z) fun t1 => if t1 = 0 then (some ((-1 : Int32), z)) else (bd (f_X6_isLane x2 z) fun t3 => if t3 = 0 then (some ((-1 : Int32), z)) else (if x3 ≤ (24 : Int32) then (if 0 ≤ x3 then (bd (rdR 4 x1) fun t7 => bd (f_X3_begin (113 + 1 + 2 * t7) x2 x3 z) fun z9 => some (x3, z9)) else (some ((-14 : Int32), z))) else (some ((-1 : Int32), z))))
set_option maxRecDepth 100000 in
set_option maxHeartbeats 4000000 in
theorem w_X6_sheet {Z : Int32 × Sto} (F : Fx rC p s m args cd cX6_sheet 4 RX6 G) (hr : meth.sig.returnType = (some .int)) (hlk : meth.locks = false) {x1 : Int32} {x2 : Int32} {x3 : Int32} {z : Sto} {H : Heap} {locs : List Loc} {ls : Array Slot} (hf : f_X6_sheet x1 x2 x3 z = some Z) (hh : Hh rC G z s H locs) (hl : lv_has ls 4 [(0, .ref (G.1 0)), (1, .int x1), (2, .int x2), (3, .int x3)]) : W p l e rmX6_sheet s m args below meth cd H locs 0 0 (MQ below (QI rC G Z.1 Z.2) args s 0 0 (Am rC G)) (F0 m 0 ls []) := by
  have hx := F.1
  have hb := F.2.1
  unfold f_X6_sheet at hf
  refine lv_iload_n hx hb dX6_sheet_0 rfl (lv_at hl 1 rfl) ?_
  obtain ⟨t1, ht1, hf⟩ := ob hf
  refine m_X6_310 F hh (c_X6_isSheet ht1) rfl hl (Nat.le_of_ble_eq_true rfl) dX6_sheet_1 (fun H locs hh => ?_)
  refine lv_if_eq (tgt := 20) hx hb dX6_sheet_4 (by decide) (fun c2 => ?_) (fun c2 => ?_)
  · replace hf := itp c2 hf
    refine lv_iconst (v := -1) hx hb dX6_sheet_20 (by decide) ?_
    exact g_iretW F hr hlk hh hf dX6_sheet_21
  · replace hf := itn c2 hf
    refine lv_iload_n hx hb dX6_sheet_7 rfl (lv_at hl 2 rfl) ?_
    obtain ⟨t3, ht3, hf⟩ := ob hf
    refine m_X6_313 F hh (c_X6_isLane ht3) rfl hl (Nat.le_of_ble_eq_true rfl) dX6_sheet_8 (fun H locs hh => ?_)
    refine lv_if_eq (tgt := 20) hx hb dX6_sheet_11 (by decide) (fun c4 => ?_) (fun c4 => ?_)
    · replace hf := itp c4 hf
      refine lv_iconst (v := -1) hx hb dX6_sheet_20 (by decide) ?_
      exact g_iretW F hr hlk hh hf dX6_sheet_21
    · replace hf := itn c4 hf
      refine lv_iload_n hx hb dX6_sheet_14 rfl (lv_at hl 3 rfl) ?_
      refine lv_bipush (v := 24) hx hb dX6_sheet_15 (by decide) ?_
      refine lv_icmp_le (tgt := 22) hx hb dX6_sheet_17 (by decide) (fun c5 => ?_) (fun c5 => ?_)
      · replace hf := itp c5 hf
        refine lv_iload_n hx hb dX6_sheet_22 rfl (lv_at hl 3 rfl) ?_
        refine lv_if_ge (tgt := 29) hx hb dX6_sheet_23 (by decide) (fun c6 => ?_) (fun c6 => ?_)
        · replace hf := itp c6 hf
          refine lv_aload_n hx hb dX6_sheet_29 rfl (lv_at hl 0 rfl) ?_
          refine r_X6_55 (b' := 113) F hh in_0 sh_0 rfl dX6_sheet_30 ?_
          refine lv_iload_n hx hb dX6_sheet_33 rfl (lv_at hl 1 rfl) ?_
          obtain ⟨t7, ht7, hf⟩ := ob hf
          refine g_rald F hh in_113 sh_113 ht7 dX6_sheet_34 ?_
          refine lv_iload_n hx hb dX6_sheet_35 rfl (lv_at hl 2 rfl) ?_
          refine lv_iload_n hx hb dX6_sheet_36 rfl (lv_at hl 3 rfl) ?_
          obtain ⟨z9, ht8, hf⟩ := ob hf
          refine m_X6_316 F hh (c_X3_begin (ro_of (rdR_e ht7).2.2) ht8) (roi0 (ro_of (rdR_e ht7).2.2)) (ros0 (ro_of (rdR_e ht7).2.2)) rfl hl (Nat.le_of_ble_eq_true rfl) dX6_sheet_37 (fun H locs hh => ?_)
          refine lv_iload_n hx hb dX6_sheet_40 rfl (lv_at hl 3 rfl) ?_
          exact g_iretW F hr hlk hh hf dX6_sheet_41
        · replace hf := itn c6 hf
          refine lv_bipush (v := -14) hx hb dX6_sheet_26 (by decide) ?_
          exact g_iretW F hr hlk hh hf dX6_sheet_28
      · replace hf := itn c5 hf
        refine lv_iconst (v := -1) hx hb dX6_sheet_20 (by decide) ?_
        exact g_iretW F hr hlk hh hf dX6_sheet_21
theorem c_X6_sheet {l : Launch} {G : Gm} {x1 : Int32} {x2 : Int32} {x3 : Int32} {z : Sto} {Z : Int32 × Sto} (hf : f_X6_sheet x1 x2 x3 z = some Z) : Met l yX6_sheet (Cond.code yX6_sheet cX6_sheet 4 (some .int) :: TT) rmX6_sheet (va_Pc [.ref (G.1 0), .int x1, .int x2, .int x3] (GS rC G z)) (QI rC G Z.1 Z.2) 0 0 (Am rC G) := by
  refine g_met [(0, .ref (G.1 0)), (1, .int x1), (2, .int x2), (3, .int x3)] (by decide) (Nat.le_of_ble_eq_true rfl) rfl ?_
  intro p e s m below meth cd F hr hlk ls H locs hl hh
  exact w_X6_sheet F hr hlk hf hh hl
def f_X6_drop (x1 : Int32) (z : Sto) : Option (Int32 × Sto) := bd (f_X6_isSheet x1 z) fun t1 => if t1 = 0 then (some ((-1 : Int32), z)) else (bd (rdR 4 x1) fun t3 => if (z.1 (113 + 1 + 2 * t3) 0) = 0 then (some ((-11 : Int32), z)) else (bd (rdR 4 x1) fun t5 => lt (upI z (113 + 1 + 2 * t5) 0 (0 : Int32)) fun z6 => bd (rdR 4 x1) fun t7 => some ((z6.1 (113 + 1 + 2 * t7) 2), z6)))
set_option maxRecDepth 100000 in
set_option maxHeartbeats 4000000 in
theorem w_X6_drop {Z : Int32 × Sto} (F : Fx rC p s m args cd cX6_drop 2 RX6 G) (hr : meth.sig.returnType = (some .int)) (hlk : meth.locks = false) {x1 : Int32} {z : Sto} {H : Heap} {locs : List Loc} {ls : Array Slot} (hf : f_X6_drop x1 z = some Z) (hh : Hh rC G z s H locs) (hl : lv_has ls 2 [(0, .ref (G.1 0)), (1, .int x1)]) : W p l e rmX6_drop s m args below meth cd H locs 0 0 (MQ below (QI rC G Z.1 Z.2) args s 0 0 (Am rC G)) (F0 m 0 ls []) := by
  have hx := F.1
  have hb := F.2.1
  unfold f_X6_drop at hf
  refine lv_iload_n hx hb dX6_drop_0 rfl (lv_at hl 1 rfl) ?_
  obtain ⟨t1, ht1, hf⟩ := ob hf
  refine m_X6_310 F hh (c_X6_isSheet ht1) rfl hl (Nat.le_of_ble_eq_true rfl) dX6_drop_1 (fun H locs hh => ?_)
  refine lv_if_ne (tgt := 9) hx hb dX6_drop_4 (by decide) (fun c2 => ?_) (fun c2 => ?_)
  · replace hf := itn c2 hf
    refine lv_aload_n hx hb dX6_drop_9 rfl (lv_at hl 0 rfl) ?_
    refine r_X6_55 (b' := 113) F hh in_0 sh_0 rfl dX6_drop_10 ?_
    refine lv_iload_n hx hb dX6_drop_13 rfl (lv_at hl 1 rfl) ?_
    obtain ⟨t3, ht3, hf⟩ := ob hf
    refine g_rald F hh in_113 sh_113 ht3 dX6_drop_14 ?_
    refine r_X6_320 F hh (roi0 (ro_of (rdR_e ht3).2.2)) (ros0 (ro_of (rdR_e ht3).2.2)) dX6_drop_15 ?_
    refine lv_if_ne (tgt := 24) hx hb dX6_drop_18 (by decide) (fun c4 => ?_) (fun c4 => ?_)
    · replace hf := itn c4 hf
      refine lv_aload_n hx hb dX6_drop_24 rfl (lv_at hl 0 rfl) ?_
      refine r_X6_55 (b' := 113) F hh in_0 sh_0 rfl dX6_drop_25 ?_
      refine lv_iload_n hx hb dX6_drop_28 rfl (lv_at hl 1 rfl) ?_
      obtain ⟨t5, ht5, hf⟩ := ob hf
      refine g_rald F hh in_113 sh_113 ht5 dX6_drop_29 ?_
      refine lv_iconst (v := 0) hx hb dX6_drop_30 (by decide) ?_
      refine s_X6_320 F hh (roi0 (ro_of (rdR_e ht5).2.2)) (ros0 (ro_of (rdR_e ht5).2.2)) rfl rfl dX6_drop_31 (fun z6 ez6 H locs hh => ?_)
      replace hf := lt_e ez6 hf
      refine lv_aload_n hx hb dX6_drop_34 rfl (lv_at hl 0 rfl) ?_
      refine r_X6_55 (b' := 113) F hh in_0 sh_0 rfl dX6_drop_35 ?_
      refine lv_iload_n hx hb dX6_drop_38 rfl (lv_at hl 1 rfl) ?_
      obtain ⟨t7, ht7, hf⟩ := ob hf
      refine g_rald F hh in_113 sh_113 ht7 dX6_drop_39 ?_
      refine r_X6_323 F hh (roi0 (ro_of (rdR_e ht7).2.2)) (ros0 (ro_of (rdR_e ht7).2.2)) dX6_drop_40 ?_
      exact g_iretW F hr hlk hh hf dX6_drop_43
    · replace hf := itp c4 hf
      refine lv_bipush (v := -11) hx hb dX6_drop_21 (by decide) ?_
      exact g_iretW F hr hlk hh hf dX6_drop_23
  · replace hf := itp c2 hf
    refine lv_iconst (v := -1) hx hb dX6_drop_7 (by decide) ?_
    exact g_iretW F hr hlk hh hf dX6_drop_8
theorem c_X6_drop {l : Launch} {G : Gm} {x1 : Int32} {z : Sto} {Z : Int32 × Sto} (hf : f_X6_drop x1 z = some Z) : Met l yX6_drop (Cond.code yX6_drop cX6_drop 2 (some .int) :: TT) rmX6_drop (va_Pc [.ref (G.1 0), .int x1] (GS rC G z)) (QI rC G Z.1 Z.2) 0 0 (Am rC G) := by
  refine g_met [(0, .ref (G.1 0)), (1, .int x1)] (by decide) (Nat.le_of_ble_eq_true rfl) rfl ?_
  intro p e s m below meth cd F hr hlk ls H locs hl hh
  exact w_X6_drop F hr hlk hf hh hl
def f_X6_narrowed (x0 : Int32) (x1 : Int64) (z : Sto) : Option (Int64) := if x0 = 0 then (some (Int32.toInt64 (Int8.toInt32 (Int32.toInt8 (Int64.toInt32 x1))))) else (if x0 = 1 then (some (Int32.toInt64 (Int16.toInt32 (Int32.toInt16 (Int64.toInt32 x1))))) else (if x0 = 2 then (some (Int32.toInt64 (Int64.toInt32 x1))) else (some x1)))
set_option maxRecDepth 100000 in
set_option maxHeartbeats 4000000 in
theorem w_X6_narrowed {Z : Int64} (F : Fx rC p s m args cd cX6_narrowed 3 RX6 G) (hr : meth.sig.returnType = (some .long)) (hlk : meth.locks = false) {x0 : Int32} {x1 : Int64} {z : Sto} {H : Heap} {locs : List Loc} {ls : Array Slot} (hf : f_X6_narrowed x0 x1 z = some Z) (hh : Hh rC G z s H locs) (hl : lv_has ls 3 [(0, .int x0), (1, .long x1)]) : W p l e rmX6_narrowed s m args below meth cd H locs 0 0 (MQ below (QL rC G Z z) args s 0 0 (Am rC G)) (F0 m 0 ls []) := by
  have hx := F.1
  have hb := F.2.1
  unfold f_X6_narrowed at hf
  refine lv_iload_n hx hb dX6_narrowed_0 rfl (lv_at hl 0 rfl) ?_
  by_cases c1 : x0 = 0
  · replace hf := itp c1 hf
    refine lv_tableIn (tgt := 28) (off := 27) hx hb dX6_narrowed_1 (by rw [c1]; decide) (by rw [c1]; decide) (by rw [c1]; rfl) (by decide) ?_
    refine lv_lload_n hx hb dX6_narrowed_28 rfl (lv_at hl 1 rfl) ?_
    refine lv_l2i hx hb dX6_narrowed_29 rfl ?_
    refine lv_i2b hx hb dX6_narrowed_30 rfl ?_
    refine lv_i2l hx hb dX6_narrowed_31 rfl ?_
    exact g_lret F hr hlk hh (Option.some.inj hf) rfl dX6_narrowed_32
  replace hf := itn c1 hf
  by_cases c2 : x0 = 1
  · replace hf := itp c2 hf
    refine lv_tableIn (tgt := 33) (off := 32) hx hb dX6_narrowed_1 (by rw [c2]; decide) (by rw [c2]; decide) (by rw [c2]; rfl) (by decide) ?_
    refine lv_lload_n hx hb dX6_narrowed_33 rfl (lv_at hl 1 rfl) ?_
    refine lv_l2i hx hb dX6_narrowed_34 rfl ?_
    refine lv_i2s hx hb dX6_narrowed_35 rfl ?_
    refine lv_i2l hx hb dX6_narrowed_36 rfl ?_
    exact g_lret F hr hlk hh (Option.some.inj hf) rfl dX6_narrowed_37
  replace hf := itn c2 hf
  by_cases c3 : x0 = 2
  · replace hf := itp c3 hf
    refine lv_tableIn (tgt := 38) (off := 37) hx hb dX6_narrowed_1 (by rw [c3]; decide) (by rw [c3]; decide) (by rw [c3]; rfl) (by decide) ?_
    refine lv_lload_n hx hb dX6_narrowed_38 rfl (lv_at hl 1 rfl) ?_
    refine lv_l2i hx hb dX6_narrowed_39 rfl ?_
    refine lv_i2l hx hb dX6_narrowed_40 rfl ?_
    exact g_lret F hr hlk hh (Option.some.inj hf) rfl dX6_narrowed_41
  replace hf := itn c3 hf
  refine lv_tableOut (tgt := 42) hx hb dX6_narrowed_1 (tb_out3 c1 c2 c3) (by decide) ?_
  refine lv_lload_n hx hb dX6_narrowed_42 rfl (lv_at hl 1 rfl) ?_
  exact g_lret F hr hlk hh (Option.some.inj hf) rfl dX6_narrowed_43
theorem c_X6_narrowed {l : Launch} {G : Gm} {x0 : Int32} {x1 : Int64} {z : Sto} {Z : Int64} (hf : f_X6_narrowed x0 x1 z = some Z) : Met l yX6_narrowed (Cond.code yX6_narrowed cX6_narrowed 3 (some .long) :: TT) rmX6_narrowed (va_Pc [.int x0, .long x1] (GS rC G z)) (QL rC G Z z) 0 0 (Am rC G) := by
  refine g_met [(0, .int x0), (1, .long x1)] (by decide) (Nat.le_of_ble_eq_true rfl) rfl ?_
  intro p e s m below meth cd F hr hlk ls H locs hl hh
  exact w_X6_narrowed F hr hlk hf hh hl
def f_X6_item (x1 : Int32) (x2 : Int32) (x3 : Int32) (x4 : Int64) (z : Sto) : Option (Int32 × Sto) := bd (f_X6_refuseRow x1 x2 z) fun t1 => if t1 = 0 then (bd (rdR 4 x1) fun t3 => bd (f_X3_holds (113 + 1 + 2 * t3) x3 (1 : Int32) z) fun t4 => if t4 = 0 then (some ((-13 : Int32), z)) else (bd (rdR 4 x1) fun t6 => bd (f_X6_narrowed x2 x4 z) fun t7 => bd (wrL z (113 + 1 + 2 * t6 + 1) 24 x3 t7) fun z8 => some ((1 : Int32), z8))) else (some (t1, z))
set_option maxRecDepth 100000 in
set_option maxHeartbeats 4000000 in
theorem w_X6_item {Z : Int32 × Sto} (F : Fx rC p s m args cd cX6_item 7 RX6 G) (hr : meth.sig.returnType = (some .int)) (hlk : meth.locks = false) {x1 : Int32} {x2 : Int32} {x3 : Int32} {x4 : Int64} {z : Sto} {H : Heap} {locs : List Loc} {ls : Array Slot} (hf : f_X6_item x1 x2 x3 x4 z = some Z) (hh : Hh rC G z s H locs) (hl : lv_has ls 7 [(0, .ref (G.1 0)), (1, .int x1), (2, .int x2), (3, .int x3), (4, .long x4)]) : W p l e rmX6_item s m args below meth cd H locs 0 0 (MQ below (QI rC G Z.1 Z.2) args s 0 0 (Am rC G)) (F0 m 0 ls []) := by
  have hx := F.1
  have hb := F.2.1
  unfold f_X6_item at hf
  refine lv_aload_n hx hb dX6_item_0 rfl (lv_at hl 0 rfl) ?_
  refine lv_iload_n hx hb dX6_item_1 rfl (lv_at hl 1 rfl) ?_
  refine lv_iload_n hx hb dX6_item_2 rfl (lv_at hl 2 rfl) ?_
  obtain ⟨t1, ht1, hf⟩ := ob hf
  refine m_X6_290 F hh (c_X6_refuseRow ht1) in_0 sh_0 rfl hl (Nat.le_of_ble_eq_true rfl) dX6_item_3 (fun H locs hh => ?_)
  refine lv_istore (lv' := [(6, .int t1), (0, .ref (G.1 0)), (1, .int x1), (2, .int x2), (3, .int x3), (4, .long x4)]) hx hb dX6_item_6 hl (by decide) rfl (fun ls hl => ?_)
  refine lv_iload hx hb dX6_item_8 (lv_at hl 0 rfl) ?_
  refine lv_if_eq (tgt := 16) hx hb dX6_item_10 (by decide) (fun c2 => ?_) (fun c2 => ?_)
  · replace hf := itp c2 hf
    refine lv_aload_n hx hb dX6_item_16 rfl (lv_at hl 1 rfl) ?_
    refine r_X6_55 (b' := 113) F hh in_0 sh_0 rfl dX6_item_17 ?_
    refine lv_iload_n hx hb dX6_item_20 rfl (lv_at hl 2 rfl) ?_
    obtain ⟨t3, ht3, hf⟩ := ob hf
    refine g_rald F hh in_113 sh_113 ht3 dX6_item_21 ?_
    refine lv_iload_n hx hb dX6_item_22 rfl (lv_at hl 4 rfl) ?_
    refine lv_iconst (v := 1) hx hb dX6_item_23 (by decide) ?_
    obtain ⟨t4, ht4, hf⟩ := ob hf
    refine m_X6_293 F hh (c_X3_holds (ro_of (rdR_e ht3).2.2) ht4) (roi0 (ro_of (rdR_e ht3).2.2)) (ros0 (ro_of (rdR_e ht3).2.2)) rfl hl (Nat.le_of_ble_eq_true rfl) dX6_item_24 (fun H locs hh => ?_)
    refine lv_if_ne (tgt := 33) hx hb dX6_item_27 (by decide) (fun c5 => ?_) (fun c5 => ?_)
    · replace hf := itn c5 hf
      refine lv_aload_n hx hb dX6_item_33 rfl (lv_at hl 1 rfl) ?_
      refine r_X6_55 (b' := 113) F hh in_0 sh_0 rfl dX6_item_34 ?_
      refine lv_iload_n hx hb dX6_item_37 rfl (lv_at hl 2 rfl) ?_
      obtain ⟨t6, ht6, hf⟩ := ob hf
      refine g_rald F hh in_113 sh_113 ht6 dX6_item_38 ?_
      refine r_X6_300 (b' := (113 + 1 + 2 * t6 + 1)) F hh (roi0 (ro_of (rdR_e ht6).2.2)) (ros0 (ro_of (rdR_e ht6).2.2)) rfl dX6_item_39 ?_
      refine lv_iload_n hx hb dX6_item_42 rfl (lv_at hl 4 rfl) ?_
      refine lv_iload_n hx hb dX6_item_43 rfl (lv_at hl 3 rfl) ?_
      refine lv_lload hx hb dX6_item_44 (lv_at hl 5 rfl) ?_
      obtain ⟨t7, ht7, hf⟩ := ob hf
      refine m_X6_324 F hh (c_X6_narrowed ht7) rfl hl (Nat.le_of_ble_eq_true rfl) dX6_item_46 (fun H locs hh => ?_)
      obtain ⟨z8, hz8, hf⟩ := ob hf
      refine g_last F hh (roi1 (ro_of (rdR_e ht6).2.2)) (ros1 (ro_of (rdR_e ht6).2.2)) hz8 dX6_item_49 (fun H locs hh => ?_)
      refine lv_iconst (v := 1) hx hb dX6_item_50 (by decide) ?_
      exact g_iretW F hr hlk hh hf dX6_item_51
    · replace hf := itp c5 hf
      refine lv_bipush (v := -13) hx hb dX6_item_30 (by decide) ?_
      exact g_iretW F hr hlk hh hf dX6_item_32
  · replace hf := itn c2 hf
    refine lv_iload hx hb dX6_item_13 (lv_at hl 0 rfl) ?_
    exact g_iretW F hr hlk hh hf dX6_item_15
theorem c_X6_item {l : Launch} {G : Gm} {x1 : Int32} {x2 : Int32} {x3 : Int32} {x4 : Int64} {z : Sto} {Z : Int32 × Sto} (hf : f_X6_item x1 x2 x3 x4 z = some Z) : Met l yX6_item (Cond.code yX6_item cX6_item 7 (some .int) :: TT) rmX6_item (va_Pc [.ref (G.1 0), .int x1, .int x2, .int x3, .long x4] (GS rC G z)) (QI rC G Z.1 Z.2) 0 0 (Am rC G) := by
  refine g_met [(0, .ref (G.1 0)), (1, .int x1), (2, .int x2), (3, .int x3), (4, .long x4)] (by decide) (Nat.le_of_ble_eq_true rfl) rfl ?_
  intro p e s m below meth cd F hr hlk ls H locs hl hh
  exact w_X6_item F hr hlk hf hh hl
def f_X6_copy (x1 : Int32) (x2 : Int32) (x3 : Int32) (x4 : Int32) (x5 : Int32) (z : Sto) : Option (Int32 × Sto) := bd (f_X6_isSheet x1 z) fun t1 => if t1 = 0 then (some ((-1 : Int32), z)) else (bd (f_X6_isSheet x3 z) fun t3 => if t3 = 0 then (some ((-1 : Int32), z)) else (bd (rdR 4 x1) fun t5 => bd (rdR 4 x3) fun t6 => if (z.1 (113 + 1 + 2 * t5) 0) = 0 then (some ((-11 : Int32), z)) else (if (z.1 (113 + 1 + 2 * t6) 0) = 0 then (some ((-11 : Int32), z)) else (if (z.1 (113 + 1 + 2 * t5) 1) = (z.1 (113 + 1 + 2 * t6) 1) then (bd (f_X3_holds (113 + 1 + 2 * t5) x2 x5 z) fun t10 => if t10 = 0 then (some ((-13 : Int32), z)) else (bd (f_X3_holds (113 + 1 + 2 * t6) x4 x5 z) fun t12 => if t12 = 0 then (some ((-13 : Int32), z)) else (bd (cpL z (113 + 1 + 2 * t5 + 1) 24 x2 (113 + 1 + 2 * t6 + 1) 24 x4 x5) fun z14 => some (x5, z14)))) else (some ((-12 : Int32), z))))))
set_option maxRecDepth 100000 in
set_option maxHeartbeats 4000000 in
theorem w_X6_copy {Z : Int32 × Sto} (F : Fx rC p s m args cd cX6_copy 8 RX6 G) (hr : meth.sig.returnType = (some .int)) (hlk : meth.locks = false) {x1 : Int32} {x2 : Int32} {x3 : Int32} {x4 : Int32} {x5 : Int32} {z : Sto} {H : Heap} {locs : List Loc} {ls : Array Slot} (hf : f_X6_copy x1 x2 x3 x4 x5 z = some Z) (hh : Hh rC G z s H locs) (hl : lv_has ls 8 [(0, .ref (G.1 0)), (1, .int x1), (2, .int x2), (3, .int x3), (4, .int x4), (5, .int x5)]) : W p l e rmX6_copy s m args below meth cd H locs 0 0 (MQ below (QI rC G Z.1 Z.2) args s 0 0 (Am rC G)) (F0 m 0 ls []) := by
  have hx := F.1
  have hb := F.2.1
  unfold f_X6_copy at hf
  refine lv_iload_n hx hb dX6_copy_0 rfl (lv_at hl 1 rfl) ?_
  obtain ⟨t1, ht1, hf⟩ := ob hf
  refine m_X6_310 F hh (c_X6_isSheet ht1) rfl hl (Nat.le_of_ble_eq_true rfl) dX6_copy_1 (fun H locs hh => ?_)
  refine lv_if_eq (tgt := 14) hx hb dX6_copy_4 (by decide) (fun c2 => ?_) (fun c2 => ?_)
  · replace hf := itp c2 hf
    refine lv_iconst (v := -1) hx hb dX6_copy_14 (by decide) ?_
    exact g_iretW F hr hlk hh hf dX6_copy_15
  · replace hf := itn c2 hf
    refine lv_iload_n hx hb dX6_copy_7 rfl (lv_at hl 3 rfl) ?_
    obtain ⟨t3, ht3, hf⟩ := ob hf
    refine m_X6_310 F hh (c_X6_isSheet ht3) rfl hl (Nat.le_of_ble_eq_true rfl) dX6_copy_8 (fun H locs hh => ?_)
    refine lv_if_ne (tgt := 16) hx hb dX6_copy_11 (by decide) (fun c4 => ?_) (fun c4 => ?_)
    · replace hf := itn c4 hf
      refine lv_aload_n hx hb dX6_copy_16 rfl (lv_at hl 0 rfl) ?_
      refine r_X6_55 (b' := 113) F hh in_0 sh_0 rfl dX6_copy_17 ?_
      refine lv_iload_n hx hb dX6_copy_20 rfl (lv_at hl 1 rfl) ?_
      obtain ⟨t5, ht5, hf⟩ := ob hf
      refine g_rald F hh in_113 sh_113 ht5 dX6_copy_21 ?_
      refine lv_astore (lv' := [(6, .ref (G.1 (113 + 1 + 2 * t5))), (0, .ref (G.1 0)), (1, .int x1), (2, .int x2), (3, .int x3), (4, .int x4), (5, .int x5)]) hx hb dX6_copy_22 hl (by decide) rfl (fun ls hl => ?_)
      refine lv_aload_n hx hb dX6_copy_24 rfl (lv_at hl 1 rfl) ?_
      refine r_X6_55 (b' := 113) F hh in_0 sh_0 rfl dX6_copy_25 ?_
      refine lv_iload_n hx hb dX6_copy_28 rfl (lv_at hl 4 rfl) ?_
      obtain ⟨t6, ht6, hf⟩ := ob hf
      refine g_rald F hh in_113 sh_113 ht6 dX6_copy_29 ?_
      refine lv_astore (lv' := [(7, .ref (G.1 (113 + 1 + 2 * t6))), (6, .ref (G.1 (113 + 1 + 2 * t5))), (0, .ref (G.1 0)), (1, .int x1), (2, .int x2), (3, .int x3), (4, .int x4), (5, .int x5)]) hx hb dX6_copy_30 hl (by decide) rfl (fun ls hl => ?_)
      refine lv_aload hx hb dX6_copy_32 (lv_at hl 1 rfl) ?_
      refine r_X6_320 F hh (roi0 (ro_of (rdR_e ht5).2.2)) (ros0 (ro_of (rdR_e ht5).2.2)) dX6_copy_34 ?_
      refine lv_if_eq (tgt := 48) hx hb dX6_copy_37 (by decide) (fun c7 => ?_) (fun c7 => ?_)
      · replace hf := itp c7 hf
        refine lv_bipush (v := -11) hx hb dX6_copy_48 (by decide) ?_
        exact g_iretW F hr hlk hh hf dX6_copy_50
      · replace hf := itn c7 hf
        refine lv_aload hx hb dX6_copy_40 (lv_at hl 0 rfl) ?_
        refine r_X6_320 F hh (roi0 (ro_of (rdR_e ht6).2.2)) (ros0 (ro_of (rdR_e ht6).2.2)) dX6_copy_42 ?_
        refine lv_if_ne (tgt := 51) hx hb dX6_copy_45 (by decide) (fun c8 => ?_) (fun c8 => ?_)
        · replace hf := itn c8 hf
          refine lv_aload hx hb dX6_copy_51 (lv_at hl 1 rfl) ?_
          refine r_X6_328 F hh (roi0 (ro_of (rdR_e ht5).2.2)) (ros0 (ro_of (rdR_e ht5).2.2)) dX6_copy_53 ?_
          refine lv_aload hx hb dX6_copy_56 (lv_at hl 0 rfl) ?_
          refine r_X6_328 F hh (roi0 (ro_of (rdR_e ht6).2.2)) (ros0 (ro_of (rdR_e ht6).2.2)) dX6_copy_58 ?_
          refine lv_icmp_eq (tgt := 67) hx hb dX6_copy_61 (by decide) (fun c9 => ?_) (fun c9 => ?_)
          · replace hf := itp c9 hf
            refine lv_aload hx hb dX6_copy_67 (lv_at hl 1 rfl) ?_
            refine lv_iload_n hx hb dX6_copy_69 rfl (lv_at hl 4 rfl) ?_
            refine lv_iload hx hb dX6_copy_70 (lv_at hl 7 rfl) ?_
            obtain ⟨t10, ht10, hf⟩ := ob hf
            refine m_X6_293 F hh (c_X3_holds (ro_of (rdR_e ht5).2.2) ht10) (roi0 (ro_of (rdR_e ht5).2.2)) (ros0 (ro_of (rdR_e ht5).2.2)) rfl hl (Nat.le_of_ble_eq_true rfl) dX6_copy_72 (fun H locs hh => ?_)
            refine lv_if_eq (tgt := 90) hx hb dX6_copy_75 (by decide) (fun c11 => ?_) (fun c11 => ?_)
            · replace hf := itp c11 hf
              refine lv_bipush (v := -13) hx hb dX6_copy_90 (by decide) ?_
              exact g_iretW F hr hlk hh hf dX6_copy_92
            · replace hf := itn c11 hf
              refine lv_aload hx hb dX6_copy_78 (lv_at hl 0 rfl) ?_
              refine lv_iload hx hb dX6_copy_80 (lv_at hl 6 rfl) ?_
              refine lv_iload hx hb dX6_copy_82 (lv_at hl 7 rfl) ?_
              obtain ⟨t12, ht12, hf⟩ := ob hf
              refine m_X6_293 F hh (c_X3_holds (ro_of (rdR_e ht6).2.2) ht12) (roi0 (ro_of (rdR_e ht6).2.2)) (ros0 (ro_of (rdR_e ht6).2.2)) rfl hl (Nat.le_of_ble_eq_true rfl) dX6_copy_84 (fun H locs hh => ?_)
              refine lv_if_ne (tgt := 93) hx hb dX6_copy_87 (by decide) (fun c13 => ?_) (fun c13 => ?_)
              · replace hf := itn c13 hf
                refine lv_aload hx hb dX6_copy_93 (lv_at hl 1 rfl) ?_
                refine r_X6_300 (b' := (113 + 1 + 2 * t5 + 1)) F hh (roi0 (ro_of (rdR_e ht5).2.2)) (ros0 (ro_of (rdR_e ht5).2.2)) rfl dX6_copy_95 ?_
                refine lv_iload_n hx hb dX6_copy_98 rfl (lv_at hl 4 rfl) ?_
                refine lv_aload hx hb dX6_copy_99 (lv_at hl 0 rfl) ?_
                refine r_X6_300 (b' := (113 + 1 + 2 * t6 + 1)) F hh (roi0 (ro_of (rdR_e ht6).2.2)) (ros0 (ro_of (rdR_e ht6).2.2)) rfl dX6_copy_101 ?_
                refine lv_iload hx hb dX6_copy_104 (lv_at hl 6 rfl) ?_
                refine lv_iload hx hb dX6_copy_106 (lv_at hl 7 rfl) ?_
                obtain ⟨z14, hz14, hf⟩ := ob hf
                refine g_cpL F hh (roi1 (ro_of (rdR_e ht5).2.2)) (ros1 (ro_of (rdR_e ht5).2.2)) (roi1 (ro_of (rdR_e ht6).2.2)) (ros1 (ro_of (rdR_e ht6).2.2)) hz14 hl lk870 (Nat.le_of_ble_eq_true rfl) (Nat.le_of_ble_eq_true rfl) dX6_copy_108 (fun H locs hh => ?_)
                refine lv_iload hx hb dX6_copy_111 (lv_at hl 7 rfl) ?_
                exact g_iretW F hr hlk hh hf dX6_copy_113
              · replace hf := itp c13 hf
                refine lv_bipush (v := -13) hx hb dX6_copy_90 (by decide) ?_
                exact g_iretW F hr hlk hh hf dX6_copy_92
          · replace hf := itn c9 hf
            refine lv_bipush (v := -12) hx hb dX6_copy_64 (by decide) ?_
            exact g_iretW F hr hlk hh hf dX6_copy_66
        · replace hf := itp c8 hf
          refine lv_bipush (v := -11) hx hb dX6_copy_48 (by decide) ?_
          exact g_iretW F hr hlk hh hf dX6_copy_50
    · replace hf := itp c4 hf
      refine lv_iconst (v := -1) hx hb dX6_copy_14 (by decide) ?_
      exact g_iretW F hr hlk hh hf dX6_copy_15
theorem c_X6_copy {l : Launch} {G : Gm} {x1 : Int32} {x2 : Int32} {x3 : Int32} {x4 : Int32} {x5 : Int32} {z : Sto} {Z : Int32 × Sto} (hf : f_X6_copy x1 x2 x3 x4 x5 z = some Z) : Met l yX6_copy (Cond.code yX6_copy cX6_copy 8 (some .int) :: TT) rmX6_copy (va_Pc [.ref (G.1 0), .int x1, .int x2, .int x3, .int x4, .int x5] (GS rC G z)) (QI rC G Z.1 Z.2) 0 0 (Am rC G) := by
  refine g_met [(0, .ref (G.1 0)), (1, .int x1), (2, .int x2), (3, .int x3), (4, .int x4), (5, .int x5)] (by decide) (Nat.le_of_ble_eq_true rfl) rfl ?_
  intro p e s m below meth cd F hr hlk ls H locs hl hh
  exact w_X6_copy F hr hlk hf hh hl
