variable {p : Program} {l : Launch} {e : Env} {s : State} {m : MethodId} {args : Array Value} {below : List Frame} {meth : Method} {cd : Code} {G : Gm}

def f_X0_has (x1 : Int32) (z : Sto) : Option (Int32) := if x1 < 0 then (some (0 : Int32)) else (if (z.1 100 0) ≤ x1 then (some (0 : Int32)) else (some (1 : Int32)))
set_option maxRecDepth 100000 in
set_option maxHeartbeats 4000000 in
theorem w_X0_has {Z : Int32} (F : Fx rC p s m args cd cX0_has 2 RX0 G) (hr : meth.sig.returnType = (some .boolean)) (hlk : meth.locks = false) {x1 : Int32} {z : Sto} {H : Heap} {locs : List Loc} {ls : Array Slot} (hf : f_X0_has x1 z = some Z) (hh : Hh rC G z s H locs) (hl : lv_has ls 2 [(0, .ref (G.1 100)), (1, .int x1)]) : W p l e rmX0_has s m args below meth cd H locs 0 0 (MQ below (QI rC G Z z) args s 0 0 (Am rC G)) (F0 m 0 ls []) := by
  have hx := F.1
  have hb := F.2.1
  unfold f_X0_has at hf
  refine lv_iload_n hx hb dX0_has_0 rfl (lv_at hl 1 rfl) ?_
  refine lv_if_lt (tgt := 16) hx hb dX0_has_1 (by decide) (fun c1 => ?_) (fun c1 => ?_)
  · replace hf := itp c1 hf
    refine lv_iconst (v := 0) hx hb dX0_has_16 (by decide) ?_
    exact g_zret F hr hlk rfl hh (Option.some.inj hf) rfl dX0_has_17
  · replace hf := itn c1 hf
    refine lv_iload_n hx hb dX0_has_4 rfl (lv_at hl 1 rfl) ?_
    refine lv_aload_n hx hb dX0_has_5 rfl (lv_at hl 0 rfl) ?_
    refine r_X0_48 F hh in_100 sh_100 dX0_has_6 ?_
    refine lv_icmp_ge (tgt := 16) hx hb dX0_has_9 (by decide) (fun c2 => ?_) (fun c2 => ?_)
    · replace hf := itp c2 hf
      refine lv_iconst (v := 0) hx hb dX0_has_16 (by decide) ?_
      exact g_zret F hr hlk rfl hh (Option.some.inj hf) rfl dX0_has_17
    · replace hf := itn c2 hf
      refine lv_iconst (v := 1) hx hb dX0_has_12 (by decide) ?_
      refine lv_goto (tgt := 17) hx hb dX0_has_13 (by decide) ?_
      exact g_zret F hr hlk rfl hh (Option.some.inj hf) rfl dX0_has_17
theorem c_X0_has {l : Launch} {G : Gm} {x1 : Int32} {z : Sto} {Z : Int32} (hf : f_X0_has x1 z = some Z) : Met l yX0_has (Cond.code yX0_has cX0_has 2 (some .boolean) :: TT) rmX0_has (va_Pc [.ref (G.1 100), .int x1] (GS rC G z)) (QI rC G Z z) 0 0 (Am rC G) := by
  refine g_met [(0, .ref (G.1 100)), (1, .int x1)] (by decide) (Nat.le_of_ble_eq_true rfl) rfl ?_
  intro p e s m below meth cd F hr hlk ls H locs hl hh
  exact w_X0_has F hr hlk hf hh hl
def f_X0_planeNumber (x1 : Int32) (x2 : Int32) (z : Sto) : Option (Int64) := if x2 = 0 then (bd (rdL z 108 18 x1) fun t2 => some (-t2)) else (if x2 = 1 then (bd (rdL z 107 18 x1) fun t4 => some t4) else (bd (rdL z 109 18 x1) fun t5 => some t5))
set_option maxRecDepth 100000 in
set_option maxHeartbeats 4000000 in
theorem w_X0_planeNumber {Z : Int64} (F : Fx rC p s m args cd cX0_planeNumber 3 RX0 G) (hr : meth.sig.returnType = (some .long)) (hlk : meth.locks = false) {x1 : Int32} {x2 : Int32} {z : Sto} {H : Heap} {locs : List Loc} {ls : Array Slot} (hf : f_X0_planeNumber x1 x2 z = some Z) (hh : Hh rC G z s H locs) (hl : lv_has ls 3 [(0, .ref (G.1 100)), (1, .int x1), (2, .int x2)]) : W p l e rmX0_planeNumber s m args below meth cd H locs 0 0 (MQ below (QL rC G Z z) args s 0 0 (Am rC G)) (F0 m 0 ls []) := by
  have hx := F.1
  have hb := F.2.1
  unfold f_X0_planeNumber at hf
  refine lv_iload_n hx hb dX0_planeNumber_0 rfl (lv_at hl 2 rfl) ?_
  by_cases c1 : x2 = 0
  · replace hf := itp c1 hf
    refine lv_lookup (tgt := 28) (off := 27) hx hb dX0_planeNumber_1 (by decide) (by rw [c1]; decide) (by decide) ?_
    refine lv_aload_n hx hb dX0_planeNumber_28 rfl (lv_at hl 0 rfl) ?_
    refine r_X0_38 (b' := 108) F hh in_100 sh_100 rfl dX0_planeNumber_29 ?_
    refine lv_iload_n hx hb dX0_planeNumber_32 rfl (lv_at hl 1 rfl) ?_
    obtain ⟨t2, ht2, hf⟩ := ob hf
    refine g_lald F hh in_108 sh_108 ht2 dX0_planeNumber_33 ?_
    refine lv_lneg hx hb dX0_planeNumber_34 ?_
    exact g_lret F hr hlk hh (Option.some.inj hf) rfl dX0_planeNumber_35
  replace hf := itn c1 hf
  by_cases c3 : x2 = 1
  · replace hf := itp c3 hf
    refine lv_lookup (tgt := 36) (off := 35) hx hb dX0_planeNumber_1 (by decide) (by rw [c3]; decide) (by decide) ?_
    refine lv_aload_n hx hb dX0_planeNumber_36 rfl (lv_at hl 0 rfl) ?_
    refine r_X0_34 (b' := 107) F hh in_100 sh_100 rfl dX0_planeNumber_37 ?_
    refine lv_iload_n hx hb dX0_planeNumber_40 rfl (lv_at hl 1 rfl) ?_
    obtain ⟨t4, ht4, hf⟩ := ob hf
    refine g_lald F hh in_107 sh_107 ht4 dX0_planeNumber_41 ?_
    exact g_lret F hr hlk hh (Option.some.inj hf) rfl dX0_planeNumber_42
  replace hf := itn c3 hf
  refine lv_lookup (tgt := 43) (off := 42) hx hb dX0_planeNumber_1 (by decide) (lk_out2 c1 c3) (by decide) ?_
  refine lv_aload_n hx hb dX0_planeNumber_43 rfl (lv_at hl 0 rfl) ?_
  refine r_X0_41 (b' := 109) F hh in_100 sh_100 rfl dX0_planeNumber_44 ?_
  refine lv_iload_n hx hb dX0_planeNumber_47 rfl (lv_at hl 1 rfl) ?_
  obtain ⟨t5, ht5, hf⟩ := ob hf
  refine g_lald F hh in_109 sh_109 ht5 dX0_planeNumber_48 ?_
  exact g_lret F hr hlk hh (Option.some.inj hf) rfl dX0_planeNumber_49
theorem c_X0_planeNumber {l : Launch} {G : Gm} {x1 : Int32} {x2 : Int32} {z : Sto} {Z : Int64} (hf : f_X0_planeNumber x1 x2 z = some Z) : Met l yX0_planeNumber (Cond.code yX0_planeNumber cX0_planeNumber 3 (some .long) :: TT) rmX0_planeNumber (va_Pc [.ref (G.1 100), .int x1, .int x2] (GS rC G z)) (QL rC G Z z) 0 0 (Am rC G) := by
  refine g_met [(0, .ref (G.1 100)), (1, .int x1), (2, .int x2)] (by decide) (Nat.le_of_ble_eq_true rfl) rfl ?_
  intro p e s m below meth cd F hr hlk ls H locs hl hh
  exact w_X0_planeNumber F hr hlk hf hh hl
def b_X0_heightAt_2 (z : Sto)  (ag2 : Int32 → Int32 → Option (Int64)) (x2 : Int32) (x3 : Int32) : Option (Int64) := if ((2 : Int32) * (z.1 1 1)) ≤ x3 then (some (0 : Int64)) else (bd (f_X1_startOf 1 x3 z) fun t2 => if t2 = x2 then (bd (rdI z 103 18 x3) fun t5 => bd (rdL z 107 18 t5) fun t6 => bd (rdI z 3 6 x2) fun t7 => bd (rdL z 108 18 t5) fun t8 => bd (rdI z 2 6 x2) fun t9 => bd (rdL z 109 18 t5) fun t10 => some (((t6 * (Int32.toInt64 t7)) - (t8 * (Int32.toInt64 t9))) + t10)) else (lt (x3 + (1 : Int32)) fun x3_4 => ag2 x2 x3_4))
def f_X0_heightAt (x2 : Int32) (z : Sto) : Option (Int64) := wl2 (b_X0_heightAt_2 z) fu x2 (0 : Int32)
set_option maxRecDepth 100000 in
set_option maxHeartbeats 4000000 in
theorem w_X0_heightAt_2 {z : Sto}  {Z : Int64} (F : Fx rC p s m args cd cX0_heightAt 5 RX0 G) (hr : meth.sig.returnType = (some .long)) (hlk : meth.locks = false)  : ∀ (n : Nat), ∀ (x2 : Int32) (x3 : Int32), wl2 (b_X0_heightAt_2 z) n x2 x3 = some Z → ∀ {H : Heap} {locs : List Loc} {ls : Array Slot}, Hh rC G z s H locs → lv_has ls 5 [(0, .ref (G.1 100)), (1, .ref (G.1 1)), (2, .int x2), (3, .int x3)] → W p l e rmX0_heightAt s m args below meth cd H locs 0 0 (MQ below (QL rC G Z z) args s 0 0 (Am rC G)) (F0 m 2 ls []) := by
  have hx := F.1
  have hb := F.2.1
  intro n
  induction n with
  | zero =>
    intro x2 x3 hf
    exact absurd hf (by intro h; cases h)
  | succ n ih =>
    intro x2 x3 hf  H locs ls hh hl
    replace hf : b_X0_heightAt_2 z (wl2 (b_X0_heightAt_2 z) n) x2 x3 = some Z := hf
    unfold b_X0_heightAt_2 at hf
    refine lv_iload_n hx hb dX0_heightAt_2 rfl (lv_at hl 3 rfl) ?_
    refine lv_iconst (v := 2) hx hb dX0_heightAt_3 (by decide) ?_
    refine lv_aload_n hx hb dX0_heightAt_4 rfl (lv_at hl 1 rfl) ?_
    refine r_X0_51 F hh in_1 sh_1 dX0_heightAt_5 ?_
    refine lv_imul hx hb dX0_heightAt_8 ?_
    refine lv_icmp_ge (tgt := 75) hx hb dX0_heightAt_9 (by decide) (fun c1 => ?_) (fun c1 => ?_)
    · replace hf := itp c1 hf
      refine lv_lconst (v := 0) hx hb dX0_heightAt_75 (by decide) ?_
      exact g_lret F hr hlk hh (Option.some.inj hf) rfl dX0_heightAt_76
    · replace hf := itn c1 hf
      refine lv_aload_n hx hb dX0_heightAt_12 rfl (lv_at hl 1 rfl) ?_
      refine lv_iload_n hx hb dX0_heightAt_13 rfl (lv_at hl 3 rfl) ?_
      obtain ⟨t2, ht2, hf⟩ := ob hf
      refine m_X0_56 F hh (c_X1_startOf fr_1 ht2) in_1 sh_1 rfl hl (Nat.le_of_ble_eq_true rfl) dX0_heightAt_14 (fun H locs hh => ?_)
      refine lv_iload_n hx hb dX0_heightAt_17 rfl (lv_at hl 2 rfl) ?_
      refine lv_icmp_ne (tgt := 69) hx hb dX0_heightAt_18 (by decide) (fun c3 => ?_) (fun c3 => ?_)
      · replace hf := itn c3 hf
        obtain ⟨x3_4, ex3_4⟩ : ∃ y : Int32, y = x3 + (1 : Int32) := ⟨_, rfl⟩
        replace hf := lt_e ex3_4 hf
        refine lv_iinc (v := x3_4) (lv' := [(3, .int x3_4), (0, .ref (G.1 100)), (1, .ref (G.1 1)), (2, .int x2)]) hx hb dX0_heightAt_69 hl (k := 3) rfl (by rw [ex3_4]; rfl) (by decide) rfl (fun ls hl => ?_)
        refine lv_goto (tgt := 2) hx hb dX0_heightAt_72 (by decide) ?_
        exact ih _ _ hf  hh (lv_sub hl [1, 2, 3, 0] rfl)
      · replace hf := itp c3 hf
        refine lv_aload_n hx hb dX0_heightAt_21 rfl (lv_at hl 0 rfl) ?_
        refine r_X0_22 (b' := 103) F hh in_100 sh_100 rfl dX0_heightAt_22 ?_
        refine lv_iload_n hx hb dX0_heightAt_25 rfl (lv_at hl 3 rfl) ?_
        obtain ⟨t5, ht5, hf⟩ := ob hf
        refine g_iald F hh in_103 sh_103 ht5 dX0_heightAt_26 ?_
        refine lv_istore (lv' := [(4, .int t5), (0, .ref (G.1 100)), (1, .ref (G.1 1)), (2, .int x2), (3, .int x3)]) hx hb dX0_heightAt_27 hl (by decide) rfl (fun ls hl => ?_)
        refine lv_aload_n hx hb dX0_heightAt_29 rfl (lv_at hl 1 rfl) ?_
        refine r_X0_34 (b' := 107) F hh in_100 sh_100 rfl dX0_heightAt_30 ?_
        refine lv_iload hx hb dX0_heightAt_33 (lv_at hl 0 rfl) ?_
        obtain ⟨t6, ht6, hf⟩ := ob hf
        refine g_lald F hh in_107 sh_107 ht6 dX0_heightAt_35 ?_
        refine lv_aload_n hx hb dX0_heightAt_36 rfl (lv_at hl 2 rfl) ?_
        refine r_X0_60 (b' := 3) F hh in_1 sh_1 rfl dX0_heightAt_37 ?_
        refine lv_iload_n hx hb dX0_heightAt_40 rfl (lv_at hl 3 rfl) ?_
        obtain ⟨t7, ht7, hf⟩ := ob hf
        refine g_iald F hh in_3 sh_3 ht7 dX0_heightAt_41 ?_
        refine lv_i2l hx hb dX0_heightAt_42 rfl ?_
        refine lv_lmul hx hb dX0_heightAt_43 ?_
        refine lv_aload_n hx hb dX0_heightAt_44 rfl (lv_at hl 1 rfl) ?_
        refine r_X0_38 (b' := 108) F hh in_100 sh_100 rfl dX0_heightAt_45 ?_
        refine lv_iload hx hb dX0_heightAt_48 (lv_at hl 0 rfl) ?_
        obtain ⟨t8, ht8, hf⟩ := ob hf
        refine g_lald F hh in_108 sh_108 ht8 dX0_heightAt_50 ?_
        refine lv_aload_n hx hb dX0_heightAt_51 rfl (lv_at hl 2 rfl) ?_
        refine r_X0_63 (b' := 2) F hh in_1 sh_1 rfl dX0_heightAt_52 ?_
        refine lv_iload_n hx hb dX0_heightAt_55 rfl (lv_at hl 3 rfl) ?_
        obtain ⟨t9, ht9, hf⟩ := ob hf
        refine g_iald F hh in_2 sh_2 ht9 dX0_heightAt_56 ?_
        refine lv_i2l hx hb dX0_heightAt_57 rfl ?_
        refine lv_lmul hx hb dX0_heightAt_58 ?_
        refine lv_lsub hx hb dX0_heightAt_59 ?_
        refine lv_aload_n hx hb dX0_heightAt_60 rfl (lv_at hl 1 rfl) ?_
        refine r_X0_41 (b' := 109) F hh in_100 sh_100 rfl dX0_heightAt_61 ?_
        refine lv_iload hx hb dX0_heightAt_64 (lv_at hl 0 rfl) ?_
        obtain ⟨t10, ht10, hf⟩ := ob hf
        refine g_lald F hh in_109 sh_109 ht10 dX0_heightAt_66 ?_
        refine lv_ladd hx hb dX0_heightAt_67 ?_
        exact g_lret F hr hlk hh (Option.some.inj hf) rfl dX0_heightAt_68
set_option maxRecDepth 100000 in
set_option maxHeartbeats 4000000 in
theorem w_X0_heightAt {Z : Int64} (F : Fx rC p s m args cd cX0_heightAt 5 RX0 G) (hr : meth.sig.returnType = (some .long)) (hlk : meth.locks = false) {x2 : Int32} {z : Sto} {H : Heap} {locs : List Loc} {ls : Array Slot} (hf : f_X0_heightAt x2 z = some Z) (hh : Hh rC G z s H locs) (hl : lv_has ls 5 [(0, .ref (G.1 100)), (1, .ref (G.1 1)), (2, .int x2)]) : W p l e rmX0_heightAt s m args below meth cd H locs 0 0 (MQ below (QL rC G Z z) args s 0 0 (Am rC G)) (F0 m 0 ls []) := by
  have hx := F.1
  have hb := F.2.1
  unfold f_X0_heightAt at hf
  refine lv_iconst (v := 0) hx hb dX0_heightAt_0 (by decide) ?_
  refine lv_istore_n (lv' := [(3, .int (0 : Int32)), (0, .ref (G.1 100)), (1, .ref (G.1 1)), (2, .int x2)]) hx hb dX0_heightAt_1 rfl hl (by decide) rfl (fun ls hl => ?_)
  exact w_X0_heightAt_2 F hr hlk fu _ _ hf  hh (lv_sub hl [1, 2, 3, 0] rfl)
theorem c_X0_heightAt {l : Launch} {G : Gm} {x2 : Int32} {z : Sto} {Z : Int64} (hf : f_X0_heightAt x2 z = some Z) : Met l yX0_heightAt (Cond.code yX0_heightAt cX0_heightAt 5 (some .long) :: TT) rmX0_heightAt (va_Pc [.ref (G.1 100), .ref (G.1 1), .int x2] (GS rC G z)) (QL rC G Z z) 0 0 (Am rC G) := by
  refine g_met [(0, .ref (G.1 100)), (1, .ref (G.1 1)), (2, .int x2)] (by decide) (Nat.le_of_ble_eq_true rfl) rfl ?_
  intro p e s m below meth cd F hr hlk ls H locs hl hh
  exact w_X0_heightAt F hr hlk hf hh hl
def j_X0_halfTurn_12 (z : Sto)   : Option (Int32) := some (0 : Int32)
def f_X0_halfTurn (x0 : Int32) (x1 : Int32) (z : Sto) : Option (Int32) := if 0 < x1 then (j_X0_halfTurn_12 z ) else (if x1 = 0 then (if x0 ≤ 0 then (some (1 : Int32)) else (j_X0_halfTurn_12 z )) else (some (1 : Int32)))
set_option maxRecDepth 100000 in
set_option maxHeartbeats 4000000 in
theorem w_X0_halfTurn_12 {z : Sto}  {Z : Int32} (F : Fx rC p s m args cd cX0_halfTurn 2 RX0 G) (hr : meth.sig.returnType = (some .int)) (hlk : meth.locks = false)   {H : Heap} {locs : List Loc} {ls : Array Slot} (hf : j_X0_halfTurn_12 z  = some Z) (hh : Hh rC G z s H locs) (hl : lv_has ls 2 []) : W p l e rmX0_halfTurn s m args below meth cd H locs 0 0 (MQ below (QI rC G Z z) args s 0 0 (Am rC G)) (F0 m 12 ls []) := by
  have hx := F.1
  have hb := F.2.1
  unfold j_X0_halfTurn_12 at hf
  refine lv_iconst (v := 0) hx hb dX0_halfTurn_12 (by decide) ?_
  refine lv_goto (tgt := 17) hx hb dX0_halfTurn_13 (by decide) ?_
  exact g_iret F hr hlk hh (Option.some.inj hf) rfl dX0_halfTurn_17
set_option maxRecDepth 100000 in
set_option maxHeartbeats 4000000 in
theorem w_X0_halfTurn {Z : Int32} (F : Fx rC p s m args cd cX0_halfTurn 2 RX0 G) (hr : meth.sig.returnType = (some .int)) (hlk : meth.locks = false) {x0 : Int32} {x1 : Int32} {z : Sto} {H : Heap} {locs : List Loc} {ls : Array Slot} (hf : f_X0_halfTurn x0 x1 z = some Z) (hh : Hh rC G z s H locs) (hl : lv_has ls 2 [(0, .int x0), (1, .int x1)]) : W p l e rmX0_halfTurn s m args below meth cd H locs 0 0 (MQ below (QI rC G Z z) args s 0 0 (Am rC G)) (F0 m 0 ls []) := by
  have hx := F.1
  have hb := F.2.1
  unfold f_X0_halfTurn at hf
  refine lv_iload_n hx hb dX0_halfTurn_0 rfl (lv_at hl 1 rfl) ?_
  refine lv_if_gt (tgt := 12) hx hb dX0_halfTurn_1 (by decide) (fun c1 => ?_) (fun c1 => ?_)
  · replace hf := itp c1 hf
    exact w_X0_halfTurn_12 F hr hlk hf  hh (lv_sub hl [] rfl)
  · replace hf := itn c1 hf
    refine lv_iload_n hx hb dX0_halfTurn_4 rfl (lv_at hl 1 rfl) ?_
    refine lv_if_ne (tgt := 16) hx hb dX0_halfTurn_5 (by decide) (fun c2 => ?_) (fun c2 => ?_)
    · replace hf := itn c2 hf
      refine lv_iconst (v := 1) hx hb dX0_halfTurn_16 (by decide) ?_
      exact g_iret F hr hlk hh (Option.some.inj hf) rfl dX0_halfTurn_17
    · replace hf := itp c2 hf
      refine lv_iload_n hx hb dX0_halfTurn_8 rfl (lv_at hl 0 rfl) ?_
      refine lv_if_le (tgt := 16) hx hb dX0_halfTurn_9 (by decide) (fun c3 => ?_) (fun c3 => ?_)
      · replace hf := itp c3 hf
        refine lv_iconst (v := 1) hx hb dX0_halfTurn_16 (by decide) ?_
        exact g_iret F hr hlk hh (Option.some.inj hf) rfl dX0_halfTurn_17
      · replace hf := itn c3 hf
        exact w_X0_halfTurn_12 F hr hlk hf  hh (lv_sub hl [] rfl)
theorem c_X0_halfTurn {l : Launch} {G : Gm} {x0 : Int32} {x1 : Int32} {z : Sto} {Z : Int32} (hf : f_X0_halfTurn x0 x1 z = some Z) : Met l yX0_halfTurn (Cond.code yX0_halfTurn cX0_halfTurn 2 (some .int) :: TT) rmX0_halfTurn (va_Pc [.int x0, .int x1] (GS rC G z)) (QI rC G Z z) 0 0 (Am rC G) := by
  refine g_met [(0, .int x0), (1, .int x1)] (by decide) (Nat.le_of_ble_eq_true rfl) rfl ?_
  intro p e s m below meth cd F hr hlk ls H locs hl hh
  exact w_X0_halfTurn F hr hlk hf hh hl
def f_X0_isAhead (x1 : Int32) (x2 : Int32) (z : Sto) : Option (Int32) := bd (f_X1_stepX 1 x1 z) fun t1 => bd (f_X1_stepY 1 x1 z) fun t2 => bd (f_X0_halfTurn t1 t2 z) fun t3 => bd (f_X1_stepX 1 x2 z) fun t4 => bd (f_X1_stepY 1 x2 z) fun t5 => bd (f_X0_halfTurn t4 t5 z) fun t6 => if t3 = t6 then (bd (f_X1_stepX 1 x1 z) fun t8 => bd (f_X1_stepY 1 x2 z) fun t9 => bd (f_X1_stepY 1 x1 z) fun t10 => bd (f_X1_stepX 1 x2 z) fun t11 => if ((t8 * t9) - (t10 * t11)) ≤ 0 then (some (0 : Int32)) else (some (1 : Int32))) else (if t6 ≤ t3 then (some (0 : Int32)) else (some (1 : Int32)))
set_option maxRecDepth 100000 in
set_option maxHeartbeats 4000000 in
theorem w_X0_isAhead {Z : Int32} (F : Fx rC p s m args cd cX0_isAhead 5 RX0 G) (hr : meth.sig.returnType = (some .boolean)) (hlk : meth.locks = false) {x1 : Int32} {x2 : Int32} {z : Sto} {H : Heap} {locs : List Loc} {ls : Array Slot} (hf : f_X0_isAhead x1 x2 z = some Z) (hh : Hh rC G z s H locs) (hl : lv_has ls 5 [(0, .ref (G.1 1)), (1, .int x1), (2, .int x2)]) : W p l e rmX0_isAhead s m args below meth cd H locs 0 0 (MQ below (QI rC G Z z) args s 0 0 (Am rC G)) (F0 m 0 ls []) := by
  have hx := F.1
  have hb := F.2.1
  unfold f_X0_isAhead at hf
  refine lv_aload_n hx hb dX0_isAhead_0 rfl (lv_at hl 0 rfl) ?_
  refine lv_iload_n hx hb dX0_isAhead_1 rfl (lv_at hl 1 rfl) ?_
  obtain ⟨t1, ht1, hf⟩ := ob hf
  refine m_X0_95 F hh (c_X1_stepX fr_1 ht1) in_1 sh_1 rfl hl (Nat.le_of_ble_eq_true rfl) dX0_isAhead_2 (fun H locs hh => ?_)
  refine lv_aload_n hx hb dX0_isAhead_5 rfl (lv_at hl 0 rfl) ?_
  refine lv_iload_n hx hb dX0_isAhead_6 rfl (lv_at hl 1 rfl) ?_
  obtain ⟨t2, ht2, hf⟩ := ob hf
  refine m_X0_98 F hh (c_X1_stepY fr_1 ht2) in_1 sh_1 rfl hl (Nat.le_of_ble_eq_true rfl) dX0_isAhead_7 (fun H locs hh => ?_)
  obtain ⟨t3, ht3, hf⟩ := ob hf
  refine m_X0_108 F hh (c_X0_halfTurn ht3) rfl hl (Nat.le_of_ble_eq_true rfl) dX0_isAhead_10 (fun H locs hh => ?_)
  refine lv_istore_n (lv' := [(3, .int t3), (0, .ref (G.1 1)), (1, .int x1), (2, .int x2)]) hx hb dX0_isAhead_13 rfl hl (by decide) rfl (fun ls hl => ?_)
  refine lv_aload_n hx hb dX0_isAhead_14 rfl (lv_at hl 1 rfl) ?_
  refine lv_iload_n hx hb dX0_isAhead_15 rfl (lv_at hl 3 rfl) ?_
  obtain ⟨t4, ht4, hf⟩ := ob hf
  refine m_X0_95 F hh (c_X1_stepX fr_1 ht4) in_1 sh_1 rfl hl (Nat.le_of_ble_eq_true rfl) dX0_isAhead_16 (fun H locs hh => ?_)
  refine lv_aload_n hx hb dX0_isAhead_19 rfl (lv_at hl 1 rfl) ?_
  refine lv_iload_n hx hb dX0_isAhead_20 rfl (lv_at hl 3 rfl) ?_
  obtain ⟨t5, ht5, hf⟩ := ob hf
  refine m_X0_98 F hh (c_X1_stepY fr_1 ht5) in_1 sh_1 rfl hl (Nat.le_of_ble_eq_true rfl) dX0_isAhead_21 (fun H locs hh => ?_)
  obtain ⟨t6, ht6, hf⟩ := ob hf
  refine m_X0_108 F hh (c_X0_halfTurn ht6) rfl hl (Nat.le_of_ble_eq_true rfl) dX0_isAhead_24 (fun H locs hh => ?_)
  refine lv_istore (lv' := [(4, .int t6), (3, .int t3), (0, .ref (G.1 1)), (1, .int x1), (2, .int x2)]) hx hb dX0_isAhead_27 hl (by decide) rfl (fun ls hl => ?_)
  refine lv_iload_n hx hb dX0_isAhead_29 rfl (lv_at hl 1 rfl) ?_
  refine lv_iload hx hb dX0_isAhead_30 (lv_at hl 0 rfl) ?_
  refine lv_icmp_eq (tgt := 47) hx hb dX0_isAhead_32 (by decide) (fun c7 => ?_) (fun c7 => ?_)
  · replace hf := itp c7 hf
    refine lv_aload_n hx hb dX0_isAhead_47 rfl (lv_at hl 2 rfl) ?_
    refine lv_iload_n hx hb dX0_isAhead_48 rfl (lv_at hl 3 rfl) ?_
    obtain ⟨t8, ht8, hf⟩ := ob hf
    refine m_X0_95 F hh (c_X1_stepX fr_1 ht8) in_1 sh_1 rfl hl (Nat.le_of_ble_eq_true rfl) dX0_isAhead_49 (fun H locs hh => ?_)
    refine lv_aload_n hx hb dX0_isAhead_52 rfl (lv_at hl 2 rfl) ?_
    refine lv_iload_n hx hb dX0_isAhead_53 rfl (lv_at hl 4 rfl) ?_
    obtain ⟨t9, ht9, hf⟩ := ob hf
    refine m_X0_98 F hh (c_X1_stepY fr_1 ht9) in_1 sh_1 rfl hl (Nat.le_of_ble_eq_true rfl) dX0_isAhead_54 (fun H locs hh => ?_)
    refine lv_imul hx hb dX0_isAhead_57 ?_
    refine lv_aload_n hx hb dX0_isAhead_58 rfl (lv_at hl 2 rfl) ?_
    refine lv_iload_n hx hb dX0_isAhead_59 rfl (lv_at hl 3 rfl) ?_
    obtain ⟨t10, ht10, hf⟩ := ob hf
    refine m_X0_98 F hh (c_X1_stepY fr_1 ht10) in_1 sh_1 rfl hl (Nat.le_of_ble_eq_true rfl) dX0_isAhead_60 (fun H locs hh => ?_)
    refine lv_aload_n hx hb dX0_isAhead_63 rfl (lv_at hl 2 rfl) ?_
    refine lv_iload_n hx hb dX0_isAhead_64 rfl (lv_at hl 4 rfl) ?_
    obtain ⟨t11, ht11, hf⟩ := ob hf
    refine m_X0_95 F hh (c_X1_stepX fr_1 ht11) in_1 sh_1 rfl hl (Nat.le_of_ble_eq_true rfl) dX0_isAhead_65 (fun H locs hh => ?_)
    refine lv_imul hx hb dX0_isAhead_68 ?_
    refine lv_isub hx hb dX0_isAhead_69 ?_
    refine lv_if_le (tgt := 77) hx hb dX0_isAhead_70 (by decide) (fun c12 => ?_) (fun c12 => ?_)
    · replace hf := itp c12 hf
      refine lv_iconst (v := 0) hx hb dX0_isAhead_77 (by decide) ?_
      exact g_zret F hr hlk rfl hh (Option.some.inj hf) rfl dX0_isAhead_78
    · replace hf := itn c12 hf
      refine lv_iconst (v := 1) hx hb dX0_isAhead_73 (by decide) ?_
      refine lv_goto (tgt := 78) hx hb dX0_isAhead_74 (by decide) ?_
      exact g_zret F hr hlk rfl hh (Option.some.inj hf) rfl dX0_isAhead_78
  · replace hf := itn c7 hf
    refine lv_iload_n hx hb dX0_isAhead_35 rfl (lv_at hl 1 rfl) ?_
    refine lv_iload hx hb dX0_isAhead_36 (lv_at hl 0 rfl) ?_
    refine lv_icmp_ge (tgt := 45) hx hb dX0_isAhead_38 (by decide) (fun c13 => ?_) (fun c13 => ?_)
    · replace hf := itp c13 hf
      refine lv_iconst (v := 0) hx hb dX0_isAhead_45 (by decide) ?_
      exact g_zret F hr hlk rfl hh (Option.some.inj hf) rfl dX0_isAhead_46
    · replace hf := itn c13 hf
      refine lv_iconst (v := 1) hx hb dX0_isAhead_41 (by decide) ?_
      refine lv_goto (tgt := 46) hx hb dX0_isAhead_42 (by decide) ?_
      exact g_zret F hr hlk rfl hh (Option.some.inj hf) rfl dX0_isAhead_46
theorem c_X0_isAhead {l : Launch} {G : Gm} {x1 : Int32} {x2 : Int32} {z : Sto} {Z : Int32} (hf : f_X0_isAhead x1 x2 z = some Z) : Met l yX0_isAhead (Cond.code yX0_isAhead cX0_isAhead 5 (some .boolean) :: TT) rmX0_isAhead (va_Pc [.ref (G.1 1), .int x1, .int x2] (GS rC G z)) (QI rC G Z z) 0 0 (Am rC G) := by
  refine g_met [(0, .ref (G.1 1)), (1, .int x1), (2, .int x2)] (by decide) (Nat.le_of_ble_eq_true rfl) rfl ?_
  intro p e s m below meth cd F hr hlk ls H locs hl hh
  exact w_X0_isAhead F hr hlk hf hh hl
def b_X0_turnOf_4 (z : Sto)  (ag4 : Int32 → Int32 → Int32 → Option (Int32)) (x1 : Int32) (x2 : Int32) (x3 : Int32) : Option (Int32) := if ((2 : Int32) * (z.1 1 1)) ≤ x3 then (some x2) else (bd (f_X1_startOf 1 x3 z) fun t2 => bd (f_X1_startOf 1 x1 z) fun t3 => if t2 = t3 then (bd (f_X0_isAhead x3 x1 z) fun t6 => if t6 = 0 then (lt (x3 + (1 : Int32)) fun x3_8 => ag4 x1 x2 x3_8) else (lt (x2 + (1 : Int32)) fun x2_9 => lt (x3 + (1 : Int32)) fun x3_10 => ag4 x1 x2_9 x3_10)) else (lt (x3 + (1 : Int32)) fun x3_5 => ag4 x1 x2 x3_5))
def f_X0_turnOf (x1 : Int32) (z : Sto) : Option (Int32) := wl3 (b_X0_turnOf_4 z) fu x1 (0 : Int32) (0 : Int32)
set_option maxRecDepth 100000 in
set_option maxHeartbeats 4000000 in
theorem w_X0_turnOf_4 {z : Sto}  {Z : Int32} (F : Fx rC p s m args cd cX0_turnOf 4 RX0 G) (hr : meth.sig.returnType = (some .int)) (hlk : meth.locks = false)  : ∀ (n : Nat), ∀ (x1 : Int32) (x2 : Int32) (x3 : Int32), wl3 (b_X0_turnOf_4 z) n x1 x2 x3 = some Z → ∀ {H : Heap} {locs : List Loc} {ls : Array Slot}, Hh rC G z s H locs → lv_has ls 4 [(0, .ref (G.1 1)), (1, .int x1), (2, .int x2), (3, .int x3)] → W p l e rmX0_turnOf s m args below meth cd H locs 0 0 (MQ below (QI rC G Z z) args s 0 0 (Am rC G)) (F0 m 4 ls []) := by
  have hx := F.1
  have hb := F.2.1
  intro n
  induction n with
  | zero =>
    intro x1 x2 x3 hf
    exact absurd hf (by intro h; cases h)
  | succ n ih =>
    intro x1 x2 x3 hf  H locs ls hh hl
    replace hf : b_X0_turnOf_4 z (wl3 (b_X0_turnOf_4 z) n) x1 x2 x3 = some Z := hf
    unfold b_X0_turnOf_4 at hf
    refine lv_iload_n hx hb dX0_turnOf_4 rfl (lv_at hl 3 rfl) ?_
    refine lv_iconst (v := 2) hx hb dX0_turnOf_5 (by decide) ?_
    refine lv_aload_n hx hb dX0_turnOf_6 rfl (lv_at hl 0 rfl) ?_
    refine r_X0_51 F hh in_1 sh_1 dX0_turnOf_7 ?_
    refine lv_imul hx hb dX0_turnOf_10 ?_
    refine lv_icmp_ge (tgt := 45) hx hb dX0_turnOf_11 (by decide) (fun c1 => ?_) (fun c1 => ?_)
    · replace hf := itp c1 hf
      refine lv_iload_n hx hb dX0_turnOf_45 rfl (lv_at hl 2 rfl) ?_
      exact g_iret F hr hlk hh (Option.some.inj hf) rfl dX0_turnOf_46
    · replace hf := itn c1 hf
      refine lv_aload_n hx hb dX0_turnOf_14 rfl (lv_at hl 0 rfl) ?_
      refine lv_iload_n hx hb dX0_turnOf_15 rfl (lv_at hl 3 rfl) ?_
      obtain ⟨t2, ht2, hf⟩ := ob hf
      refine m_X0_56 F hh (c_X1_startOf fr_1 ht2) in_1 sh_1 rfl hl (Nat.le_of_ble_eq_true rfl) dX0_turnOf_16 (fun H locs hh => ?_)
      refine lv_aload_n hx hb dX0_turnOf_19 rfl (lv_at hl 0 rfl) ?_
      refine lv_iload_n hx hb dX0_turnOf_20 rfl (lv_at hl 1 rfl) ?_
      obtain ⟨t3, ht3, hf⟩ := ob hf
      refine m_X0_56 F hh (c_X1_startOf fr_1 ht3) in_1 sh_1 rfl hl (Nat.le_of_ble_eq_true rfl) dX0_turnOf_21 (fun H locs hh => ?_)
      refine lv_icmp_ne (tgt := 39) hx hb dX0_turnOf_24 (by decide) (fun c4 => ?_) (fun c4 => ?_)
      · replace hf := itn c4 hf
        obtain ⟨x3_5, ex3_5⟩ : ∃ y : Int32, y = x3 + (1 : Int32) := ⟨_, rfl⟩
        replace hf := lt_e ex3_5 hf
        refine lv_iinc (v := x3_5) (lv' := [(3, .int x3_5), (0, .ref (G.1 1)), (1, .int x1), (2, .int x2)]) hx hb dX0_turnOf_39 hl (k := 3) rfl (by rw [ex3_5]; rfl) (by decide) rfl (fun ls hl => ?_)
        refine lv_goto (tgt := 4) hx hb dX0_turnOf_42 (by decide) ?_
        exact ih _ _ _ hf  hh (lv_sub hl [1, 2, 3, 0] rfl)
      · replace hf := itp c4 hf
        refine lv_aload_n hx hb dX0_turnOf_27 rfl (lv_at hl 0 rfl) ?_
        refine lv_iload_n hx hb dX0_turnOf_28 rfl (lv_at hl 3 rfl) ?_
        refine lv_iload_n hx hb dX0_turnOf_29 rfl (lv_at hl 1 rfl) ?_
        obtain ⟨t6, ht6, hf⟩ := ob hf
        refine m_X0_104 F hh (c_X0_isAhead ht6) rfl hl (Nat.le_of_ble_eq_true rfl) dX0_turnOf_30 (fun H locs hh => ?_)
        refine lv_if_eq (tgt := 39) hx hb dX0_turnOf_33 (by decide) (fun c7 => ?_) (fun c7 => ?_)
        · replace hf := itp c7 hf
          obtain ⟨x3_8, ex3_8⟩ : ∃ y : Int32, y = x3 + (1 : Int32) := ⟨_, rfl⟩
          replace hf := lt_e ex3_8 hf
          refine lv_iinc (v := x3_8) (lv' := [(3, .int x3_8), (0, .ref (G.1 1)), (1, .int x1), (2, .int x2)]) hx hb dX0_turnOf_39 hl (k := 3) rfl (by rw [ex3_8]; rfl) (by decide) rfl (fun ls hl => ?_)
          refine lv_goto (tgt := 4) hx hb dX0_turnOf_42 (by decide) ?_
          exact ih _ _ _ hf  hh (lv_sub hl [1, 2, 3, 0] rfl)
        · replace hf := itn c7 hf
          obtain ⟨x2_9, ex2_9⟩ : ∃ y : Int32, y = x2 + (1 : Int32) := ⟨_, rfl⟩
          replace hf := lt_e ex2_9 hf
          refine lv_iinc (v := x2_9) (lv' := [(2, .int x2_9), (0, .ref (G.1 1)), (1, .int x1), (3, .int x3)]) hx hb dX0_turnOf_36 hl (k := 2) rfl (by rw [ex2_9]; rfl) (by decide) rfl (fun ls hl => ?_)
          obtain ⟨x3_10, ex3_10⟩ : ∃ y : Int32, y = x3 + (1 : Int32) := ⟨_, rfl⟩
          replace hf := lt_e ex3_10 hf
          refine lv_iinc (v := x3_10) (lv' := [(3, .int x3_10), (2, .int x2_9), (0, .ref (G.1 1)), (1, .int x1)]) hx hb dX0_turnOf_39 hl (k := 3) rfl (by rw [ex3_10]; rfl) (by decide) rfl (fun ls hl => ?_)
          refine lv_goto (tgt := 4) hx hb dX0_turnOf_42 (by decide) ?_
          exact ih _ _ _ hf  hh (lv_sub hl [2, 3, 1, 0] rfl)
set_option maxRecDepth 100000 in
set_option maxHeartbeats 4000000 in
theorem w_X0_turnOf {Z : Int32} (F : Fx rC p s m args cd cX0_turnOf 4 RX0 G) (hr : meth.sig.returnType = (some .int)) (hlk : meth.locks = false) {x1 : Int32} {z : Sto} {H : Heap} {locs : List Loc} {ls : Array Slot} (hf : f_X0_turnOf x1 z = some Z) (hh : Hh rC G z s H locs) (hl : lv_has ls 4 [(0, .ref (G.1 1)), (1, .int x1)]) : W p l e rmX0_turnOf s m args below meth cd H locs 0 0 (MQ below (QI rC G Z z) args s 0 0 (Am rC G)) (F0 m 0 ls []) := by
  have hx := F.1
  have hb := F.2.1
  unfold f_X0_turnOf at hf
  refine lv_iconst (v := 0) hx hb dX0_turnOf_0 (by decide) ?_
  refine lv_istore_n (lv' := [(2, .int (0 : Int32)), (0, .ref (G.1 1)), (1, .int x1)]) hx hb dX0_turnOf_1 rfl hl (by decide) rfl (fun ls hl => ?_)
  refine lv_iconst (v := 0) hx hb dX0_turnOf_2 (by decide) ?_
  refine lv_istore_n (lv' := [(3, .int (0 : Int32)), (2, .int (0 : Int32)), (0, .ref (G.1 1)), (1, .int x1)]) hx hb dX0_turnOf_3 rfl hl (by decide) rfl (fun ls hl => ?_)
  exact w_X0_turnOf_4 F hr hlk fu _ _ _ hf  hh (lv_sub hl [2, 3, 1, 0] rfl)
theorem c_X0_turnOf {l : Launch} {G : Gm} {x1 : Int32} {z : Sto} {Z : Int32} (hf : f_X0_turnOf x1 z = some Z) : Met l yX0_turnOf (Cond.code yX0_turnOf cX0_turnOf 4 (some .int) :: TT) rmX0_turnOf (va_Pc [.ref (G.1 1), .int x1] (GS rC G z)) (QI rC G Z z) 0 0 (Am rC G) := by
  refine g_met [(0, .ref (G.1 1)), (1, .int x1)] (by decide) (Nat.le_of_ble_eq_true rfl) rfl ?_
  intro p e s m below meth cd F hr hlk ls H locs hl hh
  exact w_X0_turnOf F hr hlk hf hh hl
def b_X0_clockwiseOf_36 (z : Sto)  (ag36 : Int32 → Int32 → Int32 → Int32 → Option (Int32)) (x2 : Int32) (x3 : Int32) (x5 : Int32) (x6 : Int32) : Option (Int32) := if ((2 : Int32) * (z.1 1 1)) ≤ x6 then (some x2) else (bd (f_X1_startOf 1 x6 z) fun t7 => if t7 = x3 then (bd (rdI z 101 18 x6) fun t10 => if t10 = x5 then (some x6) else (lt (x6 + (1 : Int32)) fun x6_12 => ag36 x2 x3 x5 x6_12)) else (lt (x6 + (1 : Int32)) fun x6_9 => ag36 x2 x3 x5 x6_9))
def f_X0_clockwiseOf (x2 : Int32) (z : Sto) : Option (Int32) := bd (f_X1_startOf 1 x2 z) fun t1 => bd (f_X1_barsOf 1 t1 z) fun t2 => lt ((mxI t2 (1 : Int32))) fun x4_3 => bd (rdI z 101 18 x2) fun t4 => bd (rmI ((t4 + x4_3) - (1 : Int32)) x4_3) fun t5 => wl4 (b_X0_clockwiseOf_36 z) fu x2 t1 t5 (0 : Int32)
set_option maxRecDepth 100000 in
set_option maxHeartbeats 4000000 in
theorem w_X0_clockwiseOf_36 {z : Sto}  {Z : Int32} (F : Fx rC p s m args cd cX0_clockwiseOf 7 RX0 G) (hr : meth.sig.returnType = (some .int)) (hlk : meth.locks = false)  : ∀ (n : Nat), ∀ (x2 : Int32) (x3 : Int32) (x5 : Int32) (x6 : Int32), wl4 (b_X0_clockwiseOf_36 z) n x2 x3 x5 x6 = some Z → ∀ {H : Heap} {locs : List Loc} {ls : Array Slot}, Hh rC G z s H locs → lv_has ls 7 [(0, .ref (G.1 100)), (1, .ref (G.1 1)), (2, .int x2), (3, .int x3), (5, .int x5), (6, .int x6)] → W p l e rmX0_clockwiseOf s m args below meth cd H locs 0 0 (MQ below (QI rC G Z z) args s 0 0 (Am rC G)) (F0 m 36 ls []) := by
  have hx := F.1
  have hb := F.2.1
  intro n
  induction n with
  | zero =>
    intro x2 x3 x5 x6 hf
    exact absurd hf (by intro h; cases h)
  | succ n ih =>
    intro x2 x3 x5 x6 hf  H locs ls hh hl
    replace hf : b_X0_clockwiseOf_36 z (wl4 (b_X0_clockwiseOf_36 z) n) x2 x3 x5 x6 = some Z := hf
    unfold b_X0_clockwiseOf_36 at hf
    refine lv_iload hx hb dX0_clockwiseOf_36 (lv_at hl 5 rfl) ?_
    refine lv_iconst (v := 2) hx hb dX0_clockwiseOf_38 (by decide) ?_
    refine lv_aload_n hx hb dX0_clockwiseOf_39 rfl (lv_at hl 1 rfl) ?_
    refine r_X0_51 F hh in_1 sh_1 dX0_clockwiseOf_40 ?_
    refine lv_imul hx hb dX0_clockwiseOf_43 ?_
    refine lv_icmp_ge (tgt := 78) hx hb dX0_clockwiseOf_44 (by decide) (fun c6 => ?_) (fun c6 => ?_)
    · replace hf := itp c6 hf
      refine lv_iload_n hx hb dX0_clockwiseOf_78 rfl (lv_at hl 2 rfl) ?_
      exact g_iret F hr hlk hh (Option.some.inj hf) rfl dX0_clockwiseOf_79
    · replace hf := itn c6 hf
      refine lv_aload_n hx hb dX0_clockwiseOf_47 rfl (lv_at hl 1 rfl) ?_
      refine lv_iload hx hb dX0_clockwiseOf_48 (lv_at hl 5 rfl) ?_
      obtain ⟨t7, ht7, hf⟩ := ob hf
      refine m_X0_56 F hh (c_X1_startOf fr_1 ht7) in_1 sh_1 rfl hl (Nat.le_of_ble_eq_true rfl) dX0_clockwiseOf_50 (fun H locs hh => ?_)
      refine lv_iload_n hx hb dX0_clockwiseOf_53 rfl (lv_at hl 3 rfl) ?_
      refine lv_icmp_ne (tgt := 72) hx hb dX0_clockwiseOf_54 (by decide) (fun c8 => ?_) (fun c8 => ?_)
      · replace hf := itn c8 hf
        obtain ⟨x6_9, ex6_9⟩ : ∃ y : Int32, y = x6 + (1 : Int32) := ⟨_, rfl⟩
        replace hf := lt_e ex6_9 hf
        refine lv_iinc (v := x6_9) (lv' := [(6, .int x6_9), (0, .ref (G.1 100)), (1, .ref (G.1 1)), (2, .int x2), (3, .int x3), (5, .int x5)]) hx hb dX0_clockwiseOf_72 hl (k := 5) rfl (by rw [ex6_9]; rfl) (by decide) rfl (fun ls hl => ?_)
        refine lv_goto (tgt := 36) hx hb dX0_clockwiseOf_75 (by decide) ?_
        exact ih _ _ _ _ hf  hh (lv_sub hl [1, 2, 3, 4, 5, 0] rfl)
      · replace hf := itp c8 hf
        refine lv_aload_n hx hb dX0_clockwiseOf_57 rfl (lv_at hl 0 rfl) ?_
        refine r_X0_15 (b' := 101) F hh in_100 sh_100 rfl dX0_clockwiseOf_58 ?_
        refine lv_iload hx hb dX0_clockwiseOf_61 (lv_at hl 5 rfl) ?_
        obtain ⟨t10, ht10, hf⟩ := ob hf
        refine g_iald F hh in_101 sh_101 ht10 dX0_clockwiseOf_63 ?_
        refine lv_iload hx hb dX0_clockwiseOf_64 (lv_at hl 4 rfl) ?_
        refine lv_icmp_ne (tgt := 72) hx hb dX0_clockwiseOf_66 (by decide) (fun c11 => ?_) (fun c11 => ?_)
        · replace hf := itn c11 hf
          obtain ⟨x6_12, ex6_12⟩ : ∃ y : Int32, y = x6 + (1 : Int32) := ⟨_, rfl⟩
          replace hf := lt_e ex6_12 hf
          refine lv_iinc (v := x6_12) (lv' := [(6, .int x6_12), (0, .ref (G.1 100)), (1, .ref (G.1 1)), (2, .int x2), (3, .int x3), (5, .int x5)]) hx hb dX0_clockwiseOf_72 hl (k := 5) rfl (by rw [ex6_12]; rfl) (by decide) rfl (fun ls hl => ?_)
          refine lv_goto (tgt := 36) hx hb dX0_clockwiseOf_75 (by decide) ?_
          exact ih _ _ _ _ hf  hh (lv_sub hl [1, 2, 3, 4, 5, 0] rfl)
        · replace hf := itp c11 hf
          refine lv_iload hx hb dX0_clockwiseOf_69 (lv_at hl 5 rfl) ?_
          exact g_iret F hr hlk hh (Option.some.inj hf) rfl dX0_clockwiseOf_71
set_option maxRecDepth 100000 in
set_option maxHeartbeats 4000000 in
theorem w_X0_clockwiseOf {Z : Int32} (F : Fx rC p s m args cd cX0_clockwiseOf 7 RX0 G) (hr : meth.sig.returnType = (some .int)) (hlk : meth.locks = false) {x2 : Int32} {z : Sto} {H : Heap} {locs : List Loc} {ls : Array Slot} (hf : f_X0_clockwiseOf x2 z = some Z) (hh : Hh rC G z s H locs) (hl : lv_has ls 7 [(0, .ref (G.1 100)), (1, .ref (G.1 1)), (2, .int x2)]) : W p l e rmX0_clockwiseOf s m args below meth cd H locs 0 0 (MQ below (QI rC G Z z) args s 0 0 (Am rC G)) (F0 m 0 ls []) := by
  have hx := F.1
  have hb := F.2.1
  unfold f_X0_clockwiseOf at hf
  refine lv_aload_n hx hb dX0_clockwiseOf_0 rfl (lv_at hl 1 rfl) ?_
  refine lv_iload_n hx hb dX0_clockwiseOf_1 rfl (lv_at hl 2 rfl) ?_
  obtain ⟨t1, ht1, hf⟩ := ob hf
  refine m_X0_56 F hh (c_X1_startOf fr_1 ht1) in_1 sh_1 rfl hl (Nat.le_of_ble_eq_true rfl) dX0_clockwiseOf_2 (fun H locs hh => ?_)
  refine lv_istore_n (lv' := [(3, .int t1), (0, .ref (G.1 100)), (1, .ref (G.1 1)), (2, .int x2)]) hx hb dX0_clockwiseOf_5 rfl hl (by decide) rfl (fun ls hl => ?_)
  refine lv_aload_n hx hb dX0_clockwiseOf_6 rfl (lv_at hl 2 rfl) ?_
  refine lv_iload_n hx hb dX0_clockwiseOf_7 rfl (lv_at hl 0 rfl) ?_
  obtain ⟨t2, ht2, hf⟩ := ob hf
  refine m_X0_112 F hh (c_X1_barsOf fr_1 ht2) in_1 sh_1 rfl hl (Nat.le_of_ble_eq_true rfl) dX0_clockwiseOf_8 (fun H locs hh => ?_)
  refine lv_iconst (v := 1) hx hb dX0_clockwiseOf_11 (by decide) ?_
  refine h_X0_115 F hl (Nat.le_of_ble_eq_true rfl) (Nat.le_of_ble_eq_true rfl) dX0_clockwiseOf_12 ?_
  refine lv_topi (fun x4_3 ex4_3 => ?_)
  replace hf := lt_e ex4_3 hf
  refine lv_istore (lv' := [(4, .int x4_3), (3, .int t1), (0, .ref (G.1 100)), (1, .ref (G.1 1)), (2, .int x2)]) hx hb dX0_clockwiseOf_15 hl (by decide) rfl (fun ls hl => ?_)
  refine lv_aload_n hx hb dX0_clockwiseOf_17 rfl (lv_at hl 2 rfl) ?_
  refine r_X0_15 (b' := 101) F hh in_100 sh_100 rfl dX0_clockwiseOf_18 ?_
  refine lv_iload_n hx hb dX0_clockwiseOf_21 rfl (lv_at hl 4 rfl) ?_
  obtain ⟨t4, ht4, hf⟩ := ob hf
  refine g_iald F hh in_101 sh_101 ht4 dX0_clockwiseOf_22 ?_
  refine lv_iload hx hb dX0_clockwiseOf_23 (lv_at hl 0 rfl) ?_
  refine lv_iadd hx hb dX0_clockwiseOf_25 ?_
  refine lv_iconst (v := 1) hx hb dX0_clockwiseOf_26 (by decide) ?_
  refine lv_isub hx hb dX0_clockwiseOf_27 ?_
  refine lv_iload hx hb dX0_clockwiseOf_28 (lv_at hl 0 rfl) ?_
  obtain ⟨t5, ht5, hf⟩ := ob hf
  refine g_irem hx hb ht5 dX0_clockwiseOf_30 ?_
  refine lv_istore (lv' := [(5, .int t5), (4, .int x4_3), (3, .int t1), (0, .ref (G.1 100)), (1, .ref (G.1 1)), (2, .int x2)]) hx hb dX0_clockwiseOf_31 hl (by decide) rfl (fun ls hl => ?_)
  refine lv_iconst (v := 0) hx hb dX0_clockwiseOf_33 (by decide) ?_
  refine lv_istore (lv' := [(6, .int (0 : Int32)), (5, .int t5), (4, .int x4_3), (3, .int t1), (0, .ref (G.1 100)), (1, .ref (G.1 1)), (2, .int x2)]) hx hb dX0_clockwiseOf_34 hl (by decide) rfl (fun ls hl => ?_)
  exact w_X0_clockwiseOf_36 F hr hlk fu _ _ _ _ hf  hh (lv_sub hl [4, 5, 6, 3, 1, 0] rfl)
theorem c_X0_clockwiseOf {l : Launch} {G : Gm} {x2 : Int32} {z : Sto} {Z : Int32} (hf : f_X0_clockwiseOf x2 z = some Z) : Met l yX0_clockwiseOf (Cond.code yX0_clockwiseOf cX0_clockwiseOf 7 (some .int) :: TT) rmX0_clockwiseOf (va_Pc [.ref (G.1 100), .ref (G.1 1), .int x2] (GS rC G z)) (QI rC G Z z) 0 0 (Am rC G) := by
  refine g_met [(0, .ref (G.1 100)), (1, .ref (G.1 1)), (2, .int x2)] (by decide) (Nat.le_of_ble_eq_true rfl) rfl ?_
  intro p e s m below meth cd F hr hlk ls H locs hl hh
  exact w_X0_clockwiseOf F hr hlk hf hh hl
def b_X0_walkRound_42  (ag42 : Int32 → Int32 → Int32 → Sto → Option (Sto)) (x3 : Int32) (x4 : Int32) (x5 : Int32) (z : Sto) : Option (Sto) := if ((2 : Int32) * (z.1 1 1)) ≤ x5 then (some z) else (bd (rdI z 103 18 x4) fun t7 => if 0 ≤ t7 then (some z) else (bd (f_X1_startOf 1 x4 z) fun t9 => bd (f_X1_endOf 1 x4 z) fun t10 => bd (wrI z 103 18 x4 x3) fun z11 => bd (rdI z11 105 18 x3) fun t12 => bd (wrI z11 105 18 x3 (t12 + (1 : Int32))) fun z13 => bd (rdI z13 106 18 x3) fun t14 => bd (rdI z13 2 6 t9) fun t15 => bd (rdI z13 3 6 t10) fun t16 => bd (rdI z13 2 6 t10) fun t17 => bd (rdI z13 3 6 t9) fun t18 => bd (wrI z13 106 18 x3 (t14 + ((t15 * t16) - (t17 * t18)))) fun z19 => bd (rdI z19 102 18 x4) fun t20 => lt (x5 + (1 : Int32)) fun x5_21 => ag42 x3 t20 x5_21 z19))
def f_X0_walkRound (x2 : Int32) (z : Sto) : Option (Sto) := lt ((z.1 100 0)) fun x3_1 => lt (upI z 100 0 ((z.1 100 0) + (1 : Int32))) fun z2 => bd (wrI z2 104 18 x3_1 x2) fun z3 => bd (wrI z3 105 18 x3_1 (0 : Int32)) fun z4 => bd (wrI z4 106 18 x3_1 (0 : Int32)) fun z5 => wl4 (b_X0_walkRound_42) fu x3_1 x2 (0 : Int32) z5
set_option maxRecDepth 100000 in
set_option maxHeartbeats 4000000 in
theorem w_X0_walkRound_42  {Z : Sto} (F : Fx rC p s m args cd cX0_walkRound 8 RX0 G) (hr : meth.sig.returnType = none) (hlk : meth.locks = false)  : ∀ (n : Nat), ∀ (x3 : Int32) (x4 : Int32) (x5 : Int32) (z : Sto), wl4 (b_X0_walkRound_42) n x3 x4 x5 z = some Z → ∀ {H : Heap} {locs : List Loc} {ls : Array Slot}, Hh rC G z s H locs → lv_has ls 8 [(0, .ref (G.1 100)), (1, .ref (G.1 1)), (3, .int x3), (4, .int x4), (5, .int x5)] → W p l e rmX0_walkRound s m args below meth cd H locs 0 0 (MQ below (QV rC G Z) args s 0 0 (Am rC G)) (F0 m 42 ls []) := by
  have hx := F.1
  have hb := F.2.1
  intro n
  induction n with
  | zero =>
    intro x3 x4 x5 z hf
    exact absurd hf (by intro h; cases h)
  | succ n ih =>
    intro x3 x4 x5 z hf  H locs ls hh hl
    replace hf : b_X0_walkRound_42 (wl4 (b_X0_walkRound_42) n) x3 x4 x5 z = some Z := hf
    unfold b_X0_walkRound_42 at hf
    refine lv_iload hx hb dX0_walkRound_42 (lv_at hl 4 rfl) ?_
    refine lv_iconst (v := 2) hx hb dX0_walkRound_44 (by decide) ?_
    refine lv_aload_n hx hb dX0_walkRound_45 rfl (lv_at hl 1 rfl) ?_
    refine r_X0_51 F hh in_1 sh_1 dX0_walkRound_46 ?_
    refine lv_imul hx hb dX0_walkRound_49 ?_
    refine lv_icmp_ge (tgt := 152) hx hb dX0_walkRound_50 (by decide) (fun c6 => ?_) (fun c6 => ?_)
    · replace hf := itp c6 hf
      exact g_vret F hr hlk hh (Option.some.inj hf) dX0_walkRound_152
    · replace hf := itn c6 hf
      refine lv_aload_n hx hb dX0_walkRound_53 rfl (lv_at hl 0 rfl) ?_
      refine r_X0_22 (b' := 103) F hh in_100 sh_100 rfl dX0_walkRound_54 ?_
      refine lv_iload hx hb dX0_walkRound_57 (lv_at hl 3 rfl) ?_
      obtain ⟨t7, ht7, hf⟩ := ob hf
      refine g_iald F hh in_103 sh_103 ht7 dX0_walkRound_59 ?_
      refine lv_if_ge (tgt := 152) hx hb dX0_walkRound_60 (by decide) (fun c8 => ?_) (fun c8 => ?_)
      · replace hf := itp c8 hf
        exact g_vret F hr hlk hh (Option.some.inj hf) dX0_walkRound_152
      · replace hf := itn c8 hf
        refine lv_aload_n hx hb dX0_walkRound_63 rfl (lv_at hl 1 rfl) ?_
        refine lv_iload hx hb dX0_walkRound_64 (lv_at hl 3 rfl) ?_
        obtain ⟨t9, ht9, hf⟩ := ob hf
        refine m_X0_56 F hh (c_X1_startOf fr_1 ht9) in_1 sh_1 rfl hl (Nat.le_of_ble_eq_true rfl) dX0_walkRound_66 (fun H locs hh => ?_)
        refine lv_istore (lv' := [(6, .int t9), (0, .ref (G.1 100)), (1, .ref (G.1 1)), (3, .int x3), (4, .int x4), (5, .int x5)]) hx hb dX0_walkRound_69 hl (by decide) rfl (fun ls hl => ?_)
        refine lv_aload_n hx hb dX0_walkRound_71 rfl (lv_at hl 2 rfl) ?_
        refine lv_iload hx hb dX0_walkRound_72 (lv_at hl 4 rfl) ?_
        obtain ⟨t10, ht10, hf⟩ := ob hf
        refine m_X0_101 F hh (c_X1_endOf fr_1 ht10) in_1 sh_1 rfl hl (Nat.le_of_ble_eq_true rfl) dX0_walkRound_74 (fun H locs hh => ?_)
        refine lv_istore (lv' := [(7, .int t10), (6, .int t9), (0, .ref (G.1 100)), (1, .ref (G.1 1)), (3, .int x3), (4, .int x4), (5, .int x5)]) hx hb dX0_walkRound_77 hl (by decide) rfl (fun ls hl => ?_)
        refine lv_aload_n hx hb dX0_walkRound_79 rfl (lv_at hl 2 rfl) ?_
        refine r_X0_22 (b' := 103) F hh in_100 sh_100 rfl dX0_walkRound_80 ?_
        refine lv_iload hx hb dX0_walkRound_83 (lv_at hl 5 rfl) ?_
        refine lv_iload_n hx hb dX0_walkRound_85 rfl (lv_at hl 4 rfl) ?_
        obtain ⟨z11, hz11, hf⟩ := ob hf
        refine g_iast F hh in_103 sh_103 hz11 dX0_walkRound_86 (fun H locs hh => ?_)
        refine lv_aload_n hx hb dX0_walkRound_87 rfl (lv_at hl 2 rfl) ?_
        refine r_X0_28 (b' := 105) F hh in_100 sh_100 rfl dX0_walkRound_88 ?_
        refine lv_iload_n hx hb dX0_walkRound_91 rfl (lv_at hl 4 rfl) ?_
        refine lv_dup2_11 hx hb dX0_walkRound_92 rfl rfl ?_
        obtain ⟨t12, ht12, hf⟩ := ob hf
        refine g_iald F hh in_105 sh_105 ht12 dX0_walkRound_93 ?_
        refine lv_iconst (v := 1) hx hb dX0_walkRound_94 (by decide) ?_
        refine lv_iadd hx hb dX0_walkRound_95 ?_
        obtain ⟨z13, hz13, hf⟩ := ob hf
        refine g_iast F hh in_105 sh_105 hz13 dX0_walkRound_96 (fun H locs hh => ?_)
        refine lv_aload_n hx hb dX0_walkRound_97 rfl (lv_at hl 2 rfl) ?_
        refine r_X0_31 (b' := 106) F hh in_100 sh_100 rfl dX0_walkRound_98 ?_
        refine lv_iload_n hx hb dX0_walkRound_101 rfl (lv_at hl 4 rfl) ?_
        refine lv_dup2_11 hx hb dX0_walkRound_102 rfl rfl ?_
        obtain ⟨t14, ht14, hf⟩ := ob hf
        refine g_iald F hh in_106 sh_106 ht14 dX0_walkRound_103 ?_
        refine lv_aload_n hx hb dX0_walkRound_104 rfl (lv_at hl 3 rfl) ?_
        refine r_X0_63 (b' := 2) F hh in_1 sh_1 rfl dX0_walkRound_105 ?_
        refine lv_iload hx hb dX0_walkRound_108 (lv_at hl 1 rfl) ?_
        obtain ⟨t15, ht15, hf⟩ := ob hf
        refine g_iald F hh in_2 sh_2 ht15 dX0_walkRound_110 ?_
        refine lv_aload_n hx hb dX0_walkRound_111 rfl (lv_at hl 3 rfl) ?_
        refine r_X0_60 (b' := 3) F hh in_1 sh_1 rfl dX0_walkRound_112 ?_
        refine lv_iload hx hb dX0_walkRound_115 (lv_at hl 0 rfl) ?_
        obtain ⟨t16, ht16, hf⟩ := ob hf
        refine g_iald F hh in_3 sh_3 ht16 dX0_walkRound_117 ?_
        refine lv_imul hx hb dX0_walkRound_118 ?_
        refine lv_aload_n hx hb dX0_walkRound_119 rfl (lv_at hl 3 rfl) ?_
        refine r_X0_63 (b' := 2) F hh in_1 sh_1 rfl dX0_walkRound_120 ?_
        refine lv_iload hx hb dX0_walkRound_123 (lv_at hl 0 rfl) ?_
        obtain ⟨t17, ht17, hf⟩ := ob hf
        refine g_iald F hh in_2 sh_2 ht17 dX0_walkRound_125 ?_
        refine lv_aload_n hx hb dX0_walkRound_126 rfl (lv_at hl 3 rfl) ?_
        refine r_X0_60 (b' := 3) F hh in_1 sh_1 rfl dX0_walkRound_127 ?_
        refine lv_iload hx hb dX0_walkRound_130 (lv_at hl 1 rfl) ?_
        obtain ⟨t18, ht18, hf⟩ := ob hf
        refine g_iald F hh in_3 sh_3 ht18 dX0_walkRound_132 ?_
        refine lv_imul hx hb dX0_walkRound_133 ?_
        refine lv_isub hx hb dX0_walkRound_134 ?_
        refine lv_iadd hx hb dX0_walkRound_135 ?_
        obtain ⟨z19, hz19, hf⟩ := ob hf
        refine g_iast F hh in_106 sh_106 hz19 dX0_walkRound_136 (fun H locs hh => ?_)
        refine lv_aload_n hx hb dX0_walkRound_137 rfl (lv_at hl 2 rfl) ?_
        refine r_X0_19 (b' := 102) F hh in_100 sh_100 rfl dX0_walkRound_138 ?_
        refine lv_iload hx hb dX0_walkRound_141 (lv_at hl 5 rfl) ?_
        obtain ⟨t20, ht20, hf⟩ := ob hf
        refine g_iald F hh in_102 sh_102 ht20 dX0_walkRound_143 ?_
        refine lv_istore (lv' := [(4, .int t20), (7, .int t10), (6, .int t9), (0, .ref (G.1 100)), (1, .ref (G.1 1)), (3, .int x3), (5, .int x5)]) hx hb dX0_walkRound_144 hl (by decide) rfl (fun ls hl => ?_)
        obtain ⟨x5_21, ex5_21⟩ : ∃ y : Int32, y = x5 + (1 : Int32) := ⟨_, rfl⟩
        replace hf := lt_e ex5_21 hf
        refine lv_iinc (v := x5_21) (lv' := [(5, .int x5_21), (4, .int t20), (7, .int t10), (6, .int t9), (0, .ref (G.1 100)), (1, .ref (G.1 1)), (3, .int x3)]) hx hb dX0_walkRound_146 hl (k := 6) rfl (by rw [ex5_21]; rfl) (by decide) rfl (fun ls hl => ?_)
        refine lv_goto (tgt := 42) hx hb dX0_walkRound_149 (by decide) ?_
        exact ih _ _ _ _ hf  hh (lv_sub hl [4, 5, 6, 1, 0] rfl)
set_option maxRecDepth 100000 in
set_option maxHeartbeats 4000000 in
theorem w_X0_walkRound {Z : Sto} (F : Fx rC p s m args cd cX0_walkRound 8 RX0 G) (hr : meth.sig.returnType = none) (hlk : meth.locks = false) {x2 : Int32} {z : Sto} {H : Heap} {locs : List Loc} {ls : Array Slot} (hf : f_X0_walkRound x2 z = some Z) (hh : Hh rC G z s H locs) (hl : lv_has ls 8 [(0, .ref (G.1 100)), (1, .ref (G.1 1)), (2, .int x2)]) : W p l e rmX0_walkRound s m args below meth cd H locs 0 0 (MQ below (QV rC G Z) args s 0 0 (Am rC G)) (F0 m 0 ls []) := by
  have hx := F.1
  have hb := F.2.1
  unfold f_X0_walkRound at hf
  refine lv_aload_n hx hb dX0_walkRound_0 rfl (lv_at hl 0 rfl) ?_
  refine r_X0_48 F hh in_100 sh_100 dX0_walkRound_1 ?_
  refine lv_topi (fun x3_1 ex3_1 => ?_)
  replace hf := lt_e ex3_1 hf
  refine lv_istore_n (lv' := [(3, .int x3_1), (0, .ref (G.1 100)), (1, .ref (G.1 1)), (2, .int x2)]) hx hb dX0_walkRound_4 rfl hl (by decide) rfl (fun ls hl => ?_)
  refine lv_aload_n hx hb dX0_walkRound_5 rfl (lv_at hl 1 rfl) ?_
  refine lv_dup hx hb dX0_walkRound_6 rfl ?_
  refine r_X0_48 F hh in_100 sh_100 dX0_walkRound_7 ?_
  refine lv_iconst (v := 1) hx hb dX0_walkRound_10 (by decide) ?_
  refine lv_iadd hx hb dX0_walkRound_11 ?_
  refine s_X0_48 F hh in_100 sh_100 dX0_walkRound_12 (fun z2 ez2 H locs hh => ?_)
  replace hf := lt_e ez2 hf
  refine lv_aload_n hx hb dX0_walkRound_15 rfl (lv_at hl 1 rfl) ?_
  refine r_X0_25 (b' := 104) F hh in_100 sh_100 rfl dX0_walkRound_16 ?_
  refine lv_iload_n hx hb dX0_walkRound_19 rfl (lv_at hl 0 rfl) ?_
  refine lv_iload_n hx hb dX0_walkRound_20 rfl (lv_at hl 3 rfl) ?_
  obtain ⟨z3, hz3, hf⟩ := ob hf
  refine g_iast F hh in_104 sh_104 hz3 dX0_walkRound_21 (fun H locs hh => ?_)
  refine lv_aload_n hx hb dX0_walkRound_22 rfl (lv_at hl 1 rfl) ?_
  refine r_X0_28 (b' := 105) F hh in_100 sh_100 rfl dX0_walkRound_23 ?_
  refine lv_iload_n hx hb dX0_walkRound_26 rfl (lv_at hl 0 rfl) ?_
  refine lv_iconst (v := 0) hx hb dX0_walkRound_27 (by decide) ?_
  obtain ⟨z4, hz4, hf⟩ := ob hf
  refine g_iast F hh in_105 sh_105 hz4 dX0_walkRound_28 (fun H locs hh => ?_)
  refine lv_aload_n hx hb dX0_walkRound_29 rfl (lv_at hl 1 rfl) ?_
  refine r_X0_31 (b' := 106) F hh in_100 sh_100 rfl dX0_walkRound_30 ?_
  refine lv_iload_n hx hb dX0_walkRound_33 rfl (lv_at hl 0 rfl) ?_
  refine lv_iconst (v := 0) hx hb dX0_walkRound_34 (by decide) ?_
  obtain ⟨z5, hz5, hf⟩ := ob hf
  refine g_iast F hh in_106 sh_106 hz5 dX0_walkRound_35 (fun H locs hh => ?_)
  refine lv_iload_n hx hb dX0_walkRound_36 rfl (lv_at hl 3 rfl) ?_
  refine lv_istore (lv' := [(4, .int x2), (3, .int x3_1), (0, .ref (G.1 100)), (1, .ref (G.1 1)), (2, .int x2)]) hx hb dX0_walkRound_37 hl (by decide) rfl (fun ls hl => ?_)
  refine lv_iconst (v := 0) hx hb dX0_walkRound_39 (by decide) ?_
  refine lv_istore (lv' := [(5, .int (0 : Int32)), (4, .int x2), (3, .int x3_1), (0, .ref (G.1 100)), (1, .ref (G.1 1)), (2, .int x2)]) hx hb dX0_walkRound_40 hl (by decide) rfl (fun ls hl => ?_)
  exact w_X0_walkRound_42 F hr hlk fu _ _ _ _ hf  hh (lv_sub hl [3, 4, 2, 1, 0] rfl)
theorem c_X0_walkRound {l : Launch} {G : Gm} {x2 : Int32} {z : Sto} {Z : Sto} (hf : f_X0_walkRound x2 z = some Z) : Met l yX0_walkRound (Cond.code yX0_walkRound cX0_walkRound 8 none :: TT) rmX0_walkRound (va_Pc [.ref (G.1 100), .ref (G.1 1), .int x2] (GS rC G z)) (QV rC G Z) 0 0 (Am rC G) := by
  refine g_met [(0, .ref (G.1 100)), (1, .ref (G.1 1)), (2, .int x2)] (by decide) (Nat.le_of_ble_eq_true rfl) rfl ?_
  intro p e s m below meth cd F hr hlk ls H locs hl hh
  exact w_X0_walkRound F hr hlk hf hh hl
def b_X0_flatFace_2 (z : Sto)  (ag2 : Int32 → Option (Int32)) (x1 : Int32) : Option (Int32) := if (z.1 100 0) ≤ x1 then (some (-4 : Int32)) else (bd (rdI z 106 18 x1) fun t2 => if 0 < t2 then (lt (x1 + (1 : Int32)) fun x1_4 => ag2 x1_4) else (some x1))
def f_X0_flatFace  (z : Sto) : Option (Int32) := wl1 (b_X0_flatFace_2 z) fu (0 : Int32)
set_option maxRecDepth 100000 in
set_option maxHeartbeats 4000000 in
theorem w_X0_flatFace_2 {z : Sto}  {Z : Int32} (F : Fx rC p s m args cd cX0_flatFace 2 RX0 G) (hr : meth.sig.returnType = (some .int)) (hlk : meth.locks = false)  : ∀ (n : Nat), ∀ (x1 : Int32), wl1 (b_X0_flatFace_2 z) n x1 = some Z → ∀ {H : Heap} {locs : List Loc} {ls : Array Slot}, Hh rC G z s H locs → lv_has ls 2 [(0, .ref (G.1 100)), (1, .int x1)] → W p l e rmX0_flatFace s m args below meth cd H locs 0 0 (MQ below (QI rC G Z z) args s 0 0 (Am rC G)) (F0 m 2 ls []) := by
  have hx := F.1
  have hb := F.2.1
  intro n
  induction n with
  | zero =>
    intro x1 hf
    exact absurd hf (by intro h; cases h)
  | succ n ih =>
    intro x1 hf  H locs ls hh hl
    replace hf : b_X0_flatFace_2 z (wl1 (b_X0_flatFace_2 z) n) x1 = some Z := hf
    unfold b_X0_flatFace_2 at hf
    refine lv_iload_n hx hb dX0_flatFace_2 rfl (lv_at hl 1 rfl) ?_
    refine lv_aload_n hx hb dX0_flatFace_3 rfl (lv_at hl 0 rfl) ?_
    refine r_X0_48 F hh in_100 sh_100 dX0_flatFace_4 ?_
    refine lv_icmp_ge (tgt := 27) hx hb dX0_flatFace_7 (by decide) (fun c1 => ?_) (fun c1 => ?_)
    · replace hf := itp c1 hf
      refine lv_bipush (v := -4) hx hb dX0_flatFace_27 (by decide) ?_
      exact g_iret F hr hlk hh (Option.some.inj hf) rfl dX0_flatFace_29
    · replace hf := itn c1 hf
      refine lv_aload_n hx hb dX0_flatFace_10 rfl (lv_at hl 0 rfl) ?_
      refine r_X0_31 (b' := 106) F hh in_100 sh_100 rfl dX0_flatFace_11 ?_
      refine lv_iload_n hx hb dX0_flatFace_14 rfl (lv_at hl 1 rfl) ?_
      obtain ⟨t2, ht2, hf⟩ := ob hf
      refine g_iald F hh in_106 sh_106 ht2 dX0_flatFace_15 ?_
      refine lv_if_gt (tgt := 21) hx hb dX0_flatFace_16 (by decide) (fun c3 => ?_) (fun c3 => ?_)
      · replace hf := itp c3 hf
        obtain ⟨x1_4, ex1_4⟩ : ∃ y : Int32, y = x1 + (1 : Int32) := ⟨_, rfl⟩
        replace hf := lt_e ex1_4 hf
        refine lv_iinc (v := x1_4) (lv' := [(1, .int x1_4), (0, .ref (G.1 100))]) hx hb dX0_flatFace_21 hl (k := 1) rfl (by rw [ex1_4]; rfl) (by decide) rfl (fun ls hl => ?_)
        refine lv_goto (tgt := 2) hx hb dX0_flatFace_24 (by decide) ?_
        exact ih _ hf  hh (lv_sub hl [1, 0] rfl)
      · replace hf := itn c3 hf
        refine lv_iload_n hx hb dX0_flatFace_19 rfl (lv_at hl 1 rfl) ?_
        exact g_iret F hr hlk hh (Option.some.inj hf) rfl dX0_flatFace_20
set_option maxRecDepth 100000 in
set_option maxHeartbeats 4000000 in
theorem w_X0_flatFace {Z : Int32} (F : Fx rC p s m args cd cX0_flatFace 2 RX0 G) (hr : meth.sig.returnType = (some .int)) (hlk : meth.locks = false)  {z : Sto} {H : Heap} {locs : List Loc} {ls : Array Slot} (hf : f_X0_flatFace  z = some Z) (hh : Hh rC G z s H locs) (hl : lv_has ls 2 [(0, .ref (G.1 100))]) : W p l e rmX0_flatFace s m args below meth cd H locs 0 0 (MQ below (QI rC G Z z) args s 0 0 (Am rC G)) (F0 m 0 ls []) := by
  have hx := F.1
  have hb := F.2.1
  unfold f_X0_flatFace at hf
  refine lv_iconst (v := 0) hx hb dX0_flatFace_0 (by decide) ?_
  refine lv_istore_n (lv' := [(1, .int (0 : Int32)), (0, .ref (G.1 100))]) hx hb dX0_flatFace_1 rfl hl (by decide) rfl (fun ls hl => ?_)
  exact w_X0_flatFace_2 F hr hlk fu _ hf  hh (lv_sub hl [1, 0] rfl)
theorem c_X0_flatFace {l : Launch} {G : Gm}  {z : Sto} {Z : Int32} (hf : f_X0_flatFace  z = some Z) : Met l yX0_flatFace (Cond.code yX0_flatFace cX0_flatFace 2 (some .int) :: TT) rmX0_flatFace (va_Pc [.ref (G.1 100)] (GS rC G z)) (QI rC G Z z) 0 0 (Am rC G) := by
  refine g_met [(0, .ref (G.1 100))] (by decide) (Nat.le_of_ble_eq_true rfl) rfl ?_
  intro p e s m below meth cd F hr hlk ls H locs hl hh
  exact w_X0_flatFace F hr hlk hf hh hl
def b_X0_walk_72  (ag72 : Int32 → Int32 → Sto → Option (Sto)) (x2 : Int32) (x3 : Int32) (z : Sto) : Option (Sto) := if x2 ≤ x3 then (bd (f_X1_isWhole 1 z) fun t13 => if t13 = 0 then (lt (upI z 100 1 (-4 : Int32)) fun z15 => some z15) else (bd (f_X0_flatFace z) fun t16 => lt (upI z 100 1 t16) fun z17 => some z17)) else (bd (rdI z 103 18 x3) fun t18 => if 0 ≤ t18 then (lt (x3 + (1 : Int32)) fun x3_20 => ag72 x2 x3_20 z) else (bd (f_X0_walkRound x3 z) fun z22 => lt (x3 + (1 : Int32)) fun x3_23 => ag72 x2 x3_23 z22))
def b_X0_walk_40  (ag40 : Int32 → Int32 → Sto → Option (Sto)) (x2 : Int32) (x3 : Int32) (z : Sto) : Option (Sto) := if x2 ≤ x3 then (lt (upI z 100 0 (0 : Int32)) fun z8 => wl3 (b_X0_walk_72) fu x2 (0 : Int32) z8) else (bd (f_X0_clockwiseOf ((x3 ^^^ (1 : Int32))) z) fun t9 => bd (wrI z 102 18 x3 t9) fun z10 => lt (x3 + (1 : Int32)) fun x3_11 => ag40 x2 x3_11 z10)
def b_X0_walk_9  (ag9 : Int32 → Int32 → Sto → Option (Sto)) (x2 : Int32) (x3 : Int32) (z : Sto) : Option (Sto) := if x2 ≤ x3 then (wl3 (b_X0_walk_40) fu x2 (0 : Int32) z) else (bd (f_X0_turnOf x3 z) fun t3 => bd (wrI z 101 18 x3 t3) fun z4 => bd (wrI z4 103 18 x3 (-1 : Int32)) fun z5 => lt (x3 + (1 : Int32)) fun x3_6 => ag9 x2 x3_6 z5)
def f_X0_walk  (z : Sto) : Option (Sto) := lt (((2 : Int32) * (z.1 1 1))) fun x2_1 => wl3 (b_X0_walk_9) fu x2_1 (0 : Int32) z
set_option maxRecDepth 100000 in
set_option maxHeartbeats 4000000 in
theorem w_X0_walk_72  {Z : Sto} (F : Fx rC p s m args cd cX0_walk 4 RX0 G) (hr : meth.sig.returnType = none) (hlk : meth.locks = false)  : ∀ (n : Nat), ∀ (x2 : Int32) (x3 : Int32) (z : Sto), wl3 (b_X0_walk_72) n x2 x3 z = some Z → ∀ {H : Heap} {locs : List Loc} {ls : Array Slot}, Hh rC G z s H locs → lv_has ls 4 [(0, .ref (G.1 100)), (1, .ref (G.1 1)), (2, .int x2), (3, .int x3)] → W p l e rmX0_walk s m args below meth cd H locs 0 0 (MQ below (QV rC G Z) args s 0 0 (Am rC G)) (F0 m 72 ls []) := by
  have hx := F.1
  have hb := F.2.1
  intro n
  induction n with
  | zero =>
    intro x2 x3 z hf
    exact absurd hf (by intro h; cases h)
  | succ n ih =>
    intro x2 x3 z hf  H locs ls hh hl
    replace hf : b_X0_walk_72 (wl3 (b_X0_walk_72) n) x2 x3 z = some Z := hf
    unfold b_X0_walk_72 at hf
    refine lv_iload_n hx hb dX0_walk_72 rfl (lv_at hl 3 rfl) ?_
    refine lv_iload_n hx hb dX0_walk_73 rfl (lv_at hl 2 rfl) ?_
    refine lv_icmp_ge (tgt := 98) hx hb dX0_walk_74 (by decide) (fun c12 => ?_) (fun c12 => ?_)
    · replace hf := itp c12 hf
      refine lv_aload_n hx hb dX0_walk_98 rfl (lv_at hl 0 rfl) ?_
      refine lv_aload_n hx hb dX0_walk_99 rfl (lv_at hl 1 rfl) ?_
      obtain ⟨t13, ht13, hf⟩ := ob hf
      refine m_X0_77 F hh (c_X1_isWhole fr_1 ht13) in_1 sh_1 rfl hl (Nat.le_of_ble_eq_true rfl) dX0_walk_100 (fun H locs hh => ?_)
      refine lv_if_eq (tgt := 113) hx hb dX0_walk_103 (by decide) (fun c14 => ?_) (fun c14 => ?_)
      · replace hf := itp c14 hf
        refine lv_bipush (v := -4) hx hb dX0_walk_113 (by decide) ?_
        refine s_X0_9 F hh in_100 sh_100 dX0_walk_115 (fun z15 ez15 H locs hh => ?_)
        replace hf := lt_e ez15 hf
        exact g_vret F hr hlk hh (Option.some.inj hf) dX0_walk_118
      · replace hf := itn c14 hf
        refine lv_aload_n hx hb dX0_walk_106 rfl (lv_at hl 0 rfl) ?_
        obtain ⟨t16, ht16, hf⟩ := ob hf
        refine m_X0_81 F hh (c_X0_flatFace ht16) in_100 sh_100 rfl hl (Nat.le_of_ble_eq_true rfl) dX0_walk_107 (fun H locs hh => ?_)
        refine lv_goto (tgt := 115) hx hb dX0_walk_110 (by decide) ?_
        refine s_X0_9 F hh in_100 sh_100 dX0_walk_115 (fun z17 ez17 H locs hh => ?_)
        replace hf := lt_e ez17 hf
        exact g_vret F hr hlk hh (Option.some.inj hf) dX0_walk_118
    · replace hf := itn c12 hf
      refine lv_aload_n hx hb dX0_walk_77 rfl (lv_at hl 0 rfl) ?_
      refine r_X0_22 (b' := 103) F hh in_100 sh_100 rfl dX0_walk_78 ?_
      refine lv_iload_n hx hb dX0_walk_81 rfl (lv_at hl 3 rfl) ?_
      obtain ⟨t18, ht18, hf⟩ := ob hf
      refine g_iald F hh in_103 sh_103 ht18 dX0_walk_82 ?_
      refine lv_if_ge (tgt := 92) hx hb dX0_walk_83 (by decide) (fun c19 => ?_) (fun c19 => ?_)
      · replace hf := itp c19 hf
        obtain ⟨x3_20, ex3_20⟩ : ∃ y : Int32, y = x3 + (1 : Int32) := ⟨_, rfl⟩
        replace hf := lt_e ex3_20 hf
        refine lv_iinc (v := x3_20) (lv' := [(3, .int x3_20), (0, .ref (G.1 100)), (1, .ref (G.1 1)), (2, .int x2)]) hx hb dX0_walk_92 hl (k := 3) rfl (by rw [ex3_20]; rfl) (by decide) rfl (fun ls hl => ?_)
        refine lv_goto (tgt := 72) hx hb dX0_walk_95 (by decide) ?_
        exact ih _ _ _ hf  hh (lv_sub hl [1, 2, 3, 0] rfl)
      · replace hf := itn c19 hf
        refine lv_aload_n hx hb dX0_walk_86 rfl (lv_at hl 0 rfl) ?_
        refine lv_aload_n hx hb dX0_walk_87 rfl (lv_at hl 1 rfl) ?_
        refine lv_iload_n hx hb dX0_walk_88 rfl (lv_at hl 3 rfl) ?_
        obtain ⟨z22, ht21, hf⟩ := ob hf
        refine m_X0_73 F hh (c_X0_walkRound ht21) in_100 sh_100 rfl hl (Nat.le_of_ble_eq_true rfl) dX0_walk_89 (fun H locs hh => ?_)
        obtain ⟨x3_23, ex3_23⟩ : ∃ y : Int32, y = x3 + (1 : Int32) := ⟨_, rfl⟩
        replace hf := lt_e ex3_23 hf
        refine lv_iinc (v := x3_23) (lv' := [(3, .int x3_23), (0, .ref (G.1 100)), (1, .ref (G.1 1)), (2, .int x2)]) hx hb dX0_walk_92 hl (k := 3) rfl (by rw [ex3_23]; rfl) (by decide) rfl (fun ls hl => ?_)
        refine lv_goto (tgt := 72) hx hb dX0_walk_95 (by decide) ?_
        exact ih _ _ _ hf  hh (lv_sub hl [1, 2, 3, 0] rfl)
set_option maxRecDepth 100000 in
set_option maxHeartbeats 4000000 in
theorem w_X0_walk_40  {Z : Sto} (F : Fx rC p s m args cd cX0_walk 4 RX0 G) (hr : meth.sig.returnType = none) (hlk : meth.locks = false)  : ∀ (n : Nat), ∀ (x2 : Int32) (x3 : Int32) (z : Sto), wl3 (b_X0_walk_40) n x2 x3 z = some Z → ∀ {H : Heap} {locs : List Loc} {ls : Array Slot}, Hh rC G z s H locs → lv_has ls 4 [(0, .ref (G.1 100)), (1, .ref (G.1 1)), (2, .int x2), (3, .int x3)] → W p l e rmX0_walk s m args below meth cd H locs 0 0 (MQ below (QV rC G Z) args s 0 0 (Am rC G)) (F0 m 40 ls []) := by
  have hx := F.1
  have hb := F.2.1
  intro n
  induction n with
  | zero =>
    intro x2 x3 z hf
    exact absurd hf (by intro h; cases h)
  | succ n ih =>
    intro x2 x3 z hf  H locs ls hh hl
    replace hf : b_X0_walk_40 (wl3 (b_X0_walk_40) n) x2 x3 z = some Z := hf
    unfold b_X0_walk_40 at hf
    refine lv_iload_n hx hb dX0_walk_40 rfl (lv_at hl 3 rfl) ?_
    refine lv_iload_n hx hb dX0_walk_41 rfl (lv_at hl 2 rfl) ?_
    refine lv_icmp_ge (tgt := 65) hx hb dX0_walk_42 (by decide) (fun c7 => ?_) (fun c7 => ?_)
    · replace hf := itp c7 hf
      refine lv_aload_n hx hb dX0_walk_65 rfl (lv_at hl 0 rfl) ?_
      refine lv_iconst (v := 0) hx hb dX0_walk_66 (by decide) ?_
      refine s_X0_48 F hh in_100 sh_100 dX0_walk_67 (fun z8 ez8 H locs hh => ?_)
      replace hf := lt_e ez8 hf
      refine lv_iconst (v := 0) hx hb dX0_walk_70 (by decide) ?_
      refine lv_istore_n (lv' := [(3, .int (0 : Int32)), (0, .ref (G.1 100)), (1, .ref (G.1 1)), (2, .int x2)]) hx hb dX0_walk_71 rfl hl (by decide) rfl (fun ls hl => ?_)
      exact w_X0_walk_72 F hr hlk fu _ _ _ hf  hh (lv_sub hl [1, 2, 3, 0] rfl)
    · replace hf := itn c7 hf
      refine lv_aload_n hx hb dX0_walk_45 rfl (lv_at hl 0 rfl) ?_
      refine r_X0_19 (b' := 102) F hh in_100 sh_100 rfl dX0_walk_46 ?_
      refine lv_iload_n hx hb dX0_walk_49 rfl (lv_at hl 3 rfl) ?_
      refine lv_aload_n hx hb dX0_walk_50 rfl (lv_at hl 0 rfl) ?_
      refine lv_aload_n hx hb dX0_walk_51 rfl (lv_at hl 1 rfl) ?_
      refine lv_iload_n hx hb dX0_walk_52 rfl (lv_at hl 3 rfl) ?_
      refine lv_iconst (v := 1) hx hb dX0_walk_53 (by decide) ?_
      refine lv_ixor hx hb dX0_walk_54 ?_
      obtain ⟨t9, ht9, hf⟩ := ob hf
      refine m_X0_70 F hh (c_X0_clockwiseOf ht9) in_100 sh_100 rfl hl (Nat.le_of_ble_eq_true rfl) dX0_walk_55 (fun H locs hh => ?_)
      obtain ⟨z10, hz10, hf⟩ := ob hf
      refine g_iast F hh in_102 sh_102 hz10 dX0_walk_58 (fun H locs hh => ?_)
      obtain ⟨x3_11, ex3_11⟩ : ∃ y : Int32, y = x3 + (1 : Int32) := ⟨_, rfl⟩
      replace hf := lt_e ex3_11 hf
      refine lv_iinc (v := x3_11) (lv' := [(3, .int x3_11), (0, .ref (G.1 100)), (1, .ref (G.1 1)), (2, .int x2)]) hx hb dX0_walk_59 hl (k := 3) rfl (by rw [ex3_11]; rfl) (by decide) rfl (fun ls hl => ?_)
      refine lv_goto (tgt := 40) hx hb dX0_walk_62 (by decide) ?_
      exact ih _ _ _ hf  hh (lv_sub hl [1, 2, 3, 0] rfl)
set_option maxRecDepth 100000 in
set_option maxHeartbeats 4000000 in
theorem w_X0_walk_9  {Z : Sto} (F : Fx rC p s m args cd cX0_walk 4 RX0 G) (hr : meth.sig.returnType = none) (hlk : meth.locks = false)  : ∀ (n : Nat), ∀ (x2 : Int32) (x3 : Int32) (z : Sto), wl3 (b_X0_walk_9) n x2 x3 z = some Z → ∀ {H : Heap} {locs : List Loc} {ls : Array Slot}, Hh rC G z s H locs → lv_has ls 4 [(0, .ref (G.1 100)), (1, .ref (G.1 1)), (2, .int x2), (3, .int x3)] → W p l e rmX0_walk s m args below meth cd H locs 0 0 (MQ below (QV rC G Z) args s 0 0 (Am rC G)) (F0 m 9 ls []) := by
  have hx := F.1
  have hb := F.2.1
  intro n
  induction n with
  | zero =>
    intro x2 x3 z hf
    exact absurd hf (by intro h; cases h)
  | succ n ih =>
    intro x2 x3 z hf  H locs ls hh hl
    replace hf : b_X0_walk_9 (wl3 (b_X0_walk_9) n) x2 x3 z = some Z := hf
    unfold b_X0_walk_9 at hf
    refine lv_iload_n hx hb dX0_walk_9 rfl (lv_at hl 3 rfl) ?_
    refine lv_iload_n hx hb dX0_walk_10 rfl (lv_at hl 2 rfl) ?_
    refine lv_icmp_ge (tgt := 38) hx hb dX0_walk_11 (by decide) (fun c2 => ?_) (fun c2 => ?_)
    · replace hf := itp c2 hf
      refine lv_iconst (v := 0) hx hb dX0_walk_38 (by decide) ?_
      refine lv_istore_n (lv' := [(3, .int (0 : Int32)), (0, .ref (G.1 100)), (1, .ref (G.1 1)), (2, .int x2)]) hx hb dX0_walk_39 rfl hl (by decide) rfl (fun ls hl => ?_)
      exact w_X0_walk_40 F hr hlk fu _ _ _ hf  hh (lv_sub hl [1, 2, 3, 0] rfl)
    · replace hf := itn c2 hf
      refine lv_aload_n hx hb dX0_walk_14 rfl (lv_at hl 0 rfl) ?_
      refine r_X0_15 (b' := 101) F hh in_100 sh_100 rfl dX0_walk_15 ?_
      refine lv_iload_n hx hb dX0_walk_18 rfl (lv_at hl 3 rfl) ?_
      refine lv_aload_n hx hb dX0_walk_19 rfl (lv_at hl 1 rfl) ?_
      refine lv_iload_n hx hb dX0_walk_20 rfl (lv_at hl 3 rfl) ?_
      obtain ⟨t3, ht3, hf⟩ := ob hf
      refine m_X0_66 F hh (c_X0_turnOf ht3) rfl hl (Nat.le_of_ble_eq_true rfl) dX0_walk_21 (fun H locs hh => ?_)
      obtain ⟨z4, hz4, hf⟩ := ob hf
      refine g_iast F hh in_101 sh_101 hz4 dX0_walk_24 (fun H locs hh => ?_)
      refine lv_aload_n hx hb dX0_walk_25 rfl (lv_at hl 0 rfl) ?_
      refine r_X0_22 (b' := 103) F hh in_100 sh_100 rfl dX0_walk_26 ?_
      refine lv_iload_n hx hb dX0_walk_29 rfl (lv_at hl 3 rfl) ?_
      refine lv_iconst (v := -1) hx hb dX0_walk_30 (by decide) ?_
      obtain ⟨z5, hz5, hf⟩ := ob hf
      refine g_iast F hh in_103 sh_103 hz5 dX0_walk_31 (fun H locs hh => ?_)
      obtain ⟨x3_6, ex3_6⟩ : ∃ y : Int32, y = x3 + (1 : Int32) := ⟨_, rfl⟩
      replace hf := lt_e ex3_6 hf
      refine lv_iinc (v := x3_6) (lv' := [(3, .int x3_6), (0, .ref (G.1 100)), (1, .ref (G.1 1)), (2, .int x2)]) hx hb dX0_walk_32 hl (k := 3) rfl (by rw [ex3_6]; rfl) (by decide) rfl (fun ls hl => ?_)
      refine lv_goto (tgt := 9) hx hb dX0_walk_35 (by decide) ?_
      exact ih _ _ _ hf  hh (lv_sub hl [1, 2, 3, 0] rfl)
set_option maxRecDepth 100000 in
set_option maxHeartbeats 4000000 in
theorem w_X0_walk {Z : Sto} (F : Fx rC p s m args cd cX0_walk 4 RX0 G) (hr : meth.sig.returnType = none) (hlk : meth.locks = false)  {z : Sto} {H : Heap} {locs : List Loc} {ls : Array Slot} (hf : f_X0_walk  z = some Z) (hh : Hh rC G z s H locs) (hl : lv_has ls 4 [(0, .ref (G.1 100)), (1, .ref (G.1 1))]) : W p l e rmX0_walk s m args below meth cd H locs 0 0 (MQ below (QV rC G Z) args s 0 0 (Am rC G)) (F0 m 0 ls []) := by
  have hx := F.1
  have hb := F.2.1
  unfold f_X0_walk at hf
  refine lv_iconst (v := 2) hx hb dX0_walk_0 (by decide) ?_
  refine lv_aload_n hx hb dX0_walk_1 rfl (lv_at hl 1 rfl) ?_
  refine r_X0_51 F hh in_1 sh_1 dX0_walk_2 ?_
  refine lv_imul hx hb dX0_walk_5 ?_
  refine lv_topi (fun x2_1 ex2_1 => ?_)
  replace hf := lt_e ex2_1 hf
  refine lv_istore_n (lv' := [(2, .int x2_1), (0, .ref (G.1 100)), (1, .ref (G.1 1))]) hx hb dX0_walk_6 rfl hl (by decide) rfl (fun ls hl => ?_)
  refine lv_iconst (v := 0) hx hb dX0_walk_7 (by decide) ?_
  refine lv_istore_n (lv' := [(3, .int (0 : Int32)), (2, .int x2_1), (0, .ref (G.1 100)), (1, .ref (G.1 1))]) hx hb dX0_walk_8 rfl hl (by decide) rfl (fun ls hl => ?_)
  exact w_X0_walk_9 F hr hlk fu _ _ _ hf  hh (lv_sub hl [2, 3, 1, 0] rfl)
theorem c_X0_walk {l : Launch} {G : Gm}  {z : Sto} {Z : Sto} (hf : f_X0_walk  z = some Z) : Met l yX0_walk (Cond.code yX0_walk cX0_walk 4 none :: TT) rmX0_walk (va_Pc [.ref (G.1 100), .ref (G.1 1)] (GS rC G z)) (QV rC G Z) 0 0 (Am rC G) := by
  refine g_met [(0, .ref (G.1 100)), (1, .ref (G.1 1))] (by decide) (Nat.le_of_ble_eq_true rfl) rfl ?_
  intro p e s m below meth cd F hr hlk ls H locs hl hh
  exact w_X0_walk F hr hlk hf hh hl
def f_X0_placeBeside (x2 : Int32) (x3 : Int64) (z : Sto) : Option (Sto) := bd (rdI z 103 18 (x2 ^^^ (1 : Int32))) fun t1 => bd (rdI z 103 18 x2) fun t2 => bd (f_X1_startOf 1 x2 z) fun t3 => bd (f_X1_stepX 1 x2 z) fun t4 => lt ((x3 * (Int32.toInt64 t4))) fun x8_5 => bd (f_X1_stepY 1 x2 z) fun t6 => lt ((x3 * (Int32.toInt64 t6))) fun x10_7 => bd (rdL z 107 18 t1) fun t8 => bd (wrL z 107 18 t2 (t8 + x8_5)) fun z9 => bd (rdL z9 108 18 t1) fun t10 => bd (wrL z9 108 18 t2 (t10 + x10_7)) fun z11 => bd (rdL z11 109 18 t1) fun t12 => bd (rdI z11 2 6 t3) fun t13 => bd (rdI z11 3 6 t3) fun t14 => bd (wrL z11 109 18 t2 ((t12 + (x10_7 * (Int32.toInt64 t13))) - (x8_5 * (Int32.toInt64 t14)))) fun z15 => bd (wrI z15 110 18 t2 (vp_nar .boolean (1 : Int32))) fun z16 => some z16
set_option maxRecDepth 100000 in
set_option maxHeartbeats 4000000 in
theorem w_X0_placeBeside {Z : Sto} (F : Fx rC p s m args cd cX0_placeBeside 12 RX0 G) (hr : meth.sig.returnType = none) (hlk : meth.locks = false) {x2 : Int32} {x3 : Int64} {z : Sto} {H : Heap} {locs : List Loc} {ls : Array Slot} (hf : f_X0_placeBeside x2 x3 z = some Z) (hh : Hh rC G z s H locs) (hl : lv_has ls 12 [(0, .ref (G.1 100)), (1, .ref (G.1 1)), (2, .int x2), (3, .long x3)]) : W p l e rmX0_placeBeside s m args below meth cd H locs 0 0 (MQ below (QV rC G Z) args s 0 0 (Am rC G)) (F0 m 0 ls []) := by
  have hx := F.1
  have hb := F.2.1
  unfold f_X0_placeBeside at hf
  refine lv_aload_n hx hb dX0_placeBeside_0 rfl (lv_at hl 0 rfl) ?_
  refine r_X0_22 (b' := 103) F hh in_100 sh_100 rfl dX0_placeBeside_1 ?_
  refine lv_iload_n hx hb dX0_placeBeside_4 rfl (lv_at hl 2 rfl) ?_
  refine lv_iconst (v := 1) hx hb dX0_placeBeside_5 (by decide) ?_
  refine lv_ixor hx hb dX0_placeBeside_6 ?_
  obtain ⟨t1, ht1, hf⟩ := ob hf
  refine g_iald F hh in_103 sh_103 ht1 dX0_placeBeside_7 ?_
  refine lv_istore (lv' := [(5, .int t1), (0, .ref (G.1 100)), (1, .ref (G.1 1)), (2, .int x2), (3, .long x3)]) hx hb dX0_placeBeside_8 hl (by decide) rfl (fun ls hl => ?_)
  refine lv_aload_n hx hb dX0_placeBeside_10 rfl (lv_at hl 1 rfl) ?_
  refine r_X0_22 (b' := 103) F hh in_100 sh_100 rfl dX0_placeBeside_11 ?_
  refine lv_iload_n hx hb dX0_placeBeside_14 rfl (lv_at hl 3 rfl) ?_
  obtain ⟨t2, ht2, hf⟩ := ob hf
  refine g_iald F hh in_103 sh_103 ht2 dX0_placeBeside_15 ?_
  refine lv_istore (lv' := [(6, .int t2), (5, .int t1), (0, .ref (G.1 100)), (1, .ref (G.1 1)), (2, .int x2), (3, .long x3)]) hx hb dX0_placeBeside_16 hl (by decide) rfl (fun ls hl => ?_)
  refine lv_aload_n hx hb dX0_placeBeside_18 rfl (lv_at hl 3 rfl) ?_
  refine lv_iload_n hx hb dX0_placeBeside_19 rfl (lv_at hl 4 rfl) ?_
  obtain ⟨t3, ht3, hf⟩ := ob hf
  refine m_X0_56 F hh (c_X1_startOf fr_1 ht3) in_1 sh_1 rfl hl (Nat.le_of_ble_eq_true rfl) dX0_placeBeside_20 (fun H locs hh => ?_)
  refine lv_istore (lv' := [(7, .int t3), (6, .int t2), (5, .int t1), (0, .ref (G.1 100)), (1, .ref (G.1 1)), (2, .int x2), (3, .long x3)]) hx hb dX0_placeBeside_23 hl (by decide) rfl (fun ls hl => ?_)
  refine lv_lload_n hx hb dX0_placeBeside_25 rfl (lv_at hl 6 rfl) ?_
  refine lv_aload_n hx hb dX0_placeBeside_26 rfl (lv_at hl 4 rfl) ?_
  refine lv_iload_n hx hb dX0_placeBeside_27 rfl (lv_at hl 5 rfl) ?_
  obtain ⟨t4, ht4, hf⟩ := ob hf
  refine m_X0_95 F hh (c_X1_stepX fr_1 ht4) in_1 sh_1 rfl hl (Nat.le_of_ble_eq_true rfl) dX0_placeBeside_28 (fun H locs hh => ?_)
  refine lv_i2l hx hb dX0_placeBeside_31 rfl ?_
  refine lv_lmul hx hb dX0_placeBeside_32 ?_
  refine lv_topl (fun x8_5 ex8_5 => ?_)
  replace hf := lt_e ex8_5 hf
  refine lv_lstore (lv' := [(8, .long x8_5), (7, .int t3), (6, .int t2), (5, .int t1), (0, .ref (G.1 100)), (1, .ref (G.1 1)), (2, .int x2), (3, .long x3)]) hx hb dX0_placeBeside_33 hl (by decide) rfl (fun ls hl => ?_)
  refine lv_lload_n hx hb dX0_placeBeside_35 rfl (lv_at hl 7 rfl) ?_
  refine lv_aload_n hx hb dX0_placeBeside_36 rfl (lv_at hl 5 rfl) ?_
  refine lv_iload_n hx hb dX0_placeBeside_37 rfl (lv_at hl 6 rfl) ?_
  obtain ⟨t6, ht6, hf⟩ := ob hf
  refine m_X0_98 F hh (c_X1_stepY fr_1 ht6) in_1 sh_1 rfl hl (Nat.le_of_ble_eq_true rfl) dX0_placeBeside_38 (fun H locs hh => ?_)
  refine lv_i2l hx hb dX0_placeBeside_41 rfl ?_
  refine lv_lmul hx hb dX0_placeBeside_42 ?_
  refine lv_topl (fun x10_7 ex10_7 => ?_)
  replace hf := lt_e ex10_7 hf
  refine lv_lstore (lv' := [(10, .long x10_7), (8, .long x8_5), (7, .int t3), (6, .int t2), (5, .int t1), (0, .ref (G.1 100)), (1, .ref (G.1 1)), (2, .int x2), (3, .long x3)]) hx hb dX0_placeBeside_43 hl (by decide) rfl (fun ls hl => ?_)
  refine lv_aload_n hx hb dX0_placeBeside_45 rfl (lv_at hl 5 rfl) ?_
  refine r_X0_34 (b' := 107) F hh in_100 sh_100 rfl dX0_placeBeside_46 ?_
  refine lv_iload hx hb dX0_placeBeside_49 (lv_at hl 3 rfl) ?_
  refine lv_aload_n hx hb dX0_placeBeside_51 rfl (lv_at hl 5 rfl) ?_
  refine r_X0_34 (b' := 107) F hh in_100 sh_100 rfl dX0_placeBeside_52 ?_
  refine lv_iload hx hb dX0_placeBeside_55 (lv_at hl 4 rfl) ?_
  obtain ⟨t8, ht8, hf⟩ := ob hf
  refine g_lald F hh in_107 sh_107 ht8 dX0_placeBeside_57 ?_
  refine lv_lload hx hb dX0_placeBeside_58 (lv_at hl 1 rfl) ?_
  refine lv_ladd hx hb dX0_placeBeside_60 ?_
  obtain ⟨z9, hz9, hf⟩ := ob hf
  refine g_last F hh in_107 sh_107 hz9 dX0_placeBeside_61 (fun H locs hh => ?_)
  refine lv_aload_n hx hb dX0_placeBeside_62 rfl (lv_at hl 5 rfl) ?_
  refine r_X0_38 (b' := 108) F hh in_100 sh_100 rfl dX0_placeBeside_63 ?_
  refine lv_iload hx hb dX0_placeBeside_66 (lv_at hl 3 rfl) ?_
  refine lv_aload_n hx hb dX0_placeBeside_68 rfl (lv_at hl 5 rfl) ?_
  refine r_X0_38 (b' := 108) F hh in_100 sh_100 rfl dX0_placeBeside_69 ?_
  refine lv_iload hx hb dX0_placeBeside_72 (lv_at hl 4 rfl) ?_
  obtain ⟨t10, ht10, hf⟩ := ob hf
  refine g_lald F hh in_108 sh_108 ht10 dX0_placeBeside_74 ?_
  refine lv_lload hx hb dX0_placeBeside_75 (lv_at hl 0 rfl) ?_
  refine lv_ladd hx hb dX0_placeBeside_77 ?_
  obtain ⟨z11, hz11, hf⟩ := ob hf
  refine g_last F hh in_108 sh_108 hz11 dX0_placeBeside_78 (fun H locs hh => ?_)
  refine lv_aload_n hx hb dX0_placeBeside_79 rfl (lv_at hl 5 rfl) ?_
  refine r_X0_41 (b' := 109) F hh in_100 sh_100 rfl dX0_placeBeside_80 ?_
  refine lv_iload hx hb dX0_placeBeside_83 (lv_at hl 3 rfl) ?_
  refine lv_aload_n hx hb dX0_placeBeside_85 rfl (lv_at hl 5 rfl) ?_
  refine r_X0_41 (b' := 109) F hh in_100 sh_100 rfl dX0_placeBeside_86 ?_
  refine lv_iload hx hb dX0_placeBeside_89 (lv_at hl 4 rfl) ?_
  obtain ⟨t12, ht12, hf⟩ := ob hf
  refine g_lald F hh in_109 sh_109 ht12 dX0_placeBeside_91 ?_
  refine lv_lload hx hb dX0_placeBeside_92 (lv_at hl 0 rfl) ?_
  refine lv_aload_n hx hb dX0_placeBeside_94 rfl (lv_at hl 6 rfl) ?_
  refine r_X0_63 (b' := 2) F hh in_1 sh_1 rfl dX0_placeBeside_95 ?_
  refine lv_iload hx hb dX0_placeBeside_98 (lv_at hl 2 rfl) ?_
  obtain ⟨t13, ht13, hf⟩ := ob hf
  refine g_iald F hh in_2 sh_2 ht13 dX0_placeBeside_100 ?_
  refine lv_i2l hx hb dX0_placeBeside_101 rfl ?_
  refine lv_lmul hx hb dX0_placeBeside_102 ?_
  refine lv_ladd hx hb dX0_placeBeside_103 ?_
  refine lv_lload hx hb dX0_placeBeside_104 (lv_at hl 1 rfl) ?_
  refine lv_aload_n hx hb dX0_placeBeside_106 rfl (lv_at hl 6 rfl) ?_
  refine r_X0_60 (b' := 3) F hh in_1 sh_1 rfl dX0_placeBeside_107 ?_
  refine lv_iload hx hb dX0_placeBeside_110 (lv_at hl 2 rfl) ?_
  obtain ⟨t14, ht14, hf⟩ := ob hf
  refine g_iald F hh in_3 sh_3 ht14 dX0_placeBeside_112 ?_
  refine lv_i2l hx hb dX0_placeBeside_113 rfl ?_
  refine lv_lmul hx hb dX0_placeBeside_114 ?_
  refine lv_lsub hx hb dX0_placeBeside_115 ?_
  obtain ⟨z15, hz15, hf⟩ := ob hf
  refine g_last F hh in_109 sh_109 hz15 dX0_placeBeside_116 (fun H locs hh => ?_)
  refine lv_aload_n hx hb dX0_placeBeside_117 rfl (lv_at hl 5 rfl) ?_
  refine r_X0_44 (b' := 110) F hh in_100 sh_100 rfl dX0_placeBeside_118 ?_
  refine lv_iload hx hb dX0_placeBeside_121 (lv_at hl 3 rfl) ?_
  refine lv_iconst (v := 1) hx hb dX0_placeBeside_123 (by decide) ?_
  obtain ⟨z16, hz16, hf⟩ := ob hf
  refine g_zast F hh in_110 sh_110 hz16 dX0_placeBeside_124 (fun H locs hh => ?_)
  exact g_vret F hr hlk hh (Option.some.inj hf) dX0_placeBeside_125
theorem c_X0_placeBeside {l : Launch} {G : Gm} {x2 : Int32} {x3 : Int64} {z : Sto} {Z : Sto} (hf : f_X0_placeBeside x2 x3 z = some Z) : Met l yX0_placeBeside (Cond.code yX0_placeBeside cX0_placeBeside 12 none :: TT) rmX0_placeBeside (va_Pc [.ref (G.1 100), .ref (G.1 1), .int x2, .long x3] (GS rC G z)) (QV rC G Z) 0 0 (Am rC G) := by
  refine g_met [(0, .ref (G.1 100)), (1, .ref (G.1 1)), (2, .int x2), (3, .long x3)] (by decide) (Nat.le_of_ble_eq_true rfl) rfl ?_
  intro p e s m below meth cd F hr hlk ls H locs hl hh
  exact w_X0_placeBeside F hr hlk hf hh hl
def b_X0_lift_80 (ag69 : Int32 → Sto → Option (Sto)) (ag80 : Int32 → Int32 → Sto → Option (Sto)) (x3 : Int32) (x4 : Int32) (z : Sto) : Option (Sto) := if ((2 : Int32) * (z.1 1 1)) ≤ x4 then (lt (x3 + (1 : Int32)) fun x3_16 => ag69 x3_16 z) else (bd (rdI z 103 18 (x4 ^^^ (1 : Int32))) fun t17 => bd (rdI z 110 18 t17) fun t18 => if t18 = 0 then (lt (x4 + (1 : Int32)) fun x4_20 => ag80 x3 x4_20 z) else (bd (rdI z 103 18 x4) fun t21 => bd (rdI z 110 18 t21) fun t22 => if t22 = 0 then (bd (rdL z 97 9 (x4 / (2 : Int32))) fun t25 => bd (f_X0_placeBeside x4 t25 z) fun z27 => lt (x4 + (1 : Int32)) fun x4_28 => ag80 x3 x4_28 z27) else (lt (x4 + (1 : Int32)) fun x4_24 => ag80 x3 x4_24 z)))
def b_X0_lift_69  (ag69 : Int32 → Sto → Option (Sto)) (x3 : Int32) (z : Sto) : Option (Sto) := if (z.1 100 0) ≤ x3 then (some z) else (wl3 (b_X0_lift_80 ag69) fu x3 (0 : Int32) z)
def b_X0_lift_34  (ag34 : Int32 → Sto → Option (Sto)) (x3 : Int32) (z : Sto) : Option (Sto) := if (z.1 100 0) ≤ x3 then (wl2 (b_X0_lift_69) fu (0 : Int32) z) else (if x3 = (z.1 100 1) then (bd (wrI z 110 18 x3 (vp_nar .boolean (1 : Int32))) fun z12 => lt (x3 + (1 : Int32)) fun x3_13 => ag34 x3_13 z12) else (bd (wrI z 110 18 x3 (vp_nar .boolean (0 : Int32))) fun z10 => lt (x3 + (1 : Int32)) fun x3_11 => ag34 x3_11 z10))
def f_X0_lift  (z : Sto) : Option (Sto) := if 0 ≤ (z.1 100 1) then (bd (f_J7_fill_d0a16 107 18 (0 : Int64) z) fun z3 => bd (f_J7_fill_d0a16 108 18 (0 : Int64) z3) fun z5 => bd (f_J7_fill_d0a16 109 18 (0 : Int64) z5) fun z7 => wl2 (b_X0_lift_34) fu (0 : Int32) z7) else (some z)
set_option maxRecDepth 100000 in
set_option maxHeartbeats 4000000 in
theorem w_X0_lift_80 {ag69 : Int32 → Sto → Option (Sto)} {Z : Sto} (F : Fx rC p s m args cd cX0_lift 5 RX0 G) (hr : meth.sig.returnType = none) (hlk : meth.locks = false) (hag69 : ∀ (x3 : Int32) (z : Sto), ag69 x3 z = some Z → ∀ {H : Heap} {locs : List Loc} {ls : Array Slot}, Hh rC G z s H locs → lv_has ls 5 [(0, .ref (G.1 100)), (1, .ref (G.1 1)), (2, .ref (G.1 97)), (3, .int x3)] → W p l e rmX0_lift s m args below meth cd H locs 0 0 (MQ below (QV rC G Z) args s 0 0 (Am rC G)) (F0 m 69 ls [])) : ∀ (n : Nat), ∀ (x3 : Int32) (x4 : Int32) (z : Sto), wl3 (b_X0_lift_80 ag69) n x3 x4 z = some Z → ∀ {H : Heap} {locs : List Loc} {ls : Array Slot}, Hh rC G z s H locs → lv_has ls 5 [(0, .ref (G.1 100)), (1, .ref (G.1 1)), (2, .ref (G.1 97)), (3, .int x3), (4, .int x4)] → W p l e rmX0_lift s m args below meth cd H locs 0 0 (MQ below (QV rC G Z) args s 0 0 (Am rC G)) (F0 m 80 ls []) := by
  have hx := F.1
  have hb := F.2.1
  intro n
  induction n with
  | zero =>
    intro x3 x4 z hf
    exact absurd hf (by intro h; cases h)
  | succ n ih =>
    intro x3 x4 z hf  H locs ls hh hl
    replace hf : b_X0_lift_80 ag69 (wl3 (b_X0_lift_80 ag69) n) x3 x4 z = some Z := hf
    unfold b_X0_lift_80 at hf
    refine lv_iload hx hb dX0_lift_80 (lv_at hl 4 rfl) ?_
    refine lv_iconst (v := 2) hx hb dX0_lift_82 (by decide) ?_
    refine lv_aload_n hx hb dX0_lift_83 rfl (lv_at hl 1 rfl) ?_
    refine r_X0_51 F hh in_1 sh_1 dX0_lift_84 ?_
    refine lv_imul hx hb dX0_lift_87 ?_
    refine lv_icmp_ge (tgt := 142) hx hb dX0_lift_88 (by decide) (fun c15 => ?_) (fun c15 => ?_)
    · replace hf := itp c15 hf
      obtain ⟨x3_16, ex3_16⟩ : ∃ y : Int32, y = x3 + (1 : Int32) := ⟨_, rfl⟩
      replace hf := lt_e ex3_16 hf
      refine lv_iinc (v := x3_16) (lv' := [(3, .int x3_16), (0, .ref (G.1 100)), (1, .ref (G.1 1)), (2, .ref (G.1 97)), (4, .int x4)]) hx hb dX0_lift_142 hl (k := 3) rfl (by rw [ex3_16]; rfl) (by decide) rfl (fun ls hl => ?_)
      refine lv_goto (tgt := 69) hx hb dX0_lift_145 (by decide) ?_
      exact hag69 _ _ hf  hh (lv_sub hl [1, 2, 3, 0] rfl)
    · replace hf := itn c15 hf
      refine lv_aload_n hx hb dX0_lift_91 rfl (lv_at hl 0 rfl) ?_
      refine r_X0_44 (b' := 110) F hh in_100 sh_100 rfl dX0_lift_92 ?_
      refine lv_aload_n hx hb dX0_lift_95 rfl (lv_at hl 0 rfl) ?_
      refine r_X0_22 (b' := 103) F hh in_100 sh_100 rfl dX0_lift_96 ?_
      refine lv_iload hx hb dX0_lift_99 (lv_at hl 4 rfl) ?_
      refine lv_iconst (v := 1) hx hb dX0_lift_101 (by decide) ?_
      refine lv_ixor hx hb dX0_lift_102 ?_
      obtain ⟨t17, ht17, hf⟩ := ob hf
      refine g_iald F hh in_103 sh_103 ht17 dX0_lift_103 ?_
      obtain ⟨t18, ht18, hf⟩ := ob hf
      refine g_zald F hh in_110 sh_110 ht18 dX0_lift_104 ?_
      refine lv_if_eq (tgt := 136) hx hb dX0_lift_105 (by decide) (fun c19 => ?_) (fun c19 => ?_)
      · replace hf := itp c19 hf
        obtain ⟨x4_20, ex4_20⟩ : ∃ y : Int32, y = x4 + (1 : Int32) := ⟨_, rfl⟩
        replace hf := lt_e ex4_20 hf
        refine lv_iinc (v := x4_20) (lv' := [(4, .int x4_20), (0, .ref (G.1 100)), (1, .ref (G.1 1)), (2, .ref (G.1 97)), (3, .int x3)]) hx hb dX0_lift_136 hl (k := 4) rfl (by rw [ex4_20]; rfl) (by decide) rfl (fun ls hl => ?_)
        refine lv_goto (tgt := 80) hx hb dX0_lift_139 (by decide) ?_
        exact ih _ _ _ hf  hh (lv_sub hl [1, 2, 3, 4, 0] rfl)
      · replace hf := itn c19 hf
        refine lv_aload_n hx hb dX0_lift_108 rfl (lv_at hl 0 rfl) ?_
        refine r_X0_44 (b' := 110) F hh in_100 sh_100 rfl dX0_lift_109 ?_
        refine lv_aload_n hx hb dX0_lift_112 rfl (lv_at hl 0 rfl) ?_
        refine r_X0_22 (b' := 103) F hh in_100 sh_100 rfl dX0_lift_113 ?_
        refine lv_iload hx hb dX0_lift_116 (lv_at hl 4 rfl) ?_
        obtain ⟨t21, ht21, hf⟩ := ob hf
        refine g_iald F hh in_103 sh_103 ht21 dX0_lift_118 ?_
        obtain ⟨t22, ht22, hf⟩ := ob hf
        refine g_zald F hh in_110 sh_110 ht22 dX0_lift_119 ?_
        refine lv_if_ne (tgt := 136) hx hb dX0_lift_120 (by decide) (fun c23 => ?_) (fun c23 => ?_)
        · replace hf := itn c23 hf
          obtain ⟨x4_24, ex4_24⟩ : ∃ y : Int32, y = x4 + (1 : Int32) := ⟨_, rfl⟩
          replace hf := lt_e ex4_24 hf
          refine lv_iinc (v := x4_24) (lv' := [(4, .int x4_24), (0, .ref (G.1 100)), (1, .ref (G.1 1)), (2, .ref (G.1 97)), (3, .int x3)]) hx hb dX0_lift_136 hl (k := 4) rfl (by rw [ex4_24]; rfl) (by decide) rfl (fun ls hl => ?_)
          refine lv_goto (tgt := 80) hx hb dX0_lift_139 (by decide) ?_
          exact ih _ _ _ hf  hh (lv_sub hl [1, 2, 3, 4, 0] rfl)
        · replace hf := itp c23 hf
          refine lv_aload_n hx hb dX0_lift_123 rfl (lv_at hl 0 rfl) ?_
          refine lv_aload_n hx hb dX0_lift_124 rfl (lv_at hl 1 rfl) ?_
          refine lv_iload hx hb dX0_lift_125 (lv_at hl 4 rfl) ?_
          refine lv_aload_n hx hb dX0_lift_127 rfl (lv_at hl 2 rfl) ?_
          refine lv_iload hx hb dX0_lift_128 (lv_at hl 4 rfl) ?_
          refine lv_iconst (v := 2) hx hb dX0_lift_130 (by decide) ?_
          refine lv_idiv hx hb dX0_lift_131 (by decide) ?_
          obtain ⟨t25, ht25, hf⟩ := ob hf
          refine g_lald F hh in_97 sh_97 ht25 dX0_lift_132 ?_
          obtain ⟨z27, ht26, hf⟩ := ob hf
          refine m_X0_91 F hh (c_X0_placeBeside ht26) in_100 sh_100 rfl hl (Nat.le_of_ble_eq_true rfl) dX0_lift_133 (fun H locs hh => ?_)
          obtain ⟨x4_28, ex4_28⟩ : ∃ y : Int32, y = x4 + (1 : Int32) := ⟨_, rfl⟩
          replace hf := lt_e ex4_28 hf
          refine lv_iinc (v := x4_28) (lv' := [(4, .int x4_28), (0, .ref (G.1 100)), (1, .ref (G.1 1)), (2, .ref (G.1 97)), (3, .int x3)]) hx hb dX0_lift_136 hl (k := 4) rfl (by rw [ex4_28]; rfl) (by decide) rfl (fun ls hl => ?_)
          refine lv_goto (tgt := 80) hx hb dX0_lift_139 (by decide) ?_
          exact ih _ _ _ hf  hh (lv_sub hl [1, 2, 3, 4, 0] rfl)
set_option maxRecDepth 100000 in
set_option maxHeartbeats 4000000 in
theorem w_X0_lift_69  {Z : Sto} (F : Fx rC p s m args cd cX0_lift 5 RX0 G) (hr : meth.sig.returnType = none) (hlk : meth.locks = false)  : ∀ (n : Nat), ∀ (x3 : Int32) (z : Sto), wl2 (b_X0_lift_69) n x3 z = some Z → ∀ {H : Heap} {locs : List Loc} {ls : Array Slot}, Hh rC G z s H locs → lv_has ls 5 [(0, .ref (G.1 100)), (1, .ref (G.1 1)), (2, .ref (G.1 97)), (3, .int x3)] → W p l e rmX0_lift s m args below meth cd H locs 0 0 (MQ below (QV rC G Z) args s 0 0 (Am rC G)) (F0 m 69 ls []) := by
  have hx := F.1
  have hb := F.2.1
  intro n
  induction n with
  | zero =>
    intro x3 z hf
    exact absurd hf (by intro h; cases h)
  | succ n ih =>
    intro x3 z hf  H locs ls hh hl
    replace hf : b_X0_lift_69 (wl2 (b_X0_lift_69) n) x3 z = some Z := hf
    unfold b_X0_lift_69 at hf
    refine lv_iload_n hx hb dX0_lift_69 rfl (lv_at hl 3 rfl) ?_
    refine lv_aload_n hx hb dX0_lift_70 rfl (lv_at hl 0 rfl) ?_
    refine r_X0_48 F hh in_100 sh_100 dX0_lift_71 ?_
    refine lv_icmp_ge (tgt := 148) hx hb dX0_lift_74 (by decide) (fun c14 => ?_) (fun c14 => ?_)
    · replace hf := itp c14 hf
      exact g_vret F hr hlk hh (Option.some.inj hf) dX0_lift_148
    · replace hf := itn c14 hf
      refine lv_iconst (v := 0) hx hb dX0_lift_77 (by decide) ?_
      refine lv_istore (lv' := [(4, .int (0 : Int32)), (0, .ref (G.1 100)), (1, .ref (G.1 1)), (2, .ref (G.1 97)), (3, .int x3)]) hx hb dX0_lift_78 hl (by decide) rfl (fun ls hl => ?_)
      exact w_X0_lift_80 F hr hlk ih fu _ _ _ hf  hh (lv_sub hl [1, 2, 3, 4, 0] rfl)
set_option maxRecDepth 100000 in
set_option maxHeartbeats 4000000 in
theorem w_X0_lift_34  {Z : Sto} (F : Fx rC p s m args cd cX0_lift 5 RX0 G) (hr : meth.sig.returnType = none) (hlk : meth.locks = false)  : ∀ (n : Nat), ∀ (x3 : Int32) (z : Sto), wl2 (b_X0_lift_34) n x3 z = some Z → ∀ {H : Heap} {locs : List Loc} {ls : Array Slot}, Hh rC G z s H locs → lv_has ls 5 [(0, .ref (G.1 100)), (1, .ref (G.1 1)), (2, .ref (G.1 97)), (3, .int x3)] → W p l e rmX0_lift s m args below meth cd H locs 0 0 (MQ below (QV rC G Z) args s 0 0 (Am rC G)) (F0 m 34 ls []) := by
  have hx := F.1
  have hb := F.2.1
  intro n
  induction n with
  | zero =>
    intro x3 z hf
    exact absurd hf (by intro h; cases h)
  | succ n ih =>
    intro x3 z hf  H locs ls hh hl
    replace hf : b_X0_lift_34 (wl2 (b_X0_lift_34) n) x3 z = some Z := hf
    unfold b_X0_lift_34 at hf
    refine lv_iload_n hx hb dX0_lift_34 rfl (lv_at hl 3 rfl) ?_
    refine lv_aload_n hx hb dX0_lift_35 rfl (lv_at hl 0 rfl) ?_
    refine r_X0_48 F hh in_100 sh_100 dX0_lift_36 ?_
    refine lv_icmp_ge (tgt := 67) hx hb dX0_lift_39 (by decide) (fun c8 => ?_) (fun c8 => ?_)
    · replace hf := itp c8 hf
      refine lv_iconst (v := 0) hx hb dX0_lift_67 (by decide) ?_
      refine lv_istore_n (lv' := [(3, .int (0 : Int32)), (0, .ref (G.1 100)), (1, .ref (G.1 1)), (2, .ref (G.1 97))]) hx hb dX0_lift_68 rfl hl (by decide) rfl (fun ls hl => ?_)
      exact w_X0_lift_69 F hr hlk fu _ _ hf  hh (lv_sub hl [1, 2, 3, 0] rfl)
    · replace hf := itn c8 hf
      refine lv_aload_n hx hb dX0_lift_42 rfl (lv_at hl 0 rfl) ?_
      refine r_X0_44 (b' := 110) F hh in_100 sh_100 rfl dX0_lift_43 ?_
      refine lv_iload_n hx hb dX0_lift_46 rfl (lv_at hl 3 rfl) ?_
      refine lv_iload_n hx hb dX0_lift_47 rfl (lv_at hl 3 rfl) ?_
      refine lv_aload_n hx hb dX0_lift_48 rfl (lv_at hl 0 rfl) ?_
      refine r_X0_9 F hh in_100 sh_100 dX0_lift_49 ?_
      refine lv_icmp_ne (tgt := 59) hx hb dX0_lift_52 (by decide) (fun c9 => ?_) (fun c9 => ?_)
      · replace hf := itn c9 hf
        refine lv_iconst (v := 0) hx hb dX0_lift_59 (by decide) ?_
        obtain ⟨z10, hz10, hf⟩ := ob hf
        refine g_zast F hh in_110 sh_110 hz10 dX0_lift_60 (fun H locs hh => ?_)
        obtain ⟨x3_11, ex3_11⟩ : ∃ y : Int32, y = x3 + (1 : Int32) := ⟨_, rfl⟩
        replace hf := lt_e ex3_11 hf
        refine lv_iinc (v := x3_11) (lv' := [(3, .int x3_11), (0, .ref (G.1 100)), (1, .ref (G.1 1)), (2, .ref (G.1 97))]) hx hb dX0_lift_61 hl (k := 3) rfl (by rw [ex3_11]; rfl) (by decide) rfl (fun ls hl => ?_)
        refine lv_goto (tgt := 34) hx hb dX0_lift_64 (by decide) ?_
        exact ih _ _ hf  hh (lv_sub hl [1, 2, 3, 0] rfl)
      · replace hf := itp c9 hf
        refine lv_iconst (v := 1) hx hb dX0_lift_55 (by decide) ?_
        refine lv_goto (tgt := 60) hx hb dX0_lift_56 (by decide) ?_
        obtain ⟨z12, hz12, hf⟩ := ob hf
        refine g_zast F hh in_110 sh_110 hz12 dX0_lift_60 (fun H locs hh => ?_)
        obtain ⟨x3_13, ex3_13⟩ : ∃ y : Int32, y = x3 + (1 : Int32) := ⟨_, rfl⟩
        replace hf := lt_e ex3_13 hf
        refine lv_iinc (v := x3_13) (lv' := [(3, .int x3_13), (0, .ref (G.1 100)), (1, .ref (G.1 1)), (2, .ref (G.1 97))]) hx hb dX0_lift_61 hl (k := 3) rfl (by rw [ex3_13]; rfl) (by decide) rfl (fun ls hl => ?_)
        refine lv_goto (tgt := 34) hx hb dX0_lift_64 (by decide) ?_
        exact ih _ _ hf  hh (lv_sub hl [1, 2, 3, 0] rfl)
set_option maxRecDepth 100000 in
set_option maxHeartbeats 4000000 in
theorem w_X0_lift {Z : Sto} (F : Fx rC p s m args cd cX0_lift 5 RX0 G) (hr : meth.sig.returnType = none) (hlk : meth.locks = false)  {z : Sto} {H : Heap} {locs : List Loc} {ls : Array Slot} (hf : f_X0_lift  z = some Z) (hh : Hh rC G z s H locs) (hl : lv_has ls 5 [(0, .ref (G.1 100)), (1, .ref (G.1 1)), (2, .ref (G.1 97))]) : W p l e rmX0_lift s m args below meth cd H locs 0 0 (MQ below (QV rC G Z) args s 0 0 (Am rC G)) (F0 m 0 ls []) := by
  have hx := F.1
  have hb := F.2.1
  unfold f_X0_lift at hf
  refine lv_aload_n hx hb dX0_lift_0 rfl (lv_at hl 0 rfl) ?_
  refine r_X0_9 F hh in_100 sh_100 dX0_lift_1 ?_
  refine lv_if_ge (tgt := 8) hx hb dX0_lift_4 (by decide) (fun c1 => ?_) (fun c1 => ?_)
  · replace hf := itp c1 hf
    refine lv_aload_n hx hb dX0_lift_8 rfl (lv_at hl 0 rfl) ?_
    refine r_X0_34 (b' := 107) F hh in_100 sh_100 rfl dX0_lift_9 ?_
    refine lv_lconst (v := 0) hx hb dX0_lift_12 (by decide) ?_
    obtain ⟨z3, ht2, hf⟩ := ob hf
    refine m_X0_85 F hh (c_J7_fill_d0a16 lo_107 ht2) rfl hl (Nat.le_of_ble_eq_true rfl) dX0_lift_13 (fun H locs hh => ?_)
    refine lv_aload_n hx hb dX0_lift_16 rfl (lv_at hl 0 rfl) ?_
    refine r_X0_38 (b' := 108) F hh in_100 sh_100 rfl dX0_lift_17 ?_
    refine lv_lconst (v := 0) hx hb dX0_lift_20 (by decide) ?_
    obtain ⟨z5, ht4, hf⟩ := ob hf
    refine m_X0_85 F hh (c_J7_fill_d0a16 lo_108 ht4) rfl hl (Nat.le_of_ble_eq_true rfl) dX0_lift_21 (fun H locs hh => ?_)
    refine lv_aload_n hx hb dX0_lift_24 rfl (lv_at hl 0 rfl) ?_
    refine r_X0_41 (b' := 109) F hh in_100 sh_100 rfl dX0_lift_25 ?_
    refine lv_lconst (v := 0) hx hb dX0_lift_28 (by decide) ?_
    obtain ⟨z7, ht6, hf⟩ := ob hf
    refine m_X0_85 F hh (c_J7_fill_d0a16 lo_109 ht6) rfl hl (Nat.le_of_ble_eq_true rfl) dX0_lift_29 (fun H locs hh => ?_)
    refine lv_iconst (v := 0) hx hb dX0_lift_32 (by decide) ?_
    refine lv_istore_n (lv' := [(3, .int (0 : Int32)), (0, .ref (G.1 100)), (1, .ref (G.1 1)), (2, .ref (G.1 97))]) hx hb dX0_lift_33 rfl hl (by decide) rfl (fun ls hl => ?_)
    exact w_X0_lift_34 F hr hlk fu _ _ hf  hh (lv_sub hl [1, 2, 3, 0] rfl)
  · replace hf := itn c1 hf
    exact g_vret F hr hlk hh (Option.some.inj hf) dX0_lift_7
theorem c_X0_lift {l : Launch} {G : Gm}  {z : Sto} {Z : Sto} (hf : f_X0_lift  z = some Z) : Met l yX0_lift (Cond.code yX0_lift cX0_lift 5 none :: TT) rmX0_lift (va_Pc [.ref (G.1 100), .ref (G.1 1), .ref (G.1 97)] (GS rC G z)) (QV rC G Z) 0 0 (Am rC G) := by
  refine g_met [(0, .ref (G.1 100)), (1, .ref (G.1 1)), (2, .ref (G.1 97))] (by decide) (Nat.le_of_ble_eq_true rfl) rfl ?_
  intro p e s m below meth cd F hr hlk ls H locs hl hh
  exact w_X0_lift F hr hlk hf hh hl
