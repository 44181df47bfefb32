variable {p : Program} {l : Launch} {e : Env} {s : State} {m : MethodId} {args : Array Value} {below : List Frame} {meth : Method} {cd : Code} {G : Gm}

def b_J7_fill_d0a16_6 (q1 : Nat) (n1 : Nat)  (ag6 : Int64 → Int32 → Int32 → Sto → Option (Sto)) (x1 : Int64) (x3 : Int32) (x4 : Int32) (z : Sto) : Option (Sto) := if x4 ≤ x3 then (some z) else (bd (wrL z (q1) n1 x3 x1) fun z3 => lt (x3 + (1 : Int32)) fun x3_4 => ag6 x1 x3_4 x4 z3)
def f_J7_fill_d0a16 (q1 : Nat) (n1 : Nat) (x1 : Int64) (z : Sto) : Option (Sto) := lt ((Int32.ofNat n1)) fun x4_1 => wl4 (b_J7_fill_d0a16_6 q1 n1) fu x1 (0 : Int32) x4_1 z
set_option maxRecDepth 100000 in
set_option maxHeartbeats 4000000 in
theorem w_J7_fill_d0a16_6 {q1 : Nat} {n1 : Nat}  {Z : Sto} (F : Fx rC p s m args cd cJ7_fill_d0a16 5 RJ7 G) (hr : meth.sig.returnType = none) (hlk : meth.locks = false) (hq1 : LoC q1 n1)  : ∀ (n : Nat), ∀ (x1 : Int64) (x3 : Int32) (x4 : Int32) (z : Sto), wl4 (b_J7_fill_d0a16_6 q1 n1) n x1 x3 x4 z = some Z → ∀ {H : Heap} {locs : List Loc} {ls : Array Slot}, Hh rC G z s H locs → lv_has ls 5 [(0, .ref (G.1 (q1))), (1, .long x1), (3, .int x3), (4, .int x4)] → W p l e rmJ7_fill_d0a16 s m args below meth cd H locs 0 0 (MQ below (QV rC G Z) args s 0 0 (Am rC G)) (F0 m 6 ls []) := by
  have hx := F.1
  have hb := F.2.1
  intro n
  induction n with
  | zero =>
    intro x1 x3 x4 z hf
    exact absurd hf (by intro h; cases h)
  | succ n ih =>
    intro x1 x3 x4 z hf  H locs ls hh hl
    replace hf : b_J7_fill_d0a16_6 q1 n1 (wl4 (b_J7_fill_d0a16_6 q1 n1) n) x1 x3 x4 z = some Z := hf
    unfold b_J7_fill_d0a16_6 at hf
    refine lv_iload_n hx hb dJ7_fill_d0a16_6 rfl (lv_at hl 2 rfl) ?_
    refine lv_iload hx hb dJ7_fill_d0a16_7 (lv_at hl 3 rfl) ?_
    refine lv_icmp_ge (tgt := 22) hx hb dJ7_fill_d0a16_9 (by decide) (fun c2 => ?_) (fun c2 => ?_)
    · replace hf := itp c2 hf
      exact g_vret F hr hlk hh (Option.some.inj hf) dJ7_fill_d0a16_22
    · replace hf := itn c2 hf
      refine lv_aload_n hx hb dJ7_fill_d0a16_12 rfl (lv_at hl 0 rfl) ?_
      refine lv_iload_n hx hb dJ7_fill_d0a16_13 rfl (lv_at hl 2 rfl) ?_
      refine lv_lload_n hx hb dJ7_fill_d0a16_14 rfl (lv_at hl 1 rfl) ?_
      obtain ⟨z3, hz3, hf⟩ := ob hf
      refine g_last F hh (loi hq1) (los hq1) hz3 dJ7_fill_d0a16_15 (fun H locs hh => ?_)
      obtain ⟨x3_4, ex3_4⟩ : ∃ y : Int32, y = x3 + (1 : Int32) := ⟨_, rfl⟩
      replace hf := lt_e ex3_4 hf
      refine lv_iinc (v := x3_4) (lv' := [(3, .int x3_4), (0, .ref (G.1 (q1))), (1, .long x1), (4, .int x4)]) hx hb dJ7_fill_d0a16_16 hl (k := 2) rfl (by rw [ex3_4]; rfl) (by decide) rfl (fun ls hl => ?_)
      refine lv_goto (tgt := 6) hx hb dJ7_fill_d0a16_19 (by decide) ?_
      exact ih _ _ _ _ hf  hh (lv_sub hl [1, 2, 0, 3] rfl)
set_option maxRecDepth 100000 in
set_option maxHeartbeats 4000000 in
theorem w_J7_fill_d0a16 {q1 : Nat} {n1 : Nat} {Z : Sto} (F : Fx rC p s m args cd cJ7_fill_d0a16 5 RJ7 G) (hr : meth.sig.returnType = none) (hlk : meth.locks = false) (hq1 : LoC q1 n1) {x1 : Int64} {z : Sto} {H : Heap} {locs : List Loc} {ls : Array Slot} (hf : f_J7_fill_d0a16 q1 n1 x1 z = some Z) (hh : Hh rC G z s H locs) (hl : lv_has ls 5 [(0, .ref (G.1 (q1))), (1, .long x1)]) : W p l e rmJ7_fill_d0a16 s m args below meth cd H locs 0 0 (MQ below (QV rC G Z) args s 0 0 (Am rC G)) (F0 m 0 ls []) := by
  have hx := F.1
  have hb := F.2.1
  unfold f_J7_fill_d0a16 at hf
  refine lv_iconst (v := 0) hx hb dJ7_fill_d0a16_0 (by decide) ?_
  refine lv_istore_n (lv' := [(3, .int (0 : Int32)), (0, .ref (G.1 (q1))), (1, .long x1)]) hx hb dJ7_fill_d0a16_1 rfl hl (by decide) rfl (fun ls hl => ?_)
  refine lv_aload_n hx hb dJ7_fill_d0a16_2 rfl (lv_at hl 1 rfl) ?_
  refine g_alenL F hh (loi hq1) (los hq1) dJ7_fill_d0a16_3 ?_
  refine lv_topi (fun x4_1 ex4_1 => ?_)
  replace hf := lt_e ex4_1 hf
  refine lv_istore (lv' := [(4, .int x4_1), (3, .int (0 : Int32)), (0, .ref (G.1 (q1))), (1, .long x1)]) hx hb dJ7_fill_d0a16_4 hl (by decide) rfl (fun ls hl => ?_)
  exact w_J7_fill_d0a16_6 F hr hlk hq1 fu _ _ _ _ hf  hh (lv_sub hl [2, 3, 1, 0] rfl)
theorem c_J7_fill_d0a16 {l : Launch} {G : Gm} {q1 : Nat} {n1 : Nat} {x1 : Int64} {z : Sto} {Z : Sto} (hq1 : LoC q1 n1) (hf : f_J7_fill_d0a16 q1 n1 x1 z = some Z) : Met l yJ7_fill_d0a16 (Cond.code yJ7_fill_d0a16 cJ7_fill_d0a16 5 none :: TT) rmJ7_fill_d0a16 (va_Pc [.ref (G.1 (q1)), .long x1] (GS rC G z)) (QV rC G Z) 0 0 (Am rC G) := by
  refine g_met [(0, .ref (G.1 (q1))), (1, .long x1)] (by decide) (Nat.le_of_ble_eq_true rfl) rfl ?_
  intro p e s m below meth cd F hr hlk ls H locs hl hh
  exact w_J7_fill_d0a16 F hr hlk hq1 hf hh hl
