/-! THE CLAIM OUT OF ONE WALK OF THE LAW'S BODY. Your part is whole_start (and what it stands on); all else here is the same for every law, but numbers. -/
def R_law : String := "ForceFramesLaw"
def lw_P (b : Addr) (xs : List Int32) (args : Array Value) (s : State) : Prop := args = #[.ref b] ∧ s.IntsAt b xs ∧ xs.length ≤ 3072 ∧ (Jvm.Cond.and given_1 narrow_1).before args s = true
def lw_Q (_ : Array Value) (s : State) (o : Outcome) (t : State) : Prop := o = .returned (some (.int 1)) ∧ Framed s o t [] 600000 7302250
def lw_Z (below : List Frame) (a : Array Value) (s : State) : State → Prop := fun t => ∃ o, t.status = .running ∧ Ended t below o ∧ lw_Q a s o t
/-- the law's own end, with 1 on the stack, nothing written that was there before, its room as the claim has it -/
theorem lw_ret {p : Program} {l : Launch} {e : Env} {s : State} {m : MethodId} {below : List Frame} {meth : Method} {c : Code} {b : Nat} (hx : p.tables.exec = Jvm.exec) (hb : c.code = code) (hr : meth.sig.returnType = ret) (hlocks : meth.locks = false) {pc : Nat} {H : Heap} {ls : Array Slot} (hdg : decode code pc = .ok (.ireturn, 1)) : W p l e room_1 s m #[Value.ref b] below meth c H [] 600000 7302250 (lw_Z below #[Value.ref b] s) (F0 m pc ls [.int 1]) := by
  intro T hT X
  obtain ⟨fs, hret, hrun, hended, hW, hframe⟩ := X.leave (v := some (.int 1)) (hlocks := hlocks) (fun h => by rw [hr] at h; cases h)
  have hmeth' : T.vm.method? m = some meth := X.method'
  refine ⟨T.setFrames fs, ?_, .returned (some (.int 1)), hrun, hended, rfl, ⟨_, rfl⟩, hW, hframe⟩
  jvm_step X.here [X.here.top, hx, hb, hdg, hmeth', hr, ret, narrow_b1]
  (try refine ⟨rfl, ?_⟩); (try refine ⟨rfl, ?_⟩)
  first | (intro acts; rw [hret _ acts rfl rfl rfl]) | rw [hret _ _ rfl rfl rfl]
  exact Steps.refl _
/-- what holds at the law's entry: the machine, the code, the tables' words (any of lw_tbl by 'hts w (by decide +kernel)'), the script of L ints xs at the cell b, what the Statement gives of the start (any of its parts by flat_of_before) -/
def lw_At (p : Program) (s : State) (m : MethodId) (meth : Method) (c : Code) (b L : Nat) (xs : Nat → Int32) : Prop :=
  p.tables.exec = Jvm.exec ∧ c.code = code ∧ meth.sig.returnType = ret ∧ c.maxLocals = 4 ∧ s.vm.findClass R_law = some m.cls ∧ (∀ w ∈ lw_tbl, w.before #[Value.ref b] s = true) ∧ va_X b L xs s s.heap ∧ b < s.heap.size ∧ meth.locks = false ∧ (Jvm.Cond.and given_1 narrow_1).before #[Value.ref b] s = true
theorem tb_out33 {x : Int32} (h0 : ¬ x = 0) (h1 : ¬ x = 1) (h2 : ¬ x = 2) (h3 : ¬ x = 3) (h4 : ¬ x = 4) (h5 : ¬ x = 5) (h6 : ¬ x = 6) (h7 : ¬ x = 7) (h8 : ¬ x = 8) (h9 : ¬ x = 9) (h10 : ¬ x = 10) (h11 : ¬ x = 11) (h12 : ¬ x = 12) (h13 : ¬ x = 13) (h14 : ¬ x = 14) (h15 : ¬ x = 15) (h16 : ¬ x = 16) (h17 : ¬ x = 17) (h18 : ¬ x = 18) (h19 : ¬ x = 19) (h20 : ¬ x = 20) (h21 : ¬ x = 21) (h22 : ¬ x = 22) (h23 : ¬ x = 23) (h24 : ¬ x = 24) (h25 : ¬ x = 25) (h26 : ¬ x = 26) (h27 : ¬ x = 27) (h28 : ¬ x = 28) (h29 : ¬ x = 29) (h30 : ¬ x = 30) (h31 : ¬ x = 31) (h32 : ¬ x = 32) : x.toInt < 0 ∨ (32 : Int) < x.toInt := by
  have g0 : x.toInt ≠ 0 := fun h => h0 (Int32.toInt_inj.mp (by rw [h]; decide))
  have g1 : x.toInt ≠ 1 := fun h => h1 (Int32.toInt_inj.mp (by rw [h]; decide))
  have g2 : x.toInt ≠ 2 := fun h => h2 (Int32.toInt_inj.mp (by rw [h]; decide))
  have g3 : x.toInt ≠ 3 := fun h => h3 (Int32.toInt_inj.mp (by rw [h]; decide))
  have g4 : x.toInt ≠ 4 := fun h => h4 (Int32.toInt_inj.mp (by rw [h]; decide))
  have g5 : x.toInt ≠ 5 := fun h => h5 (Int32.toInt_inj.mp (by rw [h]; decide))
  have g6 : x.toInt ≠ 6 := fun h => h6 (Int32.toInt_inj.mp (by rw [h]; decide))
  have g7 : x.toInt ≠ 7 := fun h => h7 (Int32.toInt_inj.mp (by rw [h]; decide))
  have g8 : x.toInt ≠ 8 := fun h => h8 (Int32.toInt_inj.mp (by rw [h]; decide))
  have g9 : x.toInt ≠ 9 := fun h => h9 (Int32.toInt_inj.mp (by rw [h]; decide))
  have g10 : x.toInt ≠ 10 := fun h => h10 (Int32.toInt_inj.mp (by rw [h]; decide))
  have g11 : x.toInt ≠ 11 := fun h => h11 (Int32.toInt_inj.mp (by rw [h]; decide))
  have g12 : x.toInt ≠ 12 := fun h => h12 (Int32.toInt_inj.mp (by rw [h]; decide))
  have g13 : x.toInt ≠ 13 := fun h => h13 (Int32.toInt_inj.mp (by rw [h]; decide))
  have g14 : x.toInt ≠ 14 := fun h => h14 (Int32.toInt_inj.mp (by rw [h]; decide))
  have g15 : x.toInt ≠ 15 := fun h => h15 (Int32.toInt_inj.mp (by rw [h]; decide))
  have g16 : x.toInt ≠ 16 := fun h => h16 (Int32.toInt_inj.mp (by rw [h]; decide))
  have g17 : x.toInt ≠ 17 := fun h => h17 (Int32.toInt_inj.mp (by rw [h]; decide))
  have g18 : x.toInt ≠ 18 := fun h => h18 (Int32.toInt_inj.mp (by rw [h]; decide))
  have g19 : x.toInt ≠ 19 := fun h => h19 (Int32.toInt_inj.mp (by rw [h]; decide))
  have g20 : x.toInt ≠ 20 := fun h => h20 (Int32.toInt_inj.mp (by rw [h]; decide))
  have g21 : x.toInt ≠ 21 := fun h => h21 (Int32.toInt_inj.mp (by rw [h]; decide))
  have g22 : x.toInt ≠ 22 := fun h => h22 (Int32.toInt_inj.mp (by rw [h]; decide))
  have g23 : x.toInt ≠ 23 := fun h => h23 (Int32.toInt_inj.mp (by rw [h]; decide))
  have g24 : x.toInt ≠ 24 := fun h => h24 (Int32.toInt_inj.mp (by rw [h]; decide))
  have g25 : x.toInt ≠ 25 := fun h => h25 (Int32.toInt_inj.mp (by rw [h]; decide))
  have g26 : x.toInt ≠ 26 := fun h => h26 (Int32.toInt_inj.mp (by rw [h]; decide))
  have g27 : x.toInt ≠ 27 := fun h => h27 (Int32.toInt_inj.mp (by rw [h]; decide))
  have g28 : x.toInt ≠ 28 := fun h => h28 (Int32.toInt_inj.mp (by rw [h]; decide))
  have g29 : x.toInt ≠ 29 := fun h => h29 (Int32.toInt_inj.mp (by rw [h]; decide))
  have g30 : x.toInt ≠ 30 := fun h => h30 (Int32.toInt_inj.mp (by rw [h]; decide))
  have g31 : x.toInt ≠ 31 := fun h => h31 (Int32.toInt_inj.mp (by rw [h]; decide))
  have g32 : x.toInt ≠ 32 := fun h => h32 (Int32.toInt_inj.mp (by rw [h]; decide))
  omega
theorem law_gt {L i : Nat} (hL : L ≤ 3072) (hi : i ≤ 3072) : nI L - 6 < nI i ↔ L < i + 6 := by
  have e1 : (nI L - 6).toInt = (L : Int) - 6 := by
    have := pk_sub_toInt (a := L) (b := 6) (by omega) (by omega)
    exact this
  rw [Int32.lt_iff_toInt_lt, e1, nI_toInt (by omega)]
  omega
set_option maxRecDepth 100000 in
set_option maxHeartbeats 4000000 in
theorem law_loop {p : Program} {l : Launch} {e : Env} {s : State} {m : MethodId} {below : List Frame} {meth : Method} {c : Code} {G : Gm} {b L : Nat} {xs : Nat → Int32} (hr : meth.sig.returnType = ret) (hlocks : meth.locks = false) (C : LC p s m meth c b L xs G) (hL : L ≤ 3072) (I : Sto → Sto → Prop) (hI : ∀ (a0 a1 a2 a3 a4 a5 : Int32) (σ τ : Sto), I σ τ → ∃ Z : Sto × Sto, stp a0 a1 a2 a3 a4 a5 σ τ = some Z ∧ I Z.1 Z.2) :
    ∀ (n i : Nat) (x3 : Int32), L + 1 ≤ i + n → i ≤ L → x3 = nI i → ∀ (σ τ : Sto), I σ τ → ∀ (H : Heap) (locs : List Loc) (ls : Array Slot), va_P G.2.1 vwCl (WS rC G σ) H → va_P G.2.1 vwCl (WS rM G τ) H → va_S (AL s) s.heap H locs → lv_has ls 4 [(3, .int x3), (2, .ref (G.1 122)), (1, .ref (G.1 0)), (0, .ref b)] → W p l e room_1 s m #[Value.ref b] below meth c H locs 144 2496 (lw_Z below #[Value.ref b] s) (F0 m 18 ls []) := by
  obtain ⟨⟨hx, hb, hml, hown, hts⟩, ⟨hX, hbl⟩, hG1, hG2, hge1, hge2, hdis⟩ := id C
  intro n
  induction n with
  | zero => intro i x3 h1 h2; exact absurd h1 (by omega)
  | succ n ih =>
    intro i x3 hn hiL ex3 σ τ hσ H locs ls hP1 hP2 hS hl
    refine lv_iload_n hx hb dL_law_18 rfl (lv_at hl 0 rfl) ?_
    refine lv_aload_n hx hb dL_law_19 rfl (lv_at hl 3 rfl) ?_
    refine va_slen hx hb hX hbl (Nat.not_le.mpr hbl) hS dL_law_20 ?_
    refine lv_bipush (v := 6) hx hb dL_law_21 (by decide) ?_
    refine lv_isub hx hb dL_law_23 ?_
    refine lv_icmp_gt (tgt := 1282) hx hb dL_law_24 (by decide) (fun _ => ?_) (fun hc => ?_)
    · refine lv_iconst (v := 1) hx hb dL_law_1282 (by decide) ?_
      refine va_forget (fun q hq => hS.2.2 q hq) ?_
      refine W.widen (k := 600000) (n := 7302250) (Nat.le_of_ble_eq_true rfl) (Nat.le_of_ble_eq_true rfl) ?_
      exact lw_ret hx hb hr hlocks dL_law_1283
    · have hi : i + 6 ≤ L := by
        rcases Nat.lt_or_ge L (i + 6) with h | h
        · exact absurd (by rw [ex3]; exact (law_gt hL (by omega)).mpr h) hc
        · exact h
      obtain ⟨Z, hf, hZ⟩ := hI (xs i) (xs (i + 1)) (xs (i + 2)) (xs (i + 3)) (xs (i + 4)) (xs (i + 5)) σ τ hσ
      have go : ∀ (H : Heap) (locs : List Loc), va_P G.2.1 vwCl (WS rC G Z.1) H → va_P G.2.1 vwCl (WS rM G Z.2) H → va_S (AL s) s.heap H locs → W p l e room_1 s m #[Value.ref b] below meth c H locs 144 2496 (lw_Z below #[Value.ref b] s) (F0 m 1276 ls []) := by
        intro H locs hP1 hP2 hS
        obtain ⟨x4, ex4⟩ : ∃ y : Int32, y = x3 + 6 := ⟨_, rfl⟩
        refine lv_iinc (v := x4) (lv' := [(3, .int x4), (2, .ref (G.1 122)), (1, .ref (G.1 0)), (0, .ref b)]) hx hb dL_law_1276 hl (k := 0) rfl (by rw [ex4]; rfl) (by decide) rfl (fun ls hl => ?_)
        refine lv_goto (tgt := 18) hx hb dL_law_1279 (by decide) ?_
        exact ih (i + 6) x4 (by omega) hi (by rw [ex4, ex3]; exact nI_add i 6) Z.1 Z.2 hZ H locs ls hP1 hP2 hS hl
      refine lv_aload_n hx hb dL_law_27 rfl (lv_at hl 3 rfl) ?_
      refine lv_iload_n hx hb dL_law_28 rfl (lv_at hl 0 rfl) ?_
      refine g_sld (j := i) hx hb hX hbl hS ex3 (by omega) hL dL_law_29 ?_
      refine lv_bipush (v := 63) hx hb dL_law_30 (by decide) ?_
      refine lv_iand hx hb dL_law_32 ?_
      unfold stp at hf
      by_cases c0 : xs i &&& 63 = 0
      · replace hf := itp c0 hf
        refine lv_tableIn (tgt := 180) (off := 147) hx hb dL_law_33 (by rw [c0]; decide) (by rw [c0]; decide) (by rw [c0]; rfl) (by decide) ?_
        exact law_0 C hi hL hf ex3 hP1 hP2 hS hl go
      replace hf := itn c0 hf
      by_cases c1 : xs i &&& 63 = 1
      · replace hf := itp c1 hf
        refine lv_tableIn (tgt := 213) (off := 180) hx hb dL_law_33 (by rw [c1]; decide) (by rw [c1]; decide) (by rw [c1]; rfl) (by decide) ?_
        exact law_1 C hi hL hf ex3 hP1 hP2 hS hl go
      replace hf := itn c1 hf
      by_cases c2 : xs i &&& 63 = 2
      · replace hf := itp c2 hf
        refine lv_tableIn (tgt := 256) (off := 223) hx hb dL_law_33 (by rw [c2]; decide) (by rw [c2]; decide) (by rw [c2]; rfl) (by decide) ?_
        exact law_2 C hi hL hf ex3 hP1 hP2 hS hl go
      replace hf := itn c2 hf
      by_cases c3 : xs i &&& 63 = 3
      · replace hf := itp c3 hf
        refine lv_tableIn (tgt := 279) (off := 246) hx hb dL_law_33 (by rw [c3]; decide) (by rw [c3]; decide) (by rw [c3]; rfl) (by decide) ?_
        exact law_3 C hi hL hf ex3 hP1 hP2 hS hl go
      replace hf := itn c3 hf
      by_cases c4 : xs i &&& 63 = 4
      · replace hf := itp c4 hf
        refine lv_tableIn (tgt := 312) (off := 279) hx hb dL_law_33 (by rw [c4]; decide) (by rw [c4]; decide) (by rw [c4]; rfl) (by decide) ?_
        exact law_4 C hi hL hf ex3 hP1 hP2 hS hl go
      replace hf := itn c4 hf
      by_cases c5 : xs i &&& 63 = 5
      · replace hf := itp c5 hf
        refine lv_tableIn (tgt := 335) (off := 302) hx hb dL_law_33 (by rw [c5]; decide) (by rw [c5]; decide) (by rw [c5]; rfl) (by decide) ?_
        exact law_5 C hi hL hf ex3 hP1 hP2 hS hl go
      replace hf := itn c5 hf
      by_cases c6 : xs i &&& 63 = 6
      · replace hf := itp c6 hf
        refine lv_tableIn (tgt := 368) (off := 335) hx hb dL_law_33 (by rw [c6]; decide) (by rw [c6]; decide) (by rw [c6]; rfl) (by decide) ?_
        exact law_6 C hi hL hf ex3 hP1 hP2 hS hl go
      replace hf := itn c6 hf
      by_cases c7 : xs i &&& 63 = 7
      · replace hf := itp c7 hf
        refine lv_tableIn (tgt := 401) (off := 368) hx hb dL_law_33 (by rw [c7]; decide) (by rw [c7]; decide) (by rw [c7]; rfl) (by decide) ?_
        exact law_7 C hi hL hf ex3 hP1 hP2 hS hl go
      replace hf := itn c7 hf
      by_cases c8 : xs i &&& 63 = 8
      · replace hf := itp c8 hf
        refine lv_tableIn (tgt := 434) (off := 401) hx hb dL_law_33 (by rw [c8]; decide) (by rw [c8]; decide) (by rw [c8]; rfl) (by decide) ?_
        exact law_8 C hi hL hf ex3 hP1 hP2 hS hl go
      replace hf := itn c8 hf
      by_cases c9 : xs i &&& 63 = 9
      · replace hf := itp c9 hf
        refine lv_tableIn (tgt := 457) (off := 424) hx hb dL_law_33 (by rw [c9]; decide) (by rw [c9]; decide) (by rw [c9]; rfl) (by decide) ?_
        exact law_9 C hi hL hf ex3 hP1 hP2 hS hl go
      replace hf := itn c9 hf
      by_cases c10 : xs i &&& 63 = 10
      · replace hf := itp c10 hf
        refine lv_tableIn (tgt := 501) (off := 468) hx hb dL_law_33 (by rw [c10]; decide) (by rw [c10]; decide) (by rw [c10]; rfl) (by decide) ?_
        exact law_10 C hi hL hf ex3 hP1 hP2 hS hl go
      replace hf := itn c10 hf
      by_cases c11 : xs i &&& 63 = 11
      · replace hf := itp c11 hf
        refine lv_tableIn (tgt := 535) (off := 502) hx hb dL_law_33 (by rw [c11]; decide) (by rw [c11]; decide) (by rw [c11]; rfl) (by decide) ?_
        exact law_11 C hi hL hf ex3 hP1 hP2 hS hl go
      replace hf := itn c11 hf
      by_cases c12 : xs i &&& 63 = 12
      · replace hf := itp c12 hf
        refine lv_tableIn (tgt := 569) (off := 536) hx hb dL_law_33 (by rw [c12]; decide) (by rw [c12]; decide) (by rw [c12]; rfl) (by decide) ?_
        exact law_12 C hi hL hf ex3 hP1 hP2 hS hl go
      replace hf := itn c12 hf
      by_cases c13 : xs i &&& 63 = 13
      · replace hf := itp c13 hf
        refine lv_tableIn (tgt := 592) (off := 559) hx hb dL_law_33 (by rw [c13]; decide) (by rw [c13]; decide) (by rw [c13]; rfl) (by decide) ?_
        exact law_13 C hi hL hf ex3 hP1 hP2 hS hl go
      replace hf := itn c13 hf
      by_cases c14 : xs i &&& 63 = 14
      · replace hf := itp c14 hf
        refine lv_tableIn (tgt := 625) (off := 592) hx hb dL_law_33 (by rw [c14]; decide) (by rw [c14]; decide) (by rw [c14]; rfl) (by decide) ?_
        exact law_14 C hi hL hf ex3 hP1 hP2 hS hl go
      replace hf := itn c14 hf
      by_cases c15 : xs i &&& 63 = 15
      · replace hf := itp c15 hf
        refine lv_tableIn (tgt := 658) (off := 625) hx hb dL_law_33 (by rw [c15]; decide) (by rw [c15]; decide) (by rw [c15]; rfl) (by decide) ?_
        exact law_15 C hi hL hf ex3 hP1 hP2 hS hl go
      replace hf := itn c15 hf
      by_cases c16 : xs i &&& 63 = 16
      · replace hf := itp c16 hf
        refine lv_tableIn (tgt := 681) (off := 648) hx hb dL_law_33 (by rw [c16]; decide) (by rw [c16]; decide) (by rw [c16]; rfl) (by decide) ?_
        exact law_16 C hi hL hf ex3 hP1 hP2 hS hl go
      replace hf := itn c16 hf
      by_cases c17 : xs i &&& 63 = 17
      · replace hf := itp c17 hf
        refine lv_tableIn (tgt := 725) (off := 692) hx hb dL_law_33 (by rw [c17]; decide) (by rw [c17]; decide) (by rw [c17]; rfl) (by decide) ?_
        exact law_17 C hi hL hf ex3 hP1 hP2 hS hl go
      replace hf := itn c17 hf
      by_cases c18 : xs i &&& 63 = 18
      · replace hf := itp c18 hf
        refine lv_tableIn (tgt := 769) (off := 736) hx hb dL_law_33 (by rw [c18]; decide) (by rw [c18]; decide) (by rw [c18]; rfl) (by decide) ?_
        exact law_18 C hi hL hf ex3 hP1 hP2 hS hl go
      replace hf := itn c18 hf
      by_cases c19 : xs i &&& 63 = 19
      · replace hf := itp c19 hf
        refine lv_tableIn (tgt := 803) (off := 770) hx hb dL_law_33 (by rw [c19]; decide) (by rw [c19]; decide) (by rw [c19]; rfl) (by decide) ?_
        exact law_19 C hi hL hf ex3 hP1 hP2 hS hl go
      replace hf := itn c19 hf
      by_cases c20 : xs i &&& 63 = 20
      · replace hf := itp c20 hf
        refine lv_tableIn (tgt := 857) (off := 824) hx hb dL_law_33 (by rw [c20]; decide) (by rw [c20]; decide) (by rw [c20]; rfl) (by decide) ?_
        exact law_20 C hi hL hf ex3 hP1 hP2 hS hl go
      replace hf := itn c20 hf
      by_cases c21 : xs i &&& 63 = 21
      · replace hf := itp c21 hf
        refine lv_tableIn (tgt := 880) (off := 847) hx hb dL_law_33 (by rw [c21]; decide) (by rw [c21]; decide) (by rw [c21]; rfl) (by decide) ?_
        exact law_21 C hi hL hf ex3 hP1 hP2 hS hl go
      replace hf := itn c21 hf
      by_cases c22 : xs i &&& 63 = 22
      · replace hf := itp c22 hf
        refine lv_tableIn (tgt := 893) (off := 860) hx hb dL_law_33 (by rw [c22]; decide) (by rw [c22]; decide) (by rw [c22]; rfl) (by decide) ?_
        exact law_22 C hi hL hf ex3 hP1 hP2 hS hl go
      replace hf := itn c22 hf
      by_cases c23 : xs i &&& 63 = 23
      · replace hf := itp c23 hf
        refine lv_tableIn (tgt := 916) (off := 883) hx hb dL_law_33 (by rw [c23]; decide) (by rw [c23]; decide) (by rw [c23]; rfl) (by decide) ?_
        exact law_23 C hi hL hf ex3 hP1 hP2 hS hl go
      replace hf := itn c23 hf
      by_cases c24 : xs i &&& 63 = 24
      · replace hf := itp c24 hf
        refine lv_tableIn (tgt := 929) (off := 896) hx hb dL_law_33 (by rw [c24]; decide) (by rw [c24]; decide) (by rw [c24]; rfl) (by decide) ?_
        exact law_24 C hi hL hf ex3 hP1 hP2 hS hl go
      replace hf := itn c24 hf
      by_cases c25 : xs i &&& 63 = 25
      · replace hf := itp c25 hf
        refine lv_tableIn (tgt := 952) (off := 919) hx hb dL_law_33 (by rw [c25]; decide) (by rw [c25]; decide) (by rw [c25]; rfl) (by decide) ?_
        exact law_25 C hi hL hf ex3 hP1 hP2 hS hl go
      replace hf := itn c25 hf
      by_cases c26 : xs i &&& 63 = 26
      · replace hf := itp c26 hf
        refine lv_tableIn (tgt := 965) (off := 932) hx hb dL_law_33 (by rw [c26]; decide) (by rw [c26]; decide) (by rw [c26]; rfl) (by decide) ?_
        exact law_26 C hi hL hf ex3 hP1 hP2 hS hl go
      replace hf := itn c26 hf
      by_cases c27 : xs i &&& 63 = 27
      · replace hf := itp c27 hf
        refine lv_tableIn (tgt := 978) (off := 945) hx hb dL_law_33 (by rw [c27]; decide) (by rw [c27]; decide) (by rw [c27]; rfl) (by decide) ?_
        exact law_27 C hi hL hf ex3 hP1 hP2 hS hl go
      replace hf := itn c27 hf
      by_cases c28 : xs i &&& 63 = 28
      · replace hf := itp c28 hf
        refine lv_tableIn (tgt := 1021) (off := 988) hx hb dL_law_33 (by rw [c28]; decide) (by rw [c28]; decide) (by rw [c28]; rfl) (by decide) ?_
        exact law_28 C hi hL hf ex3 hP1 hP2 hS hl go
      replace hf := itn c28 hf
      by_cases c29 : xs i &&& 63 = 29
      · replace hf := itp c29 hf
        refine lv_tableIn (tgt := 1064) (off := 1031) hx hb dL_law_33 (by rw [c29]; decide) (by rw [c29]; decide) (by rw [c29]; rfl) (by decide) ?_
        exact law_29 C hi hL hf ex3 hP1 hP2 hS hl go
      replace hf := itn c29 hf
      by_cases c30 : xs i &&& 63 = 30
      · replace hf := itp c30 hf
        refine lv_tableIn (tgt := 1107) (off := 1074) hx hb dL_law_33 (by rw [c30]; decide) (by rw [c30]; decide) (by rw [c30]; rfl) (by decide) ?_
        exact law_30 C hi hL hf ex3 hP1 hP2 hS hl go
      replace hf := itn c30 hf
      by_cases c31 : xs i &&& 63 = 31
      · replace hf := itp c31 hf
        refine lv_tableIn (tgt := 1130) (off := 1097) hx hb dL_law_33 (by rw [c31]; decide) (by rw [c31]; decide) (by rw [c31]; rfl) (by decide) ?_
        exact law_31 C hi hL hf ex3 hP1 hP2 hS hl go
      replace hf := itn c31 hf
      by_cases c32 : xs i &&& 63 = 32
      · replace hf := itp c32 hf
        refine lv_tableIn (tgt := 1213) (off := 1180) hx hb dL_law_33 (by rw [c32]; decide) (by rw [c32]; decide) (by rw [c32]; rfl) (by decide) ?_
        exact law_32 C hi hL hf ex3 hP1 hP2 hS hl go
      replace hf := itn c32 hf
      refine lv_tableOut (tgt := 1276) hx hb dL_law_33 (tb_out33 c0 c1 c2 c3 c4 c5 c6 c7 c8 c9 c10 c11 c12 c13 c14 c15 c16 c17 c18 c19 c20 c21 c22 c23 c24 c25 c26 c27 c28 c29 c30 c31 c32) (by decide) ?_
      cases hf
      exact go H locs hP1 hP2 hS
