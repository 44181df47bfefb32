def AL (s : State) : Nat → Prop := fun q => s.heap.size ≤ q
def LC (p : Program) (s : State) (m : MethodId) (meth : Method) (c : Code) (b L : Nat) (xs : Nat → Int32) (G : Gm) : Prop :=
  (p.tables.exec = Jvm.exec ∧ c.code = code ∧ c.maxLocals = 4 ∧ s.vm.findClass RL = some m.cls ∧ (∀ w ∈ TT, w.before #[Value.ref b] s = true)) ∧ (va_X b L xs s s.heap ∧ b < s.heap.size) ∧ GK rC G s ∧ GK rM G s ∧ (∀ k, inR rC k → s.heap.size ≤ G.1 k) ∧ (∀ k, inR rM k → s.heap.size ≤ G.1 k) ∧ ∀ j k, inR rC j → inR rM k → G.1 j ≠ G.1 k
theorem itE {α : Type} {c : Prop} [Decidable c] {A : Option α} {r : α} (hf : (if c then A else none) = some r) : c ∧ A = some r := by
  by_cases h : c
  · exact ⟨h, by rwa [if_pos h] at hf⟩
  · rw [if_neg h] at hf; cases hf
theorem lg_cmp_self (x : Int64) : lg_cmp x x = 0 := by
  unfold lg_cmp
  rw [if_neg (by simp [Int64.lt_irrefl]), if_pos rfl]
theorem keptW {g g' : Rg} {G : Gm} {σ : Sto} {H H1 : Heap} (hd : ∀ j k, inR g j → inR g' k → G.1 j ≠ G.1 k) (hP : va_P G.2.1 vwCl (WS g' G σ) H) (hk : ∀ q : Nat, q < H.size → ¬ Am g G q → H1[q]? = H[q]?) : va_P G.2.1 vwCl (WS g' G σ) H1 := by
  refine pM.mpr fun q hq => ?_
  have h1 := pM.mp hP q hq
  refine h1.kept (hk q.1 h1.lt ?_)
  intro ⟨j, hj, e⟩
  simp only [WS, List.mem_map, List.mem_range] at hq
  obtain ⟨i, hi, rfl⟩ := hq
  exact hd j (g'.1 + i) hj ⟨by omega, by omega⟩ e.symm
section
variable {p : Program} {l : Launch} {e : Env} {R : Room} {s : State} {m : MethodId} {args : Array Value} {below : List Frame} {meth : Method} {c : Code} {H : Heap} {locs : List Loc} {cells slots : Nat} {Q : State → Prop} {cc : ByteArray} {nL pc : Nat} {ls : Array Slot} {rest st : List Value} {own : String} {g : Rg} {G : Gm} {σ σ' : Sto} {y : MethodName} {bytes : ByteArray} {maxL : Nat} {ret : Option FieldType} {rm : Room} {As : List Value} {index b ci n : Nat} {C : String} {T : u_T} {N : Nat}
theorem g_Lvi (F : p.tables.exec = Jvm.exec ∧ c.code = cc ∧ c.maxLocals = nL ∧ s.vm.findClass own = some m.cls ∧ (∀ w ∈ TT, w.before args s = true)) (hGK : GK g G s) (hge : ∀ k, inR g k → s.heap.size ≤ G.1 k) (hP : va_P G.2.1 vwCl (WS g G σ) H) (hS : va_S (AL s) s.heap H locs) {r : Int32} (hM : Met l y (Cond.code y bytes maxL ret :: TT) rm (va_Pc (.ref (G.1 b) :: As) (GS g G σ)) (QI g G r σ') 0 0 (Am g G)) (hr : inR g b) (hsh : sh b = (ci + 10, 0)) (hc : vwCl[ci]? = some (C, T, N)) (hcode : Cond.code y bytes maxL ret ∈ TT) (hini : Cond.initialized y.cls ∈ TT) (hlink : Cond.methodLink own index y ∈ TT) (hinst : Cond.instanceMethod y ∈ TT) (hsel : Cond.selects C y y ∈ TT) (hd : ydOk y n) (hn : As.length = n) (hR : rmOk R rm maxL = true) (hls : ls.size = nL) (hst : st = As.reverse ++ .ref (G.1 b) :: rest) (hW : (rest.map fun v => v.category).sum ≤ 8) (hcs : cells ≤ R.cells ∧ slots ≤ R.slots) (hdg : decode cc pc = .ok (.invokevirtual index, 3)) (kk : ∀ (H1 : Heap) (locs1 : List Loc), va_P G.2.1 vwCl (WS g G σ') H1 → (∀ q : Nat, q < H.size → ¬ Am g G q → H1[q]? = H[q]?) → va_S (AL s) s.heap H1 locs1 → W p l e R s m args below meth c H1 locs1 cells slots Q (F0 m (pc + 3) ls (.int r :: rest))) : W p l e R s m args below meth c H locs cells slots Q (F0 m pc ls st) := by
  have hm : ∀ q, Am g G q → AL s q := fun q ⟨k, hk, e⟩ => by rw [e]; exact hge k hk
  refine va_calli (A1 := Am g G) (va_runV (As := As) (rest := rest) F hM ⟨callB_of n F.2.2.2.2 (tt_goodT hcode) rfl (rmOk_e hR).2.1 (rmOk_e hR).2.2 (F.2.2.2.2 _ hini) (F.2.2.2.2 _ hlink) hd (rmOk_e hR).1, F.2.2.2.2 _ hinst, F.2.2.2.2 _ hsel⟩ ⟨gs_blind, va_recv hGK.1 hP hc (q0 := b - g.1) (by rw [ws_at hr, en_O hsh]), fun U hU hW => ⟨rfl, by rw [hU]; exact hP, gk_warm hW hGK⟩⟩ rfl hn hls hst (lv_room hW) hdg hcs) hS (fun q _ h => hm q h) hm (fun r' u t H1 locs1 ht hvm hw hB hz1 hk1 hS => ?_)
  subst hw
  exact kk H1 locs1 (ht ▸ hB) hk1 hS
theorem g_Lvl (F : p.tables.exec = Jvm.exec ∧ c.code = cc ∧ c.maxLocals = nL ∧ s.vm.findClass own = some m.cls ∧ (∀ w ∈ TT, w.before args s = true)) (hGK : GK g G s) (hge : ∀ k, inR g k → s.heap.size ≤ G.1 k) (hP : va_P G.2.1 vwCl (WS g G σ) H) (hS : va_S (AL s) s.heap H locs) {r : Int64} (hM : Met l y (Cond.code y bytes maxL ret :: TT) rm (va_Pc (.ref (G.1 b) :: As) (GS g G σ)) (QL g G r σ') 0 0 (Am g G)) (hr : inR g b) (hsh : sh b = (ci + 10, 0)) (hc : vwCl[ci]? = some (C, T, N)) (hcode : Cond.code y bytes maxL ret ∈ TT) (hini : Cond.initialized y.cls ∈ TT) (hlink : Cond.methodLink own index y ∈ TT) (hinst : Cond.instanceMethod y ∈ TT) (hsel : Cond.selects C y y ∈ TT) (hd : ydOk y n) (hn : As.length = n) (hR : rmOk R rm maxL = true) (hls : ls.size = nL) (hst : st = As.reverse ++ .ref (G.1 b) :: rest) (hW : (rest.map fun v => v.category).sum ≤ 8) (hcs : cells ≤ R.cells ∧ slots ≤ R.slots) (hdg : decode cc pc = .ok (.invokevirtual index, 3)) (kk : ∀ (H1 : Heap) (locs1 : List Loc), va_P G.2.1 vwCl (WS g G σ') H1 → (∀ q : Nat, q < H.size → ¬ Am g G q → H1[q]? = H[q]?) → va_S (AL s) s.heap H1 locs1 → W p l e R s m args below meth c H1 locs1 cells slots Q (F0 m (pc + 3) ls (.long r :: rest))) : W p l e R s m args below meth c H locs cells slots Q (F0 m pc ls st) := by
  have hm : ∀ q, Am g G q → AL s q := fun q ⟨k, hk, e⟩ => by rw [e]; exact hge k hk
  refine va_calll (A1 := Am g G) (va_runV (As := As) (rest := rest) F hM ⟨callB_of n F.2.2.2.2 (tt_goodT hcode) rfl (rmOk_e hR).2.1 (rmOk_e hR).2.2 (F.2.2.2.2 _ hini) (F.2.2.2.2 _ hlink) hd (rmOk_e hR).1, F.2.2.2.2 _ hinst, F.2.2.2.2 _ hsel⟩ ⟨gs_blind, va_recv hGK.1 hP hc (q0 := b - g.1) (by rw [ws_at hr, en_O hsh]), fun U hU hW => ⟨rfl, by rw [hU]; exact hP, gk_warm hW hGK⟩⟩ rfl hn hls hst (lv_room hW) hdg hcs) hS (fun q _ h => hm q h) hm (fun r' u t H1 locs1 ht hvm hw hB hz1 hk1 hS => ?_)
  subst hw
  exact kk H1 locs1 (ht ▸ hB) hk1 hS
theorem g_sld (hx : p.tables.exec = Jvm.exec) (hb : c.code = cc) {b L : Nat} {xs : Nat → Int32} (hX : va_X b L xs s s.heap) (hbl : b < s.heap.size) (hS : va_S (AL s) s.heap H locs) {x : Int32} {j : Nat} (ex : x = nI j) (hj : j < L) (hL : L ≤ 3072) (hdg : decode cc pc = .ok (.iaload, 1)) (kk : W p l e R s m args below meth c H locs cells slots Q (F0 m (pc + 1) ls (.int (xs j) :: rest))) : W p l e R s m args below meth c H locs cells slots Q (F0 m pc ls (.int x :: .ref b :: rest)) := by
  subst ex
  refine va_sld hx hb hX hbl (Nat.not_le.mpr hbl) hS (vp_in_nI hj (by omega)) hdg ?_
  rw [nI_clamp (by omega)]
  exact kk
end
theorem lk347 : Cond.methodLink RL 13 yX6_joint ∈ TT := tt_mem (List.mem_of_getElem? (i := 347) (by decide +kernel)) (by decide +kernel)
theorem lk348 : Cond.instanceMethod yX6_joint ∈ TT := tt_mem (List.mem_of_getElem? (i := 348) (by decide +kernel)) (by decide +kernel)
theorem lk349 : Cond.selects RX6 yX6_joint yX6_joint ∈ TT := tt_mem (List.mem_of_getElem? (i := 349) (by decide +kernel)) (by decide +kernel)
theorem lk350 : Cond.code yX6_joint cX6_joint 4 (some .int) ∈ TT := tt_mem (List.mem_of_getElem? (i := 350) (by decide +kernel)) (by decide +kernel)
theorem lk396 : Cond.methodLink RL 18 yX6_move ∈ TT := tt_mem (List.mem_of_getElem? (i := 396) (by decide +kernel)) (by decide +kernel)
theorem lk397 : Cond.instanceMethod yX6_move ∈ TT := tt_mem (List.mem_of_getElem? (i := 397) (by decide +kernel)) (by decide +kernel)
theorem lk398 : Cond.selects RX6 yX6_move yX6_move ∈ TT := tt_mem (List.mem_of_getElem? (i := 398) (by decide +kernel)) (by decide +kernel)
theorem lk399 : Cond.code yX6_move cX6_move 5 (some .int) ∈ TT := tt_mem (List.mem_of_getElem? (i := 399) (by decide +kernel)) (by decide +kernel)
theorem lk429 : Cond.methodLink RL 23 yX6_lose ∈ TT := tt_mem (List.mem_of_getElem? (i := 429) (by decide +kernel)) (by decide +kernel)
theorem lk430 : Cond.instanceMethod yX6_lose ∈ TT := tt_mem (List.mem_of_getElem? (i := 430) (by decide +kernel)) (by decide +kernel)
theorem lk431 : Cond.selects RX6 yX6_lose yX6_lose ∈ TT := tt_mem (List.mem_of_getElem? (i := 431) (by decide +kernel)) (by decide +kernel)
theorem lk432 : Cond.code yX6_lose cX6_lose 2 (some .int) ∈ TT := tt_mem (List.mem_of_getElem? (i := 432) (by decide +kernel)) (by decide +kernel)
theorem lk445 : Cond.methodLink RL 28 yX6_bar ∈ TT := tt_mem (List.mem_of_getElem? (i := 445) (by decide +kernel)) (by decide +kernel)
theorem lk446 : Cond.instanceMethod yX6_bar ∈ TT := tt_mem (List.mem_of_getElem? (i := 446) (by decide +kernel)) (by decide +kernel)
theorem lk447 : Cond.selects RX6 yX6_bar yX6_bar ∈ TT := tt_mem (List.mem_of_getElem? (i := 447) (by decide +kernel)) (by decide +kernel)
theorem lk448 : Cond.code yX6_bar cX6_bar 4 (some .int) ∈ TT := tt_mem (List.mem_of_getElem? (i := 448) (by decide +kernel)) (by decide +kernel)
theorem lk473 : Cond.methodLink RL 32 yX6_out ∈ TT := tt_mem (List.mem_of_getElem? (i := 473) (by decide +kernel)) (by decide +kernel)
theorem lk474 : Cond.instanceMethod yX6_out ∈ TT := tt_mem (List.mem_of_getElem? (i := 474) (by decide +kernel)) (by decide +kernel)
theorem lk475 : Cond.selects RX6 yX6_out yX6_out ∈ TT := tt_mem (List.mem_of_getElem? (i := 475) (by decide +kernel)) (by decide +kernel)
theorem lk476 : Cond.code yX6_out cX6_out 2 (some .int) ∈ TT := tt_mem (List.mem_of_getElem? (i := 476) (by decide +kernel)) (by decide +kernel)
theorem lk482 : Cond.methodLink RL 36 yX6_weight ∈ TT := tt_mem (List.mem_of_getElem? (i := 482) (by decide +kernel)) (by decide +kernel)
theorem lk483 : Cond.instanceMethod yX6_weight ∈ TT := tt_mem (List.mem_of_getElem? (i := 483) (by decide +kernel)) (by decide +kernel)
theorem lk484 : Cond.selects RX6 yX6_weight yX6_weight ∈ TT := tt_mem (List.mem_of_getElem? (i := 484) (by decide +kernel)) (by decide +kernel)
theorem lk485 : Cond.code yX6_weight cX6_weight 5 (some .int) ∈ TT := tt_mem (List.mem_of_getElem? (i := 485) (by decide +kernel)) (by decide +kernel)
theorem lk490 : Cond.methodLink RL 40 yX6_at ∈ TT := tt_mem (List.mem_of_getElem? (i := 490) (by decide +kernel)) (by decide +kernel)
theorem lk491 : Cond.instanceMethod yX6_at ∈ TT := tt_mem (List.mem_of_getElem? (i := 491) (by decide +kernel)) (by decide +kernel)
theorem lk492 : Cond.selects RX6 yX6_at yX6_at ∈ TT := tt_mem (List.mem_of_getElem? (i := 492) (by decide +kernel)) (by decide +kernel)
theorem lk493 : Cond.code yX6_at cX6_at 3 (some .int) ∈ TT := tt_mem (List.mem_of_getElem? (i := 493) (by decide +kernel)) (by decide +kernel)
theorem lk495 : Cond.methodLink RL 44 yX6_of ∈ TT := tt_mem (List.mem_of_getElem? (i := 495) (by decide +kernel)) (by decide +kernel)
theorem lk496 : Cond.instanceMethod yX6_of ∈ TT := tt_mem (List.mem_of_getElem? (i := 496) (by decide +kernel)) (by decide +kernel)
theorem lk497 : Cond.selects RX6 yX6_of yX6_of ∈ TT := tt_mem (List.mem_of_getElem? (i := 497) (by decide +kernel)) (by decide +kernel)
theorem lk498 : Cond.code yX6_of cX6_of 3 (some .int) ∈ TT := tt_mem (List.mem_of_getElem? (i := 498) (by decide +kernel)) (by decide +kernel)
theorem lk605 : Cond.methodLink RL 48 yX6_count ∈ TT := tt_mem (List.mem_of_getElem? (i := 605) (by decide +kernel)) (by decide +kernel)
theorem lk606 : Cond.instanceMethod yX6_count ∈ TT := tt_mem (List.mem_of_getElem? (i := 606) (by decide +kernel)) (by decide +kernel)
theorem lk607 : Cond.selects RX6 yX6_count yX6_count ∈ TT := tt_mem (List.mem_of_getElem? (i := 607) (by decide +kernel)) (by decide +kernel)
theorem lk608 : Cond.code yX6_count cX6_count 2 (some .int) ∈ TT := tt_mem (List.mem_of_getElem? (i := 608) (by decide +kernel)) (by decide +kernel)
theorem lk618 : Cond.methodLink RL 52 yX6_stress ∈ TT := tt_mem (List.mem_of_getElem? (i := 618) (by decide +kernel)) (by decide +kernel)
theorem lk619 : Cond.instanceMethod yX6_stress ∈ TT := tt_mem (List.mem_of_getElem? (i := 619) (by decide +kernel)) (by decide +kernel)
theorem lk620 : Cond.selects RX6 yX6_stress yX6_stress ∈ TT := tt_mem (List.mem_of_getElem? (i := 620) (by decide +kernel)) (by decide +kernel)
theorem lk621 : Cond.code yX6_stress cX6_stress 4 (some .long) ∈ TT := tt_mem (List.mem_of_getElem? (i := 621) (by decide +kernel)) (by decide +kernel)
theorem lk639 : Cond.methodLink RL 57 yX6_pull ∈ TT := tt_mem (List.mem_of_getElem? (i := 639) (by decide +kernel)) (by decide +kernel)
theorem lk640 : Cond.instanceMethod yX6_pull ∈ TT := tt_mem (List.mem_of_getElem? (i := 640) (by decide +kernel)) (by decide +kernel)
theorem lk641 : Cond.selects RX6 yX6_pull yX6_pull ∈ TT := tt_mem (List.mem_of_getElem? (i := 641) (by decide +kernel)) (by decide +kernel)
theorem lk642 : Cond.code yX6_pull cX6_pull 3 (some .long) ∈ TT := tt_mem (List.mem_of_getElem? (i := 642) (by decide +kernel)) (by decide +kernel)
theorem lk643 : Cond.methodLink RL 62 yX6_fail ∈ TT := tt_mem (List.mem_of_getElem? (i := 643) (by decide +kernel)) (by decide +kernel)
theorem lk644 : Cond.instanceMethod yX6_fail ∈ TT := tt_mem (List.mem_of_getElem? (i := 644) (by decide +kernel)) (by decide +kernel)
theorem lk645 : Cond.selects RX6 yX6_fail yX6_fail ∈ TT := tt_mem (List.mem_of_getElem? (i := 645) (by decide +kernel)) (by decide +kernel)
theorem lk646 : Cond.code yX6_fail cX6_fail 5 (some .long) ∈ TT := tt_mem (List.mem_of_getElem? (i := 646) (by decide +kernel)) (by decide +kernel)
theorem lk665 : Cond.methodLink RL 66 yX6_next ∈ TT := tt_mem (List.mem_of_getElem? (i := 665) (by decide +kernel)) (by decide +kernel)
theorem lk666 : Cond.instanceMethod yX6_next ∈ TT := tt_mem (List.mem_of_getElem? (i := 666) (by decide +kernel)) (by decide +kernel)
theorem lk667 : Cond.selects RX6 yX6_next yX6_next ∈ TT := tt_mem (List.mem_of_getElem? (i := 667) (by decide +kernel)) (by decide +kernel)
theorem lk668 : Cond.code yX6_next cX6_next 2 (some .int) ∈ TT := tt_mem (List.mem_of_getElem? (i := 668) (by decide +kernel)) (by decide +kernel)
theorem lk673 : Cond.methodLink RL 70 yX6_face ∈ TT := tt_mem (List.mem_of_getElem? (i := 673) (by decide +kernel)) (by decide +kernel)
theorem lk674 : Cond.instanceMethod yX6_face ∈ TT := tt_mem (List.mem_of_getElem? (i := 674) (by decide +kernel)) (by decide +kernel)
theorem lk675 : Cond.selects RX6 yX6_face yX6_face ∈ TT := tt_mem (List.mem_of_getElem? (i := 675) (by decide +kernel)) (by decide +kernel)
theorem lk676 : Cond.code yX6_face cX6_face 3 (some .int) ∈ TT := tt_mem (List.mem_of_getElem? (i := 676) (by decide +kernel)) (by decide +kernel)
theorem lk684 : Cond.methodLink RL 74 yX6_round ∈ TT := tt_mem (List.mem_of_getElem? (i := 684) (by decide +kernel)) (by decide +kernel)
theorem lk685 : Cond.instanceMethod yX6_round ∈ TT := tt_mem (List.mem_of_getElem? (i := 685) (by decide +kernel)) (by decide +kernel)
theorem lk686 : Cond.selects RX6 yX6_round yX6_round ∈ TT := tt_mem (List.mem_of_getElem? (i := 686) (by decide +kernel)) (by decide +kernel)
theorem lk687 : Cond.code yX6_round cX6_round 5 (some .int) ∈ TT := tt_mem (List.mem_of_getElem? (i := 687) (by decide +kernel)) (by decide +kernel)
theorem lk688 : Cond.methodLink RL 78 yX6_beside ∈ TT := tt_mem (List.mem_of_getElem? (i := 688) (by decide +kernel)) (by decide +kernel)
theorem lk689 : Cond.instanceMethod yX6_beside ∈ TT := tt_mem (List.mem_of_getElem? (i := 689) (by decide +kernel)) (by decide +kernel)
theorem lk690 : Cond.selects RX6 yX6_beside yX6_beside ∈ TT := tt_mem (List.mem_of_getElem? (i := 690) (by decide +kernel)) (by decide +kernel)
theorem lk691 : Cond.code yX6_beside cX6_beside 2 (some .int) ∈ TT := tt_mem (List.mem_of_getElem? (i := 691) (by decide +kernel)) (by decide +kernel)
theorem lk692 : Cond.methodLink RL 82 yX6_point ∈ TT := tt_mem (List.mem_of_getElem? (i := 692) (by decide +kernel)) (by decide +kernel)
theorem lk693 : Cond.instanceMethod yX6_point ∈ TT := tt_mem (List.mem_of_getElem? (i := 693) (by decide +kernel)) (by decide +kernel)
theorem lk694 : Cond.selects RX6 yX6_point yX6_point ∈ TT := tt_mem (List.mem_of_getElem? (i := 694) (by decide +kernel)) (by decide +kernel)
theorem lk695 : Cond.code yX6_point cX6_point 4 (some .long) ∈ TT := tt_mem (List.mem_of_getElem? (i := 695) (by decide +kernel)) (by decide +kernel)
theorem lk697 : Cond.methodLink RL 86 yX6_plane ∈ TT := tt_mem (List.mem_of_getElem? (i := 697) (by decide +kernel)) (by decide +kernel)
theorem lk698 : Cond.instanceMethod yX6_plane ∈ TT := tt_mem (List.mem_of_getElem? (i := 698) (by decide +kernel)) (by decide +kernel)
theorem lk699 : Cond.selects RX6 yX6_plane yX6_plane ∈ TT := tt_mem (List.mem_of_getElem? (i := 699) (by decide +kernel)) (by decide +kernel)
theorem lk700 : Cond.code yX6_plane cX6_plane 4 (some .long) ∈ TT := tt_mem (List.mem_of_getElem? (i := 700) (by decide +kernel)) (by decide +kernel)
theorem lk705 : Cond.methodLink RL 90 yX6_height ∈ TT := tt_mem (List.mem_of_getElem? (i := 705) (by decide +kernel)) (by decide +kernel)
theorem lk706 : Cond.instanceMethod yX6_height ∈ TT := tt_mem (List.mem_of_getElem? (i := 706) (by decide +kernel)) (by decide +kernel)
theorem lk707 : Cond.selects RX6 yX6_height yX6_height ∈ TT := tt_mem (List.mem_of_getElem? (i := 707) (by decide +kernel)) (by decide +kernel)
theorem lk708 : Cond.code yX6_height cX6_height 3 (some .long) ∈ TT := tt_mem (List.mem_of_getElem? (i := 708) (by decide +kernel)) (by decide +kernel)
theorem lk713 : Cond.methodLink RL 94 yX6_corner ∈ TT := tt_mem (List.mem_of_getElem? (i := 713) (by decide +kernel)) (by decide +kernel)
theorem lk714 : Cond.instanceMethod yX6_corner ∈ TT := tt_mem (List.mem_of_getElem? (i := 714) (by decide +kernel)) (by decide +kernel)
theorem lk715 : Cond.selects RX6 yX6_corner yX6_corner ∈ TT := tt_mem (List.mem_of_getElem? (i := 715) (by decide +kernel)) (by decide +kernel)
theorem lk716 : Cond.code yX6_corner cX6_corner 8 (some .long) ∈ TT := tt_mem (List.mem_of_getElem? (i := 716) (by decide +kernel)) (by decide +kernel)
theorem lk720 : Cond.methodLink RL 99 yX6_type ∈ TT := tt_mem (List.mem_of_getElem? (i := 720) (by decide +kernel)) (by decide +kernel)
theorem lk721 : Cond.instanceMethod yX6_type ∈ TT := tt_mem (List.mem_of_getElem? (i := 721) (by decide +kernel)) (by decide +kernel)
theorem lk722 : Cond.selects RX6 yX6_type yX6_type ∈ TT := tt_mem (List.mem_of_getElem? (i := 722) (by decide +kernel)) (by decide +kernel)
theorem lk723 : Cond.code yX6_type cX6_type 2 (some .int) ∈ TT := tt_mem (List.mem_of_getElem? (i := 723) (by decide +kernel)) (by decide +kernel)
theorem lk728 : Cond.methodLink RL 103 yX6_read ∈ TT := tt_mem (List.mem_of_getElem? (i := 728) (by decide +kernel)) (by decide +kernel)
theorem lk729 : Cond.instanceMethod yX6_read ∈ TT := tt_mem (List.mem_of_getElem? (i := 729) (by decide +kernel)) (by decide +kernel)
theorem lk730 : Cond.selects RX6 yX6_read yX6_read ∈ TT := tt_mem (List.mem_of_getElem? (i := 730) (by decide +kernel)) (by decide +kernel)
theorem lk731 : Cond.code yX6_read cX6_read 2 (some .int) ∈ TT := tt_mem (List.mem_of_getElem? (i := 731) (by decide +kernel)) (by decide +kernel)
theorem lk765 : Cond.methodLink RL 108 yX6_drift ∈ TT := tt_mem (List.mem_of_getElem? (i := 765) (by decide +kernel)) (by decide +kernel)
theorem lk766 : Cond.instanceMethod yX6_drift ∈ TT := tt_mem (List.mem_of_getElem? (i := 766) (by decide +kernel)) (by decide +kernel)
theorem lk767 : Cond.selects RX6 yX6_drift yX6_drift ∈ TT := tt_mem (List.mem_of_getElem? (i := 767) (by decide +kernel)) (by decide +kernel)
theorem lk768 : Cond.code yX6_drift cX6_drift 3 (some .int) ∈ TT := tt_mem (List.mem_of_getElem? (i := 768) (by decide +kernel)) (by decide +kernel)
theorem lk777 : Cond.methodLink RL 112 yX6_undo ∈ TT := tt_mem (List.mem_of_getElem? (i := 777) (by decide +kernel)) (by decide +kernel)
theorem lk778 : Cond.instanceMethod yX6_undo ∈ TT := tt_mem (List.mem_of_getElem? (i := 778) (by decide +kernel)) (by decide +kernel)
theorem lk779 : Cond.selects RX6 yX6_undo yX6_undo ∈ TT := tt_mem (List.mem_of_getElem? (i := 779) (by decide +kernel)) (by decide +kernel)
theorem lk780 : Cond.code yX6_undo cX6_undo 1 (some .int) ∈ TT := tt_mem (List.mem_of_getElem? (i := 780) (by decide +kernel)) (by decide +kernel)
theorem lk785 : Cond.methodLink RL 116 yX6_seed ∈ TT := tt_mem (List.mem_of_getElem? (i := 785) (by decide +kernel)) (by decide +kernel)
theorem lk786 : Cond.instanceMethod yX6_seed ∈ TT := tt_mem (List.mem_of_getElem? (i := 786) (by decide +kernel)) (by decide +kernel)
theorem lk787 : Cond.selects RX6 yX6_seed yX6_seed ∈ TT := tt_mem (List.mem_of_getElem? (i := 787) (by decide +kernel)) (by decide +kernel)
theorem lk788 : Cond.code yX6_seed cX6_seed 3 (some .int) ∈ TT := tt_mem (List.mem_of_getElem? (i := 788) (by decide +kernel)) (by decide +kernel)
theorem lk789 : Cond.methodLink RL 120 yX6_image ∈ TT := tt_mem (List.mem_of_getElem? (i := 789) (by decide +kernel)) (by decide +kernel)
theorem lk790 : Cond.instanceMethod yX6_image ∈ TT := tt_mem (List.mem_of_getElem? (i := 790) (by decide +kernel)) (by decide +kernel)
theorem lk791 : Cond.selects RX6 yX6_image yX6_image ∈ TT := tt_mem (List.mem_of_getElem? (i := 791) (by decide +kernel)) (by decide +kernel)
theorem lk792 : Cond.code yX6_image cX6_image 1 (some .int) ∈ TT := tt_mem (List.mem_of_getElem? (i := 792) (by decide +kernel)) (by decide +kernel)
theorem lk798 : Cond.methodLink RL 124 yX6_restore ∈ TT := tt_mem (List.mem_of_getElem? (i := 798) (by decide +kernel)) (by decide +kernel)
theorem lk799 : Cond.instanceMethod yX6_restore ∈ TT := tt_mem (List.mem_of_getElem? (i := 799) (by decide +kernel)) (by decide +kernel)
theorem lk800 : Cond.selects RX6 yX6_restore yX6_restore ∈ TT := tt_mem (List.mem_of_getElem? (i := 800) (by decide +kernel)) (by decide +kernel)
theorem lk801 : Cond.code yX6_restore cX6_restore 1 (some .int) ∈ TT := tt_mem (List.mem_of_getElem? (i := 801) (by decide +kernel)) (by decide +kernel)
theorem lk802 : Cond.methodLink RL 128 yX6_what ∈ TT := tt_mem (List.mem_of_getElem? (i := 802) (by decide +kernel)) (by decide +kernel)
theorem lk803 : Cond.instanceMethod yX6_what ∈ TT := tt_mem (List.mem_of_getElem? (i := 803) (by decide +kernel)) (by decide +kernel)
theorem lk804 : Cond.selects RX6 yX6_what yX6_what ∈ TT := tt_mem (List.mem_of_getElem? (i := 804) (by decide +kernel)) (by decide +kernel)
theorem lk805 : Cond.code yX6_what cX6_what 6 (some .int) ∈ TT := tt_mem (List.mem_of_getElem? (i := 805) (by decide +kernel)) (by decide +kernel)
theorem lk838 : Cond.methodLink RL 132 yX6_film ∈ TT := tt_mem (List.mem_of_getElem? (i := 838) (by decide +kernel)) (by decide +kernel)
theorem lk839 : Cond.instanceMethod yX6_film ∈ TT := tt_mem (List.mem_of_getElem? (i := 839) (by decide +kernel)) (by decide +kernel)
theorem lk840 : Cond.selects RX6 yX6_film yX6_film ∈ TT := tt_mem (List.mem_of_getElem? (i := 840) (by decide +kernel)) (by decide +kernel)
theorem lk841 : Cond.code yX6_film cX6_film 7 (some .int) ∈ TT := tt_mem (List.mem_of_getElem? (i := 841) (by decide +kernel)) (by decide +kernel)
theorem lk846 : Cond.methodLink RL 136 yX6_sheet ∈ TT := tt_mem (List.mem_of_getElem? (i := 846) (by decide +kernel)) (by decide +kernel)
theorem lk847 : Cond.instanceMethod yX6_sheet ∈ TT := tt_mem (List.mem_of_getElem? (i := 847) (by decide +kernel)) (by decide +kernel)
theorem lk848 : Cond.selects RX6 yX6_sheet yX6_sheet ∈ TT := tt_mem (List.mem_of_getElem? (i := 848) (by decide +kernel)) (by decide +kernel)
theorem lk849 : Cond.code yX6_sheet cX6_sheet 4 (some .int) ∈ TT := tt_mem (List.mem_of_getElem? (i := 849) (by decide +kernel)) (by decide +kernel)
theorem lk855 : Cond.methodLink RL 140 yX6_drop ∈ TT := tt_mem (List.mem_of_getElem? (i := 855) (by decide +kernel)) (by decide +kernel)
theorem lk856 : Cond.instanceMethod yX6_drop ∈ TT := tt_mem (List.mem_of_getElem? (i := 856) (by decide +kernel)) (by decide +kernel)
theorem lk857 : Cond.selects RX6 yX6_drop yX6_drop ∈ TT := tt_mem (List.mem_of_getElem? (i := 857) (by decide +kernel)) (by decide +kernel)
theorem lk858 : Cond.code yX6_drop cX6_drop 2 (some .int) ∈ TT := tt_mem (List.mem_of_getElem? (i := 858) (by decide +kernel)) (by decide +kernel)
theorem lk859 : Cond.methodLink RL 146 yX6_item ∈ TT := tt_mem (List.mem_of_getElem? (i := 859) (by decide +kernel)) (by decide +kernel)
theorem lk860 : Cond.instanceMethod yX6_item ∈ TT := tt_mem (List.mem_of_getElem? (i := 860) (by decide +kernel)) (by decide +kernel)
theorem lk861 : Cond.selects RX6 yX6_item yX6_item ∈ TT := tt_mem (List.mem_of_getElem? (i := 861) (by decide +kernel)) (by decide +kernel)
theorem lk862 : Cond.code yX6_item cX6_item 7 (some .int) ∈ TT := tt_mem (List.mem_of_getElem? (i := 862) (by decide +kernel)) (by decide +kernel)
theorem lk866 : Cond.methodLink RL 151 yX6_copy ∈ TT := tt_mem (List.mem_of_getElem? (i := 866) (by decide +kernel)) (by decide +kernel)
theorem lk867 : Cond.instanceMethod yX6_copy ∈ TT := tt_mem (List.mem_of_getElem? (i := 867) (by decide +kernel)) (by decide +kernel)
theorem lk868 : Cond.selects RX6 yX6_copy yX6_copy ∈ TT := tt_mem (List.mem_of_getElem? (i := 868) (by decide +kernel)) (by decide +kernel)
theorem lk869 : Cond.code yX6_copy cX6_copy 8 (some .int) ∈ TT := tt_mem (List.mem_of_getElem? (i := 869) (by decide +kernel)) (by decide +kernel)
theorem lk962 : Cond.methodLink RL 17 yX7_joint ∈ TT := tt_mem (List.mem_of_getElem? (i := 962) (by decide +kernel)) (by decide +kernel)
theorem lk963 : Cond.instanceMethod yX7_joint ∈ TT := tt_mem (List.mem_of_getElem? (i := 963) (by decide +kernel)) (by decide +kernel)
theorem lk964 : Cond.selects RX7 yX7_joint yX7_joint ∈ TT := tt_mem (List.mem_of_getElem? (i := 964) (by decide +kernel)) (by decide +kernel)
theorem lk965 : Cond.code yX7_joint cX7_joint 3 (some .int) ∈ TT := tt_mem (List.mem_of_getElem? (i := 965) (by decide +kernel)) (by decide +kernel)
theorem lk1083 : Cond.methodLink RL 22 yX7_move ∈ TT := tt_mem (List.mem_of_getElem? (i := 1083) (by decide +kernel)) (by decide +kernel)
theorem lk1084 : Cond.instanceMethod yX7_move ∈ TT := tt_mem (List.mem_of_getElem? (i := 1084) (by decide +kernel)) (by decide +kernel)
theorem lk1085 : Cond.selects RX7 yX7_move yX7_move ∈ TT := tt_mem (List.mem_of_getElem? (i := 1085) (by decide +kernel)) (by decide +kernel)
theorem lk1086 : Cond.code yX7_move cX7_move 4 (some .int) ∈ TT := tt_mem (List.mem_of_getElem? (i := 1086) (by decide +kernel)) (by decide +kernel)
theorem lk1087 : Cond.methodLink RL 27 yX7_lose ∈ TT := tt_mem (List.mem_of_getElem? (i := 1087) (by decide +kernel)) (by decide +kernel)
theorem lk1088 : Cond.instanceMethod yX7_lose ∈ TT := tt_mem (List.mem_of_getElem? (i := 1088) (by decide +kernel)) (by decide +kernel)
theorem lk1089 : Cond.selects RX7 yX7_lose yX7_lose ∈ TT := tt_mem (List.mem_of_getElem? (i := 1089) (by decide +kernel)) (by decide +kernel)
theorem lk1090 : Cond.code yX7_lose cX7_lose 2 (some .int) ∈ TT := tt_mem (List.mem_of_getElem? (i := 1090) (by decide +kernel)) (by decide +kernel)
theorem lk1091 : Cond.methodLink RL 31 yX7_bar ∈ TT := tt_mem (List.mem_of_getElem? (i := 1091) (by decide +kernel)) (by decide +kernel)
theorem lk1092 : Cond.instanceMethod yX7_bar ∈ TT := tt_mem (List.mem_of_getElem? (i := 1092) (by decide +kernel)) (by decide +kernel)
theorem lk1093 : Cond.selects RX7 yX7_bar yX7_bar ∈ TT := tt_mem (List.mem_of_getElem? (i := 1093) (by decide +kernel)) (by decide +kernel)
theorem lk1094 : Cond.code yX7_bar cX7_bar 3 (some .int) ∈ TT := tt_mem (List.mem_of_getElem? (i := 1094) (by decide +kernel)) (by decide +kernel)
theorem lk1095 : Cond.methodLink RL 35 yX7_out ∈ TT := tt_mem (List.mem_of_getElem? (i := 1095) (by decide +kernel)) (by decide +kernel)
theorem lk1096 : Cond.instanceMethod yX7_out ∈ TT := tt_mem (List.mem_of_getElem? (i := 1096) (by decide +kernel)) (by decide +kernel)
theorem lk1097 : Cond.selects RX7 yX7_out yX7_out ∈ TT := tt_mem (List.mem_of_getElem? (i := 1097) (by decide +kernel)) (by decide +kernel)
theorem lk1098 : Cond.code yX7_out cX7_out 2 (some .int) ∈ TT := tt_mem (List.mem_of_getElem? (i := 1098) (by decide +kernel)) (by decide +kernel)
theorem lk1099 : Cond.methodLink RL 39 yX7_weight ∈ TT := tt_mem (List.mem_of_getElem? (i := 1099) (by decide +kernel)) (by decide +kernel)
theorem lk1100 : Cond.instanceMethod yX7_weight ∈ TT := tt_mem (List.mem_of_getElem? (i := 1100) (by decide +kernel)) (by decide +kernel)
theorem lk1101 : Cond.selects RX7 yX7_weight yX7_weight ∈ TT := tt_mem (List.mem_of_getElem? (i := 1101) (by decide +kernel)) (by decide +kernel)
theorem lk1102 : Cond.code yX7_weight cX7_weight 3 (some .int) ∈ TT := tt_mem (List.mem_of_getElem? (i := 1102) (by decide +kernel)) (by decide +kernel)
theorem lk1103 : Cond.methodLink RL 43 yX7_at ∈ TT := tt_mem (List.mem_of_getElem? (i := 1103) (by decide +kernel)) (by decide +kernel)
theorem lk1104 : Cond.instanceMethod yX7_at ∈ TT := tt_mem (List.mem_of_getElem? (i := 1104) (by decide +kernel)) (by decide +kernel)
theorem lk1105 : Cond.selects RX7 yX7_at yX7_at ∈ TT := tt_mem (List.mem_of_getElem? (i := 1105) (by decide +kernel)) (by decide +kernel)
theorem lk1106 : Cond.code yX7_at cX7_at 5 (some .int) ∈ TT := tt_mem (List.mem_of_getElem? (i := 1106) (by decide +kernel)) (by decide +kernel)
theorem lk1107 : Cond.methodLink RL 47 yX7_of ∈ TT := tt_mem (List.mem_of_getElem? (i := 1107) (by decide +kernel)) (by decide +kernel)
theorem lk1108 : Cond.instanceMethod yX7_of ∈ TT := tt_mem (List.mem_of_getElem? (i := 1108) (by decide +kernel)) (by decide +kernel)
theorem lk1109 : Cond.selects RX7 yX7_of yX7_of ∈ TT := tt_mem (List.mem_of_getElem? (i := 1109) (by decide +kernel)) (by decide +kernel)
theorem lk1110 : Cond.code yX7_of cX7_of 3 (some .int) ∈ TT := tt_mem (List.mem_of_getElem? (i := 1110) (by decide +kernel)) (by decide +kernel)
theorem lk1155 : Cond.methodLink RL 56 yX7_stress ∈ TT := tt_mem (List.mem_of_getElem? (i := 1155) (by decide +kernel)) (by decide +kernel)
theorem lk1156 : Cond.instanceMethod yX7_stress ∈ TT := tt_mem (List.mem_of_getElem? (i := 1156) (by decide +kernel)) (by decide +kernel)
theorem lk1157 : Cond.selects RX7 yX7_stress yX7_stress ∈ TT := tt_mem (List.mem_of_getElem? (i := 1157) (by decide +kernel)) (by decide +kernel)
theorem lk1158 : Cond.code yX7_stress cX7_stress 4 (some .long) ∈ TT := tt_mem (List.mem_of_getElem? (i := 1158) (by decide +kernel)) (by decide +kernel)
theorem lk1167 : Cond.methodLink RL 61 yX7_pull ∈ TT := tt_mem (List.mem_of_getElem? (i := 1167) (by decide +kernel)) (by decide +kernel)
theorem lk1168 : Cond.instanceMethod yX7_pull ∈ TT := tt_mem (List.mem_of_getElem? (i := 1168) (by decide +kernel)) (by decide +kernel)
theorem lk1169 : Cond.selects RX7 yX7_pull yX7_pull ∈ TT := tt_mem (List.mem_of_getElem? (i := 1169) (by decide +kernel)) (by decide +kernel)
theorem lk1170 : Cond.code yX7_pull cX7_pull 3 (some .long) ∈ TT := tt_mem (List.mem_of_getElem? (i := 1170) (by decide +kernel)) (by decide +kernel)
theorem lk1175 : Cond.methodLink RL 65 yX7_fail ∈ TT := tt_mem (List.mem_of_getElem? (i := 1175) (by decide +kernel)) (by decide +kernel)
theorem lk1176 : Cond.instanceMethod yX7_fail ∈ TT := tt_mem (List.mem_of_getElem? (i := 1176) (by decide +kernel)) (by decide +kernel)
theorem lk1177 : Cond.selects RX7 yX7_fail yX7_fail ∈ TT := tt_mem (List.mem_of_getElem? (i := 1177) (by decide +kernel)) (by decide +kernel)
theorem lk1178 : Cond.code yX7_fail cX7_fail 11 (some .long) ∈ TT := tt_mem (List.mem_of_getElem? (i := 1178) (by decide +kernel)) (by decide +kernel)
theorem lk1184 : Cond.methodLink RL 51 yX7_count ∈ TT := tt_mem (List.mem_of_getElem? (i := 1184) (by decide +kernel)) (by decide +kernel)
theorem lk1185 : Cond.instanceMethod yX7_count ∈ TT := tt_mem (List.mem_of_getElem? (i := 1185) (by decide +kernel)) (by decide +kernel)
theorem lk1186 : Cond.selects RX7 yX7_count yX7_count ∈ TT := tt_mem (List.mem_of_getElem? (i := 1186) (by decide +kernel)) (by decide +kernel)
theorem lk1187 : Cond.code yX7_count cX7_count 4 (some .int) ∈ TT := tt_mem (List.mem_of_getElem? (i := 1187) (by decide +kernel)) (by decide +kernel)
theorem lk1223 : Cond.methodLink RL 69 yX7_next ∈ TT := tt_mem (List.mem_of_getElem? (i := 1223) (by decide +kernel)) (by decide +kernel)
theorem lk1224 : Cond.instanceMethod yX7_next ∈ TT := tt_mem (List.mem_of_getElem? (i := 1224) (by decide +kernel)) (by decide +kernel)
theorem lk1225 : Cond.selects RX7 yX7_next yX7_next ∈ TT := tt_mem (List.mem_of_getElem? (i := 1225) (by decide +kernel)) (by decide +kernel)
theorem lk1226 : Cond.code yX7_next cX7_next 2 (some .int) ∈ TT := tt_mem (List.mem_of_getElem? (i := 1226) (by decide +kernel)) (by decide +kernel)
theorem lk1231 : Cond.methodLink RL 73 yX7_face ∈ TT := tt_mem (List.mem_of_getElem? (i := 1231) (by decide +kernel)) (by decide +kernel)
theorem lk1232 : Cond.instanceMethod yX7_face ∈ TT := tt_mem (List.mem_of_getElem? (i := 1232) (by decide +kernel)) (by decide +kernel)
theorem lk1233 : Cond.selects RX7 yX7_face yX7_face ∈ TT := tt_mem (List.mem_of_getElem? (i := 1233) (by decide +kernel)) (by decide +kernel)
theorem lk1234 : Cond.code yX7_face cX7_face 4 (some .int) ∈ TT := tt_mem (List.mem_of_getElem? (i := 1234) (by decide +kernel)) (by decide +kernel)
theorem lk1243 : Cond.methodLink RL 77 yX7_round ∈ TT := tt_mem (List.mem_of_getElem? (i := 1243) (by decide +kernel)) (by decide +kernel)
theorem lk1244 : Cond.instanceMethod yX7_round ∈ TT := tt_mem (List.mem_of_getElem? (i := 1244) (by decide +kernel)) (by decide +kernel)
theorem lk1245 : Cond.selects RX7 yX7_round yX7_round ∈ TT := tt_mem (List.mem_of_getElem? (i := 1245) (by decide +kernel)) (by decide +kernel)
theorem lk1246 : Cond.code yX7_round cX7_round 5 (some .int) ∈ TT := tt_mem (List.mem_of_getElem? (i := 1246) (by decide +kernel)) (by decide +kernel)
theorem lk1247 : Cond.methodLink RL 81 yX7_beside ∈ TT := tt_mem (List.mem_of_getElem? (i := 1247) (by decide +kernel)) (by decide +kernel)
theorem lk1248 : Cond.instanceMethod yX7_beside ∈ TT := tt_mem (List.mem_of_getElem? (i := 1248) (by decide +kernel)) (by decide +kernel)
theorem lk1249 : Cond.selects RX7 yX7_beside yX7_beside ∈ TT := tt_mem (List.mem_of_getElem? (i := 1249) (by decide +kernel)) (by decide +kernel)
theorem lk1250 : Cond.code yX7_beside cX7_beside 2 (some .int) ∈ TT := tt_mem (List.mem_of_getElem? (i := 1250) (by decide +kernel)) (by decide +kernel)
theorem lk1251 : Cond.methodLink RL 85 yX7_point ∈ TT := tt_mem (List.mem_of_getElem? (i := 1251) (by decide +kernel)) (by decide +kernel)
theorem lk1252 : Cond.instanceMethod yX7_point ∈ TT := tt_mem (List.mem_of_getElem? (i := 1252) (by decide +kernel)) (by decide +kernel)
theorem lk1253 : Cond.selects RX7 yX7_point yX7_point ∈ TT := tt_mem (List.mem_of_getElem? (i := 1253) (by decide +kernel)) (by decide +kernel)
theorem lk1254 : Cond.code yX7_point cX7_point 4 (some .long) ∈ TT := tt_mem (List.mem_of_getElem? (i := 1254) (by decide +kernel)) (by decide +kernel)
theorem lk1264 : Cond.methodLink RL 89 yX7_plane ∈ TT := tt_mem (List.mem_of_getElem? (i := 1264) (by decide +kernel)) (by decide +kernel)
theorem lk1265 : Cond.instanceMethod yX7_plane ∈ TT := tt_mem (List.mem_of_getElem? (i := 1265) (by decide +kernel)) (by decide +kernel)
theorem lk1266 : Cond.selects RX7 yX7_plane yX7_plane ∈ TT := tt_mem (List.mem_of_getElem? (i := 1266) (by decide +kernel)) (by decide +kernel)
theorem lk1267 : Cond.code yX7_plane cX7_plane 4 (some .long) ∈ TT := tt_mem (List.mem_of_getElem? (i := 1267) (by decide +kernel)) (by decide +kernel)
theorem lk1268 : Cond.methodLink RL 93 yX7_height ∈ TT := tt_mem (List.mem_of_getElem? (i := 1268) (by decide +kernel)) (by decide +kernel)
theorem lk1269 : Cond.instanceMethod yX7_height ∈ TT := tt_mem (List.mem_of_getElem? (i := 1269) (by decide +kernel)) (by decide +kernel)
theorem lk1270 : Cond.selects RX7 yX7_height yX7_height ∈ TT := tt_mem (List.mem_of_getElem? (i := 1270) (by decide +kernel)) (by decide +kernel)
theorem lk1271 : Cond.code yX7_height cX7_height 4 (some .long) ∈ TT := tt_mem (List.mem_of_getElem? (i := 1271) (by decide +kernel)) (by decide +kernel)
theorem lk1272 : Cond.methodLink RL 98 yX7_corner ∈ TT := tt_mem (List.mem_of_getElem? (i := 1272) (by decide +kernel)) (by decide +kernel)
theorem lk1273 : Cond.instanceMethod yX7_corner ∈ TT := tt_mem (List.mem_of_getElem? (i := 1273) (by decide +kernel)) (by decide +kernel)
theorem lk1274 : Cond.selects RX7 yX7_corner yX7_corner ∈ TT := tt_mem (List.mem_of_getElem? (i := 1274) (by decide +kernel)) (by decide +kernel)
theorem lk1275 : Cond.code yX7_corner cX7_corner 9 (some .long) ∈ TT := tt_mem (List.mem_of_getElem? (i := 1275) (by decide +kernel)) (by decide +kernel)
theorem lk1276 : Cond.methodLink RL 102 yX7_type ∈ TT := tt_mem (List.mem_of_getElem? (i := 1276) (by decide +kernel)) (by decide +kernel)
theorem lk1277 : Cond.instanceMethod yX7_type ∈ TT := tt_mem (List.mem_of_getElem? (i := 1277) (by decide +kernel)) (by decide +kernel)
theorem lk1278 : Cond.selects RX7 yX7_type yX7_type ∈ TT := tt_mem (List.mem_of_getElem? (i := 1278) (by decide +kernel)) (by decide +kernel)
theorem lk1279 : Cond.code yX7_type cX7_type 2 (some .int) ∈ TT := tt_mem (List.mem_of_getElem? (i := 1279) (by decide +kernel)) (by decide +kernel)
theorem lk1282 : Cond.methodLink RL 107 yX7_read ∈ TT := tt_mem (List.mem_of_getElem? (i := 1282) (by decide +kernel)) (by decide +kernel)
theorem lk1283 : Cond.instanceMethod yX7_read ∈ TT := tt_mem (List.mem_of_getElem? (i := 1283) (by decide +kernel)) (by decide +kernel)
theorem lk1284 : Cond.selects RX7 yX7_read yX7_read ∈ TT := tt_mem (List.mem_of_getElem? (i := 1284) (by decide +kernel)) (by decide +kernel)
theorem lk1285 : Cond.code yX7_read cX7_read 3 (some .int) ∈ TT := tt_mem (List.mem_of_getElem? (i := 1285) (by decide +kernel)) (by decide +kernel)
theorem lk1306 : Cond.methodLink RL 111 yX7_drift ∈ TT := tt_mem (List.mem_of_getElem? (i := 1306) (by decide +kernel)) (by decide +kernel)
theorem lk1307 : Cond.instanceMethod yX7_drift ∈ TT := tt_mem (List.mem_of_getElem? (i := 1307) (by decide +kernel)) (by decide +kernel)
theorem lk1308 : Cond.selects RX7 yX7_drift yX7_drift ∈ TT := tt_mem (List.mem_of_getElem? (i := 1308) (by decide +kernel)) (by decide +kernel)
theorem lk1309 : Cond.code yX7_drift cX7_drift 3 (some .int) ∈ TT := tt_mem (List.mem_of_getElem? (i := 1309) (by decide +kernel)) (by decide +kernel)
theorem lk1319 : Cond.methodLink RL 115 yX7_undo ∈ TT := tt_mem (List.mem_of_getElem? (i := 1319) (by decide +kernel)) (by decide +kernel)
theorem lk1320 : Cond.instanceMethod yX7_undo ∈ TT := tt_mem (List.mem_of_getElem? (i := 1320) (by decide +kernel)) (by decide +kernel)
theorem lk1321 : Cond.selects RX7 yX7_undo yX7_undo ∈ TT := tt_mem (List.mem_of_getElem? (i := 1321) (by decide +kernel)) (by decide +kernel)
theorem lk1322 : Cond.code yX7_undo cX7_undo 2 (some .int) ∈ TT := tt_mem (List.mem_of_getElem? (i := 1322) (by decide +kernel)) (by decide +kernel)
theorem lk1323 : Cond.methodLink RL 119 yX7_seed ∈ TT := tt_mem (List.mem_of_getElem? (i := 1323) (by decide +kernel)) (by decide +kernel)
theorem lk1324 : Cond.instanceMethod yX7_seed ∈ TT := tt_mem (List.mem_of_getElem? (i := 1324) (by decide +kernel)) (by decide +kernel)
theorem lk1325 : Cond.selects RX7 yX7_seed yX7_seed ∈ TT := tt_mem (List.mem_of_getElem? (i := 1325) (by decide +kernel)) (by decide +kernel)
theorem lk1326 : Cond.code yX7_seed cX7_seed 3 (some .int) ∈ TT := tt_mem (List.mem_of_getElem? (i := 1326) (by decide +kernel)) (by decide +kernel)
theorem lk1327 : Cond.methodLink RL 123 yX7_image ∈ TT := tt_mem (List.mem_of_getElem? (i := 1327) (by decide +kernel)) (by decide +kernel)
theorem lk1328 : Cond.instanceMethod yX7_image ∈ TT := tt_mem (List.mem_of_getElem? (i := 1328) (by decide +kernel)) (by decide +kernel)
theorem lk1329 : Cond.selects RX7 yX7_image yX7_image ∈ TT := tt_mem (List.mem_of_getElem? (i := 1329) (by decide +kernel)) (by decide +kernel)
theorem lk1330 : Cond.code yX7_image cX7_image 2 (some .int) ∈ TT := tt_mem (List.mem_of_getElem? (i := 1330) (by decide +kernel)) (by decide +kernel)
theorem lk1331 : Cond.methodLink RL 127 yX7_restore ∈ TT := tt_mem (List.mem_of_getElem? (i := 1331) (by decide +kernel)) (by decide +kernel)
theorem lk1332 : Cond.instanceMethod yX7_restore ∈ TT := tt_mem (List.mem_of_getElem? (i := 1332) (by decide +kernel)) (by decide +kernel)
theorem lk1333 : Cond.selects RX7 yX7_restore yX7_restore ∈ TT := tt_mem (List.mem_of_getElem? (i := 1333) (by decide +kernel)) (by decide +kernel)
theorem lk1334 : Cond.code yX7_restore cX7_restore 2 (some .int) ∈ TT := tt_mem (List.mem_of_getElem? (i := 1334) (by decide +kernel)) (by decide +kernel)
theorem lk1335 : Cond.methodLink RL 131 yX7_what ∈ TT := tt_mem (List.mem_of_getElem? (i := 1335) (by decide +kernel)) (by decide +kernel)
theorem lk1336 : Cond.instanceMethod yX7_what ∈ TT := tt_mem (List.mem_of_getElem? (i := 1336) (by decide +kernel)) (by decide +kernel)
theorem lk1337 : Cond.selects RX7 yX7_what yX7_what ∈ TT := tt_mem (List.mem_of_getElem? (i := 1337) (by decide +kernel)) (by decide +kernel)
theorem lk1338 : Cond.code yX7_what cX7_what 8 (some .int) ∈ TT := tt_mem (List.mem_of_getElem? (i := 1338) (by decide +kernel)) (by decide +kernel)
theorem lk1357 : Cond.methodLink RL 135 yX7_film ∈ TT := tt_mem (List.mem_of_getElem? (i := 1357) (by decide +kernel)) (by decide +kernel)
theorem lk1358 : Cond.instanceMethod yX7_film ∈ TT := tt_mem (List.mem_of_getElem? (i := 1358) (by decide +kernel)) (by decide +kernel)
theorem lk1359 : Cond.selects RX7 yX7_film yX7_film ∈ TT := tt_mem (List.mem_of_getElem? (i := 1359) (by decide +kernel)) (by decide +kernel)
theorem lk1360 : Cond.code yX7_film cX7_film 6 (some .int) ∈ TT := tt_mem (List.mem_of_getElem? (i := 1360) (by decide +kernel)) (by decide +kernel)
theorem lk1361 : Cond.methodLink RL 139 yX7_sheet ∈ TT := tt_mem (List.mem_of_getElem? (i := 1361) (by decide +kernel)) (by decide +kernel)
theorem lk1362 : Cond.instanceMethod yX7_sheet ∈ TT := tt_mem (List.mem_of_getElem? (i := 1362) (by decide +kernel)) (by decide +kernel)
theorem lk1363 : Cond.selects RX7 yX7_sheet yX7_sheet ∈ TT := tt_mem (List.mem_of_getElem? (i := 1363) (by decide +kernel)) (by decide +kernel)
theorem lk1364 : Cond.code yX7_sheet cX7_sheet 5 (some .int) ∈ TT := tt_mem (List.mem_of_getElem? (i := 1364) (by decide +kernel)) (by decide +kernel)
theorem lk1365 : Cond.methodLink RL 143 yX7_drop ∈ TT := tt_mem (List.mem_of_getElem? (i := 1365) (by decide +kernel)) (by decide +kernel)
theorem lk1366 : Cond.instanceMethod yX7_drop ∈ TT := tt_mem (List.mem_of_getElem? (i := 1366) (by decide +kernel)) (by decide +kernel)
theorem lk1367 : Cond.selects RX7 yX7_drop yX7_drop ∈ TT := tt_mem (List.mem_of_getElem? (i := 1367) (by decide +kernel)) (by decide +kernel)
theorem lk1368 : Cond.code yX7_drop cX7_drop 2 (some .int) ∈ TT := tt_mem (List.mem_of_getElem? (i := 1368) (by decide +kernel)) (by decide +kernel)
theorem lk1369 : Cond.methodLink RL 150 yX7_item ∈ TT := tt_mem (List.mem_of_getElem? (i := 1369) (by decide +kernel)) (by decide +kernel)
theorem lk1370 : Cond.instanceMethod yX7_item ∈ TT := tt_mem (List.mem_of_getElem? (i := 1370) (by decide +kernel)) (by decide +kernel)
theorem lk1371 : Cond.selects RX7 yX7_item yX7_item ∈ TT := tt_mem (List.mem_of_getElem? (i := 1371) (by decide +kernel)) (by decide +kernel)
theorem lk1372 : Cond.code yX7_item cX7_item 7 (some .int) ∈ TT := tt_mem (List.mem_of_getElem? (i := 1372) (by decide +kernel)) (by decide +kernel)
theorem lk1376 : Cond.methodLink RL 155 yX7_copy ∈ TT := tt_mem (List.mem_of_getElem? (i := 1376) (by decide +kernel)) (by decide +kernel)
theorem lk1377 : Cond.instanceMethod yX7_copy ∈ TT := tt_mem (List.mem_of_getElem? (i := 1377) (by decide +kernel)) (by decide +kernel)
theorem lk1378 : Cond.selects RX7 yX7_copy yX7_copy ∈ TT := tt_mem (List.mem_of_getElem? (i := 1378) (by decide +kernel)) (by decide +kernel)
theorem lk1379 : Cond.code yX7_copy cX7_copy 7 (some .int) ∈ TT := tt_mem (List.mem_of_getElem? (i := 1379) (by decide +kernel)) (by decide +kernel)
theorem lk1380 : Cond.constantLong RL 144 (4294967295) ∈ TT := tt_mem (List.mem_of_getElem? (i := 1380) (by decide +kernel)) (by decide +kernel)
theorem yd_X6_joint : ydOk yX6_joint 2 := by unfold ydOk; decide +kernel
theorem yd_X7_joint : ydOk yX7_joint 2 := by unfold ydOk; decide +kernel
theorem yd_X6_move : ydOk yX6_move 3 := by unfold ydOk; decide +kernel
theorem yd_X7_move : ydOk yX7_move 3 := by unfold ydOk; decide +kernel
theorem yd_X6_lose : ydOk yX6_lose 1 := by unfold ydOk; decide +kernel
theorem yd_X7_lose : ydOk yX7_lose 1 := by unfold ydOk; decide +kernel
theorem yd_X6_bar : ydOk yX6_bar 2 := by unfold ydOk; decide +kernel
theorem yd_X7_bar : ydOk yX7_bar 2 := by unfold ydOk; decide +kernel
theorem yd_X6_out : ydOk yX6_out 1 := by unfold ydOk; decide +kernel
theorem yd_X7_out : ydOk yX7_out 1 := by unfold ydOk; decide +kernel
theorem yd_X6_weight : ydOk yX6_weight 2 := by unfold ydOk; decide +kernel
theorem yd_X7_weight : ydOk yX7_weight 2 := by unfold ydOk; decide +kernel
theorem yd_X6_at : ydOk yX6_at 2 := by unfold ydOk; decide +kernel
theorem yd_X7_at : ydOk yX7_at 2 := by unfold ydOk; decide +kernel
theorem yd_X6_of : ydOk yX6_of 2 := by unfold ydOk; decide +kernel
theorem yd_X7_of : ydOk yX7_of 2 := by unfold ydOk; decide +kernel
theorem yd_X6_count : ydOk yX6_count 1 := by unfold ydOk; decide +kernel
theorem yd_X7_count : ydOk yX7_count 1 := by unfold ydOk; decide +kernel
theorem yd_X6_stress : ydOk yX6_stress 3 := by unfold ydOk; decide +kernel
theorem yd_X7_stress : ydOk yX7_stress 3 := by unfold ydOk; decide +kernel
theorem yd_X6_pull : ydOk yX6_pull 2 := by unfold ydOk; decide +kernel
theorem yd_X7_pull : ydOk yX7_pull 2 := by unfold ydOk; decide +kernel
theorem yd_X6_fail : ydOk yX6_fail 2 := by unfold ydOk; decide +kernel
theorem yd_X7_fail : ydOk yX7_fail 2 := by unfold ydOk; decide +kernel
theorem yd_X6_next : ydOk yX6_next 1 := by unfold ydOk; decide +kernel
theorem yd_X7_next : ydOk yX7_next 1 := by unfold ydOk; decide +kernel
theorem yd_X6_face : ydOk yX6_face 2 := by unfold ydOk; decide +kernel
theorem yd_X7_face : ydOk yX7_face 2 := by unfold ydOk; decide +kernel
theorem yd_X6_round : ydOk yX6_round 2 := by unfold ydOk; decide +kernel
theorem yd_X7_round : ydOk yX7_round 2 := by unfold ydOk; decide +kernel
theorem yd_X6_beside : ydOk yX6_beside 1 := by unfold ydOk; decide +kernel
theorem yd_X7_beside : ydOk yX7_beside 1 := by unfold ydOk; decide +kernel
theorem yd_X6_point : ydOk yX6_point 3 := by unfold ydOk; decide +kernel
theorem yd_X7_point : ydOk yX7_point 3 := by unfold ydOk; decide +kernel
theorem yd_X6_plane : ydOk yX6_plane 3 := by unfold ydOk; decide +kernel
theorem yd_X7_plane : ydOk yX7_plane 3 := by unfold ydOk; decide +kernel
theorem yd_X6_height : ydOk yX6_height 2 := by unfold ydOk; decide +kernel
theorem yd_X7_height : ydOk yX7_height 2 := by unfold ydOk; decide +kernel
theorem yd_X6_corner : ydOk yX6_corner 4 := by unfold ydOk; decide +kernel
theorem yd_X7_corner : ydOk yX7_corner 4 := by unfold ydOk; decide +kernel
theorem yd_X6_type : ydOk yX6_type 1 := by unfold ydOk; decide +kernel
theorem yd_X7_type : ydOk yX7_type 1 := by unfold ydOk; decide +kernel
theorem yd_X6_read : ydOk yX6_read 0 := by unfold ydOk; decide +kernel
theorem yd_X7_read : ydOk yX7_read 0 := by unfold ydOk; decide +kernel
theorem yd_X6_drift : ydOk yX6_drift 1 := by unfold ydOk; decide +kernel
theorem yd_X7_drift : ydOk yX7_drift 1 := by unfold ydOk; decide +kernel
theorem yd_X6_undo : ydOk yX6_undo 0 := by unfold ydOk; decide +kernel
theorem yd_X7_undo : ydOk yX7_undo 0 := by unfold ydOk; decide +kernel
theorem yd_X6_seed : ydOk yX6_seed 1 := by unfold ydOk; decide +kernel
theorem yd_X7_seed : ydOk yX7_seed 1 := by unfold ydOk; decide +kernel
theorem yd_X6_image : ydOk yX6_image 0 := by unfold ydOk; decide +kernel
theorem yd_X7_image : ydOk yX7_image 0 := by unfold ydOk; decide +kernel
theorem yd_X6_restore : ydOk yX6_restore 0 := by unfold ydOk; decide +kernel
theorem yd_X7_restore : ydOk yX7_restore 0 := by unfold ydOk; decide +kernel
theorem yd_X6_what : ydOk yX6_what 3 := by unfold ydOk; decide +kernel
theorem yd_X7_what : ydOk yX7_what 3 := by unfold ydOk; decide +kernel
theorem yd_X6_film : ydOk yX6_film 3 := by unfold ydOk; decide +kernel
theorem yd_X7_film : ydOk yX7_film 3 := by unfold ydOk; decide +kernel
theorem yd_X6_sheet : ydOk yX6_sheet 3 := by unfold ydOk; decide +kernel
theorem yd_X7_sheet : ydOk yX7_sheet 3 := by unfold ydOk; decide +kernel
theorem yd_X6_drop : ydOk yX6_drop 1 := by unfold ydOk; decide +kernel
theorem yd_X7_drop : ydOk yX7_drop 1 := by unfold ydOk; decide +kernel
theorem yd_X6_item : ydOk yX6_item 4 := by unfold ydOk; decide +kernel
theorem yd_X7_item : ydOk yX7_item 4 := by unfold ydOk; decide +kernel
theorem yd_X6_copy : ydOk yX6_copy 5 := by unfold ydOk; decide +kernel
theorem yd_X7_copy : ydOk yX7_copy 5 := by unfold ydOk; decide +kernel
def st_0 (a1 : Int32) (a2 : Int32) (σ τ : Sto) : Option (Sto × Sto) := bd2 (f_X6_joint a1 a2 σ) fun r1 s1 => bd2 (f_X7_joint a1 a2 τ) fun r2 s2 => if r1 = r2 then some (s1, s2) else none
def st_1 (a1 : Int32) (a2 : Int32) (a3 : Int32) (σ τ : Sto) : Option (Sto × Sto) := bd2 (f_X6_move a1 a2 a3 σ) fun r1 s1 => bd2 (f_X7_move a1 a2 a3 τ) fun r2 s2 => if r1 = r2 then some (s1, s2) else none
def st_2 (a1 : Int32) (σ τ : Sto) : Option (Sto × Sto) := bd2 (f_X6_lose a1 σ) fun r1 s1 => bd2 (f_X7_lose a1 τ) fun r2 s2 => if r1 = r2 then some (s1, s2) else none
def st_3 (a1 : Int32) (a2 : Int32) (σ τ : Sto) : Option (Sto × Sto) := bd2 (f_X6_bar a1 a2 σ) fun r1 s1 => bd2 (f_X7_bar a1 a2 τ) fun r2 s2 => if r1 = r2 then some (s1, s2) else none
def st_4 (a1 : Int32) (σ τ : Sto) : Option (Sto × Sto) := bd2 (f_X6_out a1 σ) fun r1 s1 => bd2 (f_X7_out a1 τ) fun r2 s2 => if r1 = r2 then some (s1, s2) else none
def st_5 (a1 : Int32) (a2 : Int32) (σ τ : Sto) : Option (Sto × Sto) := bd2 (f_X6_weight a1 a2 σ) fun r1 s1 => bd2 (f_X7_weight a1 a2 τ) fun r2 s2 => if r1 = r2 then some (s1, s2) else none
def st_6 (a1 : Int32) (a2 : Int32) (σ τ : Sto) : Option (Sto × Sto) := bd (f_X6_at a1 a2 σ) fun r1 => bd (f_X7_at a1 a2 τ) fun r2 => if r1 = r2 then some (σ, τ) else none
def st_7 (a1 : Int32) (a2 : Int32) (σ τ : Sto) : Option (Sto × Sto) := bd2 (f_X6_of a1 a2 σ) fun r1 s1 => bd2 (f_X7_of a1 a2 τ) fun r2 s2 => if r1 = r2 then some (s1, s2) else none
def st_8 (a1 : Int32) (σ τ : Sto) : Option (Sto × Sto) := bd2 (f_X6_count a1 σ) fun r1 s1 => bd2 (f_X7_count a1 τ) fun r2 s2 => if r1 = r2 then some (s1, s2) else none
def st_9 (a1 : Int32) (a2 : Int32) (a3 : Int32) (σ τ : Sto) : Option (Sto × Sto) := bd2 (f_X6_stress a1 a2 a3 σ) fun r1 s1 => bd2 (f_X7_stress a1 a2 a3 τ) fun r2 s2 => if r1 = r2 then some (s1, s2) else none
def st_10 (a1 : Int32) (a2 : Int32) (σ τ : Sto) : Option (Sto × Sto) := bd2 (f_X6_pull a1 a2 σ) fun r1 s1 => bd2 (f_X7_pull a1 a2 τ) fun r2 s2 => if r1 = r2 then some (s1, s2) else none
def st_11 (a1 : Int32) (a2 : Int32) (σ τ : Sto) : Option (Sto × Sto) := bd2 (f_X6_fail a1 a2 σ) fun r1 s1 => bd2 (f_X7_fail a1 a2 τ) fun r2 s2 => if r1 = r2 then some (s1, s2) else none
def st_12 (a1 : Int32) (σ τ : Sto) : Option (Sto × Sto) := bd2 (f_X6_next a1 σ) fun r1 s1 => bd (f_X7_next a1 τ) fun r2 => if r1 = r2 then some (s1, τ) else none
def st_13 (a1 : Int32) (a2 : Int32) (σ τ : Sto) : Option (Sto × Sto) := bd2 (f_X6_face a1 a2 σ) fun r1 s1 => bd2 (f_X7_face a1 a2 τ) fun r2 s2 => if r1 = r2 then some (s1, s2) else none
def st_14 (a1 : Int32) (a2 : Int32) (σ τ : Sto) : Option (Sto × Sto) := bd2 (f_X6_round a1 a2 σ) fun r1 s1 => bd2 (f_X7_round a1 a2 τ) fun r2 s2 => if r1 = r2 then some (s1, s2) else none
def st_15 (a1 : Int32) (σ τ : Sto) : Option (Sto × Sto) := bd2 (f_X6_beside a1 σ) fun r1 s1 => bd2 (f_X7_beside a1 τ) fun r2 s2 => if r1 = r2 then some (s1, s2) else none
def st_16 (a1 : Int32) (a2 : Int32) (a3 : Int32) (σ τ : Sto) : Option (Sto × Sto) := bd2 (f_X6_point a1 a2 a3 σ) fun r1 s1 => bd2 (f_X7_point a1 a2 a3 τ) fun r2 s2 => if r1 = r2 then some (s1, s2) else none
def st_17 (a1 : Int32) (a2 : Int32) (a3 : Int32) (σ τ : Sto) : Option (Sto × Sto) := bd2 (f_X6_plane a1 a2 a3 σ) fun r1 s1 => bd2 (f_X7_plane a1 a2 a3 τ) fun r2 s2 => if r1 = r2 then some (s1, s2) else none
def st_18 (a1 : Int32) (a2 : Int32) (σ τ : Sto) : Option (Sto × Sto) := bd2 (f_X6_height a1 a2 σ) fun r1 s1 => bd2 (f_X7_height a1 a2 τ) fun r2 s2 => if r1 = r2 then some (s1, s2) else none
def st_19 (a1 : Int32) (a2 : Int32) (a3 : Int32) (a4 : Int32) (σ τ : Sto) : Option (Sto × Sto) := bd2 (f_X6_corner a1 a2 a3 a4 σ) fun r1 s1 => bd2 (f_X7_corner a1 a2 a3 a4 τ) fun r2 s2 => if r1 = r2 then some (s1, s2) else none
def st_20 (a1 : Int32) (σ τ : Sto) : Option (Sto × Sto) := bd2 (f_X6_type a1 σ) fun r1 s1 => bd2 (f_X7_type a1 τ) fun r2 s2 => if r1 = r2 then some (s1, s2) else none
def st_21  (σ τ : Sto) : Option (Sto × Sto) := bd2 (f_X6_read σ) fun r1 s1 => bd2 (f_X7_read τ) fun r2 s2 => if r1 = r2 then some (s1, s2) else none
def st_22 (a1 : Int32) (σ τ : Sto) : Option (Sto × Sto) := bd2 (f_X6_drift a1 σ) fun r1 s1 => bd2 (f_X7_drift a1 τ) fun r2 s2 => if r1 = r2 then some (s1, s2) else none
def st_23  (σ τ : Sto) : Option (Sto × Sto) := bd2 (f_X6_undo σ) fun r1 s1 => bd2 (f_X7_undo τ) fun r2 s2 => if r1 = r2 then some (s1, s2) else none
def st_24 (a1 : Int32) (σ τ : Sto) : Option (Sto × Sto) := bd2 (f_X6_seed a1 σ) fun r1 s1 => bd2 (f_X7_seed a1 τ) fun r2 s2 => if r1 = r2 then some (s1, s2) else none
def st_25  (σ τ : Sto) : Option (Sto × Sto) := bd2 (f_X6_image σ) fun r1 s1 => bd2 (f_X7_image τ) fun r2 s2 => if r1 = r2 then some (s1, s2) else none
def st_26  (σ τ : Sto) : Option (Sto × Sto) := bd2 (f_X6_restore σ) fun r1 s1 => bd2 (f_X7_restore τ) fun r2 s2 => if r1 = r2 then some (s1, s2) else none
def st_27 (a1 : Int32) (a2 : Int32) (a3 : Int32) (σ τ : Sto) : Option (Sto × Sto) := bd2 (f_X6_what a1 a2 a3 σ) fun r1 s1 => bd2 (f_X7_what a1 a2 a3 τ) fun r2 s2 => if r1 = r2 then some (s1, s2) else none
def st_28 (a1 : Int32) (a2 : Int32) (a3 : Int32) (σ τ : Sto) : Option (Sto × Sto) := bd2 (f_X6_film a1 a2 a3 σ) fun r1 s1 => bd2 (f_X7_film a1 a2 a3 τ) fun r2 s2 => if r1 = r2 then some (s1, s2) else none
def st_29 (a1 : Int32) (a2 : Int32) (a3 : Int32) (σ τ : Sto) : Option (Sto × Sto) := bd2 (f_X6_sheet a1 a2 a3 σ) fun r1 s1 => bd2 (f_X7_sheet a1 a2 a3 τ) fun r2 s2 => if r1 = r2 then some (s1, s2) else none
def st_30 (a1 : Int32) (σ τ : Sto) : Option (Sto × Sto) := bd2 (f_X6_drop a1 σ) fun r1 s1 => bd2 (f_X7_drop a1 τ) fun r2 s2 => if r1 = r2 then some (s1, s2) else none
def st_31 (a1 : Int32) (a2 : Int32) (a3 : Int32) (a4 : Int32) (a5 : Int32) (σ τ : Sto) : Option (Sto × Sto) := bd2 (f_X6_item a1 a2 a3 (((Int32.toInt64 a4) <<< ((32 : Int32).toInt64 &&& 63)) ||| ((Int32.toInt64 a5) &&& (4294967295 : Int64))) σ) fun r1 s1 => bd2 (f_X7_item a1 a2 a3 (((Int32.toInt64 a4) <<< ((32 : Int32).toInt64 &&& 63)) ||| ((Int32.toInt64 a5) &&& (4294967295 : Int64))) τ) fun r2 s2 => if r1 = r2 then some (s1, s2) else none
def st_32 (a1 : Int32) (a2 : Int32) (a3 : Int32) (a4 : Int32) (a5 : Int32) (σ τ : Sto) : Option (Sto × Sto) := bd2 (f_X6_copy a1 a2 a3 a4 a5 σ) fun r1 s1 => bd2 (f_X7_copy a1 a2 a3 a4 a5 τ) fun r2 s2 => if r1 = r2 then some (s1, s2) else none
def stp (a0 a1 a2 a3 a4 a5 : Int32) (σ τ : Sto) : Option (Sto × Sto) := if a0 &&& 63 = 0 then st_0 a1 a2 σ τ else if a0 &&& 63 = 1 then st_1 a1 a2 a3 σ τ else if a0 &&& 63 = 2 then st_2 a1 σ τ else if a0 &&& 63 = 3 then st_3 a1 a2 σ τ else if a0 &&& 63 = 4 then st_4 a1 σ τ else if a0 &&& 63 = 5 then st_5 a1 a2 σ τ else if a0 &&& 63 = 6 then st_6 a1 a2 σ τ else if a0 &&& 63 = 7 then st_7 a1 a2 σ τ else if a0 &&& 63 = 8 then st_8 a1 σ τ else if a0 &&& 63 = 9 then st_9 a1 a2 a3 σ τ else if a0 &&& 63 = 10 then st_10 a1 a2 σ τ else if a0 &&& 63 = 11 then st_11 a1 a2 σ τ else if a0 &&& 63 = 12 then st_12 a1 σ τ else if a0 &&& 63 = 13 then st_13 a1 a2 σ τ else if a0 &&& 63 = 14 then st_14 a1 a2 σ τ else if a0 &&& 63 = 15 then st_15 a1 σ τ else if a0 &&& 63 = 16 then st_16 a1 a2 a3 σ τ else if a0 &&& 63 = 17 then st_17 a1 a2 a3 σ τ else if a0 &&& 63 = 18 then st_18 a1 a2 σ τ else if a0 &&& 63 = 19 then st_19 a1 a2 a3 a4 σ τ else if a0 &&& 63 = 20 then st_20 a1 σ τ else if a0 &&& 63 = 21 then st_21  σ τ else if a0 &&& 63 = 22 then st_22 a1 σ τ else if a0 &&& 63 = 23 then st_23  σ τ else if a0 &&& 63 = 24 then st_24 a1 σ τ else if a0 &&& 63 = 25 then st_25  σ τ else if a0 &&& 63 = 26 then st_26  σ τ else if a0 &&& 63 = 27 then st_27 a1 a2 a3 σ τ else if a0 &&& 63 = 28 then st_28 a1 a2 a3 σ τ else if a0 &&& 63 = 29 then st_29 a1 a2 a3 σ τ else if a0 &&& 63 = 30 then st_30 a1 σ τ else if a0 &&& 63 = 31 then st_31 a1 a2 a3 a4 a5 σ τ else if a0 &&& 63 = 32 then st_32 a1 a2 a3 a4 a5 σ τ else some (σ, τ)
set_option maxRecDepth 100000 in
set_option maxHeartbeats 4000000 in
theorem law_0 {p : Program} {l : Launch} {e : Env} {s : State} {m : MethodId} {below : List Frame} {meth : Method} {c : Code} {G : Gm} {b L : Nat} {xs : Nat → Int32} (C : LC p s m meth c b L xs G) {i : Nat} (hi : i + 6 ≤ L) (hL : L ≤ 3072) {σ τ : Sto} {Z : Sto × Sto} (hf : st_0 (xs (i + 1)) (xs (i + 2)) σ τ = some Z) {H : Heap} {locs : List Loc} {ls : Array Slot} {x3 : Int32} (ex3 : x3 = nI i) (hP1 : va_P G.2.1 vwCl (WS rC G σ) H) (hP2 : va_P G.2.1 vwCl (WS rM G τ) H) (hS : va_S (AL s) s.heap H locs) (hl : lv_has ls 4 [(3, .int x3), (2, .ref (G.1 122)), (1, .ref (G.1 0)), (0, .ref b)]) {Q : State → Prop} (kk : ∀ (H : Heap) (locs : List Loc), va_P G.2.1 vwCl (WS rC G Z.1) H → va_P G.2.1 vwCl (WS rM G Z.2) H → va_S (AL s) s.heap H locs → W p l e room_1 s m #[Value.ref b] below meth c H locs 144 2496 Q (F0 m 1276 ls [])) : W p l e room_1 s m #[Value.ref b] below meth c H locs 144 2496 Q (F0 m 180 ls []) := by
  obtain ⟨⟨hx, hb, hml, hown, hts⟩, ⟨hX, hbl⟩, hG1, hG2, hge1, hge2, hdis⟩ := id C
  unfold st_0 at hf
  refine lv_aload_n hx hb dL_law_180 rfl (lv_at hl 2 rfl) ?_
  refine lv_aload_n hx hb dL_law_181 rfl (lv_at hl 3 rfl) ?_
  refine lv_iload_n hx hb dL_law_182 rfl (lv_at hl 0 rfl) ?_
  refine lv_iconst (v := 1) hx hb dL_law_183 (by decide) ?_
  refine lv_iadd hx hb dL_law_184 ?_
  refine g_sld (j := i + 1) hx hb hX hbl hS (by rw [ex3]; exact nI_add i 1) (by omega) hL dL_law_185 ?_
  refine lv_aload_n hx hb dL_law_186 rfl (lv_at hl 3 rfl) ?_
  refine lv_iload_n hx hb dL_law_187 rfl (lv_at hl 0 rfl) ?_
  refine lv_iconst (v := 2) hx hb dL_law_188 (by decide) ?_
  refine lv_iadd hx hb dL_law_189 ?_
  refine g_sld (j := i + 2) hx hb hX hbl hS (by rw [ex3]; exact nI_add i 2) (by omega) hL dL_law_190 ?_
  obtain ⟨r1, s1, hr1, hf⟩ := ob2 hf
  refine g_Lvi (σ' := s1) (As := [.int (xs (i + 1)), .int (xs (i + 2))]) (rest := []) (C := RX6) (T := TX6) (N := 11) (ci := 6) C.1 hG1 hge1 hP1 hS (r := r1) (c_X6_joint hr1) in_0 sh_0 rfl lk350 lk93 lk347 lk348 lk349 yd_X6_joint rfl rfl hl.1 rfl (Nat.le_of_ble_eq_true rfl) ⟨Nat.le_of_ble_eq_true rfl, Nat.le_of_ble_eq_true rfl⟩ dL_law_191 (fun H1 locs hq hk hS => ?_)
  have hP2 := keptW hdis hP2 hk
  have hP1 := hq
  generalize H1 = H at hP1 hP2 hS ⊢
  refine lv_aload_n hx hb dL_law_194 rfl (lv_at hl 1 rfl) ?_
  refine lv_aload_n hx hb dL_law_195 rfl (lv_at hl 3 rfl) ?_
  refine lv_iload_n hx hb dL_law_196 rfl (lv_at hl 0 rfl) ?_
  refine lv_iconst (v := 1) hx hb dL_law_197 (by decide) ?_
  refine lv_iadd hx hb dL_law_198 ?_
  refine g_sld (j := i + 1) hx hb hX hbl hS (by rw [ex3]; exact nI_add i 1) (by omega) hL dL_law_199 ?_
  refine lv_aload_n hx hb dL_law_200 rfl (lv_at hl 3 rfl) ?_
  refine lv_iload_n hx hb dL_law_201 rfl (lv_at hl 0 rfl) ?_
  refine lv_iconst (v := 2) hx hb dL_law_202 (by decide) ?_
  refine lv_iadd hx hb dL_law_203 ?_
  refine g_sld (j := i + 2) hx hb hX hbl hS (by rw [ex3]; exact nI_add i 2) (by omega) hL dL_law_204 ?_
  obtain ⟨r2, s2, hr2, hf⟩ := ob2 hf
  refine g_Lvi (σ' := s2) (As := [.int (xs (i + 1)), .int (xs (i + 2))]) (rest := [.int r1]) (C := RX7) (T := TX7) (N := 28) (ci := 7) C.1 hG2 hge2 hP2 hS (r := r2) (c_X7_joint hr2) in_122 sh_122 rfl lk965 lk100 lk962 lk963 lk964 yd_X7_joint rfl rfl hl.1 rfl (Nat.le_of_ble_eq_true rfl) ⟨Nat.le_of_ble_eq_true rfl, Nat.le_of_ble_eq_true rfl⟩ dL_law_205 (fun H1 locs hq hk hS => ?_)
  have hP1 := keptW (fun j k hj hk e => hdis k j hk hj e.symm) hP1 hk
  have hP2 := hq
  generalize H1 = H at hP1 hP2 hS ⊢
  obtain ⟨hre, hf2⟩ := itE hf
  subst hre
  refine lv_icmp_eq (tgt := 1276) hx hb dL_law_208 (by decide) (fun _ => ?_) (fun h => absurd rfl h)
  cases hf2
  exact kk _ _ hP1 hP2 hS
set_option maxRecDepth 100000 in
set_option maxHeartbeats 4000000 in
theorem law_1 {p : Program} {l : Launch} {e : Env} {s : State} {m : MethodId} {below : List Frame} {meth : Method} {c : Code} {G : Gm} {b L : Nat} {xs : Nat → Int32} (C : LC p s m meth c b L xs G) {i : Nat} (hi : i + 6 ≤ L) (hL : L ≤ 3072) {σ τ : Sto} {Z : Sto × Sto} (hf : st_1 (xs (i + 1)) (xs (i + 2)) (xs (i + 3)) σ τ = some Z) {H : Heap} {locs : List Loc} {ls : Array Slot} {x3 : Int32} (ex3 : x3 = nI i) (hP1 : va_P G.2.1 vwCl (WS rC G σ) H) (hP2 : va_P G.2.1 vwCl (WS rM G τ) H) (hS : va_S (AL s) s.heap H locs) (hl : lv_has ls 4 [(3, .int x3), (2, .ref (G.1 122)), (1, .ref (G.1 0)), (0, .ref b)]) {Q : State → Prop} (kk : ∀ (H : Heap) (locs : List Loc), va_P G.2.1 vwCl (WS rC G Z.1) H → va_P G.2.1 vwCl (WS rM G Z.2) H → va_S (AL s) s.heap H locs → W p l e room_1 s m #[Value.ref b] below meth c H locs 144 2496 Q (F0 m 1276 ls [])) : W p l e room_1 s m #[Value.ref b] below meth c H locs 144 2496 Q (F0 m 213 ls []) := by
  obtain ⟨⟨hx, hb, hml, hown, hts⟩, ⟨hX, hbl⟩, hG1, hG2, hge1, hge2, hdis⟩ := id C
  unfold st_1 at hf
  refine lv_aload_n hx hb dL_law_213 rfl (lv_at hl 2 rfl) ?_
  refine lv_aload_n hx hb dL_law_214 rfl (lv_at hl 3 rfl) ?_
  refine lv_iload_n hx hb dL_law_215 rfl (lv_at hl 0 rfl) ?_
  refine lv_iconst (v := 1) hx hb dL_law_216 (by decide) ?_
  refine lv_iadd hx hb dL_law_217 ?_
  refine g_sld (j := i + 1) hx hb hX hbl hS (by rw [ex3]; exact nI_add i 1) (by omega) hL dL_law_218 ?_
  refine lv_aload_n hx hb dL_law_219 rfl (lv_at hl 3 rfl) ?_
  refine lv_iload_n hx hb dL_law_220 rfl (lv_at hl 0 rfl) ?_
  refine lv_iconst (v := 2) hx hb dL_law_221 (by decide) ?_
  refine lv_iadd hx hb dL_law_222 ?_
  refine g_sld (j := i + 2) hx hb hX hbl hS (by rw [ex3]; exact nI_add i 2) (by omega) hL dL_law_223 ?_
  refine lv_aload_n hx hb dL_law_224 rfl (lv_at hl 3 rfl) ?_
  refine lv_iload_n hx hb dL_law_225 rfl (lv_at hl 0 rfl) ?_
  refine lv_iconst (v := 3) hx hb dL_law_226 (by decide) ?_
  refine lv_iadd hx hb dL_law_227 ?_
  refine g_sld (j := i + 3) hx hb hX hbl hS (by rw [ex3]; exact nI_add i 3) (by omega) hL dL_law_228 ?_
  obtain ⟨r1, s1, hr1, hf⟩ := ob2 hf
  refine g_Lvi (σ' := s1) (As := [.int (xs (i + 1)), .int (xs (i + 2)), .int (xs (i + 3))]) (rest := []) (C := RX6) (T := TX6) (N := 11) (ci := 6) C.1 hG1 hge1 hP1 hS (r := r1) (c_X6_move hr1) in_0 sh_0 rfl lk399 lk93 lk396 lk397 lk398 yd_X6_move rfl rfl hl.1 rfl (Nat.le_of_ble_eq_true rfl) ⟨Nat.le_of_ble_eq_true rfl, Nat.le_of_ble_eq_true rfl⟩ dL_law_229 (fun H1 locs hq hk hS => ?_)
  have hP2 := keptW hdis hP2 hk
  have hP1 := hq
  generalize H1 = H at hP1 hP2 hS ⊢
  refine lv_aload_n hx hb dL_law_232 rfl (lv_at hl 1 rfl) ?_
  refine lv_aload_n hx hb dL_law_233 rfl (lv_at hl 3 rfl) ?_
  refine lv_iload_n hx hb dL_law_234 rfl (lv_at hl 0 rfl) ?_
  refine lv_iconst (v := 1) hx hb dL_law_235 (by decide) ?_
  refine lv_iadd hx hb dL_law_236 ?_
  refine g_sld (j := i + 1) hx hb hX hbl hS (by rw [ex3]; exact nI_add i 1) (by omega) hL dL_law_237 ?_
  refine lv_aload_n hx hb dL_law_238 rfl (lv_at hl 3 rfl) ?_
  refine lv_iload_n hx hb dL_law_239 rfl (lv_at hl 0 rfl) ?_
  refine lv_iconst (v := 2) hx hb dL_law_240 (by decide) ?_
  refine lv_iadd hx hb dL_law_241 ?_
  refine g_sld (j := i + 2) hx hb hX hbl hS (by rw [ex3]; exact nI_add i 2) (by omega) hL dL_law_242 ?_
  refine lv_aload_n hx hb dL_law_243 rfl (lv_at hl 3 rfl) ?_
  refine lv_iload_n hx hb dL_law_244 rfl (lv_at hl 0 rfl) ?_
  refine lv_iconst (v := 3) hx hb dL_law_245 (by decide) ?_
  refine lv_iadd hx hb dL_law_246 ?_
  refine g_sld (j := i + 3) hx hb hX hbl hS (by rw [ex3]; exact nI_add i 3) (by omega) hL dL_law_247 ?_
  obtain ⟨r2, s2, hr2, hf⟩ := ob2 hf
  refine g_Lvi (σ' := s2) (As := [.int (xs (i + 1)), .int (xs (i + 2)), .int (xs (i + 3))]) (rest := [.int r1]) (C := RX7) (T := TX7) (N := 28) (ci := 7) C.1 hG2 hge2 hP2 hS (r := r2) (c_X7_move hr2) in_122 sh_122 rfl lk1086 lk100 lk1083 lk1084 lk1085 yd_X7_move rfl rfl hl.1 rfl (Nat.le_of_ble_eq_true rfl) ⟨Nat.le_of_ble_eq_true rfl, Nat.le_of_ble_eq_true rfl⟩ dL_law_248 (fun H1 locs hq hk hS => ?_)
  have hP1 := keptW (fun j k hj hk e => hdis k j hk hj e.symm) hP1 hk
  have hP2 := hq
  generalize H1 = H at hP1 hP2 hS ⊢
  obtain ⟨hre, hf2⟩ := itE hf
  subst hre
  refine lv_icmp_eq (tgt := 1276) hx hb dL_law_251 (by decide) (fun _ => ?_) (fun h => absurd rfl h)
  cases hf2
  exact kk _ _ hP1 hP2 hS
set_option maxRecDepth 100000 in
set_option maxHeartbeats 4000000 in
theorem law_2 {p : Program} {l : Launch} {e : Env} {s : State} {m : MethodId} {below : List Frame} {meth : Method} {c : Code} {G : Gm} {b L : Nat} {xs : Nat → Int32} (C : LC p s m meth c b L xs G) {i : Nat} (hi : i + 6 ≤ L) (hL : L ≤ 3072) {σ τ : Sto} {Z : Sto × Sto} (hf : st_2 (xs (i + 1)) σ τ = some Z) {H : Heap} {locs : List Loc} {ls : Array Slot} {x3 : Int32} (ex3 : x3 = nI i) (hP1 : va_P G.2.1 vwCl (WS rC G σ) H) (hP2 : va_P G.2.1 vwCl (WS rM G τ) H) (hS : va_S (AL s) s.heap H locs) (hl : lv_has ls 4 [(3, .int x3), (2, .ref (G.1 122)), (1, .ref (G.1 0)), (0, .ref b)]) {Q : State → Prop} (kk : ∀ (H : Heap) (locs : List Loc), va_P G.2.1 vwCl (WS rC G Z.1) H → va_P G.2.1 vwCl (WS rM G Z.2) H → va_S (AL s) s.heap H locs → W p l e room_1 s m #[Value.ref b] below meth c H locs 144 2496 Q (F0 m 1276 ls [])) : W p l e room_1 s m #[Value.ref b] below meth c H locs 144 2496 Q (F0 m 256 ls []) := by
  obtain ⟨⟨hx, hb, hml, hown, hts⟩, ⟨hX, hbl⟩, hG1, hG2, hge1, hge2, hdis⟩ := id C
  unfold st_2 at hf
  refine lv_aload_n hx hb dL_law_256 rfl (lv_at hl 2 rfl) ?_
  refine lv_aload_n hx hb dL_law_257 rfl (lv_at hl 3 rfl) ?_
  refine lv_iload_n hx hb dL_law_258 rfl (lv_at hl 0 rfl) ?_
  refine lv_iconst (v := 1) hx hb dL_law_259 (by decide) ?_
  refine lv_iadd hx hb dL_law_260 ?_
  refine g_sld (j := i + 1) hx hb hX hbl hS (by rw [ex3]; exact nI_add i 1) (by omega) hL dL_law_261 ?_
  obtain ⟨r1, s1, hr1, hf⟩ := ob2 hf
  refine g_Lvi (σ' := s1) (As := [.int (xs (i + 1))]) (rest := []) (C := RX6) (T := TX6) (N := 11) (ci := 6) C.1 hG1 hge1 hP1 hS (r := r1) (c_X6_lose hr1) in_0 sh_0 rfl lk432 lk93 lk429 lk430 lk431 yd_X6_lose rfl rfl hl.1 rfl (Nat.le_of_ble_eq_true rfl) ⟨Nat.le_of_ble_eq_true rfl, Nat.le_of_ble_eq_true rfl⟩ dL_law_262 (fun H1 locs hq hk hS => ?_)
  have hP2 := keptW hdis hP2 hk
  have hP1 := hq
  generalize H1 = H at hP1 hP2 hS ⊢
  refine lv_aload_n hx hb dL_law_265 rfl (lv_at hl 1 rfl) ?_
  refine lv_aload_n hx hb dL_law_266 rfl (lv_at hl 3 rfl) ?_
  refine lv_iload_n hx hb dL_law_267 rfl (lv_at hl 0 rfl) ?_
  refine lv_iconst (v := 1) hx hb dL_law_268 (by decide) ?_
  refine lv_iadd hx hb dL_law_269 ?_
  refine g_sld (j := i + 1) hx hb hX hbl hS (by rw [ex3]; exact nI_add i 1) (by omega) hL dL_law_270 ?_
  obtain ⟨r2, s2, hr2, hf⟩ := ob2 hf
  refine g_Lvi (σ' := s2) (As := [.int (xs (i + 1))]) (rest := [.int r1]) (C := RX7) (T := TX7) (N := 28) (ci := 7) C.1 hG2 hge2 hP2 hS (r := r2) (c_X7_lose hr2) in_122 sh_122 rfl lk1090 lk100 lk1087 lk1088 lk1089 yd_X7_lose rfl rfl hl.1 rfl (Nat.le_of_ble_eq_true rfl) ⟨Nat.le_of_ble_eq_true rfl, Nat.le_of_ble_eq_true rfl⟩ dL_law_271 (fun H1 locs hq hk hS => ?_)
  have hP1 := keptW (fun j k hj hk e => hdis k j hk hj e.symm) hP1 hk
  have hP2 := hq
  generalize H1 = H at hP1 hP2 hS ⊢
  obtain ⟨hre, hf2⟩ := itE hf
  subst hre
  refine lv_icmp_eq (tgt := 1276) hx hb dL_law_274 (by decide) (fun _ => ?_) (fun h => absurd rfl h)
  cases hf2
  exact kk _ _ hP1 hP2 hS
set_option maxRecDepth 100000 in
set_option maxHeartbeats 4000000 in
theorem law_3 {p : Program} {l : Launch} {e : Env} {s : State} {m : MethodId} {below : List Frame} {meth : Method} {c : Code} {G : Gm} {b L : Nat} {xs : Nat → Int32} (C : LC p s m meth c b L xs G) {i : Nat} (hi : i + 6 ≤ L) (hL : L ≤ 3072) {σ τ : Sto} {Z : Sto × Sto} (hf : st_3 (xs (i + 1)) (xs (i + 2)) σ τ = some Z) {H : Heap} {locs : List Loc} {ls : Array Slot} {x3 : Int32} (ex3 : x3 = nI i) (hP1 : va_P G.2.1 vwCl (WS rC G σ) H) (hP2 : va_P G.2.1 vwCl (WS rM G τ) H) (hS : va_S (AL s) s.heap H locs) (hl : lv_has ls 4 [(3, .int x3), (2, .ref (G.1 122)), (1, .ref (G.1 0)), (0, .ref b)]) {Q : State → Prop} (kk : ∀ (H : Heap) (locs : List Loc), va_P G.2.1 vwCl (WS rC G Z.1) H → va_P G.2.1 vwCl (WS rM G Z.2) H → va_S (AL s) s.heap H locs → W p l e room_1 s m #[Value.ref b] below meth c H locs 144 2496 Q (F0 m 1276 ls [])) : W p l e room_1 s m #[Value.ref b] below meth c H locs 144 2496 Q (F0 m 279 ls []) := by
  obtain ⟨⟨hx, hb, hml, hown, hts⟩, ⟨hX, hbl⟩, hG1, hG2, hge1, hge2, hdis⟩ := id C
  unfold st_3 at hf
  refine lv_aload_n hx hb dL_law_279 rfl (lv_at hl 2 rfl) ?_
  refine lv_aload_n hx hb dL_law_280 rfl (lv_at hl 3 rfl) ?_
  refine lv_iload_n hx hb dL_law_281 rfl (lv_at hl 0 rfl) ?_
  refine lv_iconst (v := 1) hx hb dL_law_282 (by decide) ?_
  refine lv_iadd hx hb dL_law_283 ?_
  refine g_sld (j := i + 1) hx hb hX hbl hS (by rw [ex3]; exact nI_add i 1) (by omega) hL dL_law_284 ?_
  refine lv_aload_n hx hb dL_law_285 rfl (lv_at hl 3 rfl) ?_
  refine lv_iload_n hx hb dL_law_286 rfl (lv_at hl 0 rfl) ?_
  refine lv_iconst (v := 2) hx hb dL_law_287 (by decide) ?_
  refine lv_iadd hx hb dL_law_288 ?_
  refine g_sld (j := i + 2) hx hb hX hbl hS (by rw [ex3]; exact nI_add i 2) (by omega) hL dL_law_289 ?_
  obtain ⟨r1, s1, hr1, hf⟩ := ob2 hf
  refine g_Lvi (σ' := s1) (As := [.int (xs (i + 1)), .int (xs (i + 2))]) (rest := []) (C := RX6) (T := TX6) (N := 11) (ci := 6) C.1 hG1 hge1 hP1 hS (r := r1) (c_X6_bar hr1) in_0 sh_0 rfl lk448 lk93 lk445 lk446 lk447 yd_X6_bar rfl rfl hl.1 rfl (Nat.le_of_ble_eq_true rfl) ⟨Nat.le_of_ble_eq_true rfl, Nat.le_of_ble_eq_true rfl⟩ dL_law_290 (fun H1 locs hq hk hS => ?_)
  have hP2 := keptW hdis hP2 hk
  have hP1 := hq
  generalize H1 = H at hP1 hP2 hS ⊢
  refine lv_aload_n hx hb dL_law_293 rfl (lv_at hl 1 rfl) ?_
  refine lv_aload_n hx hb dL_law_294 rfl (lv_at hl 3 rfl) ?_
  refine lv_iload_n hx hb dL_law_295 rfl (lv_at hl 0 rfl) ?_
  refine lv_iconst (v := 1) hx hb dL_law_296 (by decide) ?_
  refine lv_iadd hx hb dL_law_297 ?_
  refine g_sld (j := i + 1) hx hb hX hbl hS (by rw [ex3]; exact nI_add i 1) (by omega) hL dL_law_298 ?_
  refine lv_aload_n hx hb dL_law_299 rfl (lv_at hl 3 rfl) ?_
  refine lv_iload_n hx hb dL_law_300 rfl (lv_at hl 0 rfl) ?_
  refine lv_iconst (v := 2) hx hb dL_law_301 (by decide) ?_
  refine lv_iadd hx hb dL_law_302 ?_
  refine g_sld (j := i + 2) hx hb hX hbl hS (by rw [ex3]; exact nI_add i 2) (by omega) hL dL_law_303 ?_
  obtain ⟨r2, s2, hr2, hf⟩ := ob2 hf
  refine g_Lvi (σ' := s2) (As := [.int (xs (i + 1)), .int (xs (i + 2))]) (rest := [.int r1]) (C := RX7) (T := TX7) (N := 28) (ci := 7) C.1 hG2 hge2 hP2 hS (r := r2) (c_X7_bar hr2) in_122 sh_122 rfl lk1094 lk100 lk1091 lk1092 lk1093 yd_X7_bar rfl rfl hl.1 rfl (Nat.le_of_ble_eq_true rfl) ⟨Nat.le_of_ble_eq_true rfl, Nat.le_of_ble_eq_true rfl⟩ dL_law_304 (fun H1 locs hq hk hS => ?_)
  have hP1 := keptW (fun j k hj hk e => hdis k j hk hj e.symm) hP1 hk
  have hP2 := hq
  generalize H1 = H at hP1 hP2 hS ⊢
  obtain ⟨hre, hf2⟩ := itE hf
  subst hre
  refine lv_icmp_eq (tgt := 1276) hx hb dL_law_307 (by decide) (fun _ => ?_) (fun h => absurd rfl h)
  cases hf2
  exact kk _ _ hP1 hP2 hS
set_option maxRecDepth 100000 in
set_option maxHeartbeats 4000000 in
theorem law_4 {p : Program} {l : Launch} {e : Env} {s : State} {m : MethodId} {below : List Frame} {meth : Method} {c : Code} {G : Gm} {b L : Nat} {xs : Nat → Int32} (C : LC p s m meth c b L xs G) {i : Nat} (hi : i + 6 ≤ L) (hL : L ≤ 3072) {σ τ : Sto} {Z : Sto × Sto} (hf : st_4 (xs (i + 1)) σ τ = some Z) {H : Heap} {locs : List Loc} {ls : Array Slot} {x3 : Int32} (ex3 : x3 = nI i) (hP1 : va_P G.2.1 vwCl (WS rC G σ) H) (hP2 : va_P G.2.1 vwCl (WS rM G τ) H) (hS : va_S (AL s) s.heap H locs) (hl : lv_has ls 4 [(3, .int x3), (2, .ref (G.1 122)), (1, .ref (G.1 0)), (0, .ref b)]) {Q : State → Prop} (kk : ∀ (H : Heap) (locs : List Loc), va_P G.2.1 vwCl (WS rC G Z.1) H → va_P G.2.1 vwCl (WS rM G Z.2) H → va_S (AL s) s.heap H locs → W p l e room_1 s m #[Value.ref b] below meth c H locs 144 2496 Q (F0 m 1276 ls [])) : W p l e room_1 s m #[Value.ref b] below meth c H locs 144 2496 Q (F0 m 312 ls []) := by
  obtain ⟨⟨hx, hb, hml, hown, hts⟩, ⟨hX, hbl⟩, hG1, hG2, hge1, hge2, hdis⟩ := id C
  unfold st_4 at hf
  refine lv_aload_n hx hb dL_law_312 rfl (lv_at hl 2 rfl) ?_
  refine lv_aload_n hx hb dL_law_313 rfl (lv_at hl 3 rfl) ?_
  refine lv_iload_n hx hb dL_law_314 rfl (lv_at hl 0 rfl) ?_
  refine lv_iconst (v := 1) hx hb dL_law_315 (by decide) ?_
  refine lv_iadd hx hb dL_law_316 ?_
  refine g_sld (j := i + 1) hx hb hX hbl hS (by rw [ex3]; exact nI_add i 1) (by omega) hL dL_law_317 ?_
  obtain ⟨r1, s1, hr1, hf⟩ := ob2 hf
  refine g_Lvi (σ' := s1) (As := [.int (xs (i + 1))]) (rest := []) (C := RX6) (T := TX6) (N := 11) (ci := 6) C.1 hG1 hge1 hP1 hS (r := r1) (c_X6_out hr1) in_0 sh_0 rfl lk476 lk93 lk473 lk474 lk475 yd_X6_out rfl rfl hl.1 rfl (Nat.le_of_ble_eq_true rfl) ⟨Nat.le_of_ble_eq_true rfl, Nat.le_of_ble_eq_true rfl⟩ dL_law_318 (fun H1 locs hq hk hS => ?_)
  have hP2 := keptW hdis hP2 hk
  have hP1 := hq
  generalize H1 = H at hP1 hP2 hS ⊢
  refine lv_aload_n hx hb dL_law_321 rfl (lv_at hl 1 rfl) ?_
  refine lv_aload_n hx hb dL_law_322 rfl (lv_at hl 3 rfl) ?_
  refine lv_iload_n hx hb dL_law_323 rfl (lv_at hl 0 rfl) ?_
  refine lv_iconst (v := 1) hx hb dL_law_324 (by decide) ?_
  refine lv_iadd hx hb dL_law_325 ?_
  refine g_sld (j := i + 1) hx hb hX hbl hS (by rw [ex3]; exact nI_add i 1) (by omega) hL dL_law_326 ?_
  obtain ⟨r2, s2, hr2, hf⟩ := ob2 hf
  refine g_Lvi (σ' := s2) (As := [.int (xs (i + 1))]) (rest := [.int r1]) (C := RX7) (T := TX7) (N := 28) (ci := 7) C.1 hG2 hge2 hP2 hS (r := r2) (c_X7_out hr2) in_122 sh_122 rfl lk1098 lk100 lk1095 lk1096 lk1097 yd_X7_out rfl rfl hl.1 rfl (Nat.le_of_ble_eq_true rfl) ⟨Nat.le_of_ble_eq_true rfl, Nat.le_of_ble_eq_true rfl⟩ dL_law_327 (fun H1 locs hq hk hS => ?_)
  have hP1 := keptW (fun j k hj hk e => hdis k j hk hj e.symm) hP1 hk
  have hP2 := hq
  generalize H1 = H at hP1 hP2 hS ⊢
  obtain ⟨hre, hf2⟩ := itE hf
  subst hre
  refine lv_icmp_eq (tgt := 1276) hx hb dL_law_330 (by decide) (fun _ => ?_) (fun h => absurd rfl h)
  cases hf2
  exact kk _ _ hP1 hP2 hS
set_option maxRecDepth 100000 in
set_option maxHeartbeats 4000000 in
theorem law_5 {p : Program} {l : Launch} {e : Env} {s : State} {m : MethodId} {below : List Frame} {meth : Method} {c : Code} {G : Gm} {b L : Nat} {xs : Nat → Int32} (C : LC p s m meth c b L xs G) {i : Nat} (hi : i + 6 ≤ L) (hL : L ≤ 3072) {σ τ : Sto} {Z : Sto × Sto} (hf : st_5 (xs (i + 1)) (xs (i + 2)) σ τ = some Z) {H : Heap} {locs : List Loc} {ls : Array Slot} {x3 : Int32} (ex3 : x3 = nI i) (hP1 : va_P G.2.1 vwCl (WS rC G σ) H) (hP2 : va_P G.2.1 vwCl (WS rM G τ) H) (hS : va_S (AL s) s.heap H locs) (hl : lv_has ls 4 [(3, .int x3), (2, .ref (G.1 122)), (1, .ref (G.1 0)), (0, .ref b)]) {Q : State → Prop} (kk : ∀ (H : Heap) (locs : List Loc), va_P G.2.1 vwCl (WS rC G Z.1) H → va_P G.2.1 vwCl (WS rM G Z.2) H → va_S (AL s) s.heap H locs → W p l e room_1 s m #[Value.ref b] below meth c H locs 144 2496 Q (F0 m 1276 ls [])) : W p l e room_1 s m #[Value.ref b] below meth c H locs 144 2496 Q (F0 m 335 ls []) := by
  obtain ⟨⟨hx, hb, hml, hown, hts⟩, ⟨hX, hbl⟩, hG1, hG2, hge1, hge2, hdis⟩ := id C
  unfold st_5 at hf
  refine lv_aload_n hx hb dL_law_335 rfl (lv_at hl 2 rfl) ?_
  refine lv_aload_n hx hb dL_law_336 rfl (lv_at hl 3 rfl) ?_
  refine lv_iload_n hx hb dL_law_337 rfl (lv_at hl 0 rfl) ?_
  refine lv_iconst (v := 1) hx hb dL_law_338 (by decide) ?_
  refine lv_iadd hx hb dL_law_339 ?_
  refine g_sld (j := i + 1) hx hb hX hbl hS (by rw [ex3]; exact nI_add i 1) (by omega) hL dL_law_340 ?_
  refine lv_aload_n hx hb dL_law_341 rfl (lv_at hl 3 rfl) ?_
  refine lv_iload_n hx hb dL_law_342 rfl (lv_at hl 0 rfl) ?_
  refine lv_iconst (v := 2) hx hb dL_law_343 (by decide) ?_
  refine lv_iadd hx hb dL_law_344 ?_
  refine g_sld (j := i + 2) hx hb hX hbl hS (by rw [ex3]; exact nI_add i 2) (by omega) hL dL_law_345 ?_
  obtain ⟨r1, s1, hr1, hf⟩ := ob2 hf
  refine g_Lvi (σ' := s1) (As := [.int (xs (i + 1)), .int (xs (i + 2))]) (rest := []) (C := RX6) (T := TX6) (N := 11) (ci := 6) C.1 hG1 hge1 hP1 hS (r := r1) (c_X6_weight hr1) in_0 sh_0 rfl lk485 lk93 lk482 lk483 lk484 yd_X6_weight rfl rfl hl.1 rfl (Nat.le_of_ble_eq_true rfl) ⟨Nat.le_of_ble_eq_true rfl, Nat.le_of_ble_eq_true rfl⟩ dL_law_346 (fun H1 locs hq hk hS => ?_)
  have hP2 := keptW hdis hP2 hk
  have hP1 := hq
  generalize H1 = H at hP1 hP2 hS ⊢
  refine lv_aload_n hx hb dL_law_349 rfl (lv_at hl 1 rfl) ?_
  refine lv_aload_n hx hb dL_law_350 rfl (lv_at hl 3 rfl) ?_
  refine lv_iload_n hx hb dL_law_351 rfl (lv_at hl 0 rfl) ?_
  refine lv_iconst (v := 1) hx hb dL_law_352 (by decide) ?_
  refine lv_iadd hx hb dL_law_353 ?_
  refine g_sld (j := i + 1) hx hb hX hbl hS (by rw [ex3]; exact nI_add i 1) (by omega) hL dL_law_354 ?_
  refine lv_aload_n hx hb dL_law_355 rfl (lv_at hl 3 rfl) ?_
  refine lv_iload_n hx hb dL_law_356 rfl (lv_at hl 0 rfl) ?_
  refine lv_iconst (v := 2) hx hb dL_law_357 (by decide) ?_
  refine lv_iadd hx hb dL_law_358 ?_
  refine g_sld (j := i + 2) hx hb hX hbl hS (by rw [ex3]; exact nI_add i 2) (by omega) hL dL_law_359 ?_
  obtain ⟨r2, s2, hr2, hf⟩ := ob2 hf
  refine g_Lvi (σ' := s2) (As := [.int (xs (i + 1)), .int (xs (i + 2))]) (rest := [.int r1]) (C := RX7) (T := TX7) (N := 28) (ci := 7) C.1 hG2 hge2 hP2 hS (r := r2) (c_X7_weight hr2) in_122 sh_122 rfl lk1102 lk100 lk1099 lk1100 lk1101 yd_X7_weight rfl rfl hl.1 rfl (Nat.le_of_ble_eq_true rfl) ⟨Nat.le_of_ble_eq_true rfl, Nat.le_of_ble_eq_true rfl⟩ dL_law_360 (fun H1 locs hq hk hS => ?_)
  have hP1 := keptW (fun j k hj hk e => hdis k j hk hj e.symm) hP1 hk
  have hP2 := hq
  generalize H1 = H at hP1 hP2 hS ⊢
  obtain ⟨hre, hf2⟩ := itE hf
  subst hre
  refine lv_icmp_eq (tgt := 1276) hx hb dL_law_363 (by decide) (fun _ => ?_) (fun h => absurd rfl h)
  cases hf2
  exact kk _ _ hP1 hP2 hS
set_option maxRecDepth 100000 in
set_option maxHeartbeats 4000000 in
theorem law_6 {p : Program} {l : Launch} {e : Env} {s : State} {m : MethodId} {below : List Frame} {meth : Method} {c : Code} {G : Gm} {b L : Nat} {xs : Nat → Int32} (C : LC p s m meth c b L xs G) {i : Nat} (hi : i + 6 ≤ L) (hL : L ≤ 3072) {σ τ : Sto} {Z : Sto × Sto} (hf : st_6 (xs (i + 1)) (xs (i + 2)) σ τ = some Z) {H : Heap} {locs : List Loc} {ls : Array Slot} {x3 : Int32} (ex3 : x3 = nI i) (hP1 : va_P G.2.1 vwCl (WS rC G σ) H) (hP2 : va_P G.2.1 vwCl (WS rM G τ) H) (hS : va_S (AL s) s.heap H locs) (hl : lv_has ls 4 [(3, .int x3), (2, .ref (G.1 122)), (1, .ref (G.1 0)), (0, .ref b)]) {Q : State → Prop} (kk : ∀ (H : Heap) (locs : List Loc), va_P G.2.1 vwCl (WS rC G Z.1) H → va_P G.2.1 vwCl (WS rM G Z.2) H → va_S (AL s) s.heap H locs → W p l e room_1 s m #[Value.ref b] below meth c H locs 144 2496 Q (F0 m 1276 ls [])) : W p l e room_1 s m #[Value.ref b] below meth c H locs 144 2496 Q (F0 m 368 ls []) := by
  obtain ⟨⟨hx, hb, hml, hown, hts⟩, ⟨hX, hbl⟩, hG1, hG2, hge1, hge2, hdis⟩ := id C
  unfold st_6 at hf
  refine lv_aload_n hx hb dL_law_368 rfl (lv_at hl 2 rfl) ?_
  refine lv_aload_n hx hb dL_law_369 rfl (lv_at hl 3 rfl) ?_
  refine lv_iload_n hx hb dL_law_370 rfl (lv_at hl 0 rfl) ?_
  refine lv_iconst (v := 1) hx hb dL_law_371 (by decide) ?_
  refine lv_iadd hx hb dL_law_372 ?_
  refine g_sld (j := i + 1) hx hb hX hbl hS (by rw [ex3]; exact nI_add i 1) (by omega) hL dL_law_373 ?_
  refine lv_aload_n hx hb dL_law_374 rfl (lv_at hl 3 rfl) ?_
  refine lv_iload_n hx hb dL_law_375 rfl (lv_at hl 0 rfl) ?_
  refine lv_iconst (v := 2) hx hb dL_law_376 (by decide) ?_
  refine lv_iadd hx hb dL_law_377 ?_
  refine g_sld (j := i + 2) hx hb hX hbl hS (by rw [ex3]; exact nI_add i 2) (by omega) hL dL_law_378 ?_
  obtain ⟨r1, hr1, hf⟩ := ob hf
  refine g_Lvi (σ' := σ) (As := [.int (xs (i + 1)), .int (xs (i + 2))]) (rest := []) (C := RX6) (T := TX6) (N := 11) (ci := 6) C.1 hG1 hge1 hP1 hS (r := r1) (c_X6_at hr1) in_0 sh_0 rfl lk493 lk93 lk490 lk491 lk492 yd_X6_at rfl rfl hl.1 rfl (Nat.le_of_ble_eq_true rfl) ⟨Nat.le_of_ble_eq_true rfl, Nat.le_of_ble_eq_true rfl⟩ dL_law_379 (fun H1 locs hq hk hS => ?_)
  have hP2 := keptW hdis hP2 hk
  have hP1 := hq
  generalize H1 = H at hP1 hP2 hS ⊢
  refine lv_aload_n hx hb dL_law_382 rfl (lv_at hl 1 rfl) ?_
  refine lv_aload_n hx hb dL_law_383 rfl (lv_at hl 3 rfl) ?_
  refine lv_iload_n hx hb dL_law_384 rfl (lv_at hl 0 rfl) ?_
  refine lv_iconst (v := 1) hx hb dL_law_385 (by decide) ?_
  refine lv_iadd hx hb dL_law_386 ?_
  refine g_sld (j := i + 1) hx hb hX hbl hS (by rw [ex3]; exact nI_add i 1) (by omega) hL dL_law_387 ?_
  refine lv_aload_n hx hb dL_law_388 rfl (lv_at hl 3 rfl) ?_
  refine lv_iload_n hx hb dL_law_389 rfl (lv_at hl 0 rfl) ?_
  refine lv_iconst (v := 2) hx hb dL_law_390 (by decide) ?_
  refine lv_iadd hx hb dL_law_391 ?_
  refine g_sld (j := i + 2) hx hb hX hbl hS (by rw [ex3]; exact nI_add i 2) (by omega) hL dL_law_392 ?_
  obtain ⟨r2, hr2, hf⟩ := ob hf
  refine g_Lvi (σ' := τ) (As := [.int (xs (i + 1)), .int (xs (i + 2))]) (rest := [.int r1]) (C := RX7) (T := TX7) (N := 28) (ci := 7) C.1 hG2 hge2 hP2 hS (r := r2) (c_X7_at hr2) in_122 sh_122 rfl lk1106 lk100 lk1103 lk1104 lk1105 yd_X7_at rfl rfl hl.1 rfl (Nat.le_of_ble_eq_true rfl) ⟨Nat.le_of_ble_eq_true rfl, Nat.le_of_ble_eq_true rfl⟩ dL_law_393 (fun H1 locs hq hk hS => ?_)
  have hP1 := keptW (fun j k hj hk e => hdis k j hk hj e.symm) hP1 hk
  have hP2 := hq
  generalize H1 = H at hP1 hP2 hS ⊢
  obtain ⟨hre, hf2⟩ := itE hf
  subst hre
  refine lv_icmp_eq (tgt := 1276) hx hb dL_law_396 (by decide) (fun _ => ?_) (fun h => absurd rfl h)
  cases hf2
  exact kk _ _ hP1 hP2 hS
set_option maxRecDepth 100000 in
set_option maxHeartbeats 4000000 in
theorem law_7 {p : Program} {l : Launch} {e : Env} {s : State} {m : MethodId} {below : List Frame} {meth : Method} {c : Code} {G : Gm} {b L : Nat} {xs : Nat → Int32} (C : LC p s m meth c b L xs G) {i : Nat} (hi : i + 6 ≤ L) (hL : L ≤ 3072) {σ τ : Sto} {Z : Sto × Sto} (hf : st_7 (xs (i + 1)) (xs (i + 2)) σ τ = some Z) {H : Heap} {locs : List Loc} {ls : Array Slot} {x3 : Int32} (ex3 : x3 = nI i) (hP1 : va_P G.2.1 vwCl (WS rC G σ) H) (hP2 : va_P G.2.1 vwCl (WS rM G τ) H) (hS : va_S (AL s) s.heap H locs) (hl : lv_has ls 4 [(3, .int x3), (2, .ref (G.1 122)), (1, .ref (G.1 0)), (0, .ref b)]) {Q : State → Prop} (kk : ∀ (H : Heap) (locs : List Loc), va_P G.2.1 vwCl (WS rC G Z.1) H → va_P G.2.1 vwCl (WS rM G Z.2) H → va_S (AL s) s.heap H locs → W p l e room_1 s m #[Value.ref b] below meth c H locs 144 2496 Q (F0 m 1276 ls [])) : W p l e room_1 s m #[Value.ref b] below meth c H locs 144 2496 Q (F0 m 401 ls []) := by
  obtain ⟨⟨hx, hb, hml, hown, hts⟩, ⟨hX, hbl⟩, hG1, hG2, hge1, hge2, hdis⟩ := id C
  unfold st_7 at hf
  refine lv_aload_n hx hb dL_law_401 rfl (lv_at hl 2 rfl) ?_
  refine lv_aload_n hx hb dL_law_402 rfl (lv_at hl 3 rfl) ?_
  refine lv_iload_n hx hb dL_law_403 rfl (lv_at hl 0 rfl) ?_
  refine lv_iconst (v := 1) hx hb dL_law_404 (by decide) ?_
  refine lv_iadd hx hb dL_law_405 ?_
  refine g_sld (j := i + 1) hx hb hX hbl hS (by rw [ex3]; exact nI_add i 1) (by omega) hL dL_law_406 ?_
  refine lv_aload_n hx hb dL_law_407 rfl (lv_at hl 3 rfl) ?_
  refine lv_iload_n hx hb dL_law_408 rfl (lv_at hl 0 rfl) ?_
  refine lv_iconst (v := 2) hx hb dL_law_409 (by decide) ?_
  refine lv_iadd hx hb dL_law_410 ?_
  refine g_sld (j := i + 2) hx hb hX hbl hS (by rw [ex3]; exact nI_add i 2) (by omega) hL dL_law_411 ?_
  obtain ⟨r1, s1, hr1, hf⟩ := ob2 hf
  refine g_Lvi (σ' := s1) (As := [.int (xs (i + 1)), .int (xs (i + 2))]) (rest := []) (C := RX6) (T := TX6) (N := 11) (ci := 6) C.1 hG1 hge1 hP1 hS (r := r1) (c_X6_of hr1) in_0 sh_0 rfl lk498 lk93 lk495 lk496 lk497 yd_X6_of rfl rfl hl.1 rfl (Nat.le_of_ble_eq_true rfl) ⟨Nat.le_of_ble_eq_true rfl, Nat.le_of_ble_eq_true rfl⟩ dL_law_412 (fun H1 locs hq hk hS => ?_)
  have hP2 := keptW hdis hP2 hk
  have hP1 := hq
  generalize H1 = H at hP1 hP2 hS ⊢
  refine lv_aload_n hx hb dL_law_415 rfl (lv_at hl 1 rfl) ?_
  refine lv_aload_n hx hb dL_law_416 rfl (lv_at hl 3 rfl) ?_
  refine lv_iload_n hx hb dL_law_417 rfl (lv_at hl 0 rfl) ?_
  refine lv_iconst (v := 1) hx hb dL_law_418 (by decide) ?_
  refine lv_iadd hx hb dL_law_419 ?_
  refine g_sld (j := i + 1) hx hb hX hbl hS (by rw [ex3]; exact nI_add i 1) (by omega) hL dL_law_420 ?_
  refine lv_aload_n hx hb dL_law_421 rfl (lv_at hl 3 rfl) ?_
  refine lv_iload_n hx hb dL_law_422 rfl (lv_at hl 0 rfl) ?_
  refine lv_iconst (v := 2) hx hb dL_law_423 (by decide) ?_
  refine lv_iadd hx hb dL_law_424 ?_
  refine g_sld (j := i + 2) hx hb hX hbl hS (by rw [ex3]; exact nI_add i 2) (by omega) hL dL_law_425 ?_
  obtain ⟨r2, s2, hr2, hf⟩ := ob2 hf
  refine g_Lvi (σ' := s2) (As := [.int (xs (i + 1)), .int (xs (i + 2))]) (rest := [.int r1]) (C := RX7) (T := TX7) (N := 28) (ci := 7) C.1 hG2 hge2 hP2 hS (r := r2) (c_X7_of hr2) in_122 sh_122 rfl lk1110 lk100 lk1107 lk1108 lk1109 yd_X7_of rfl rfl hl.1 rfl (Nat.le_of_ble_eq_true rfl) ⟨Nat.le_of_ble_eq_true rfl, Nat.le_of_ble_eq_true rfl⟩ dL_law_426 (fun H1 locs hq hk hS => ?_)
  have hP1 := keptW (fun j k hj hk e => hdis k j hk hj e.symm) hP1 hk
  have hP2 := hq
  generalize H1 = H at hP1 hP2 hS ⊢
  obtain ⟨hre, hf2⟩ := itE hf
  subst hre
  refine lv_icmp_eq (tgt := 1276) hx hb dL_law_429 (by decide) (fun _ => ?_) (fun h => absurd rfl h)
  cases hf2
  exact kk _ _ hP1 hP2 hS
set_option maxRecDepth 100000 in
set_option maxHeartbeats 4000000 in
theorem law_8 {p : Program} {l : Launch} {e : Env} {s : State} {m : MethodId} {below : List Frame} {meth : Method} {c : Code} {G : Gm} {b L : Nat} {xs : Nat → Int32} (C : LC p s m meth c b L xs G) {i : Nat} (hi : i + 6 ≤ L) (hL : L ≤ 3072) {σ τ : Sto} {Z : Sto × Sto} (hf : st_8 (xs (i + 1)) σ τ = some Z) {H : Heap} {locs : List Loc} {ls : Array Slot} {x3 : Int32} (ex3 : x3 = nI i) (hP1 : va_P G.2.1 vwCl (WS rC G σ) H) (hP2 : va_P G.2.1 vwCl (WS rM G τ) H) (hS : va_S (AL s) s.heap H locs) (hl : lv_has ls 4 [(3, .int x3), (2, .ref (G.1 122)), (1, .ref (G.1 0)), (0, .ref b)]) {Q : State → Prop} (kk : ∀ (H : Heap) (locs : List Loc), va_P G.2.1 vwCl (WS rC G Z.1) H → va_P G.2.1 vwCl (WS rM G Z.2) H → va_S (AL s) s.heap H locs → W p l e room_1 s m #[Value.ref b] below meth c H locs 144 2496 Q (F0 m 1276 ls [])) : W p l e room_1 s m #[Value.ref b] below meth c H locs 144 2496 Q (F0 m 434 ls []) := by
  obtain ⟨⟨hx, hb, hml, hown, hts⟩, ⟨hX, hbl⟩, hG1, hG2, hge1, hge2, hdis⟩ := id C
  unfold st_8 at hf
  refine lv_aload_n hx hb dL_law_434 rfl (lv_at hl 2 rfl) ?_
  refine lv_aload_n hx hb dL_law_435 rfl (lv_at hl 3 rfl) ?_
  refine lv_iload_n hx hb dL_law_436 rfl (lv_at hl 0 rfl) ?_
  refine lv_iconst (v := 1) hx hb dL_law_437 (by decide) ?_
  refine lv_iadd hx hb dL_law_438 ?_
  refine g_sld (j := i + 1) hx hb hX hbl hS (by rw [ex3]; exact nI_add i 1) (by omega) hL dL_law_439 ?_
  obtain ⟨r1, s1, hr1, hf⟩ := ob2 hf
  refine g_Lvi (σ' := s1) (As := [.int (xs (i + 1))]) (rest := []) (C := RX6) (T := TX6) (N := 11) (ci := 6) C.1 hG1 hge1 hP1 hS (r := r1) (c_X6_count hr1) in_0 sh_0 rfl lk608 lk93 lk605 lk606 lk607 yd_X6_count rfl rfl hl.1 rfl (Nat.le_of_ble_eq_true rfl) ⟨Nat.le_of_ble_eq_true rfl, Nat.le_of_ble_eq_true rfl⟩ dL_law_440 (fun H1 locs hq hk hS => ?_)
  have hP2 := keptW hdis hP2 hk
  have hP1 := hq
  generalize H1 = H at hP1 hP2 hS ⊢
  refine lv_aload_n hx hb dL_law_443 rfl (lv_at hl 1 rfl) ?_
  refine lv_aload_n hx hb dL_law_444 rfl (lv_at hl 3 rfl) ?_
  refine lv_iload_n hx hb dL_law_445 rfl (lv_at hl 0 rfl) ?_
  refine lv_iconst (v := 1) hx hb dL_law_446 (by decide) ?_
  refine lv_iadd hx hb dL_law_447 ?_
  refine g_sld (j := i + 1) hx hb hX hbl hS (by rw [ex3]; exact nI_add i 1) (by omega) hL dL_law_448 ?_
  obtain ⟨r2, s2, hr2, hf⟩ := ob2 hf
  refine g_Lvi (σ' := s2) (As := [.int (xs (i + 1))]) (rest := [.int r1]) (C := RX7) (T := TX7) (N := 28) (ci := 7) C.1 hG2 hge2 hP2 hS (r := r2) (c_X7_count hr2) in_122 sh_122 rfl lk1187 lk100 lk1184 lk1185 lk1186 yd_X7_count rfl rfl hl.1 rfl (Nat.le_of_ble_eq_true rfl) ⟨Nat.le_of_ble_eq_true rfl, Nat.le_of_ble_eq_true rfl⟩ dL_law_449 (fun H1 locs hq hk hS => ?_)
  have hP1 := keptW (fun j k hj hk e => hdis k j hk hj e.symm) hP1 hk
  have hP2 := hq
  generalize H1 = H at hP1 hP2 hS ⊢
  obtain ⟨hre, hf2⟩ := itE hf
  subst hre
  refine lv_icmp_eq (tgt := 1276) hx hb dL_law_452 (by decide) (fun _ => ?_) (fun h => absurd rfl h)
  cases hf2
  exact kk _ _ hP1 hP2 hS
set_option maxRecDepth 100000 in
set_option maxHeartbeats 4000000 in
theorem law_9 {p : Program} {l : Launch} {e : Env} {s : State} {m : MethodId} {below : List Frame} {meth : Method} {c : Code} {G : Gm} {b L : Nat} {xs : Nat → Int32} (C : LC p s m meth c b L xs G) {i : Nat} (hi : i + 6 ≤ L) (hL : L ≤ 3072) {σ τ : Sto} {Z : Sto × Sto} (hf : st_9 (xs (i + 1)) (xs (i + 2)) (xs (i + 3)) σ τ = some Z) {H : Heap} {locs : List Loc} {ls : Array Slot} {x3 : Int32} (ex3 : x3 = nI i) (hP1 : va_P G.2.1 vwCl (WS rC G σ) H) (hP2 : va_P G.2.1 vwCl (WS rM G τ) H) (hS : va_S (AL s) s.heap H locs) (hl : lv_has ls 4 [(3, .int x3), (2, .ref (G.1 122)), (1, .ref (G.1 0)), (0, .ref b)]) {Q : State → Prop} (kk : ∀ (H : Heap) (locs : List Loc), va_P G.2.1 vwCl (WS rC G Z.1) H → va_P G.2.1 vwCl (WS rM G Z.2) H → va_S (AL s) s.heap H locs → W p l e room_1 s m #[Value.ref b] below meth c H locs 144 2496 Q (F0 m 1276 ls [])) : W p l e room_1 s m #[Value.ref b] below meth c H locs 144 2496 Q (F0 m 457 ls []) := by
  obtain ⟨⟨hx, hb, hml, hown, hts⟩, ⟨hX, hbl⟩, hG1, hG2, hge1, hge2, hdis⟩ := id C
  unfold st_9 at hf
  refine lv_aload_n hx hb dL_law_457 rfl (lv_at hl 2 rfl) ?_
  refine lv_aload_n hx hb dL_law_458 rfl (lv_at hl 3 rfl) ?_
  refine lv_iload_n hx hb dL_law_459 rfl (lv_at hl 0 rfl) ?_
  refine lv_iconst (v := 1) hx hb dL_law_460 (by decide) ?_
  refine lv_iadd hx hb dL_law_461 ?_
  refine g_sld (j := i + 1) hx hb hX hbl hS (by rw [ex3]; exact nI_add i 1) (by omega) hL dL_law_462 ?_
  refine lv_aload_n hx hb dL_law_463 rfl (lv_at hl 3 rfl) ?_
  refine lv_iload_n hx hb dL_law_464 rfl (lv_at hl 0 rfl) ?_
  refine lv_iconst (v := 2) hx hb dL_law_465 (by decide) ?_
  refine lv_iadd hx hb dL_law_466 ?_
  refine g_sld (j := i + 2) hx hb hX hbl hS (by rw [ex3]; exact nI_add i 2) (by omega) hL dL_law_467 ?_
  refine lv_aload_n hx hb dL_law_468 rfl (lv_at hl 3 rfl) ?_
  refine lv_iload_n hx hb dL_law_469 rfl (lv_at hl 0 rfl) ?_
  refine lv_iconst (v := 3) hx hb dL_law_470 (by decide) ?_
  refine lv_iadd hx hb dL_law_471 ?_
  refine g_sld (j := i + 3) hx hb hX hbl hS (by rw [ex3]; exact nI_add i 3) (by omega) hL dL_law_472 ?_
  obtain ⟨r1, s1, hr1, hf⟩ := ob2 hf
  refine g_Lvl (σ' := s1) (As := [.int (xs (i + 1)), .int (xs (i + 2)), .int (xs (i + 3))]) (rest := []) (C := RX6) (T := TX6) (N := 11) (ci := 6) C.1 hG1 hge1 hP1 hS (r := r1) (c_X6_stress hr1) in_0 sh_0 rfl lk621 lk93 lk618 lk619 lk620 yd_X6_stress rfl rfl hl.1 rfl (Nat.le_of_ble_eq_true rfl) ⟨Nat.le_of_ble_eq_true rfl, Nat.le_of_ble_eq_true rfl⟩ dL_law_473 (fun H1 locs hq hk hS => ?_)
  have hP2 := keptW hdis hP2 hk
  have hP1 := hq
  generalize H1 = H at hP1 hP2 hS ⊢
  refine lv_aload_n hx hb dL_law_476 rfl (lv_at hl 1 rfl) ?_
  refine lv_aload_n hx hb dL_law_477 rfl (lv_at hl 3 rfl) ?_
  refine lv_iload_n hx hb dL_law_478 rfl (lv_at hl 0 rfl) ?_
  refine lv_iconst (v := 1) hx hb dL_law_479 (by decide) ?_
  refine lv_iadd hx hb dL_law_480 ?_
  refine g_sld (j := i + 1) hx hb hX hbl hS (by rw [ex3]; exact nI_add i 1) (by omega) hL dL_law_481 ?_
  refine lv_aload_n hx hb dL_law_482 rfl (lv_at hl 3 rfl) ?_
  refine lv_iload_n hx hb dL_law_483 rfl (lv_at hl 0 rfl) ?_
  refine lv_iconst (v := 2) hx hb dL_law_484 (by decide) ?_
  refine lv_iadd hx hb dL_law_485 ?_
  refine g_sld (j := i + 2) hx hb hX hbl hS (by rw [ex3]; exact nI_add i 2) (by omega) hL dL_law_486 ?_
  refine lv_aload_n hx hb dL_law_487 rfl (lv_at hl 3 rfl) ?_
  refine lv_iload_n hx hb dL_law_488 rfl (lv_at hl 0 rfl) ?_
  refine lv_iconst (v := 3) hx hb dL_law_489 (by decide) ?_
  refine lv_iadd hx hb dL_law_490 ?_
  refine g_sld (j := i + 3) hx hb hX hbl hS (by rw [ex3]; exact nI_add i 3) (by omega) hL dL_law_491 ?_
  obtain ⟨r2, s2, hr2, hf⟩ := ob2 hf
  refine g_Lvl (σ' := s2) (As := [.int (xs (i + 1)), .int (xs (i + 2)), .int (xs (i + 3))]) (rest := [.long r1]) (C := RX7) (T := TX7) (N := 28) (ci := 7) C.1 hG2 hge2 hP2 hS (r := r2) (c_X7_stress hr2) in_122 sh_122 rfl lk1158 lk100 lk1155 lk1156 lk1157 yd_X7_stress rfl rfl hl.1 rfl (Nat.le_of_ble_eq_true rfl) ⟨Nat.le_of_ble_eq_true rfl, Nat.le_of_ble_eq_true rfl⟩ dL_law_492 (fun H1 locs hq hk hS => ?_)
  have hP1 := keptW (fun j k hj hk e => hdis k j hk hj e.symm) hP1 hk
  have hP2 := hq
  generalize H1 = H at hP1 hP2 hS ⊢
  obtain ⟨hre, hf2⟩ := itE hf
  subst hre
  refine W.lcmp hx hb dL_law_495 ?_
  rw [lg_cmp_self]
  refine lv_if_eq (tgt := 1276) hx hb dL_law_496 (by decide) (fun _ => ?_) (fun h => absurd rfl h)
  cases hf2
  exact kk _ _ hP1 hP2 hS
set_option maxRecDepth 100000 in
set_option maxHeartbeats 4000000 in
theorem law_10 {p : Program} {l : Launch} {e : Env} {s : State} {m : MethodId} {below : List Frame} {meth : Method} {c : Code} {G : Gm} {b L : Nat} {xs : Nat → Int32} (C : LC p s m meth c b L xs G) {i : Nat} (hi : i + 6 ≤ L) (hL : L ≤ 3072) {σ τ : Sto} {Z : Sto × Sto} (hf : st_10 (xs (i + 1)) (xs (i + 2)) σ τ = some Z) {H : Heap} {locs : List Loc} {ls : Array Slot} {x3 : Int32} (ex3 : x3 = nI i) (hP1 : va_P G.2.1 vwCl (WS rC G σ) H) (hP2 : va_P G.2.1 vwCl (WS rM G τ) H) (hS : va_S (AL s) s.heap H locs) (hl : lv_has ls 4 [(3, .int x3), (2, .ref (G.1 122)), (1, .ref (G.1 0)), (0, .ref b)]) {Q : State → Prop} (kk : ∀ (H : Heap) (locs : List Loc), va_P G.2.1 vwCl (WS rC G Z.1) H → va_P G.2.1 vwCl (WS rM G Z.2) H → va_S (AL s) s.heap H locs → W p l e room_1 s m #[Value.ref b] below meth c H locs 144 2496 Q (F0 m 1276 ls [])) : W p l e room_1 s m #[Value.ref b] below meth c H locs 144 2496 Q (F0 m 501 ls []) := by
  obtain ⟨⟨hx, hb, hml, hown, hts⟩, ⟨hX, hbl⟩, hG1, hG2, hge1, hge2, hdis⟩ := id C
  unfold st_10 at hf
  refine lv_aload_n hx hb dL_law_501 rfl (lv_at hl 2 rfl) ?_
  refine lv_aload_n hx hb dL_law_502 rfl (lv_at hl 3 rfl) ?_
  refine lv_iload_n hx hb dL_law_503 rfl (lv_at hl 0 rfl) ?_
  refine lv_iconst (v := 1) hx hb dL_law_504 (by decide) ?_
  refine lv_iadd hx hb dL_law_505 ?_
  refine g_sld (j := i + 1) hx hb hX hbl hS (by rw [ex3]; exact nI_add i 1) (by omega) hL dL_law_506 ?_
  refine lv_aload_n hx hb dL_law_507 rfl (lv_at hl 3 rfl) ?_
  refine lv_iload_n hx hb dL_law_508 rfl (lv_at hl 0 rfl) ?_
  refine lv_iconst (v := 2) hx hb dL_law_509 (by decide) ?_
  refine lv_iadd hx hb dL_law_510 ?_
  refine g_sld (j := i + 2) hx hb hX hbl hS (by rw [ex3]; exact nI_add i 2) (by omega) hL dL_law_511 ?_
  obtain ⟨r1, s1, hr1, hf⟩ := ob2 hf
  refine g_Lvl (σ' := s1) (As := [.int (xs (i + 1)), .int (xs (i + 2))]) (rest := []) (C := RX6) (T := TX6) (N := 11) (ci := 6) C.1 hG1 hge1 hP1 hS (r := r1) (c_X6_pull hr1) in_0 sh_0 rfl lk642 lk93 lk639 lk640 lk641 yd_X6_pull rfl rfl hl.1 rfl (Nat.le_of_ble_eq_true rfl) ⟨Nat.le_of_ble_eq_true rfl, Nat.le_of_ble_eq_true rfl⟩ dL_law_512 (fun H1 locs hq hk hS => ?_)
  have hP2 := keptW hdis hP2 hk
  have hP1 := hq
  generalize H1 = H at hP1 hP2 hS ⊢
  refine lv_aload_n hx hb dL_law_515 rfl (lv_at hl 1 rfl) ?_
  refine lv_aload_n hx hb dL_law_516 rfl (lv_at hl 3 rfl) ?_
  refine lv_iload_n hx hb dL_law_517 rfl (lv_at hl 0 rfl) ?_
  refine lv_iconst (v := 1) hx hb dL_law_518 (by decide) ?_
  refine lv_iadd hx hb dL_law_519 ?_
  refine g_sld (j := i + 1) hx hb hX hbl hS (by rw [ex3]; exact nI_add i 1) (by omega) hL dL_law_520 ?_
  refine lv_aload_n hx hb dL_law_521 rfl (lv_at hl 3 rfl) ?_
  refine lv_iload_n hx hb dL_law_522 rfl (lv_at hl 0 rfl) ?_
  refine lv_iconst (v := 2) hx hb dL_law_523 (by decide) ?_
  refine lv_iadd hx hb dL_law_524 ?_
  refine g_sld (j := i + 2) hx hb hX hbl hS (by rw [ex3]; exact nI_add i 2) (by omega) hL dL_law_525 ?_
  obtain ⟨r2, s2, hr2, hf⟩ := ob2 hf
  refine g_Lvl (σ' := s2) (As := [.int (xs (i + 1)), .int (xs (i + 2))]) (rest := [.long r1]) (C := RX7) (T := TX7) (N := 28) (ci := 7) C.1 hG2 hge2 hP2 hS (r := r2) (c_X7_pull hr2) in_122 sh_122 rfl lk1170 lk100 lk1167 lk1168 lk1169 yd_X7_pull rfl rfl hl.1 rfl (Nat.le_of_ble_eq_true rfl) ⟨Nat.le_of_ble_eq_true rfl, Nat.le_of_ble_eq_true rfl⟩ dL_law_526 (fun H1 locs hq hk hS => ?_)
  have hP1 := keptW (fun j k hj hk e => hdis k j hk hj e.symm) hP1 hk
  have hP2 := hq
  generalize H1 = H at hP1 hP2 hS ⊢
  obtain ⟨hre, hf2⟩ := itE hf
  subst hre
  refine W.lcmp hx hb dL_law_529 ?_
  rw [lg_cmp_self]
  refine lv_if_eq (tgt := 1276) hx hb dL_law_530 (by decide) (fun _ => ?_) (fun h => absurd rfl h)
  cases hf2
  exact kk _ _ hP1 hP2 hS
set_option maxRecDepth 100000 in
set_option maxHeartbeats 4000000 in
theorem law_11 {p : Program} {l : Launch} {e : Env} {s : State} {m : MethodId} {below : List Frame} {meth : Method} {c : Code} {G : Gm} {b L : Nat} {xs : Nat → Int32} (C : LC p s m meth c b L xs G) {i : Nat} (hi : i + 6 ≤ L) (hL : L ≤ 3072) {σ τ : Sto} {Z : Sto × Sto} (hf : st_11 (xs (i + 1)) (xs (i + 2)) σ τ = some Z) {H : Heap} {locs : List Loc} {ls : Array Slot} {x3 : Int32} (ex3 : x3 = nI i) (hP1 : va_P G.2.1 vwCl (WS rC G σ) H) (hP2 : va_P G.2.1 vwCl (WS rM G τ) H) (hS : va_S (AL s) s.heap H locs) (hl : lv_has ls 4 [(3, .int x3), (2, .ref (G.1 122)), (1, .ref (G.1 0)), (0, .ref b)]) {Q : State → Prop} (kk : ∀ (H : Heap) (locs : List Loc), va_P G.2.1 vwCl (WS rC G Z.1) H → va_P G.2.1 vwCl (WS rM G Z.2) H → va_S (AL s) s.heap H locs → W p l e room_1 s m #[Value.ref b] below meth c H locs 144 2496 Q (F0 m 1276 ls [])) : W p l e room_1 s m #[Value.ref b] below meth c H locs 144 2496 Q (F0 m 535 ls []) := by
  obtain ⟨⟨hx, hb, hml, hown, hts⟩, ⟨hX, hbl⟩, hG1, hG2, hge1, hge2, hdis⟩ := id C
  unfold st_11 at hf
  refine lv_aload_n hx hb dL_law_535 rfl (lv_at hl 2 rfl) ?_
  refine lv_aload_n hx hb dL_law_536 rfl (lv_at hl 3 rfl) ?_
  refine lv_iload_n hx hb dL_law_537 rfl (lv_at hl 0 rfl) ?_
  refine lv_iconst (v := 1) hx hb dL_law_538 (by decide) ?_
  refine lv_iadd hx hb dL_law_539 ?_
  refine g_sld (j := i + 1) hx hb hX hbl hS (by rw [ex3]; exact nI_add i 1) (by omega) hL dL_law_540 ?_
  refine lv_aload_n hx hb dL_law_541 rfl (lv_at hl 3 rfl) ?_
  refine lv_iload_n hx hb dL_law_542 rfl (lv_at hl 0 rfl) ?_
  refine lv_iconst (v := 2) hx hb dL_law_543 (by decide) ?_
  refine lv_iadd hx hb dL_law_544 ?_
  refine g_sld (j := i + 2) hx hb hX hbl hS (by rw [ex3]; exact nI_add i 2) (by omega) hL dL_law_545 ?_
  obtain ⟨r1, s1, hr1, hf⟩ := ob2 hf
  refine g_Lvl (σ' := s1) (As := [.int (xs (i + 1)), .int (xs (i + 2))]) (rest := []) (C := RX6) (T := TX6) (N := 11) (ci := 6) C.1 hG1 hge1 hP1 hS (r := r1) (c_X6_fail hr1) in_0 sh_0 rfl lk646 lk93 lk643 lk644 lk645 yd_X6_fail rfl rfl hl.1 rfl (Nat.le_of_ble_eq_true rfl) ⟨Nat.le_of_ble_eq_true rfl, Nat.le_of_ble_eq_true rfl⟩ dL_law_546 (fun H1 locs hq hk hS => ?_)
  have hP2 := keptW hdis hP2 hk
  have hP1 := hq
  generalize H1 = H at hP1 hP2 hS ⊢
  refine lv_aload_n hx hb dL_law_549 rfl (lv_at hl 1 rfl) ?_
  refine lv_aload_n hx hb dL_law_550 rfl (lv_at hl 3 rfl) ?_
  refine lv_iload_n hx hb dL_law_551 rfl (lv_at hl 0 rfl) ?_
  refine lv_iconst (v := 1) hx hb dL_law_552 (by decide) ?_
  refine lv_iadd hx hb dL_law_553 ?_
  refine g_sld (j := i + 1) hx hb hX hbl hS (by rw [ex3]; exact nI_add i 1) (by omega) hL dL_law_554 ?_
  refine lv_aload_n hx hb dL_law_555 rfl (lv_at hl 3 rfl) ?_
  refine lv_iload_n hx hb dL_law_556 rfl (lv_at hl 0 rfl) ?_
  refine lv_iconst (v := 2) hx hb dL_law_557 (by decide) ?_
  refine lv_iadd hx hb dL_law_558 ?_
  refine g_sld (j := i + 2) hx hb hX hbl hS (by rw [ex3]; exact nI_add i 2) (by omega) hL dL_law_559 ?_
  obtain ⟨r2, s2, hr2, hf⟩ := ob2 hf
  refine g_Lvl (σ' := s2) (As := [.int (xs (i + 1)), .int (xs (i + 2))]) (rest := [.long r1]) (C := RX7) (T := TX7) (N := 28) (ci := 7) C.1 hG2 hge2 hP2 hS (r := r2) (c_X7_fail hr2) in_122 sh_122 rfl lk1178 lk100 lk1175 lk1176 lk1177 yd_X7_fail rfl rfl hl.1 rfl (Nat.le_of_ble_eq_true rfl) ⟨Nat.le_of_ble_eq_true rfl, Nat.le_of_ble_eq_true rfl⟩ dL_law_560 (fun H1 locs hq hk hS => ?_)
  have hP1 := keptW (fun j k hj hk e => hdis k j hk hj e.symm) hP1 hk
  have hP2 := hq
  generalize H1 = H at hP1 hP2 hS ⊢
  obtain ⟨hre, hf2⟩ := itE hf
  subst hre
  refine W.lcmp hx hb dL_law_563 ?_
  rw [lg_cmp_self]
  refine lv_if_eq (tgt := 1276) hx hb dL_law_564 (by decide) (fun _ => ?_) (fun h => absurd rfl h)
  cases hf2
  exact kk _ _ hP1 hP2 hS
set_option maxRecDepth 100000 in
set_option maxHeartbeats 4000000 in
theorem law_12 {p : Program} {l : Launch} {e : Env} {s : State} {m : MethodId} {below : List Frame} {meth : Method} {c : Code} {G : Gm} {b L : Nat} {xs : Nat → Int32} (C : LC p s m meth c b L xs G) {i : Nat} (hi : i + 6 ≤ L) (hL : L ≤ 3072) {σ τ : Sto} {Z : Sto × Sto} (hf : st_12 (xs (i + 1)) σ τ = some Z) {H : Heap} {locs : List Loc} {ls : Array Slot} {x3 : Int32} (ex3 : x3 = nI i) (hP1 : va_P G.2.1 vwCl (WS rC G σ) H) (hP2 : va_P G.2.1 vwCl (WS rM G τ) H) (hS : va_S (AL s) s.heap H locs) (hl : lv_has ls 4 [(3, .int x3), (2, .ref (G.1 122)), (1, .ref (G.1 0)), (0, .ref b)]) {Q : State → Prop} (kk : ∀ (H : Heap) (locs : List Loc), va_P G.2.1 vwCl (WS rC G Z.1) H → va_P G.2.1 vwCl (WS rM G Z.2) H → va_S (AL s) s.heap H locs → W p l e room_1 s m #[Value.ref b] below meth c H locs 144 2496 Q (F0 m 1276 ls [])) : W p l e room_1 s m #[Value.ref b] below meth c H locs 144 2496 Q (F0 m 569 ls []) := by
  obtain ⟨⟨hx, hb, hml, hown, hts⟩, ⟨hX, hbl⟩, hG1, hG2, hge1, hge2, hdis⟩ := id C
  unfold st_12 at hf
  refine lv_aload_n hx hb dL_law_569 rfl (lv_at hl 2 rfl) ?_
  refine lv_aload_n hx hb dL_law_570 rfl (lv_at hl 3 rfl) ?_
  refine lv_iload_n hx hb dL_law_571 rfl (lv_at hl 0 rfl) ?_
  refine lv_iconst (v := 1) hx hb dL_law_572 (by decide) ?_
  refine lv_iadd hx hb dL_law_573 ?_
  refine g_sld (j := i + 1) hx hb hX hbl hS (by rw [ex3]; exact nI_add i 1) (by omega) hL dL_law_574 ?_
  obtain ⟨r1, s1, hr1, hf⟩ := ob2 hf
  refine g_Lvi (σ' := s1) (As := [.int (xs (i + 1))]) (rest := []) (C := RX6) (T := TX6) (N := 11) (ci := 6) C.1 hG1 hge1 hP1 hS (r := r1) (c_X6_next hr1) in_0 sh_0 rfl lk668 lk93 lk665 lk666 lk667 yd_X6_next rfl rfl hl.1 rfl (Nat.le_of_ble_eq_true rfl) ⟨Nat.le_of_ble_eq_true rfl, Nat.le_of_ble_eq_true rfl⟩ dL_law_575 (fun H1 locs hq hk hS => ?_)
  have hP2 := keptW hdis hP2 hk
  have hP1 := hq
  generalize H1 = H at hP1 hP2 hS ⊢
  refine lv_aload_n hx hb dL_law_578 rfl (lv_at hl 1 rfl) ?_
  refine lv_aload_n hx hb dL_law_579 rfl (lv_at hl 3 rfl) ?_
  refine lv_iload_n hx hb dL_law_580 rfl (lv_at hl 0 rfl) ?_
  refine lv_iconst (v := 1) hx hb dL_law_581 (by decide) ?_
  refine lv_iadd hx hb dL_law_582 ?_
  refine g_sld (j := i + 1) hx hb hX hbl hS (by rw [ex3]; exact nI_add i 1) (by omega) hL dL_law_583 ?_
  obtain ⟨r2, hr2, hf⟩ := ob hf
  refine g_Lvi (σ' := τ) (As := [.int (xs (i + 1))]) (rest := [.int r1]) (C := RX7) (T := TX7) (N := 28) (ci := 7) C.1 hG2 hge2 hP2 hS (r := r2) (c_X7_next hr2) in_122 sh_122 rfl lk1226 lk100 lk1223 lk1224 lk1225 yd_X7_next rfl rfl hl.1 rfl (Nat.le_of_ble_eq_true rfl) ⟨Nat.le_of_ble_eq_true rfl, Nat.le_of_ble_eq_true rfl⟩ dL_law_584 (fun H1 locs hq hk hS => ?_)
  have hP1 := keptW (fun j k hj hk e => hdis k j hk hj e.symm) hP1 hk
  have hP2 := hq
  generalize H1 = H at hP1 hP2 hS ⊢
  obtain ⟨hre, hf2⟩ := itE hf
  subst hre
  refine lv_icmp_eq (tgt := 1276) hx hb dL_law_587 (by decide) (fun _ => ?_) (fun h => absurd rfl h)
  cases hf2
  exact kk _ _ hP1 hP2 hS
set_option maxRecDepth 100000 in
set_option maxHeartbeats 4000000 in
theorem law_13 {p : Program} {l : Launch} {e : Env} {s : State} {m : MethodId} {below : List Frame} {meth : Method} {c : Code} {G : Gm} {b L : Nat} {xs : Nat → Int32} (C : LC p s m meth c b L xs G) {i : Nat} (hi : i + 6 ≤ L) (hL : L ≤ 3072) {σ τ : Sto} {Z : Sto × Sto} (hf : st_13 (xs (i + 1)) (xs (i + 2)) σ τ = some Z) {H : Heap} {locs : List Loc} {ls : Array Slot} {x3 : Int32} (ex3 : x3 = nI i) (hP1 : va_P G.2.1 vwCl (WS rC G σ) H) (hP2 : va_P G.2.1 vwCl (WS rM G τ) H) (hS : va_S (AL s) s.heap H locs) (hl : lv_has ls 4 [(3, .int x3), (2, .ref (G.1 122)), (1, .ref (G.1 0)), (0, .ref b)]) {Q : State → Prop} (kk : ∀ (H : Heap) (locs : List Loc), va_P G.2.1 vwCl (WS rC G Z.1) H → va_P G.2.1 vwCl (WS rM G Z.2) H → va_S (AL s) s.heap H locs → W p l e room_1 s m #[Value.ref b] below meth c H locs 144 2496 Q (F0 m 1276 ls [])) : W p l e room_1 s m #[Value.ref b] below meth c H locs 144 2496 Q (F0 m 592 ls []) := by
  obtain ⟨⟨hx, hb, hml, hown, hts⟩, ⟨hX, hbl⟩, hG1, hG2, hge1, hge2, hdis⟩ := id C
  unfold st_13 at hf
  refine lv_aload_n hx hb dL_law_592 rfl (lv_at hl 2 rfl) ?_
  refine lv_aload_n hx hb dL_law_593 rfl (lv_at hl 3 rfl) ?_
  refine lv_iload_n hx hb dL_law_594 rfl (lv_at hl 0 rfl) ?_
  refine lv_iconst (v := 1) hx hb dL_law_595 (by decide) ?_
  refine lv_iadd hx hb dL_law_596 ?_
  refine g_sld (j := i + 1) hx hb hX hbl hS (by rw [ex3]; exact nI_add i 1) (by omega) hL dL_law_597 ?_
  refine lv_aload_n hx hb dL_law_598 rfl (lv_at hl 3 rfl) ?_
  refine lv_iload_n hx hb dL_law_599 rfl (lv_at hl 0 rfl) ?_
  refine lv_iconst (v := 2) hx hb dL_law_600 (by decide) ?_
  refine lv_iadd hx hb dL_law_601 ?_
  refine g_sld (j := i + 2) hx hb hX hbl hS (by rw [ex3]; exact nI_add i 2) (by omega) hL dL_law_602 ?_
  obtain ⟨r1, s1, hr1, hf⟩ := ob2 hf
  refine g_Lvi (σ' := s1) (As := [.int (xs (i + 1)), .int (xs (i + 2))]) (rest := []) (C := RX6) (T := TX6) (N := 11) (ci := 6) C.1 hG1 hge1 hP1 hS (r := r1) (c_X6_face hr1) in_0 sh_0 rfl lk676 lk93 lk673 lk674 lk675 yd_X6_face rfl rfl hl.1 rfl (Nat.le_of_ble_eq_true rfl) ⟨Nat.le_of_ble_eq_true rfl, Nat.le_of_ble_eq_true rfl⟩ dL_law_603 (fun H1 locs hq hk hS => ?_)
  have hP2 := keptW hdis hP2 hk
  have hP1 := hq
  generalize H1 = H at hP1 hP2 hS ⊢
  refine lv_aload_n hx hb dL_law_606 rfl (lv_at hl 1 rfl) ?_
  refine lv_aload_n hx hb dL_law_607 rfl (lv_at hl 3 rfl) ?_
  refine lv_iload_n hx hb dL_law_608 rfl (lv_at hl 0 rfl) ?_
  refine lv_iconst (v := 1) hx hb dL_law_609 (by decide) ?_
  refine lv_iadd hx hb dL_law_610 ?_
  refine g_sld (j := i + 1) hx hb hX hbl hS (by rw [ex3]; exact nI_add i 1) (by omega) hL dL_law_611 ?_
  refine lv_aload_n hx hb dL_law_612 rfl (lv_at hl 3 rfl) ?_
  refine lv_iload_n hx hb dL_law_613 rfl (lv_at hl 0 rfl) ?_
  refine lv_iconst (v := 2) hx hb dL_law_614 (by decide) ?_
  refine lv_iadd hx hb dL_law_615 ?_
  refine g_sld (j := i + 2) hx hb hX hbl hS (by rw [ex3]; exact nI_add i 2) (by omega) hL dL_law_616 ?_
  obtain ⟨r2, s2, hr2, hf⟩ := ob2 hf
  refine g_Lvi (σ' := s2) (As := [.int (xs (i + 1)), .int (xs (i + 2))]) (rest := [.int r1]) (C := RX7) (T := TX7) (N := 28) (ci := 7) C.1 hG2 hge2 hP2 hS (r := r2) (c_X7_face hr2) in_122 sh_122 rfl lk1234 lk100 lk1231 lk1232 lk1233 yd_X7_face rfl rfl hl.1 rfl (Nat.le_of_ble_eq_true rfl) ⟨Nat.le_of_ble_eq_true rfl, Nat.le_of_ble_eq_true rfl⟩ dL_law_617 (fun H1 locs hq hk hS => ?_)
  have hP1 := keptW (fun j k hj hk e => hdis k j hk hj e.symm) hP1 hk
  have hP2 := hq
  generalize H1 = H at hP1 hP2 hS ⊢
  obtain ⟨hre, hf2⟩ := itE hf
  subst hre
  refine lv_icmp_eq (tgt := 1276) hx hb dL_law_620 (by decide) (fun _ => ?_) (fun h => absurd rfl h)
  cases hf2
  exact kk _ _ hP1 hP2 hS
set_option maxRecDepth 100000 in
set_option maxHeartbeats 4000000 in
theorem law_14 {p : Program} {l : Launch} {e : Env} {s : State} {m : MethodId} {below : List Frame} {meth : Method} {c : Code} {G : Gm} {b L : Nat} {xs : Nat → Int32} (C : LC p s m meth c b L xs G) {i : Nat} (hi : i + 6 ≤ L) (hL : L ≤ 3072) {σ τ : Sto} {Z : Sto × Sto} (hf : st_14 (xs (i + 1)) (xs (i + 2)) σ τ = some Z) {H : Heap} {locs : List Loc} {ls : Array Slot} {x3 : Int32} (ex3 : x3 = nI i) (hP1 : va_P G.2.1 vwCl (WS rC G σ) H) (hP2 : va_P G.2.1 vwCl (WS rM G τ) H) (hS : va_S (AL s) s.heap H locs) (hl : lv_has ls 4 [(3, .int x3), (2, .ref (G.1 122)), (1, .ref (G.1 0)), (0, .ref b)]) {Q : State → Prop} (kk : ∀ (H : Heap) (locs : List Loc), va_P G.2.1 vwCl (WS rC G Z.1) H → va_P G.2.1 vwCl (WS rM G Z.2) H → va_S (AL s) s.heap H locs → W p l e room_1 s m #[Value.ref b] below meth c H locs 144 2496 Q (F0 m 1276 ls [])) : W p l e room_1 s m #[Value.ref b] below meth c H locs 144 2496 Q (F0 m 625 ls []) := by
  obtain ⟨⟨hx, hb, hml, hown, hts⟩, ⟨hX, hbl⟩, hG1, hG2, hge1, hge2, hdis⟩ := id C
  unfold st_14 at hf
  refine lv_aload_n hx hb dL_law_625 rfl (lv_at hl 2 rfl) ?_
  refine lv_aload_n hx hb dL_law_626 rfl (lv_at hl 3 rfl) ?_
  refine lv_iload_n hx hb dL_law_627 rfl (lv_at hl 0 rfl) ?_
  refine lv_iconst (v := 1) hx hb dL_law_628 (by decide) ?_
  refine lv_iadd hx hb dL_law_629 ?_
  refine g_sld (j := i + 1) hx hb hX hbl hS (by rw [ex3]; exact nI_add i 1) (by omega) hL dL_law_630 ?_
  refine lv_aload_n hx hb dL_law_631 rfl (lv_at hl 3 rfl) ?_
  refine lv_iload_n hx hb dL_law_632 rfl (lv_at hl 0 rfl) ?_
  refine lv_iconst (v := 2) hx hb dL_law_633 (by decide) ?_
  refine lv_iadd hx hb dL_law_634 ?_
  refine g_sld (j := i + 2) hx hb hX hbl hS (by rw [ex3]; exact nI_add i 2) (by omega) hL dL_law_635 ?_
  obtain ⟨r1, s1, hr1, hf⟩ := ob2 hf
  refine g_Lvi (σ' := s1) (As := [.int (xs (i + 1)), .int (xs (i + 2))]) (rest := []) (C := RX6) (T := TX6) (N := 11) (ci := 6) C.1 hG1 hge1 hP1 hS (r := r1) (c_X6_round hr1) in_0 sh_0 rfl lk687 lk93 lk684 lk685 lk686 yd_X6_round rfl rfl hl.1 rfl (Nat.le_of_ble_eq_true rfl) ⟨Nat.le_of_ble_eq_true rfl, Nat.le_of_ble_eq_true rfl⟩ dL_law_636 (fun H1 locs hq hk hS => ?_)
  have hP2 := keptW hdis hP2 hk
  have hP1 := hq
  generalize H1 = H at hP1 hP2 hS ⊢
  refine lv_aload_n hx hb dL_law_639 rfl (lv_at hl 1 rfl) ?_
  refine lv_aload_n hx hb dL_law_640 rfl (lv_at hl 3 rfl) ?_
  refine lv_iload_n hx hb dL_law_641 rfl (lv_at hl 0 rfl) ?_
  refine lv_iconst (v := 1) hx hb dL_law_642 (by decide) ?_
  refine lv_iadd hx hb dL_law_643 ?_
  refine g_sld (j := i + 1) hx hb hX hbl hS (by rw [ex3]; exact nI_add i 1) (by omega) hL dL_law_644 ?_
  refine lv_aload_n hx hb dL_law_645 rfl (lv_at hl 3 rfl) ?_
  refine lv_iload_n hx hb dL_law_646 rfl (lv_at hl 0 rfl) ?_
  refine lv_iconst (v := 2) hx hb dL_law_647 (by decide) ?_
  refine lv_iadd hx hb dL_law_648 ?_
  refine g_sld (j := i + 2) hx hb hX hbl hS (by rw [ex3]; exact nI_add i 2) (by omega) hL dL_law_649 ?_
  obtain ⟨r2, s2, hr2, hf⟩ := ob2 hf
  refine g_Lvi (σ' := s2) (As := [.int (xs (i + 1)), .int (xs (i + 2))]) (rest := [.int r1]) (C := RX7) (T := TX7) (N := 28) (ci := 7) C.1 hG2 hge2 hP2 hS (r := r2) (c_X7_round hr2) in_122 sh_122 rfl lk1246 lk100 lk1243 lk1244 lk1245 yd_X7_round rfl rfl hl.1 rfl (Nat.le_of_ble_eq_true rfl) ⟨Nat.le_of_ble_eq_true rfl, Nat.le_of_ble_eq_true rfl⟩ dL_law_650 (fun H1 locs hq hk hS => ?_)
  have hP1 := keptW (fun j k hj hk e => hdis k j hk hj e.symm) hP1 hk
  have hP2 := hq
  generalize H1 = H at hP1 hP2 hS ⊢
  obtain ⟨hre, hf2⟩ := itE hf
  subst hre
  refine lv_icmp_eq (tgt := 1276) hx hb dL_law_653 (by decide) (fun _ => ?_) (fun h => absurd rfl h)
  cases hf2
  exact kk _ _ hP1 hP2 hS
set_option maxRecDepth 100000 in
set_option maxHeartbeats 4000000 in
theorem law_15 {p : Program} {l : Launch} {e : Env} {s : State} {m : MethodId} {below : List Frame} {meth : Method} {c : Code} {G : Gm} {b L : Nat} {xs : Nat → Int32} (C : LC p s m meth c b L xs G) {i : Nat} (hi : i + 6 ≤ L) (hL : L ≤ 3072) {σ τ : Sto} {Z : Sto × Sto} (hf : st_15 (xs (i + 1)) σ τ = some Z) {H : Heap} {locs : List Loc} {ls : Array Slot} {x3 : Int32} (ex3 : x3 = nI i) (hP1 : va_P G.2.1 vwCl (WS rC G σ) H) (hP2 : va_P G.2.1 vwCl (WS rM G τ) H) (hS : va_S (AL s) s.heap H locs) (hl : lv_has ls 4 [(3, .int x3), (2, .ref (G.1 122)), (1, .ref (G.1 0)), (0, .ref b)]) {Q : State → Prop} (kk : ∀ (H : Heap) (locs : List Loc), va_P G.2.1 vwCl (WS rC G Z.1) H → va_P G.2.1 vwCl (WS rM G Z.2) H → va_S (AL s) s.heap H locs → W p l e room_1 s m #[Value.ref b] below meth c H locs 144 2496 Q (F0 m 1276 ls [])) : W p l e room_1 s m #[Value.ref b] below meth c H locs 144 2496 Q (F0 m 658 ls []) := by
  obtain ⟨⟨hx, hb, hml, hown, hts⟩, ⟨hX, hbl⟩, hG1, hG2, hge1, hge2, hdis⟩ := id C
  unfold st_15 at hf
  refine lv_aload_n hx hb dL_law_658 rfl (lv_at hl 2 rfl) ?_
  refine lv_aload_n hx hb dL_law_659 rfl (lv_at hl 3 rfl) ?_
  refine lv_iload_n hx hb dL_law_660 rfl (lv_at hl 0 rfl) ?_
  refine lv_iconst (v := 1) hx hb dL_law_661 (by decide) ?_
  refine lv_iadd hx hb dL_law_662 ?_
  refine g_sld (j := i + 1) hx hb hX hbl hS (by rw [ex3]; exact nI_add i 1) (by omega) hL dL_law_663 ?_
  obtain ⟨r1, s1, hr1, hf⟩ := ob2 hf
  refine g_Lvi (σ' := s1) (As := [.int (xs (i + 1))]) (rest := []) (C := RX6) (T := TX6) (N := 11) (ci := 6) C.1 hG1 hge1 hP1 hS (r := r1) (c_X6_beside hr1) in_0 sh_0 rfl lk691 lk93 lk688 lk689 lk690 yd_X6_beside rfl rfl hl.1 rfl (Nat.le_of_ble_eq_true rfl) ⟨Nat.le_of_ble_eq_true rfl, Nat.le_of_ble_eq_true rfl⟩ dL_law_664 (fun H1 locs hq hk hS => ?_)
  have hP2 := keptW hdis hP2 hk
  have hP1 := hq
  generalize H1 = H at hP1 hP2 hS ⊢
  refine lv_aload_n hx hb dL_law_667 rfl (lv_at hl 1 rfl) ?_
  refine lv_aload_n hx hb dL_law_668 rfl (lv_at hl 3 rfl) ?_
  refine lv_iload_n hx hb dL_law_669 rfl (lv_at hl 0 rfl) ?_
  refine lv_iconst (v := 1) hx hb dL_law_670 (by decide) ?_
  refine lv_iadd hx hb dL_law_671 ?_
  refine g_sld (j := i + 1) hx hb hX hbl hS (by rw [ex3]; exact nI_add i 1) (by omega) hL dL_law_672 ?_
  obtain ⟨r2, s2, hr2, hf⟩ := ob2 hf
  refine g_Lvi (σ' := s2) (As := [.int (xs (i + 1))]) (rest := [.int r1]) (C := RX7) (T := TX7) (N := 28) (ci := 7) C.1 hG2 hge2 hP2 hS (r := r2) (c_X7_beside hr2) in_122 sh_122 rfl lk1250 lk100 lk1247 lk1248 lk1249 yd_X7_beside rfl rfl hl.1 rfl (Nat.le_of_ble_eq_true rfl) ⟨Nat.le_of_ble_eq_true rfl, Nat.le_of_ble_eq_true rfl⟩ dL_law_673 (fun H1 locs hq hk hS => ?_)
  have hP1 := keptW (fun j k hj hk e => hdis k j hk hj e.symm) hP1 hk
  have hP2 := hq
  generalize H1 = H at hP1 hP2 hS ⊢
  obtain ⟨hre, hf2⟩ := itE hf
  subst hre
  refine lv_icmp_eq (tgt := 1276) hx hb dL_law_676 (by decide) (fun _ => ?_) (fun h => absurd rfl h)
  cases hf2
  exact kk _ _ hP1 hP2 hS
set_option maxRecDepth 100000 in
set_option maxHeartbeats 4000000 in
theorem law_16 {p : Program} {l : Launch} {e : Env} {s : State} {m : MethodId} {below : List Frame} {meth : Method} {c : Code} {G : Gm} {b L : Nat} {xs : Nat → Int32} (C : LC p s m meth c b L xs G) {i : Nat} (hi : i + 6 ≤ L) (hL : L ≤ 3072) {σ τ : Sto} {Z : Sto × Sto} (hf : st_16 (xs (i + 1)) (xs (i + 2)) (xs (i + 3)) σ τ = some Z) {H : Heap} {locs : List Loc} {ls : Array Slot} {x3 : Int32} (ex3 : x3 = nI i) (hP1 : va_P G.2.1 vwCl (WS rC G σ) H) (hP2 : va_P G.2.1 vwCl (WS rM G τ) H) (hS : va_S (AL s) s.heap H locs) (hl : lv_has ls 4 [(3, .int x3), (2, .ref (G.1 122)), (1, .ref (G.1 0)), (0, .ref b)]) {Q : State → Prop} (kk : ∀ (H : Heap) (locs : List Loc), va_P G.2.1 vwCl (WS rC G Z.1) H → va_P G.2.1 vwCl (WS rM G Z.2) H → va_S (AL s) s.heap H locs → W p l e room_1 s m #[Value.ref b] below meth c H locs 144 2496 Q (F0 m 1276 ls [])) : W p l e room_1 s m #[Value.ref b] below meth c H locs 144 2496 Q (F0 m 681 ls []) := by
  obtain ⟨⟨hx, hb, hml, hown, hts⟩, ⟨hX, hbl⟩, hG1, hG2, hge1, hge2, hdis⟩ := id C
  unfold st_16 at hf
  refine lv_aload_n hx hb dL_law_681 rfl (lv_at hl 2 rfl) ?_
  refine lv_aload_n hx hb dL_law_682 rfl (lv_at hl 3 rfl) ?_
  refine lv_iload_n hx hb dL_law_683 rfl (lv_at hl 0 rfl) ?_
  refine lv_iconst (v := 1) hx hb dL_law_684 (by decide) ?_
  refine lv_iadd hx hb dL_law_685 ?_
  refine g_sld (j := i + 1) hx hb hX hbl hS (by rw [ex3]; exact nI_add i 1) (by omega) hL dL_law_686 ?_
  refine lv_aload_n hx hb dL_law_687 rfl (lv_at hl 3 rfl) ?_
  refine lv_iload_n hx hb dL_law_688 rfl (lv_at hl 0 rfl) ?_
  refine lv_iconst (v := 2) hx hb dL_law_689 (by decide) ?_
  refine lv_iadd hx hb dL_law_690 ?_
  refine g_sld (j := i + 2) hx hb hX hbl hS (by rw [ex3]; exact nI_add i 2) (by omega) hL dL_law_691 ?_
  refine lv_aload_n hx hb dL_law_692 rfl (lv_at hl 3 rfl) ?_
  refine lv_iload_n hx hb dL_law_693 rfl (lv_at hl 0 rfl) ?_
  refine lv_iconst (v := 3) hx hb dL_law_694 (by decide) ?_
  refine lv_iadd hx hb dL_law_695 ?_
  refine g_sld (j := i + 3) hx hb hX hbl hS (by rw [ex3]; exact nI_add i 3) (by omega) hL dL_law_696 ?_
  obtain ⟨r1, s1, hr1, hf⟩ := ob2 hf
  refine g_Lvl (σ' := s1) (As := [.int (xs (i + 1)), .int (xs (i + 2)), .int (xs (i + 3))]) (rest := []) (C := RX6) (T := TX6) (N := 11) (ci := 6) C.1 hG1 hge1 hP1 hS (r := r1) (c_X6_point hr1) in_0 sh_0 rfl lk695 lk93 lk692 lk693 lk694 yd_X6_point rfl rfl hl.1 rfl (Nat.le_of_ble_eq_true rfl) ⟨Nat.le_of_ble_eq_true rfl, Nat.le_of_ble_eq_true rfl⟩ dL_law_697 (fun H1 locs hq hk hS => ?_)
  have hP2 := keptW hdis hP2 hk
  have hP1 := hq
  generalize H1 = H at hP1 hP2 hS ⊢
  refine lv_aload_n hx hb dL_law_700 rfl (lv_at hl 1 rfl) ?_
  refine lv_aload_n hx hb dL_law_701 rfl (lv_at hl 3 rfl) ?_
  refine lv_iload_n hx hb dL_law_702 rfl (lv_at hl 0 rfl) ?_
  refine lv_iconst (v := 1) hx hb dL_law_703 (by decide) ?_
  refine lv_iadd hx hb dL_law_704 ?_
  refine g_sld (j := i + 1) hx hb hX hbl hS (by rw [ex3]; exact nI_add i 1) (by omega) hL dL_law_705 ?_
  refine lv_aload_n hx hb dL_law_706 rfl (lv_at hl 3 rfl) ?_
  refine lv_iload_n hx hb dL_law_707 rfl (lv_at hl 0 rfl) ?_
  refine lv_iconst (v := 2) hx hb dL_law_708 (by decide) ?_
  refine lv_iadd hx hb dL_law_709 ?_
  refine g_sld (j := i + 2) hx hb hX hbl hS (by rw [ex3]; exact nI_add i 2) (by omega) hL dL_law_710 ?_
  refine lv_aload_n hx hb dL_law_711 rfl (lv_at hl 3 rfl) ?_
  refine lv_iload_n hx hb dL_law_712 rfl (lv_at hl 0 rfl) ?_
  refine lv_iconst (v := 3) hx hb dL_law_713 (by decide) ?_
  refine lv_iadd hx hb dL_law_714 ?_
  refine g_sld (j := i + 3) hx hb hX hbl hS (by rw [ex3]; exact nI_add i 3) (by omega) hL dL_law_715 ?_
  obtain ⟨r2, s2, hr2, hf⟩ := ob2 hf
  refine g_Lvl (σ' := s2) (As := [.int (xs (i + 1)), .int (xs (i + 2)), .int (xs (i + 3))]) (rest := [.long r1]) (C := RX7) (T := TX7) (N := 28) (ci := 7) C.1 hG2 hge2 hP2 hS (r := r2) (c_X7_point hr2) in_122 sh_122 rfl lk1254 lk100 lk1251 lk1252 lk1253 yd_X7_point rfl rfl hl.1 rfl (Nat.le_of_ble_eq_true rfl) ⟨Nat.le_of_ble_eq_true rfl, Nat.le_of_ble_eq_true rfl⟩ dL_law_716 (fun H1 locs hq hk hS => ?_)
  have hP1 := keptW (fun j k hj hk e => hdis k j hk hj e.symm) hP1 hk
  have hP2 := hq
  generalize H1 = H at hP1 hP2 hS ⊢
  obtain ⟨hre, hf2⟩ := itE hf
  subst hre
  refine W.lcmp hx hb dL_law_719 ?_
  rw [lg_cmp_self]
  refine lv_if_eq (tgt := 1276) hx hb dL_law_720 (by decide) (fun _ => ?_) (fun h => absurd rfl h)
  cases hf2
  exact kk _ _ hP1 hP2 hS
set_option maxRecDepth 100000 in
set_option maxHeartbeats 4000000 in
theorem law_17 {p : Program} {l : Launch} {e : Env} {s : State} {m : MethodId} {below : List Frame} {meth : Method} {c : Code} {G : Gm} {b L : Nat} {xs : Nat → Int32} (C : LC p s m meth c b L xs G) {i : Nat} (hi : i + 6 ≤ L) (hL : L ≤ 3072) {σ τ : Sto} {Z : Sto × Sto} (hf : st_17 (xs (i + 1)) (xs (i + 2)) (xs (i + 3)) σ τ = some Z) {H : Heap} {locs : List Loc} {ls : Array Slot} {x3 : Int32} (ex3 : x3 = nI i) (hP1 : va_P G.2.1 vwCl (WS rC G σ) H) (hP2 : va_P G.2.1 vwCl (WS rM G τ) H) (hS : va_S (AL s) s.heap H locs) (hl : lv_has ls 4 [(3, .int x3), (2, .ref (G.1 122)), (1, .ref (G.1 0)), (0, .ref b)]) {Q : State → Prop} (kk : ∀ (H : Heap) (locs : List Loc), va_P G.2.1 vwCl (WS rC G Z.1) H → va_P G.2.1 vwCl (WS rM G Z.2) H → va_S (AL s) s.heap H locs → W p l e room_1 s m #[Value.ref b] below meth c H locs 144 2496 Q (F0 m 1276 ls [])) : W p l e room_1 s m #[Value.ref b] below meth c H locs 144 2496 Q (F0 m 725 ls []) := by
  obtain ⟨⟨hx, hb, hml, hown, hts⟩, ⟨hX, hbl⟩, hG1, hG2, hge1, hge2, hdis⟩ := id C
  unfold st_17 at hf
  refine lv_aload_n hx hb dL_law_725 rfl (lv_at hl 2 rfl) ?_
  refine lv_aload_n hx hb dL_law_726 rfl (lv_at hl 3 rfl) ?_
  refine lv_iload_n hx hb dL_law_727 rfl (lv_at hl 0 rfl) ?_
  refine lv_iconst (v := 1) hx hb dL_law_728 (by decide) ?_
  refine lv_iadd hx hb dL_law_729 ?_
  refine g_sld (j := i + 1) hx hb hX hbl hS (by rw [ex3]; exact nI_add i 1) (by omega) hL dL_law_730 ?_
  refine lv_aload_n hx hb dL_law_731 rfl (lv_at hl 3 rfl) ?_
  refine lv_iload_n hx hb dL_law_732 rfl (lv_at hl 0 rfl) ?_
  refine lv_iconst (v := 2) hx hb dL_law_733 (by decide) ?_
  refine lv_iadd hx hb dL_law_734 ?_
  refine g_sld (j := i + 2) hx hb hX hbl hS (by rw [ex3]; exact nI_add i 2) (by omega) hL dL_law_735 ?_
  refine lv_aload_n hx hb dL_law_736 rfl (lv_at hl 3 rfl) ?_
  refine lv_iload_n hx hb dL_law_737 rfl (lv_at hl 0 rfl) ?_
  refine lv_iconst (v := 3) hx hb dL_law_738 (by decide) ?_
  refine lv_iadd hx hb dL_law_739 ?_
  refine g_sld (j := i + 3) hx hb hX hbl hS (by rw [ex3]; exact nI_add i 3) (by omega) hL dL_law_740 ?_
  obtain ⟨r1, s1, hr1, hf⟩ := ob2 hf
  refine g_Lvl (σ' := s1) (As := [.int (xs (i + 1)), .int (xs (i + 2)), .int (xs (i + 3))]) (rest := []) (C := RX6) (T := TX6) (N := 11) (ci := 6) C.1 hG1 hge1 hP1 hS (r := r1) (c_X6_plane hr1) in_0 sh_0 rfl lk700 lk93 lk697 lk698 lk699 yd_X6_plane rfl rfl hl.1 rfl (Nat.le_of_ble_eq_true rfl) ⟨Nat.le_of_ble_eq_true rfl, Nat.le_of_ble_eq_true rfl⟩ dL_law_741 (fun H1 locs hq hk hS => ?_)
  have hP2 := keptW hdis hP2 hk
  have hP1 := hq
  generalize H1 = H at hP1 hP2 hS ⊢
  refine lv_aload_n hx hb dL_law_744 rfl (lv_at hl 1 rfl) ?_
  refine lv_aload_n hx hb dL_law_745 rfl (lv_at hl 3 rfl) ?_
  refine lv_iload_n hx hb dL_law_746 rfl (lv_at hl 0 rfl) ?_
  refine lv_iconst (v := 1) hx hb dL_law_747 (by decide) ?_
  refine lv_iadd hx hb dL_law_748 ?_
  refine g_sld (j := i + 1) hx hb hX hbl hS (by rw [ex3]; exact nI_add i 1) (by omega) hL dL_law_749 ?_
  refine lv_aload_n hx hb dL_law_750 rfl (lv_at hl 3 rfl) ?_
  refine lv_iload_n hx hb dL_law_751 rfl (lv_at hl 0 rfl) ?_
  refine lv_iconst (v := 2) hx hb dL_law_752 (by decide) ?_
  refine lv_iadd hx hb dL_law_753 ?_
  refine g_sld (j := i + 2) hx hb hX hbl hS (by rw [ex3]; exact nI_add i 2) (by omega) hL dL_law_754 ?_
  refine lv_aload_n hx hb dL_law_755 rfl (lv_at hl 3 rfl) ?_
  refine lv_iload_n hx hb dL_law_756 rfl (lv_at hl 0 rfl) ?_
  refine lv_iconst (v := 3) hx hb dL_law_757 (by decide) ?_
  refine lv_iadd hx hb dL_law_758 ?_
  refine g_sld (j := i + 3) hx hb hX hbl hS (by rw [ex3]; exact nI_add i 3) (by omega) hL dL_law_759 ?_
  obtain ⟨r2, s2, hr2, hf⟩ := ob2 hf
  refine g_Lvl (σ' := s2) (As := [.int (xs (i + 1)), .int (xs (i + 2)), .int (xs (i + 3))]) (rest := [.long r1]) (C := RX7) (T := TX7) (N := 28) (ci := 7) C.1 hG2 hge2 hP2 hS (r := r2) (c_X7_plane hr2) in_122 sh_122 rfl lk1267 lk100 lk1264 lk1265 lk1266 yd_X7_plane rfl rfl hl.1 rfl (Nat.le_of_ble_eq_true rfl) ⟨Nat.le_of_ble_eq_true rfl, Nat.le_of_ble_eq_true rfl⟩ dL_law_760 (fun H1 locs hq hk hS => ?_)
  have hP1 := keptW (fun j k hj hk e => hdis k j hk hj e.symm) hP1 hk
  have hP2 := hq
  generalize H1 = H at hP1 hP2 hS ⊢
  obtain ⟨hre, hf2⟩ := itE hf
  subst hre
  refine W.lcmp hx hb dL_law_763 ?_
  rw [lg_cmp_self]
  refine lv_if_eq (tgt := 1276) hx hb dL_law_764 (by decide) (fun _ => ?_) (fun h => absurd rfl h)
  cases hf2
  exact kk _ _ hP1 hP2 hS
set_option maxRecDepth 100000 in
set_option maxHeartbeats 4000000 in
theorem law_18 {p : Program} {l : Launch} {e : Env} {s : State} {m : MethodId} {below : List Frame} {meth : Method} {c : Code} {G : Gm} {b L : Nat} {xs : Nat → Int32} (C : LC p s m meth c b L xs G) {i : Nat} (hi : i + 6 ≤ L) (hL : L ≤ 3072) {σ τ : Sto} {Z : Sto × Sto} (hf : st_18 (xs (i + 1)) (xs (i + 2)) σ τ = some Z) {H : Heap} {locs : List Loc} {ls : Array Slot} {x3 : Int32} (ex3 : x3 = nI i) (hP1 : va_P G.2.1 vwCl (WS rC G σ) H) (hP2 : va_P G.2.1 vwCl (WS rM G τ) H) (hS : va_S (AL s) s.heap H locs) (hl : lv_has ls 4 [(3, .int x3), (2, .ref (G.1 122)), (1, .ref (G.1 0)), (0, .ref b)]) {Q : State → Prop} (kk : ∀ (H : Heap) (locs : List Loc), va_P G.2.1 vwCl (WS rC G Z.1) H → va_P G.2.1 vwCl (WS rM G Z.2) H → va_S (AL s) s.heap H locs → W p l e room_1 s m #[Value.ref b] below meth c H locs 144 2496 Q (F0 m 1276 ls [])) : W p l e room_1 s m #[Value.ref b] below meth c H locs 144 2496 Q (F0 m 769 ls []) := by
  obtain ⟨⟨hx, hb, hml, hown, hts⟩, ⟨hX, hbl⟩, hG1, hG2, hge1, hge2, hdis⟩ := id C
  unfold st_18 at hf
  refine lv_aload_n hx hb dL_law_769 rfl (lv_at hl 2 rfl) ?_
  refine lv_aload_n hx hb dL_law_770 rfl (lv_at hl 3 rfl) ?_
  refine lv_iload_n hx hb dL_law_771 rfl (lv_at hl 0 rfl) ?_
  refine lv_iconst (v := 1) hx hb dL_law_772 (by decide) ?_
  refine lv_iadd hx hb dL_law_773 ?_
  refine g_sld (j := i + 1) hx hb hX hbl hS (by rw [ex3]; exact nI_add i 1) (by omega) hL dL_law_774 ?_
  refine lv_aload_n hx hb dL_law_775 rfl (lv_at hl 3 rfl) ?_
  refine lv_iload_n hx hb dL_law_776 rfl (lv_at hl 0 rfl) ?_
  refine lv_iconst (v := 2) hx hb dL_law_777 (by decide) ?_
  refine lv_iadd hx hb dL_law_778 ?_
  refine g_sld (j := i + 2) hx hb hX hbl hS (by rw [ex3]; exact nI_add i 2) (by omega) hL dL_law_779 ?_
  obtain ⟨r1, s1, hr1, hf⟩ := ob2 hf
  refine g_Lvl (σ' := s1) (As := [.int (xs (i + 1)), .int (xs (i + 2))]) (rest := []) (C := RX6) (T := TX6) (N := 11) (ci := 6) C.1 hG1 hge1 hP1 hS (r := r1) (c_X6_height hr1) in_0 sh_0 rfl lk708 lk93 lk705 lk706 lk707 yd_X6_height rfl rfl hl.1 rfl (Nat.le_of_ble_eq_true rfl) ⟨Nat.le_of_ble_eq_true rfl, Nat.le_of_ble_eq_true rfl⟩ dL_law_780 (fun H1 locs hq hk hS => ?_)
  have hP2 := keptW hdis hP2 hk
  have hP1 := hq
  generalize H1 = H at hP1 hP2 hS ⊢
  refine lv_aload_n hx hb dL_law_783 rfl (lv_at hl 1 rfl) ?_
  refine lv_aload_n hx hb dL_law_784 rfl (lv_at hl 3 rfl) ?_
  refine lv_iload_n hx hb dL_law_785 rfl (lv_at hl 0 rfl) ?_
  refine lv_iconst (v := 1) hx hb dL_law_786 (by decide) ?_
  refine lv_iadd hx hb dL_law_787 ?_
  refine g_sld (j := i + 1) hx hb hX hbl hS (by rw [ex3]; exact nI_add i 1) (by omega) hL dL_law_788 ?_
  refine lv_aload_n hx hb dL_law_789 rfl (lv_at hl 3 rfl) ?_
  refine lv_iload_n hx hb dL_law_790 rfl (lv_at hl 0 rfl) ?_
  refine lv_iconst (v := 2) hx hb dL_law_791 (by decide) ?_
  refine lv_iadd hx hb dL_law_792 ?_
  refine g_sld (j := i + 2) hx hb hX hbl hS (by rw [ex3]; exact nI_add i 2) (by omega) hL dL_law_793 ?_
  obtain ⟨r2, s2, hr2, hf⟩ := ob2 hf
  refine g_Lvl (σ' := s2) (As := [.int (xs (i + 1)), .int (xs (i + 2))]) (rest := [.long r1]) (C := RX7) (T := TX7) (N := 28) (ci := 7) C.1 hG2 hge2 hP2 hS (r := r2) (c_X7_height hr2) in_122 sh_122 rfl lk1271 lk100 lk1268 lk1269 lk1270 yd_X7_height rfl rfl hl.1 rfl (Nat.le_of_ble_eq_true rfl) ⟨Nat.le_of_ble_eq_true rfl, Nat.le_of_ble_eq_true rfl⟩ dL_law_794 (fun H1 locs hq hk hS => ?_)
  have hP1 := keptW (fun j k hj hk e => hdis k j hk hj e.symm) hP1 hk
  have hP2 := hq
  generalize H1 = H at hP1 hP2 hS ⊢
  obtain ⟨hre, hf2⟩ := itE hf
  subst hre
  refine W.lcmp hx hb dL_law_797 ?_
  rw [lg_cmp_self]
  refine lv_if_eq (tgt := 1276) hx hb dL_law_798 (by decide) (fun _ => ?_) (fun h => absurd rfl h)
  cases hf2
  exact kk _ _ hP1 hP2 hS
set_option maxRecDepth 100000 in
set_option maxHeartbeats 4000000 in
theorem law_19 {p : Program} {l : Launch} {e : Env} {s : State} {m : MethodId} {below : List Frame} {meth : Method} {c : Code} {G : Gm} {b L : Nat} {xs : Nat → Int32} (C : LC p s m meth c b L xs G) {i : Nat} (hi : i + 6 ≤ L) (hL : L ≤ 3072) {σ τ : Sto} {Z : Sto × Sto} (hf : st_19 (xs (i + 1)) (xs (i + 2)) (xs (i + 3)) (xs (i + 4)) σ τ = some Z) {H : Heap} {locs : List Loc} {ls : Array Slot} {x3 : Int32} (ex3 : x3 = nI i) (hP1 : va_P G.2.1 vwCl (WS rC G σ) H) (hP2 : va_P G.2.1 vwCl (WS rM G τ) H) (hS : va_S (AL s) s.heap H locs) (hl : lv_has ls 4 [(3, .int x3), (2, .ref (G.1 122)), (1, .ref (G.1 0)), (0, .ref b)]) {Q : State → Prop} (kk : ∀ (H : Heap) (locs : List Loc), va_P G.2.1 vwCl (WS rC G Z.1) H → va_P G.2.1 vwCl (WS rM G Z.2) H → va_S (AL s) s.heap H locs → W p l e room_1 s m #[Value.ref b] below meth c H locs 144 2496 Q (F0 m 1276 ls [])) : W p l e room_1 s m #[Value.ref b] below meth c H locs 144 2496 Q (F0 m 803 ls []) := by
  obtain ⟨⟨hx, hb, hml, hown, hts⟩, ⟨hX, hbl⟩, hG1, hG2, hge1, hge2, hdis⟩ := id C
  unfold st_19 at hf
  refine lv_aload_n hx hb dL_law_803 rfl (lv_at hl 2 rfl) ?_
  refine lv_aload_n hx hb dL_law_804 rfl (lv_at hl 3 rfl) ?_
  refine lv_iload_n hx hb dL_law_805 rfl (lv_at hl 0 rfl) ?_
  refine lv_iconst (v := 1) hx hb dL_law_806 (by decide) ?_
  refine lv_iadd hx hb dL_law_807 ?_
  refine g_sld (j := i + 1) hx hb hX hbl hS (by rw [ex3]; exact nI_add i 1) (by omega) hL dL_law_808 ?_
  refine lv_aload_n hx hb dL_law_809 rfl (lv_at hl 3 rfl) ?_
  refine lv_iload_n hx hb dL_law_810 rfl (lv_at hl 0 rfl) ?_
  refine lv_iconst (v := 2) hx hb dL_law_811 (by decide) ?_
  refine lv_iadd hx hb dL_law_812 ?_
  refine g_sld (j := i + 2) hx hb hX hbl hS (by rw [ex3]; exact nI_add i 2) (by omega) hL dL_law_813 ?_
  refine lv_aload_n hx hb dL_law_814 rfl (lv_at hl 3 rfl) ?_
  refine lv_iload_n hx hb dL_law_815 rfl (lv_at hl 0 rfl) ?_
  refine lv_iconst (v := 3) hx hb dL_law_816 (by decide) ?_
  refine lv_iadd hx hb dL_law_817 ?_
  refine g_sld (j := i + 3) hx hb hX hbl hS (by rw [ex3]; exact nI_add i 3) (by omega) hL dL_law_818 ?_
  refine lv_aload_n hx hb dL_law_819 rfl (lv_at hl 3 rfl) ?_
  refine lv_iload_n hx hb dL_law_820 rfl (lv_at hl 0 rfl) ?_
  refine lv_iconst (v := 4) hx hb dL_law_821 (by decide) ?_
  refine lv_iadd hx hb dL_law_822 ?_
  refine g_sld (j := i + 4) hx hb hX hbl hS (by rw [ex3]; exact nI_add i 4) (by omega) hL dL_law_823 ?_
  obtain ⟨r1, s1, hr1, hf⟩ := ob2 hf
  refine g_Lvl (σ' := s1) (As := [.int (xs (i + 1)), .int (xs (i + 2)), .int (xs (i + 3)), .int (xs (i + 4))]) (rest := []) (C := RX6) (T := TX6) (N := 11) (ci := 6) C.1 hG1 hge1 hP1 hS (r := r1) (c_X6_corner hr1) in_0 sh_0 rfl lk716 lk93 lk713 lk714 lk715 yd_X6_corner rfl rfl hl.1 rfl (Nat.le_of_ble_eq_true rfl) ⟨Nat.le_of_ble_eq_true rfl, Nat.le_of_ble_eq_true rfl⟩ dL_law_824 (fun H1 locs hq hk hS => ?_)
  have hP2 := keptW hdis hP2 hk
  have hP1 := hq
  generalize H1 = H at hP1 hP2 hS ⊢
  refine lv_aload_n hx hb dL_law_827 rfl (lv_at hl 1 rfl) ?_
  refine lv_aload_n hx hb dL_law_828 rfl (lv_at hl 3 rfl) ?_
  refine lv_iload_n hx hb dL_law_829 rfl (lv_at hl 0 rfl) ?_
  refine lv_iconst (v := 1) hx hb dL_law_830 (by decide) ?_
  refine lv_iadd hx hb dL_law_831 ?_
  refine g_sld (j := i + 1) hx hb hX hbl hS (by rw [ex3]; exact nI_add i 1) (by omega) hL dL_law_832 ?_
  refine lv_aload_n hx hb dL_law_833 rfl (lv_at hl 3 rfl) ?_
  refine lv_iload_n hx hb dL_law_834 rfl (lv_at hl 0 rfl) ?_
  refine lv_iconst (v := 2) hx hb dL_law_835 (by decide) ?_
  refine lv_iadd hx hb dL_law_836 ?_
  refine g_sld (j := i + 2) hx hb hX hbl hS (by rw [ex3]; exact nI_add i 2) (by omega) hL dL_law_837 ?_
  refine lv_aload_n hx hb dL_law_838 rfl (lv_at hl 3 rfl) ?_
  refine lv_iload_n hx hb dL_law_839 rfl (lv_at hl 0 rfl) ?_
  refine lv_iconst (v := 3) hx hb dL_law_840 (by decide) ?_
  refine lv_iadd hx hb dL_law_841 ?_
  refine g_sld (j := i + 3) hx hb hX hbl hS (by rw [ex3]; exact nI_add i 3) (by omega) hL dL_law_842 ?_
  refine lv_aload_n hx hb dL_law_843 rfl (lv_at hl 3 rfl) ?_
  refine lv_iload_n hx hb dL_law_844 rfl (lv_at hl 0 rfl) ?_
  refine lv_iconst (v := 4) hx hb dL_law_845 (by decide) ?_
  refine lv_iadd hx hb dL_law_846 ?_
  refine g_sld (j := i + 4) hx hb hX hbl hS (by rw [ex3]; exact nI_add i 4) (by omega) hL dL_law_847 ?_
  obtain ⟨r2, s2, hr2, hf⟩ := ob2 hf
  refine g_Lvl (σ' := s2) (As := [.int (xs (i + 1)), .int (xs (i + 2)), .int (xs (i + 3)), .int (xs (i + 4))]) (rest := [.long r1]) (C := RX7) (T := TX7) (N := 28) (ci := 7) C.1 hG2 hge2 hP2 hS (r := r2) (c_X7_corner hr2) in_122 sh_122 rfl lk1275 lk100 lk1272 lk1273 lk1274 yd_X7_corner rfl rfl hl.1 rfl (Nat.le_of_ble_eq_true rfl) ⟨Nat.le_of_ble_eq_true rfl, Nat.le_of_ble_eq_true rfl⟩ dL_law_848 (fun H1 locs hq hk hS => ?_)
  have hP1 := keptW (fun j k hj hk e => hdis k j hk hj e.symm) hP1 hk
  have hP2 := hq
  generalize H1 = H at hP1 hP2 hS ⊢
  obtain ⟨hre, hf2⟩ := itE hf
  subst hre
  refine W.lcmp hx hb dL_law_851 ?_
  rw [lg_cmp_self]
  refine lv_if_eq (tgt := 1276) hx hb dL_law_852 (by decide) (fun _ => ?_) (fun h => absurd rfl h)
  cases hf2
  exact kk _ _ hP1 hP2 hS
set_option maxRecDepth 100000 in
set_option maxHeartbeats 4000000 in
theorem law_20 {p : Program} {l : Launch} {e : Env} {s : State} {m : MethodId} {below : List Frame} {meth : Method} {c : Code} {G : Gm} {b L : Nat} {xs : Nat → Int32} (C : LC p s m meth c b L xs G) {i : Nat} (hi : i + 6 ≤ L) (hL : L ≤ 3072) {σ τ : Sto} {Z : Sto × Sto} (hf : st_20 (xs (i + 1)) σ τ = some Z) {H : Heap} {locs : List Loc} {ls : Array Slot} {x3 : Int32} (ex3 : x3 = nI i) (hP1 : va_P G.2.1 vwCl (WS rC G σ) H) (hP2 : va_P G.2.1 vwCl (WS rM G τ) H) (hS : va_S (AL s) s.heap H locs) (hl : lv_has ls 4 [(3, .int x3), (2, .ref (G.1 122)), (1, .ref (G.1 0)), (0, .ref b)]) {Q : State → Prop} (kk : ∀ (H : Heap) (locs : List Loc), va_P G.2.1 vwCl (WS rC G Z.1) H → va_P G.2.1 vwCl (WS rM G Z.2) H → va_S (AL s) s.heap H locs → W p l e room_1 s m #[Value.ref b] below meth c H locs 144 2496 Q (F0 m 1276 ls [])) : W p l e room_1 s m #[Value.ref b] below meth c H locs 144 2496 Q (F0 m 857 ls []) := by
  obtain ⟨⟨hx, hb, hml, hown, hts⟩, ⟨hX, hbl⟩, hG1, hG2, hge1, hge2, hdis⟩ := id C
  unfold st_20 at hf
  refine lv_aload_n hx hb dL_law_857 rfl (lv_at hl 2 rfl) ?_
  refine lv_aload_n hx hb dL_law_858 rfl (lv_at hl 3 rfl) ?_
  refine lv_iload_n hx hb dL_law_859 rfl (lv_at hl 0 rfl) ?_
  refine lv_iconst (v := 1) hx hb dL_law_860 (by decide) ?_
  refine lv_iadd hx hb dL_law_861 ?_
  refine g_sld (j := i + 1) hx hb hX hbl hS (by rw [ex3]; exact nI_add i 1) (by omega) hL dL_law_862 ?_
  obtain ⟨r1, s1, hr1, hf⟩ := ob2 hf
  refine g_Lvi (σ' := s1) (As := [.int (xs (i + 1))]) (rest := []) (C := RX6) (T := TX6) (N := 11) (ci := 6) C.1 hG1 hge1 hP1 hS (r := r1) (c_X6_type hr1) in_0 sh_0 rfl lk723 lk93 lk720 lk721 lk722 yd_X6_type rfl rfl hl.1 rfl (Nat.le_of_ble_eq_true rfl) ⟨Nat.le_of_ble_eq_true rfl, Nat.le_of_ble_eq_true rfl⟩ dL_law_863 (fun H1 locs hq hk hS => ?_)
  have hP2 := keptW hdis hP2 hk
  have hP1 := hq
  generalize H1 = H at hP1 hP2 hS ⊢
  refine lv_aload_n hx hb dL_law_866 rfl (lv_at hl 1 rfl) ?_
  refine lv_aload_n hx hb dL_law_867 rfl (lv_at hl 3 rfl) ?_
  refine lv_iload_n hx hb dL_law_868 rfl (lv_at hl 0 rfl) ?_
  refine lv_iconst (v := 1) hx hb dL_law_869 (by decide) ?_
  refine lv_iadd hx hb dL_law_870 ?_
  refine g_sld (j := i + 1) hx hb hX hbl hS (by rw [ex3]; exact nI_add i 1) (by omega) hL dL_law_871 ?_
  obtain ⟨r2, s2, hr2, hf⟩ := ob2 hf
  refine g_Lvi (σ' := s2) (As := [.int (xs (i + 1))]) (rest := [.int r1]) (C := RX7) (T := TX7) (N := 28) (ci := 7) C.1 hG2 hge2 hP2 hS (r := r2) (c_X7_type hr2) in_122 sh_122 rfl lk1279 lk100 lk1276 lk1277 lk1278 yd_X7_type rfl rfl hl.1 rfl (Nat.le_of_ble_eq_true rfl) ⟨Nat.le_of_ble_eq_true rfl, Nat.le_of_ble_eq_true rfl⟩ dL_law_872 (fun H1 locs hq hk hS => ?_)
  have hP1 := keptW (fun j k hj hk e => hdis k j hk hj e.symm) hP1 hk
  have hP2 := hq
  generalize H1 = H at hP1 hP2 hS ⊢
  obtain ⟨hre, hf2⟩ := itE hf
  subst hre
  refine lv_icmp_eq (tgt := 1276) hx hb dL_law_875 (by decide) (fun _ => ?_) (fun h => absurd rfl h)
  cases hf2
  exact kk _ _ hP1 hP2 hS
set_option maxRecDepth 100000 in
set_option maxHeartbeats 4000000 in
theorem law_21 {p : Program} {l : Launch} {e : Env} {s : State} {m : MethodId} {below : List Frame} {meth : Method} {c : Code} {G : Gm} {b L : Nat} {xs : Nat → Int32} (C : LC p s m meth c b L xs G) {i : Nat} (hi : i + 6 ≤ L) (hL : L ≤ 3072) {σ τ : Sto} {Z : Sto × Sto} (hf : st_21  σ τ = some Z) {H : Heap} {locs : List Loc} {ls : Array Slot} {x3 : Int32} (ex3 : x3 = nI i) (hP1 : va_P G.2.1 vwCl (WS rC G σ) H) (hP2 : va_P G.2.1 vwCl (WS rM G τ) H) (hS : va_S (AL s) s.heap H locs) (hl : lv_has ls 4 [(3, .int x3), (2, .ref (G.1 122)), (1, .ref (G.1 0)), (0, .ref b)]) {Q : State → Prop} (kk : ∀ (H : Heap) (locs : List Loc), va_P G.2.1 vwCl (WS rC G Z.1) H → va_P G.2.1 vwCl (WS rM G Z.2) H → va_S (AL s) s.heap H locs → W p l e room_1 s m #[Value.ref b] below meth c H locs 144 2496 Q (F0 m 1276 ls [])) : W p l e room_1 s m #[Value.ref b] below meth c H locs 144 2496 Q (F0 m 880 ls []) := by
  obtain ⟨⟨hx, hb, hml, hown, hts⟩, ⟨hX, hbl⟩, hG1, hG2, hge1, hge2, hdis⟩ := id C
  unfold st_21 at hf
  refine lv_aload_n hx hb dL_law_880 rfl (lv_at hl 2 rfl) ?_
  obtain ⟨r1, s1, hr1, hf⟩ := ob2 hf
  refine g_Lvi (σ' := s1) (As := []) (rest := []) (C := RX6) (T := TX6) (N := 11) (ci := 6) C.1 hG1 hge1 hP1 hS (r := r1) (c_X6_read hr1) in_0 sh_0 rfl lk731 lk93 lk728 lk729 lk730 yd_X6_read rfl rfl hl.1 rfl (Nat.le_of_ble_eq_true rfl) ⟨Nat.le_of_ble_eq_true rfl, Nat.le_of_ble_eq_true rfl⟩ dL_law_881 (fun H1 locs hq hk hS => ?_)
  have hP2 := keptW hdis hP2 hk
  have hP1 := hq
  generalize H1 = H at hP1 hP2 hS ⊢
  refine lv_aload_n hx hb dL_law_884 rfl (lv_at hl 1 rfl) ?_
  obtain ⟨r2, s2, hr2, hf⟩ := ob2 hf
  refine g_Lvi (σ' := s2) (As := []) (rest := [.int r1]) (C := RX7) (T := TX7) (N := 28) (ci := 7) C.1 hG2 hge2 hP2 hS (r := r2) (c_X7_read hr2) in_122 sh_122 rfl lk1285 lk100 lk1282 lk1283 lk1284 yd_X7_read rfl rfl hl.1 rfl (Nat.le_of_ble_eq_true rfl) ⟨Nat.le_of_ble_eq_true rfl, Nat.le_of_ble_eq_true rfl⟩ dL_law_885 (fun H1 locs hq hk hS => ?_)
  have hP1 := keptW (fun j k hj hk e => hdis k j hk hj e.symm) hP1 hk
  have hP2 := hq
  generalize H1 = H at hP1 hP2 hS ⊢
  obtain ⟨hre, hf2⟩ := itE hf
  subst hre
  refine lv_icmp_eq (tgt := 1276) hx hb dL_law_888 (by decide) (fun _ => ?_) (fun h => absurd rfl h)
  cases hf2
  exact kk _ _ hP1 hP2 hS
set_option maxRecDepth 100000 in
set_option maxHeartbeats 4000000 in
theorem law_22 {p : Program} {l : Launch} {e : Env} {s : State} {m : MethodId} {below : List Frame} {meth : Method} {c : Code} {G : Gm} {b L : Nat} {xs : Nat → Int32} (C : LC p s m meth c b L xs G) {i : Nat} (hi : i + 6 ≤ L) (hL : L ≤ 3072) {σ τ : Sto} {Z : Sto × Sto} (hf : st_22 (xs (i + 1)) σ τ = some Z) {H : Heap} {locs : List Loc} {ls : Array Slot} {x3 : Int32} (ex3 : x3 = nI i) (hP1 : va_P G.2.1 vwCl (WS rC G σ) H) (hP2 : va_P G.2.1 vwCl (WS rM G τ) H) (hS : va_S (AL s) s.heap H locs) (hl : lv_has ls 4 [(3, .int x3), (2, .ref (G.1 122)), (1, .ref (G.1 0)), (0, .ref b)]) {Q : State → Prop} (kk : ∀ (H : Heap) (locs : List Loc), va_P G.2.1 vwCl (WS rC G Z.1) H → va_P G.2.1 vwCl (WS rM G Z.2) H → va_S (AL s) s.heap H locs → W p l e room_1 s m #[Value.ref b] below meth c H locs 144 2496 Q (F0 m 1276 ls [])) : W p l e room_1 s m #[Value.ref b] below meth c H locs 144 2496 Q (F0 m 893 ls []) := by
  obtain ⟨⟨hx, hb, hml, hown, hts⟩, ⟨hX, hbl⟩, hG1, hG2, hge1, hge2, hdis⟩ := id C
  unfold st_22 at hf
  refine lv_aload_n hx hb dL_law_893 rfl (lv_at hl 2 rfl) ?_
  refine lv_aload_n hx hb dL_law_894 rfl (lv_at hl 3 rfl) ?_
  refine lv_iload_n hx hb dL_law_895 rfl (lv_at hl 0 rfl) ?_
  refine lv_iconst (v := 1) hx hb dL_law_896 (by decide) ?_
  refine lv_iadd hx hb dL_law_897 ?_
  refine g_sld (j := i + 1) hx hb hX hbl hS (by rw [ex3]; exact nI_add i 1) (by omega) hL dL_law_898 ?_
  obtain ⟨r1, s1, hr1, hf⟩ := ob2 hf
  refine g_Lvi (σ' := s1) (As := [.int (xs (i + 1))]) (rest := []) (C := RX6) (T := TX6) (N := 11) (ci := 6) C.1 hG1 hge1 hP1 hS (r := r1) (c_X6_drift hr1) in_0 sh_0 rfl lk768 lk93 lk765 lk766 lk767 yd_X6_drift rfl rfl hl.1 rfl (Nat.le_of_ble_eq_true rfl) ⟨Nat.le_of_ble_eq_true rfl, Nat.le_of_ble_eq_true rfl⟩ dL_law_899 (fun H1 locs hq hk hS => ?_)
  have hP2 := keptW hdis hP2 hk
  have hP1 := hq
  generalize H1 = H at hP1 hP2 hS ⊢
  refine lv_aload_n hx hb dL_law_902 rfl (lv_at hl 1 rfl) ?_
  refine lv_aload_n hx hb dL_law_903 rfl (lv_at hl 3 rfl) ?_
  refine lv_iload_n hx hb dL_law_904 rfl (lv_at hl 0 rfl) ?_
  refine lv_iconst (v := 1) hx hb dL_law_905 (by decide) ?_
  refine lv_iadd hx hb dL_law_906 ?_
  refine g_sld (j := i + 1) hx hb hX hbl hS (by rw [ex3]; exact nI_add i 1) (by omega) hL dL_law_907 ?_
  obtain ⟨r2, s2, hr2, hf⟩ := ob2 hf
  refine g_Lvi (σ' := s2) (As := [.int (xs (i + 1))]) (rest := [.int r1]) (C := RX7) (T := TX7) (N := 28) (ci := 7) C.1 hG2 hge2 hP2 hS (r := r2) (c_X7_drift hr2) in_122 sh_122 rfl lk1309 lk100 lk1306 lk1307 lk1308 yd_X7_drift rfl rfl hl.1 rfl (Nat.le_of_ble_eq_true rfl) ⟨Nat.le_of_ble_eq_true rfl, Nat.le_of_ble_eq_true rfl⟩ dL_law_908 (fun H1 locs hq hk hS => ?_)
  have hP1 := keptW (fun j k hj hk e => hdis k j hk hj e.symm) hP1 hk
  have hP2 := hq
  generalize H1 = H at hP1 hP2 hS ⊢
  obtain ⟨hre, hf2⟩ := itE hf
  subst hre
  refine lv_icmp_eq (tgt := 1276) hx hb dL_law_911 (by decide) (fun _ => ?_) (fun h => absurd rfl h)
  cases hf2
  exact kk _ _ hP1 hP2 hS
set_option maxRecDepth 100000 in
set_option maxHeartbeats 4000000 in
theorem law_23 {p : Program} {l : Launch} {e : Env} {s : State} {m : MethodId} {below : List Frame} {meth : Method} {c : Code} {G : Gm} {b L : Nat} {xs : Nat → Int32} (C : LC p s m meth c b L xs G) {i : Nat} (hi : i + 6 ≤ L) (hL : L ≤ 3072) {σ τ : Sto} {Z : Sto × Sto} (hf : st_23  σ τ = some Z) {H : Heap} {locs : List Loc} {ls : Array Slot} {x3 : Int32} (ex3 : x3 = nI i) (hP1 : va_P G.2.1 vwCl (WS rC G σ) H) (hP2 : va_P G.2.1 vwCl (WS rM G τ) H) (hS : va_S (AL s) s.heap H locs) (hl : lv_has ls 4 [(3, .int x3), (2, .ref (G.1 122)), (1, .ref (G.1 0)), (0, .ref b)]) {Q : State → Prop} (kk : ∀ (H : Heap) (locs : List Loc), va_P G.2.1 vwCl (WS rC G Z.1) H → va_P G.2.1 vwCl (WS rM G Z.2) H → va_S (AL s) s.heap H locs → W p l e room_1 s m #[Value.ref b] below meth c H locs 144 2496 Q (F0 m 1276 ls [])) : W p l e room_1 s m #[Value.ref b] below meth c H locs 144 2496 Q (F0 m 916 ls []) := by
  obtain ⟨⟨hx, hb, hml, hown, hts⟩, ⟨hX, hbl⟩, hG1, hG2, hge1, hge2, hdis⟩ := id C
  unfold st_23 at hf
  refine lv_aload_n hx hb dL_law_916 rfl (lv_at hl 2 rfl) ?_
  obtain ⟨r1, s1, hr1, hf⟩ := ob2 hf
  refine g_Lvi (σ' := s1) (As := []) (rest := []) (C := RX6) (T := TX6) (N := 11) (ci := 6) C.1 hG1 hge1 hP1 hS (r := r1) (c_X6_undo hr1) in_0 sh_0 rfl lk780 lk93 lk777 lk778 lk779 yd_X6_undo rfl rfl hl.1 rfl (Nat.le_of_ble_eq_true rfl) ⟨Nat.le_of_ble_eq_true rfl, Nat.le_of_ble_eq_true rfl⟩ dL_law_917 (fun H1 locs hq hk hS => ?_)
  have hP2 := keptW hdis hP2 hk
  have hP1 := hq
  generalize H1 = H at hP1 hP2 hS ⊢
  refine lv_aload_n hx hb dL_law_920 rfl (lv_at hl 1 rfl) ?_
  obtain ⟨r2, s2, hr2, hf⟩ := ob2 hf
  refine g_Lvi (σ' := s2) (As := []) (rest := [.int r1]) (C := RX7) (T := TX7) (N := 28) (ci := 7) C.1 hG2 hge2 hP2 hS (r := r2) (c_X7_undo hr2) in_122 sh_122 rfl lk1322 lk100 lk1319 lk1320 lk1321 yd_X7_undo rfl rfl hl.1 rfl (Nat.le_of_ble_eq_true rfl) ⟨Nat.le_of_ble_eq_true rfl, Nat.le_of_ble_eq_true rfl⟩ dL_law_921 (fun H1 locs hq hk hS => ?_)
  have hP1 := keptW (fun j k hj hk e => hdis k j hk hj e.symm) hP1 hk
  have hP2 := hq
  generalize H1 = H at hP1 hP2 hS ⊢
  obtain ⟨hre, hf2⟩ := itE hf
  subst hre
  refine lv_icmp_eq (tgt := 1276) hx hb dL_law_924 (by decide) (fun _ => ?_) (fun h => absurd rfl h)
  cases hf2
  exact kk _ _ hP1 hP2 hS
set_option maxRecDepth 100000 in
set_option maxHeartbeats 4000000 in
theorem law_24 {p : Program} {l : Launch} {e : Env} {s : State} {m : MethodId} {below : List Frame} {meth : Method} {c : Code} {G : Gm} {b L : Nat} {xs : Nat → Int32} (C : LC p s m meth c b L xs G) {i : Nat} (hi : i + 6 ≤ L) (hL : L ≤ 3072) {σ τ : Sto} {Z : Sto × Sto} (hf : st_24 (xs (i + 1)) σ τ = some Z) {H : Heap} {locs : List Loc} {ls : Array Slot} {x3 : Int32} (ex3 : x3 = nI i) (hP1 : va_P G.2.1 vwCl (WS rC G σ) H) (hP2 : va_P G.2.1 vwCl (WS rM G τ) H) (hS : va_S (AL s) s.heap H locs) (hl : lv_has ls 4 [(3, .int x3), (2, .ref (G.1 122)), (1, .ref (G.1 0)), (0, .ref b)]) {Q : State → Prop} (kk : ∀ (H : Heap) (locs : List Loc), va_P G.2.1 vwCl (WS rC G Z.1) H → va_P G.2.1 vwCl (WS rM G Z.2) H → va_S (AL s) s.heap H locs → W p l e room_1 s m #[Value.ref b] below meth c H locs 144 2496 Q (F0 m 1276 ls [])) : W p l e room_1 s m #[Value.ref b] below meth c H locs 144 2496 Q (F0 m 929 ls []) := by
  obtain ⟨⟨hx, hb, hml, hown, hts⟩, ⟨hX, hbl⟩, hG1, hG2, hge1, hge2, hdis⟩ := id C
  unfold st_24 at hf
  refine lv_aload_n hx hb dL_law_929 rfl (lv_at hl 2 rfl) ?_
  refine lv_aload_n hx hb dL_law_930 rfl (lv_at hl 3 rfl) ?_
  refine lv_iload_n hx hb dL_law_931 rfl (lv_at hl 0 rfl) ?_
  refine lv_iconst (v := 1) hx hb dL_law_932 (by decide) ?_
  refine lv_iadd hx hb dL_law_933 ?_
  refine g_sld (j := i + 1) hx hb hX hbl hS (by rw [ex3]; exact nI_add i 1) (by omega) hL dL_law_934 ?_
  obtain ⟨r1, s1, hr1, hf⟩ := ob2 hf
  refine g_Lvi (σ' := s1) (As := [.int (xs (i + 1))]) (rest := []) (C := RX6) (T := TX6) (N := 11) (ci := 6) C.1 hG1 hge1 hP1 hS (r := r1) (c_X6_seed hr1) in_0 sh_0 rfl lk788 lk93 lk785 lk786 lk787 yd_X6_seed rfl rfl hl.1 rfl (Nat.le_of_ble_eq_true rfl) ⟨Nat.le_of_ble_eq_true rfl, Nat.le_of_ble_eq_true rfl⟩ dL_law_935 (fun H1 locs hq hk hS => ?_)
  have hP2 := keptW hdis hP2 hk
  have hP1 := hq
  generalize H1 = H at hP1 hP2 hS ⊢
  refine lv_aload_n hx hb dL_law_938 rfl (lv_at hl 1 rfl) ?_
  refine lv_aload_n hx hb dL_law_939 rfl (lv_at hl 3 rfl) ?_
  refine lv_iload_n hx hb dL_law_940 rfl (lv_at hl 0 rfl) ?_
  refine lv_iconst (v := 1) hx hb dL_law_941 (by decide) ?_
  refine lv_iadd hx hb dL_law_942 ?_
  refine g_sld (j := i + 1) hx hb hX hbl hS (by rw [ex3]; exact nI_add i 1) (by omega) hL dL_law_943 ?_
  obtain ⟨r2, s2, hr2, hf⟩ := ob2 hf
  refine g_Lvi (σ' := s2) (As := [.int (xs (i + 1))]) (rest := [.int r1]) (C := RX7) (T := TX7) (N := 28) (ci := 7) C.1 hG2 hge2 hP2 hS (r := r2) (c_X7_seed hr2) in_122 sh_122 rfl lk1326 lk100 lk1323 lk1324 lk1325 yd_X7_seed rfl rfl hl.1 rfl (Nat.le_of_ble_eq_true rfl) ⟨Nat.le_of_ble_eq_true rfl, Nat.le_of_ble_eq_true rfl⟩ dL_law_944 (fun H1 locs hq hk hS => ?_)
  have hP1 := keptW (fun j k hj hk e => hdis k j hk hj e.symm) hP1 hk
  have hP2 := hq
  generalize H1 = H at hP1 hP2 hS ⊢
  obtain ⟨hre, hf2⟩ := itE hf
  subst hre
  refine lv_icmp_eq (tgt := 1276) hx hb dL_law_947 (by decide) (fun _ => ?_) (fun h => absurd rfl h)
  cases hf2
  exact kk _ _ hP1 hP2 hS
set_option maxRecDepth 100000 in
set_option maxHeartbeats 4000000 in
theorem law_25 {p : Program} {l : Launch} {e : Env} {s : State} {m : MethodId} {below : List Frame} {meth : Method} {c : Code} {G : Gm} {b L : Nat} {xs : Nat → Int32} (C : LC p s m meth c b L xs G) {i : Nat} (hi : i + 6 ≤ L) (hL : L ≤ 3072) {σ τ : Sto} {Z : Sto × Sto} (hf : st_25  σ τ = some Z) {H : Heap} {locs : List Loc} {ls : Array Slot} {x3 : Int32} (ex3 : x3 = nI i) (hP1 : va_P G.2.1 vwCl (WS rC G σ) H) (hP2 : va_P G.2.1 vwCl (WS rM G τ) H) (hS : va_S (AL s) s.heap H locs) (hl : lv_has ls 4 [(3, .int x3), (2, .ref (G.1 122)), (1, .ref (G.1 0)), (0, .ref b)]) {Q : State → Prop} (kk : ∀ (H : Heap) (locs : List Loc), va_P G.2.1 vwCl (WS rC G Z.1) H → va_P G.2.1 vwCl (WS rM G Z.2) H → va_S (AL s) s.heap H locs → W p l e room_1 s m #[Value.ref b] below meth c H locs 144 2496 Q (F0 m 1276 ls [])) : W p l e room_1 s m #[Value.ref b] below meth c H locs 144 2496 Q (F0 m 952 ls []) := by
  obtain ⟨⟨hx, hb, hml, hown, hts⟩, ⟨hX, hbl⟩, hG1, hG2, hge1, hge2, hdis⟩ := id C
  unfold st_25 at hf
  refine lv_aload_n hx hb dL_law_952 rfl (lv_at hl 2 rfl) ?_
  obtain ⟨r1, s1, hr1, hf⟩ := ob2 hf
  refine g_Lvi (σ' := s1) (As := []) (rest := []) (C := RX6) (T := TX6) (N := 11) (ci := 6) C.1 hG1 hge1 hP1 hS (r := r1) (c_X6_image hr1) in_0 sh_0 rfl lk792 lk93 lk789 lk790 lk791 yd_X6_image rfl rfl hl.1 rfl (Nat.le_of_ble_eq_true rfl) ⟨Nat.le_of_ble_eq_true rfl, Nat.le_of_ble_eq_true rfl⟩ dL_law_953 (fun H1 locs hq hk hS => ?_)
  have hP2 := keptW hdis hP2 hk
  have hP1 := hq
  generalize H1 = H at hP1 hP2 hS ⊢
  refine lv_aload_n hx hb dL_law_956 rfl (lv_at hl 1 rfl) ?_
  obtain ⟨r2, s2, hr2, hf⟩ := ob2 hf
  refine g_Lvi (σ' := s2) (As := []) (rest := [.int r1]) (C := RX7) (T := TX7) (N := 28) (ci := 7) C.1 hG2 hge2 hP2 hS (r := r2) (c_X7_image hr2) in_122 sh_122 rfl lk1330 lk100 lk1327 lk1328 lk1329 yd_X7_image rfl rfl hl.1 rfl (Nat.le_of_ble_eq_true rfl) ⟨Nat.le_of_ble_eq_true rfl, Nat.le_of_ble_eq_true rfl⟩ dL_law_957 (fun H1 locs hq hk hS => ?_)
  have hP1 := keptW (fun j k hj hk e => hdis k j hk hj e.symm) hP1 hk
  have hP2 := hq
  generalize H1 = H at hP1 hP2 hS ⊢
  obtain ⟨hre, hf2⟩ := itE hf
  subst hre
  refine lv_icmp_eq (tgt := 1276) hx hb dL_law_960 (by decide) (fun _ => ?_) (fun h => absurd rfl h)
  cases hf2
  exact kk _ _ hP1 hP2 hS
set_option maxRecDepth 100000 in
set_option maxHeartbeats 4000000 in
theorem law_26 {p : Program} {l : Launch} {e : Env} {s : State} {m : MethodId} {below : List Frame} {meth : Method} {c : Code} {G : Gm} {b L : Nat} {xs : Nat → Int32} (C : LC p s m meth c b L xs G) {i : Nat} (hi : i + 6 ≤ L) (hL : L ≤ 3072) {σ τ : Sto} {Z : Sto × Sto} (hf : st_26  σ τ = some Z) {H : Heap} {locs : List Loc} {ls : Array Slot} {x3 : Int32} (ex3 : x3 = nI i) (hP1 : va_P G.2.1 vwCl (WS rC G σ) H) (hP2 : va_P G.2.1 vwCl (WS rM G τ) H) (hS : va_S (AL s) s.heap H locs) (hl : lv_has ls 4 [(3, .int x3), (2, .ref (G.1 122)), (1, .ref (G.1 0)), (0, .ref b)]) {Q : State → Prop} (kk : ∀ (H : Heap) (locs : List Loc), va_P G.2.1 vwCl (WS rC G Z.1) H → va_P G.2.1 vwCl (WS rM G Z.2) H → va_S (AL s) s.heap H locs → W p l e room_1 s m #[Value.ref b] below meth c H locs 144 2496 Q (F0 m 1276 ls [])) : W p l e room_1 s m #[Value.ref b] below meth c H locs 144 2496 Q (F0 m 965 ls []) := by
  obtain ⟨⟨hx, hb, hml, hown, hts⟩, ⟨hX, hbl⟩, hG1, hG2, hge1, hge2, hdis⟩ := id C
  unfold st_26 at hf
  refine lv_aload_n hx hb dL_law_965 rfl (lv_at hl 2 rfl) ?_
  obtain ⟨r1, s1, hr1, hf⟩ := ob2 hf
  refine g_Lvi (σ' := s1) (As := []) (rest := []) (C := RX6) (T := TX6) (N := 11) (ci := 6) C.1 hG1 hge1 hP1 hS (r := r1) (c_X6_restore hr1) in_0 sh_0 rfl lk801 lk93 lk798 lk799 lk800 yd_X6_restore rfl rfl hl.1 rfl (Nat.le_of_ble_eq_true rfl) ⟨Nat.le_of_ble_eq_true rfl, Nat.le_of_ble_eq_true rfl⟩ dL_law_966 (fun H1 locs hq hk hS => ?_)
  have hP2 := keptW hdis hP2 hk
  have hP1 := hq
  generalize H1 = H at hP1 hP2 hS ⊢
  refine lv_aload_n hx hb dL_law_969 rfl (lv_at hl 1 rfl) ?_
  obtain ⟨r2, s2, hr2, hf⟩ := ob2 hf
  refine g_Lvi (σ' := s2) (As := []) (rest := [.int r1]) (C := RX7) (T := TX7) (N := 28) (ci := 7) C.1 hG2 hge2 hP2 hS (r := r2) (c_X7_restore hr2) in_122 sh_122 rfl lk1334 lk100 lk1331 lk1332 lk1333 yd_X7_restore rfl rfl hl.1 rfl (Nat.le_of_ble_eq_true rfl) ⟨Nat.le_of_ble_eq_true rfl, Nat.le_of_ble_eq_true rfl⟩ dL_law_970 (fun H1 locs hq hk hS => ?_)
  have hP1 := keptW (fun j k hj hk e => hdis k j hk hj e.symm) hP1 hk
  have hP2 := hq
  generalize H1 = H at hP1 hP2 hS ⊢
  obtain ⟨hre, hf2⟩ := itE hf
  subst hre
  refine lv_icmp_eq (tgt := 1276) hx hb dL_law_973 (by decide) (fun _ => ?_) (fun h => absurd rfl h)
  cases hf2
  exact kk _ _ hP1 hP2 hS
set_option maxRecDepth 100000 in
set_option maxHeartbeats 4000000 in
theorem law_27 {p : Program} {l : Launch} {e : Env} {s : State} {m : MethodId} {below : List Frame} {meth : Method} {c : Code} {G : Gm} {b L : Nat} {xs : Nat → Int32} (C : LC p s m meth c b L xs G) {i : Nat} (hi : i + 6 ≤ L) (hL : L ≤ 3072) {σ τ : Sto} {Z : Sto × Sto} (hf : st_27 (xs (i + 1)) (xs (i + 2)) (xs (i + 3)) σ τ = some Z) {H : Heap} {locs : List Loc} {ls : Array Slot} {x3 : Int32} (ex3 : x3 = nI i) (hP1 : va_P G.2.1 vwCl (WS rC G σ) H) (hP2 : va_P G.2.1 vwCl (WS rM G τ) H) (hS : va_S (AL s) s.heap H locs) (hl : lv_has ls 4 [(3, .int x3), (2, .ref (G.1 122)), (1, .ref (G.1 0)), (0, .ref b)]) {Q : State → Prop} (kk : ∀ (H : Heap) (locs : List Loc), va_P G.2.1 vwCl (WS rC G Z.1) H → va_P G.2.1 vwCl (WS rM G Z.2) H → va_S (AL s) s.heap H locs → W p l e room_1 s m #[Value.ref b] below meth c H locs 144 2496 Q (F0 m 1276 ls [])) : W p l e room_1 s m #[Value.ref b] below meth c H locs 144 2496 Q (F0 m 978 ls []) := by
  obtain ⟨⟨hx, hb, hml, hown, hts⟩, ⟨hX, hbl⟩, hG1, hG2, hge1, hge2, hdis⟩ := id C
  unfold st_27 at hf
  refine lv_aload_n hx hb dL_law_978 rfl (lv_at hl 2 rfl) ?_
  refine lv_aload_n hx hb dL_law_979 rfl (lv_at hl 3 rfl) ?_
  refine lv_iload_n hx hb dL_law_980 rfl (lv_at hl 0 rfl) ?_
  refine lv_iconst (v := 1) hx hb dL_law_981 (by decide) ?_
  refine lv_iadd hx hb dL_law_982 ?_
  refine g_sld (j := i + 1) hx hb hX hbl hS (by rw [ex3]; exact nI_add i 1) (by omega) hL dL_law_983 ?_
  refine lv_aload_n hx hb dL_law_984 rfl (lv_at hl 3 rfl) ?_
  refine lv_iload_n hx hb dL_law_985 rfl (lv_at hl 0 rfl) ?_
  refine lv_iconst (v := 2) hx hb dL_law_986 (by decide) ?_
  refine lv_iadd hx hb dL_law_987 ?_
  refine g_sld (j := i + 2) hx hb hX hbl hS (by rw [ex3]; exact nI_add i 2) (by omega) hL dL_law_988 ?_
  refine lv_aload_n hx hb dL_law_989 rfl (lv_at hl 3 rfl) ?_
  refine lv_iload_n hx hb dL_law_990 rfl (lv_at hl 0 rfl) ?_
  refine lv_iconst (v := 3) hx hb dL_law_991 (by decide) ?_
  refine lv_iadd hx hb dL_law_992 ?_
  refine g_sld (j := i + 3) hx hb hX hbl hS (by rw [ex3]; exact nI_add i 3) (by omega) hL dL_law_993 ?_
  obtain ⟨r1, s1, hr1, hf⟩ := ob2 hf
  refine g_Lvi (σ' := s1) (As := [.int (xs (i + 1)), .int (xs (i + 2)), .int (xs (i + 3))]) (rest := []) (C := RX6) (T := TX6) (N := 11) (ci := 6) C.1 hG1 hge1 hP1 hS (r := r1) (c_X6_what hr1) in_0 sh_0 rfl lk805 lk93 lk802 lk803 lk804 yd_X6_what rfl rfl hl.1 rfl (Nat.le_of_ble_eq_true rfl) ⟨Nat.le_of_ble_eq_true rfl, Nat.le_of_ble_eq_true rfl⟩ dL_law_994 (fun H1 locs hq hk hS => ?_)
  have hP2 := keptW hdis hP2 hk
  have hP1 := hq
  generalize H1 = H at hP1 hP2 hS ⊢
  refine lv_aload_n hx hb dL_law_997 rfl (lv_at hl 1 rfl) ?_
  refine lv_aload_n hx hb dL_law_998 rfl (lv_at hl 3 rfl) ?_
  refine lv_iload_n hx hb dL_law_999 rfl (lv_at hl 0 rfl) ?_
  refine lv_iconst (v := 1) hx hb dL_law_1000 (by decide) ?_
  refine lv_iadd hx hb dL_law_1001 ?_
  refine g_sld (j := i + 1) hx hb hX hbl hS (by rw [ex3]; exact nI_add i 1) (by omega) hL dL_law_1002 ?_
  refine lv_aload_n hx hb dL_law_1003 rfl (lv_at hl 3 rfl) ?_
  refine lv_iload_n hx hb dL_law_1004 rfl (lv_at hl 0 rfl) ?_
  refine lv_iconst (v := 2) hx hb dL_law_1005 (by decide) ?_
  refine lv_iadd hx hb dL_law_1006 ?_
  refine g_sld (j := i + 2) hx hb hX hbl hS (by rw [ex3]; exact nI_add i 2) (by omega) hL dL_law_1007 ?_
  refine lv_aload_n hx hb dL_law_1008 rfl (lv_at hl 3 rfl) ?_
  refine lv_iload_n hx hb dL_law_1009 rfl (lv_at hl 0 rfl) ?_
  refine lv_iconst (v := 3) hx hb dL_law_1010 (by decide) ?_
  refine lv_iadd hx hb dL_law_1011 ?_
  refine g_sld (j := i + 3) hx hb hX hbl hS (by rw [ex3]; exact nI_add i 3) (by omega) hL dL_law_1012 ?_
  obtain ⟨r2, s2, hr2, hf⟩ := ob2 hf
  refine g_Lvi (σ' := s2) (As := [.int (xs (i + 1)), .int (xs (i + 2)), .int (xs (i + 3))]) (rest := [.int r1]) (C := RX7) (T := TX7) (N := 28) (ci := 7) C.1 hG2 hge2 hP2 hS (r := r2) (c_X7_what hr2) in_122 sh_122 rfl lk1338 lk100 lk1335 lk1336 lk1337 yd_X7_what rfl rfl hl.1 rfl (Nat.le_of_ble_eq_true rfl) ⟨Nat.le_of_ble_eq_true rfl, Nat.le_of_ble_eq_true rfl⟩ dL_law_1013 (fun H1 locs hq hk hS => ?_)
  have hP1 := keptW (fun j k hj hk e => hdis k j hk hj e.symm) hP1 hk
  have hP2 := hq
  generalize H1 = H at hP1 hP2 hS ⊢
  obtain ⟨hre, hf2⟩ := itE hf
  subst hre
  refine lv_icmp_eq (tgt := 1276) hx hb dL_law_1016 (by decide) (fun _ => ?_) (fun h => absurd rfl h)
  cases hf2
  exact kk _ _ hP1 hP2 hS
set_option maxRecDepth 100000 in
set_option maxHeartbeats 4000000 in
theorem law_28 {p : Program} {l : Launch} {e : Env} {s : State} {m : MethodId} {below : List Frame} {meth : Method} {c : Code} {G : Gm} {b L : Nat} {xs : Nat → Int32} (C : LC p s m meth c b L xs G) {i : Nat} (hi : i + 6 ≤ L) (hL : L ≤ 3072) {σ τ : Sto} {Z : Sto × Sto} (hf : st_28 (xs (i + 1)) (xs (i + 2)) (xs (i + 3)) σ τ = some Z) {H : Heap} {locs : List Loc} {ls : Array Slot} {x3 : Int32} (ex3 : x3 = nI i) (hP1 : va_P G.2.1 vwCl (WS rC G σ) H) (hP2 : va_P G.2.1 vwCl (WS rM G τ) H) (hS : va_S (AL s) s.heap H locs) (hl : lv_has ls 4 [(3, .int x3), (2, .ref (G.1 122)), (1, .ref (G.1 0)), (0, .ref b)]) {Q : State → Prop} (kk : ∀ (H : Heap) (locs : List Loc), va_P G.2.1 vwCl (WS rC G Z.1) H → va_P G.2.1 vwCl (WS rM G Z.2) H → va_S (AL s) s.heap H locs → W p l e room_1 s m #[Value.ref b] below meth c H locs 144 2496 Q (F0 m 1276 ls [])) : W p l e room_1 s m #[Value.ref b] below meth c H locs 144 2496 Q (F0 m 1021 ls []) := by
  obtain ⟨⟨hx, hb, hml, hown, hts⟩, ⟨hX, hbl⟩, hG1, hG2, hge1, hge2, hdis⟩ := id C
  unfold st_28 at hf
  refine lv_aload_n hx hb dL_law_1021 rfl (lv_at hl 2 rfl) ?_
  refine lv_aload_n hx hb dL_law_1022 rfl (lv_at hl 3 rfl) ?_
  refine lv_iload_n hx hb dL_law_1023 rfl (lv_at hl 0 rfl) ?_
  refine lv_iconst (v := 1) hx hb dL_law_1024 (by decide) ?_
  refine lv_iadd hx hb dL_law_1025 ?_
  refine g_sld (j := i + 1) hx hb hX hbl hS (by rw [ex3]; exact nI_add i 1) (by omega) hL dL_law_1026 ?_
  refine lv_aload_n hx hb dL_law_1027 rfl (lv_at hl 3 rfl) ?_
  refine lv_iload_n hx hb dL_law_1028 rfl (lv_at hl 0 rfl) ?_
  refine lv_iconst (v := 2) hx hb dL_law_1029 (by decide) ?_
  refine lv_iadd hx hb dL_law_1030 ?_
  refine g_sld (j := i + 2) hx hb hX hbl hS (by rw [ex3]; exact nI_add i 2) (by omega) hL dL_law_1031 ?_
  refine lv_aload_n hx hb dL_law_1032 rfl (lv_at hl 3 rfl) ?_
  refine lv_iload_n hx hb dL_law_1033 rfl (lv_at hl 0 rfl) ?_
  refine lv_iconst (v := 3) hx hb dL_law_1034 (by decide) ?_
  refine lv_iadd hx hb dL_law_1035 ?_
  refine g_sld (j := i + 3) hx hb hX hbl hS (by rw [ex3]; exact nI_add i 3) (by omega) hL dL_law_1036 ?_
  obtain ⟨r1, s1, hr1, hf⟩ := ob2 hf
  refine g_Lvi (σ' := s1) (As := [.int (xs (i + 1)), .int (xs (i + 2)), .int (xs (i + 3))]) (rest := []) (C := RX6) (T := TX6) (N := 11) (ci := 6) C.1 hG1 hge1 hP1 hS (r := r1) (c_X6_film hr1) in_0 sh_0 rfl lk841 lk93 lk838 lk839 lk840 yd_X6_film rfl rfl hl.1 rfl (Nat.le_of_ble_eq_true rfl) ⟨Nat.le_of_ble_eq_true rfl, Nat.le_of_ble_eq_true rfl⟩ dL_law_1037 (fun H1 locs hq hk hS => ?_)
  have hP2 := keptW hdis hP2 hk
  have hP1 := hq
  generalize H1 = H at hP1 hP2 hS ⊢
  refine lv_aload_n hx hb dL_law_1040 rfl (lv_at hl 1 rfl) ?_
  refine lv_aload_n hx hb dL_law_1041 rfl (lv_at hl 3 rfl) ?_
  refine lv_iload_n hx hb dL_law_1042 rfl (lv_at hl 0 rfl) ?_
  refine lv_iconst (v := 1) hx hb dL_law_1043 (by decide) ?_
  refine lv_iadd hx hb dL_law_1044 ?_
  refine g_sld (j := i + 1) hx hb hX hbl hS (by rw [ex3]; exact nI_add i 1) (by omega) hL dL_law_1045 ?_
  refine lv_aload_n hx hb dL_law_1046 rfl (lv_at hl 3 rfl) ?_
  refine lv_iload_n hx hb dL_law_1047 rfl (lv_at hl 0 rfl) ?_
  refine lv_iconst (v := 2) hx hb dL_law_1048 (by decide) ?_
  refine lv_iadd hx hb dL_law_1049 ?_
  refine g_sld (j := i + 2) hx hb hX hbl hS (by rw [ex3]; exact nI_add i 2) (by omega) hL dL_law_1050 ?_
  refine lv_aload_n hx hb dL_law_1051 rfl (lv_at hl 3 rfl) ?_
  refine lv_iload_n hx hb dL_law_1052 rfl (lv_at hl 0 rfl) ?_
  refine lv_iconst (v := 3) hx hb dL_law_1053 (by decide) ?_
  refine lv_iadd hx hb dL_law_1054 ?_
  refine g_sld (j := i + 3) hx hb hX hbl hS (by rw [ex3]; exact nI_add i 3) (by omega) hL dL_law_1055 ?_
  obtain ⟨r2, s2, hr2, hf⟩ := ob2 hf
  refine g_Lvi (σ' := s2) (As := [.int (xs (i + 1)), .int (xs (i + 2)), .int (xs (i + 3))]) (rest := [.int r1]) (C := RX7) (T := TX7) (N := 28) (ci := 7) C.1 hG2 hge2 hP2 hS (r := r2) (c_X7_film hr2) in_122 sh_122 rfl lk1360 lk100 lk1357 lk1358 lk1359 yd_X7_film rfl rfl hl.1 rfl (Nat.le_of_ble_eq_true rfl) ⟨Nat.le_of_ble_eq_true rfl, Nat.le_of_ble_eq_true rfl⟩ dL_law_1056 (fun H1 locs hq hk hS => ?_)
  have hP1 := keptW (fun j k hj hk e => hdis k j hk hj e.symm) hP1 hk
  have hP2 := hq
  generalize H1 = H at hP1 hP2 hS ⊢
  obtain ⟨hre, hf2⟩ := itE hf
  subst hre
  refine lv_icmp_eq (tgt := 1276) hx hb dL_law_1059 (by decide) (fun _ => ?_) (fun h => absurd rfl h)
  cases hf2
  exact kk _ _ hP1 hP2 hS
set_option maxRecDepth 100000 in
set_option maxHeartbeats 4000000 in
theorem law_29 {p : Program} {l : Launch} {e : Env} {s : State} {m : MethodId} {below : List Frame} {meth : Method} {c : Code} {G : Gm} {b L : Nat} {xs : Nat → Int32} (C : LC p s m meth c b L xs G) {i : Nat} (hi : i + 6 ≤ L) (hL : L ≤ 3072) {σ τ : Sto} {Z : Sto × Sto} (hf : st_29 (xs (i + 1)) (xs (i + 2)) (xs (i + 3)) σ τ = some Z) {H : Heap} {locs : List Loc} {ls : Array Slot} {x3 : Int32} (ex3 : x3 = nI i) (hP1 : va_P G.2.1 vwCl (WS rC G σ) H) (hP2 : va_P G.2.1 vwCl (WS rM G τ) H) (hS : va_S (AL s) s.heap H locs) (hl : lv_has ls 4 [(3, .int x3), (2, .ref (G.1 122)), (1, .ref (G.1 0)), (0, .ref b)]) {Q : State → Prop} (kk : ∀ (H : Heap) (locs : List Loc), va_P G.2.1 vwCl (WS rC G Z.1) H → va_P G.2.1 vwCl (WS rM G Z.2) H → va_S (AL s) s.heap H locs → W p l e room_1 s m #[Value.ref b] below meth c H locs 144 2496 Q (F0 m 1276 ls [])) : W p l e room_1 s m #[Value.ref b] below meth c H locs 144 2496 Q (F0 m 1064 ls []) := by
  obtain ⟨⟨hx, hb, hml, hown, hts⟩, ⟨hX, hbl⟩, hG1, hG2, hge1, hge2, hdis⟩ := id C
  unfold st_29 at hf
  refine lv_aload_n hx hb dL_law_1064 rfl (lv_at hl 2 rfl) ?_
  refine lv_aload_n hx hb dL_law_1065 rfl (lv_at hl 3 rfl) ?_
  refine lv_iload_n hx hb dL_law_1066 rfl (lv_at hl 0 rfl) ?_
  refine lv_iconst (v := 1) hx hb dL_law_1067 (by decide) ?_
  refine lv_iadd hx hb dL_law_1068 ?_
  refine g_sld (j := i + 1) hx hb hX hbl hS (by rw [ex3]; exact nI_add i 1) (by omega) hL dL_law_1069 ?_
  refine lv_aload_n hx hb dL_law_1070 rfl (lv_at hl 3 rfl) ?_
  refine lv_iload_n hx hb dL_law_1071 rfl (lv_at hl 0 rfl) ?_
  refine lv_iconst (v := 2) hx hb dL_law_1072 (by decide) ?_
  refine lv_iadd hx hb dL_law_1073 ?_
  refine g_sld (j := i + 2) hx hb hX hbl hS (by rw [ex3]; exact nI_add i 2) (by omega) hL dL_law_1074 ?_
  refine lv_aload_n hx hb dL_law_1075 rfl (lv_at hl 3 rfl) ?_
  refine lv_iload_n hx hb dL_law_1076 rfl (lv_at hl 0 rfl) ?_
  refine lv_iconst (v := 3) hx hb dL_law_1077 (by decide) ?_
  refine lv_iadd hx hb dL_law_1078 ?_
  refine g_sld (j := i + 3) hx hb hX hbl hS (by rw [ex3]; exact nI_add i 3) (by omega) hL dL_law_1079 ?_
  obtain ⟨r1, s1, hr1, hf⟩ := ob2 hf
  refine g_Lvi (σ' := s1) (As := [.int (xs (i + 1)), .int (xs (i + 2)), .int (xs (i + 3))]) (rest := []) (C := RX6) (T := TX6) (N := 11) (ci := 6) C.1 hG1 hge1 hP1 hS (r := r1) (c_X6_sheet hr1) in_0 sh_0 rfl lk849 lk93 lk846 lk847 lk848 yd_X6_sheet rfl rfl hl.1 rfl (Nat.le_of_ble_eq_true rfl) ⟨Nat.le_of_ble_eq_true rfl, Nat.le_of_ble_eq_true rfl⟩ dL_law_1080 (fun H1 locs hq hk hS => ?_)
  have hP2 := keptW hdis hP2 hk
  have hP1 := hq
  generalize H1 = H at hP1 hP2 hS ⊢
  refine lv_aload_n hx hb dL_law_1083 rfl (lv_at hl 1 rfl) ?_
  refine lv_aload_n hx hb dL_law_1084 rfl (lv_at hl 3 rfl) ?_
  refine lv_iload_n hx hb dL_law_1085 rfl (lv_at hl 0 rfl) ?_
  refine lv_iconst (v := 1) hx hb dL_law_1086 (by decide) ?_
  refine lv_iadd hx hb dL_law_1087 ?_
  refine g_sld (j := i + 1) hx hb hX hbl hS (by rw [ex3]; exact nI_add i 1) (by omega) hL dL_law_1088 ?_
  refine lv_aload_n hx hb dL_law_1089 rfl (lv_at hl 3 rfl) ?_
  refine lv_iload_n hx hb dL_law_1090 rfl (lv_at hl 0 rfl) ?_
  refine lv_iconst (v := 2) hx hb dL_law_1091 (by decide) ?_
  refine lv_iadd hx hb dL_law_1092 ?_
  refine g_sld (j := i + 2) hx hb hX hbl hS (by rw [ex3]; exact nI_add i 2) (by omega) hL dL_law_1093 ?_
  refine lv_aload_n hx hb dL_law_1094 rfl (lv_at hl 3 rfl) ?_
  refine lv_iload_n hx hb dL_law_1095 rfl (lv_at hl 0 rfl) ?_
  refine lv_iconst (v := 3) hx hb dL_law_1096 (by decide) ?_
  refine lv_iadd hx hb dL_law_1097 ?_
  refine g_sld (j := i + 3) hx hb hX hbl hS (by rw [ex3]; exact nI_add i 3) (by omega) hL dL_law_1098 ?_
  obtain ⟨r2, s2, hr2, hf⟩ := ob2 hf
  refine g_Lvi (σ' := s2) (As := [.int (xs (i + 1)), .int (xs (i + 2)), .int (xs (i + 3))]) (rest := [.int r1]) (C := RX7) (T := TX7) (N := 28) (ci := 7) C.1 hG2 hge2 hP2 hS (r := r2) (c_X7_sheet hr2) in_122 sh_122 rfl lk1364 lk100 lk1361 lk1362 lk1363 yd_X7_sheet rfl rfl hl.1 rfl (Nat.le_of_ble_eq_true rfl) ⟨Nat.le_of_ble_eq_true rfl, Nat.le_of_ble_eq_true rfl⟩ dL_law_1099 (fun H1 locs hq hk hS => ?_)
  have hP1 := keptW (fun j k hj hk e => hdis k j hk hj e.symm) hP1 hk
  have hP2 := hq
  generalize H1 = H at hP1 hP2 hS ⊢
  obtain ⟨hre, hf2⟩ := itE hf
  subst hre
  refine lv_icmp_eq (tgt := 1276) hx hb dL_law_1102 (by decide) (fun _ => ?_) (fun h => absurd rfl h)
  cases hf2
  exact kk _ _ hP1 hP2 hS
set_option maxRecDepth 100000 in
set_option maxHeartbeats 4000000 in
theorem law_30 {p : Program} {l : Launch} {e : Env} {s : State} {m : MethodId} {below : List Frame} {meth : Method} {c : Code} {G : Gm} {b L : Nat} {xs : Nat → Int32} (C : LC p s m meth c b L xs G) {i : Nat} (hi : i + 6 ≤ L) (hL : L ≤ 3072) {σ τ : Sto} {Z : Sto × Sto} (hf : st_30 (xs (i + 1)) σ τ = some Z) {H : Heap} {locs : List Loc} {ls : Array Slot} {x3 : Int32} (ex3 : x3 = nI i) (hP1 : va_P G.2.1 vwCl (WS rC G σ) H) (hP2 : va_P G.2.1 vwCl (WS rM G τ) H) (hS : va_S (AL s) s.heap H locs) (hl : lv_has ls 4 [(3, .int x3), (2, .ref (G.1 122)), (1, .ref (G.1 0)), (0, .ref b)]) {Q : State → Prop} (kk : ∀ (H : Heap) (locs : List Loc), va_P G.2.1 vwCl (WS rC G Z.1) H → va_P G.2.1 vwCl (WS rM G Z.2) H → va_S (AL s) s.heap H locs → W p l e room_1 s m #[Value.ref b] below meth c H locs 144 2496 Q (F0 m 1276 ls [])) : W p l e room_1 s m #[Value.ref b] below meth c H locs 144 2496 Q (F0 m 1107 ls []) := by
  obtain ⟨⟨hx, hb, hml, hown, hts⟩, ⟨hX, hbl⟩, hG1, hG2, hge1, hge2, hdis⟩ := id C
  unfold st_30 at hf
  refine lv_aload_n hx hb dL_law_1107 rfl (lv_at hl 2 rfl) ?_
  refine lv_aload_n hx hb dL_law_1108 rfl (lv_at hl 3 rfl) ?_
  refine lv_iload_n hx hb dL_law_1109 rfl (lv_at hl 0 rfl) ?_
  refine lv_iconst (v := 1) hx hb dL_law_1110 (by decide) ?_
  refine lv_iadd hx hb dL_law_1111 ?_
  refine g_sld (j := i + 1) hx hb hX hbl hS (by rw [ex3]; exact nI_add i 1) (by omega) hL dL_law_1112 ?_
  obtain ⟨r1, s1, hr1, hf⟩ := ob2 hf
  refine g_Lvi (σ' := s1) (As := [.int (xs (i + 1))]) (rest := []) (C := RX6) (T := TX6) (N := 11) (ci := 6) C.1 hG1 hge1 hP1 hS (r := r1) (c_X6_drop hr1) in_0 sh_0 rfl lk858 lk93 lk855 lk856 lk857 yd_X6_drop rfl rfl hl.1 rfl (Nat.le_of_ble_eq_true rfl) ⟨Nat.le_of_ble_eq_true rfl, Nat.le_of_ble_eq_true rfl⟩ dL_law_1113 (fun H1 locs hq hk hS => ?_)
  have hP2 := keptW hdis hP2 hk
  have hP1 := hq
  generalize H1 = H at hP1 hP2 hS ⊢
  refine lv_aload_n hx hb dL_law_1116 rfl (lv_at hl 1 rfl) ?_
  refine lv_aload_n hx hb dL_law_1117 rfl (lv_at hl 3 rfl) ?_
  refine lv_iload_n hx hb dL_law_1118 rfl (lv_at hl 0 rfl) ?_
  refine lv_iconst (v := 1) hx hb dL_law_1119 (by decide) ?_
  refine lv_iadd hx hb dL_law_1120 ?_
  refine g_sld (j := i + 1) hx hb hX hbl hS (by rw [ex3]; exact nI_add i 1) (by omega) hL dL_law_1121 ?_
  obtain ⟨r2, s2, hr2, hf⟩ := ob2 hf
  refine g_Lvi (σ' := s2) (As := [.int (xs (i + 1))]) (rest := [.int r1]) (C := RX7) (T := TX7) (N := 28) (ci := 7) C.1 hG2 hge2 hP2 hS (r := r2) (c_X7_drop hr2) in_122 sh_122 rfl lk1368 lk100 lk1365 lk1366 lk1367 yd_X7_drop rfl rfl hl.1 rfl (Nat.le_of_ble_eq_true rfl) ⟨Nat.le_of_ble_eq_true rfl, Nat.le_of_ble_eq_true rfl⟩ dL_law_1122 (fun H1 locs hq hk hS => ?_)
  have hP1 := keptW (fun j k hj hk e => hdis k j hk hj e.symm) hP1 hk
  have hP2 := hq
  generalize H1 = H at hP1 hP2 hS ⊢
  obtain ⟨hre, hf2⟩ := itE hf
  subst hre
  refine lv_icmp_eq (tgt := 1276) hx hb dL_law_1125 (by decide) (fun _ => ?_) (fun h => absurd rfl h)
  cases hf2
  exact kk _ _ hP1 hP2 hS
set_option maxRecDepth 100000 in
set_option maxHeartbeats 4000000 in
theorem law_31 {p : Program} {l : Launch} {e : Env} {s : State} {m : MethodId} {below : List Frame} {meth : Method} {c : Code} {G : Gm} {b L : Nat} {xs : Nat → Int32} (C : LC p s m meth c b L xs G) {i : Nat} (hi : i + 6 ≤ L) (hL : L ≤ 3072) {σ τ : Sto} {Z : Sto × Sto} (hf : st_31 (xs (i + 1)) (xs (i + 2)) (xs (i + 3)) (xs (i + 4)) (xs (i + 5)) σ τ = some Z) {H : Heap} {locs : List Loc} {ls : Array Slot} {x3 : Int32} (ex3 : x3 = nI i) (hP1 : va_P G.2.1 vwCl (WS rC G σ) H) (hP2 : va_P G.2.1 vwCl (WS rM G τ) H) (hS : va_S (AL s) s.heap H locs) (hl : lv_has ls 4 [(3, .int x3), (2, .ref (G.1 122)), (1, .ref (G.1 0)), (0, .ref b)]) {Q : State → Prop} (kk : ∀ (H : Heap) (locs : List Loc), va_P G.2.1 vwCl (WS rC G Z.1) H → va_P G.2.1 vwCl (WS rM G Z.2) H → va_S (AL s) s.heap H locs → W p l e room_1 s m #[Value.ref b] below meth c H locs 144 2496 Q (F0 m 1276 ls [])) : W p l e room_1 s m #[Value.ref b] below meth c H locs 144 2496 Q (F0 m 1130 ls []) := by
  obtain ⟨⟨hx, hb, hml, hown, hts⟩, ⟨hX, hbl⟩, hG1, hG2, hge1, hge2, hdis⟩ := id C
  unfold st_31 at hf
  refine lv_aload_n hx hb dL_law_1130 rfl (lv_at hl 2 rfl) ?_
  refine lv_aload_n hx hb dL_law_1131 rfl (lv_at hl 3 rfl) ?_
  refine lv_iload_n hx hb dL_law_1132 rfl (lv_at hl 0 rfl) ?_
  refine lv_iconst (v := 1) hx hb dL_law_1133 (by decide) ?_
  refine lv_iadd hx hb dL_law_1134 ?_
  refine g_sld (j := i + 1) hx hb hX hbl hS (by rw [ex3]; exact nI_add i 1) (by omega) hL dL_law_1135 ?_
  refine lv_aload_n hx hb dL_law_1136 rfl (lv_at hl 3 rfl) ?_
  refine lv_iload_n hx hb dL_law_1137 rfl (lv_at hl 0 rfl) ?_
  refine lv_iconst (v := 2) hx hb dL_law_1138 (by decide) ?_
  refine lv_iadd hx hb dL_law_1139 ?_
  refine g_sld (j := i + 2) hx hb hX hbl hS (by rw [ex3]; exact nI_add i 2) (by omega) hL dL_law_1140 ?_
  refine lv_aload_n hx hb dL_law_1141 rfl (lv_at hl 3 rfl) ?_
  refine lv_iload_n hx hb dL_law_1142 rfl (lv_at hl 0 rfl) ?_
  refine lv_iconst (v := 3) hx hb dL_law_1143 (by decide) ?_
  refine lv_iadd hx hb dL_law_1144 ?_
  refine g_sld (j := i + 3) hx hb hX hbl hS (by rw [ex3]; exact nI_add i 3) (by omega) hL dL_law_1145 ?_
  refine lv_aload_n hx hb dL_law_1146 rfl (lv_at hl 3 rfl) ?_
  refine lv_iload_n hx hb dL_law_1147 rfl (lv_at hl 0 rfl) ?_
  refine lv_iconst (v := 4) hx hb dL_law_1148 (by decide) ?_
  refine lv_iadd hx hb dL_law_1149 ?_
  refine g_sld (j := i + 4) hx hb hX hbl hS (by rw [ex3]; exact nI_add i 4) (by omega) hL dL_law_1150 ?_
  refine lv_i2l hx hb dL_law_1151 rfl ?_
  refine lv_bipush (v := 32) hx hb dL_law_1152 (by decide) ?_
  refine lv_lshl hx hb dL_law_1154 rfl ?_
  refine lv_aload_n hx hb dL_law_1155 rfl (lv_at hl 3 rfl) ?_
  refine lv_iload_n hx hb dL_law_1156 rfl (lv_at hl 0 rfl) ?_
  refine lv_iconst (v := 5) hx hb dL_law_1157 (by decide) ?_
  refine lv_iadd hx hb dL_law_1158 ?_
  refine g_sld (j := i + 5) hx hb hX hbl hS (by rw [ex3]; exact nI_add i 5) (by omega) hL dL_law_1159 ?_
  refine lv_i2l hx hb dL_law_1160 rfl ?_
  refine lv_ldc2 hx hb hown (hts _ lk1380) dL_law_1161 ?_
  refine lv_land hx hb dL_law_1164 ?_
  refine lv_lor hx hb dL_law_1165 ?_
  obtain ⟨r1, s1, hr1, hf⟩ := ob2 hf
  refine g_Lvi (σ' := s1) (As := [.int (xs (i + 1)), .int (xs (i + 2)), .int (xs (i + 3)), .long (((Int32.toInt64 (xs (i + 4))) <<< ((32 : Int32).toInt64 &&& 63)) ||| ((Int32.toInt64 (xs (i + 5))) &&& (4294967295 : Int64)))]) (rest := []) (C := RX6) (T := TX6) (N := 11) (ci := 6) C.1 hG1 hge1 hP1 hS (r := r1) (c_X6_item hr1) in_0 sh_0 rfl lk862 lk93 lk859 lk860 lk861 yd_X6_item rfl rfl hl.1 rfl (Nat.le_of_ble_eq_true rfl) ⟨Nat.le_of_ble_eq_true rfl, Nat.le_of_ble_eq_true rfl⟩ dL_law_1166 (fun H1 locs hq hk hS => ?_)
  have hP2 := keptW hdis hP2 hk
  have hP1 := hq
  generalize H1 = H at hP1 hP2 hS ⊢
  refine lv_aload_n hx hb dL_law_1169 rfl (lv_at hl 1 rfl) ?_
  refine lv_aload_n hx hb dL_law_1170 rfl (lv_at hl 3 rfl) ?_
  refine lv_iload_n hx hb dL_law_1171 rfl (lv_at hl 0 rfl) ?_
  refine lv_iconst (v := 1) hx hb dL_law_1172 (by decide) ?_
  refine lv_iadd hx hb dL_law_1173 ?_
  refine g_sld (j := i + 1) hx hb hX hbl hS (by rw [ex3]; exact nI_add i 1) (by omega) hL dL_law_1174 ?_
  refine lv_aload_n hx hb dL_law_1175 rfl (lv_at hl 3 rfl) ?_
  refine lv_iload_n hx hb dL_law_1176 rfl (lv_at hl 0 rfl) ?_
  refine lv_iconst (v := 2) hx hb dL_law_1177 (by decide) ?_
  refine lv_iadd hx hb dL_law_1178 ?_
  refine g_sld (j := i + 2) hx hb hX hbl hS (by rw [ex3]; exact nI_add i 2) (by omega) hL dL_law_1179 ?_
  refine lv_aload_n hx hb dL_law_1180 rfl (lv_at hl 3 rfl) ?_
  refine lv_iload_n hx hb dL_law_1181 rfl (lv_at hl 0 rfl) ?_
  refine lv_iconst (v := 3) hx hb dL_law_1182 (by decide) ?_
  refine lv_iadd hx hb dL_law_1183 ?_
  refine g_sld (j := i + 3) hx hb hX hbl hS (by rw [ex3]; exact nI_add i 3) (by omega) hL dL_law_1184 ?_
  refine lv_aload_n hx hb dL_law_1185 rfl (lv_at hl 3 rfl) ?_
  refine lv_iload_n hx hb dL_law_1186 rfl (lv_at hl 0 rfl) ?_
  refine lv_iconst (v := 4) hx hb dL_law_1187 (by decide) ?_
  refine lv_iadd hx hb dL_law_1188 ?_
  refine g_sld (j := i + 4) hx hb hX hbl hS (by rw [ex3]; exact nI_add i 4) (by omega) hL dL_law_1189 ?_
  refine lv_i2l hx hb dL_law_1190 rfl ?_
  refine lv_bipush (v := 32) hx hb dL_law_1191 (by decide) ?_
  refine lv_lshl hx hb dL_law_1193 rfl ?_
  refine lv_aload_n hx hb dL_law_1194 rfl (lv_at hl 3 rfl) ?_
  refine lv_iload_n hx hb dL_law_1195 rfl (lv_at hl 0 rfl) ?_
  refine lv_iconst (v := 5) hx hb dL_law_1196 (by decide) ?_
  refine lv_iadd hx hb dL_law_1197 ?_
  refine g_sld (j := i + 5) hx hb hX hbl hS (by rw [ex3]; exact nI_add i 5) (by omega) hL dL_law_1198 ?_
  refine lv_i2l hx hb dL_law_1199 rfl ?_
  refine lv_ldc2 hx hb hown (hts _ lk1380) dL_law_1200 ?_
  refine lv_land hx hb dL_law_1203 ?_
  refine lv_lor hx hb dL_law_1204 ?_
  obtain ⟨r2, s2, hr2, hf⟩ := ob2 hf
  refine g_Lvi (σ' := s2) (As := [.int (xs (i + 1)), .int (xs (i + 2)), .int (xs (i + 3)), .long (((Int32.toInt64 (xs (i + 4))) <<< ((32 : Int32).toInt64 &&& 63)) ||| ((Int32.toInt64 (xs (i + 5))) &&& (4294967295 : Int64)))]) (rest := [.int r1]) (C := RX7) (T := TX7) (N := 28) (ci := 7) C.1 hG2 hge2 hP2 hS (r := r2) (c_X7_item hr2) in_122 sh_122 rfl lk1372 lk100 lk1369 lk1370 lk1371 yd_X7_item rfl rfl hl.1 rfl (Nat.le_of_ble_eq_true rfl) ⟨Nat.le_of_ble_eq_true rfl, Nat.le_of_ble_eq_true rfl⟩ dL_law_1205 (fun H1 locs hq hk hS => ?_)
  have hP1 := keptW (fun j k hj hk e => hdis k j hk hj e.symm) hP1 hk
  have hP2 := hq
  generalize H1 = H at hP1 hP2 hS ⊢
  obtain ⟨hre, hf2⟩ := itE hf
  subst hre
  refine lv_icmp_eq (tgt := 1276) hx hb dL_law_1208 (by decide) (fun _ => ?_) (fun h => absurd rfl h)
  cases hf2
  exact kk _ _ hP1 hP2 hS
set_option maxRecDepth 100000 in
set_option maxHeartbeats 4000000 in
theorem law_32 {p : Program} {l : Launch} {e : Env} {s : State} {m : MethodId} {below : List Frame} {meth : Method} {c : Code} {G : Gm} {b L : Nat} {xs : Nat → Int32} (C : LC p s m meth c b L xs G) {i : Nat} (hi : i + 6 ≤ L) (hL : L ≤ 3072) {σ τ : Sto} {Z : Sto × Sto} (hf : st_32 (xs (i + 1)) (xs (i + 2)) (xs (i + 3)) (xs (i + 4)) (xs (i + 5)) σ τ = some Z) {H : Heap} {locs : List Loc} {ls : Array Slot} {x3 : Int32} (ex3 : x3 = nI i) (hP1 : va_P G.2.1 vwCl (WS rC G σ) H) (hP2 : va_P G.2.1 vwCl (WS rM G τ) H) (hS : va_S (AL s) s.heap H locs) (hl : lv_has ls 4 [(3, .int x3), (2, .ref (G.1 122)), (1, .ref (G.1 0)), (0, .ref b)]) {Q : State → Prop} (kk : ∀ (H : Heap) (locs : List Loc), va_P G.2.1 vwCl (WS rC G Z.1) H → va_P G.2.1 vwCl (WS rM G Z.2) H → va_S (AL s) s.heap H locs → W p l e room_1 s m #[Value.ref b] below meth c H locs 144 2496 Q (F0 m 1276 ls [])) : W p l e room_1 s m #[Value.ref b] below meth c H locs 144 2496 Q (F0 m 1213 ls []) := by
  obtain ⟨⟨hx, hb, hml, hown, hts⟩, ⟨hX, hbl⟩, hG1, hG2, hge1, hge2, hdis⟩ := id C
  unfold st_32 at hf
  refine lv_aload_n hx hb dL_law_1213 rfl (lv_at hl 2 rfl) ?_
  refine lv_aload_n hx hb dL_law_1214 rfl (lv_at hl 3 rfl) ?_
  refine lv_iload_n hx hb dL_law_1215 rfl (lv_at hl 0 rfl) ?_
  refine lv_iconst (v := 1) hx hb dL_law_1216 (by decide) ?_
  refine lv_iadd hx hb dL_law_1217 ?_
  refine g_sld (j := i + 1) hx hb hX hbl hS (by rw [ex3]; exact nI_add i 1) (by omega) hL dL_law_1218 ?_
  refine lv_aload_n hx hb dL_law_1219 rfl (lv_at hl 3 rfl) ?_
  refine lv_iload_n hx hb dL_law_1220 rfl (lv_at hl 0 rfl) ?_
  refine lv_iconst (v := 2) hx hb dL_law_1221 (by decide) ?_
  refine lv_iadd hx hb dL_law_1222 ?_
  refine g_sld (j := i + 2) hx hb hX hbl hS (by rw [ex3]; exact nI_add i 2) (by omega) hL dL_law_1223 ?_
  refine lv_aload_n hx hb dL_law_1224 rfl (lv_at hl 3 rfl) ?_
  refine lv_iload_n hx hb dL_law_1225 rfl (lv_at hl 0 rfl) ?_
  refine lv_iconst (v := 3) hx hb dL_law_1226 (by decide) ?_
  refine lv_iadd hx hb dL_law_1227 ?_
  refine g_sld (j := i + 3) hx hb hX hbl hS (by rw [ex3]; exact nI_add i 3) (by omega) hL dL_law_1228 ?_
  refine lv_aload_n hx hb dL_law_1229 rfl (lv_at hl 3 rfl) ?_
  refine lv_iload_n hx hb dL_law_1230 rfl (lv_at hl 0 rfl) ?_
  refine lv_iconst (v := 4) hx hb dL_law_1231 (by decide) ?_
  refine lv_iadd hx hb dL_law_1232 ?_
  refine g_sld (j := i + 4) hx hb hX hbl hS (by rw [ex3]; exact nI_add i 4) (by omega) hL dL_law_1233 ?_
  refine lv_aload_n hx hb dL_law_1234 rfl (lv_at hl 3 rfl) ?_
  refine lv_iload_n hx hb dL_law_1235 rfl (lv_at hl 0 rfl) ?_
  refine lv_iconst (v := 5) hx hb dL_law_1236 (by decide) ?_
  refine lv_iadd hx hb dL_law_1237 ?_
  refine g_sld (j := i + 5) hx hb hX hbl hS (by rw [ex3]; exact nI_add i 5) (by omega) hL dL_law_1238 ?_
  obtain ⟨r1, s1, hr1, hf⟩ := ob2 hf
  refine g_Lvi (σ' := s1) (As := [.int (xs (i + 1)), .int (xs (i + 2)), .int (xs (i + 3)), .int (xs (i + 4)), .int (xs (i + 5))]) (rest := []) (C := RX6) (T := TX6) (N := 11) (ci := 6) C.1 hG1 hge1 hP1 hS (r := r1) (c_X6_copy hr1) in_0 sh_0 rfl lk869 lk93 lk866 lk867 lk868 yd_X6_copy rfl rfl hl.1 rfl (Nat.le_of_ble_eq_true rfl) ⟨Nat.le_of_ble_eq_true rfl, Nat.le_of_ble_eq_true rfl⟩ dL_law_1239 (fun H1 locs hq hk hS => ?_)
  have hP2 := keptW hdis hP2 hk
  have hP1 := hq
  generalize H1 = H at hP1 hP2 hS ⊢
  refine lv_aload_n hx hb dL_law_1242 rfl (lv_at hl 1 rfl) ?_
  refine lv_aload_n hx hb dL_law_1243 rfl (lv_at hl 3 rfl) ?_
  refine lv_iload_n hx hb dL_law_1244 rfl (lv_at hl 0 rfl) ?_
  refine lv_iconst (v := 1) hx hb dL_law_1245 (by decide) ?_
  refine lv_iadd hx hb dL_law_1246 ?_
  refine g_sld (j := i + 1) hx hb hX hbl hS (by rw [ex3]; exact nI_add i 1) (by omega) hL dL_law_1247 ?_
  refine lv_aload_n hx hb dL_law_1248 rfl (lv_at hl 3 rfl) ?_
  refine lv_iload_n hx hb dL_law_1249 rfl (lv_at hl 0 rfl) ?_
  refine lv_iconst (v := 2) hx hb dL_law_1250 (by decide) ?_
  refine lv_iadd hx hb dL_law_1251 ?_
  refine g_sld (j := i + 2) hx hb hX hbl hS (by rw [ex3]; exact nI_add i 2) (by omega) hL dL_law_1252 ?_
  refine lv_aload_n hx hb dL_law_1253 rfl (lv_at hl 3 rfl) ?_
  refine lv_iload_n hx hb dL_law_1254 rfl (lv_at hl 0 rfl) ?_
  refine lv_iconst (v := 3) hx hb dL_law_1255 (by decide) ?_
  refine lv_iadd hx hb dL_law_1256 ?_
  refine g_sld (j := i + 3) hx hb hX hbl hS (by rw [ex3]; exact nI_add i 3) (by omega) hL dL_law_1257 ?_
  refine lv_aload_n hx hb dL_law_1258 rfl (lv_at hl 3 rfl) ?_
  refine lv_iload_n hx hb dL_law_1259 rfl (lv_at hl 0 rfl) ?_
  refine lv_iconst (v := 4) hx hb dL_law_1260 (by decide) ?_
  refine lv_iadd hx hb dL_law_1261 ?_
  refine g_sld (j := i + 4) hx hb hX hbl hS (by rw [ex3]; exact nI_add i 4) (by omega) hL dL_law_1262 ?_
  refine lv_aload_n hx hb dL_law_1263 rfl (lv_at hl 3 rfl) ?_
  refine lv_iload_n hx hb dL_law_1264 rfl (lv_at hl 0 rfl) ?_
  refine lv_iconst (v := 5) hx hb dL_law_1265 (by decide) ?_
  refine lv_iadd hx hb dL_law_1266 ?_
  refine g_sld (j := i + 5) hx hb hX hbl hS (by rw [ex3]; exact nI_add i 5) (by omega) hL dL_law_1267 ?_
  obtain ⟨r2, s2, hr2, hf⟩ := ob2 hf
  refine g_Lvi (σ' := s2) (As := [.int (xs (i + 1)), .int (xs (i + 2)), .int (xs (i + 3)), .int (xs (i + 4)), .int (xs (i + 5))]) (rest := [.int r1]) (C := RX7) (T := TX7) (N := 28) (ci := 7) C.1 hG2 hge2 hP2 hS (r := r2) (c_X7_copy hr2) in_122 sh_122 rfl lk1379 lk100 lk1376 lk1377 lk1378 yd_X7_copy rfl rfl hl.1 rfl (Nat.le_of_ble_eq_true rfl) ⟨Nat.le_of_ble_eq_true rfl, Nat.le_of_ble_eq_true rfl⟩ dL_law_1268 (fun H1 locs hq hk hS => ?_)
  have hP1 := keptW (fun j k hj hk e => hdis k j hk hj e.symm) hP1 hk
  have hP2 := hq
  generalize H1 = H at hP1 hP2 hS ⊢
  obtain ⟨hre, hf2⟩ := itE hf
  subst hre
  refine lv_icmp_eq (tgt := 1276) hx hb dL_law_1271 (by decide) (fun _ => ?_) (fun h => absurd rfl h)
  cases hf2
  exact kk _ _ hP1 hP2 hS
