theorem lk109 : Cond.methodLink RX6 3 objectInit ∈ TT := tt_mem (List.mem_of_getElem? (i := 109) (by decide +kernel)) (by decide +kernel)
theorem lk110 : Cond.instanceMethod objectInit ∈ TT := tt_mem (List.mem_of_getElem? (i := 110) (by decide +kernel)) (by decide +kernel)
theorem lk112 : Cond.classLink RX6 9 RX1 ∈ TT := tt_mem (List.mem_of_getElem? (i := 112) (by decide +kernel)) (by decide +kernel)
theorem lk114 : Cond.methodLink RX6 11 yX1_init ∈ TT := tt_mem (List.mem_of_getElem? (i := 114) (by decide +kernel)) (by decide +kernel)
theorem lk115 : Cond.instanceMethod yX1_init ∈ TT := tt_mem (List.mem_of_getElem? (i := 115) (by decide +kernel)) (by decide +kernel)
theorem lk116 : Cond.code yX1_init cX1_init 1 none ∈ TT := tt_mem (List.mem_of_getElem? (i := 116) (by decide +kernel)) (by decide +kernel)
theorem lk117 : Cond.methodLink RX1 3 objectInit ∈ TT := tt_mem (List.mem_of_getElem? (i := 117) (by decide +kernel)) (by decide +kernel)
theorem lk160 : Cond.classLink RX6 22 RX2 ∈ TT := tt_mem (List.mem_of_getElem? (i := 160) (by decide +kernel)) (by decide +kernel)
theorem lk162 : Cond.methodLink RX6 24 yX2_init ∈ TT := tt_mem (List.mem_of_getElem? (i := 162) (by decide +kernel)) (by decide +kernel)
theorem lk163 : Cond.instanceMethod yX2_init ∈ TT := tt_mem (List.mem_of_getElem? (i := 163) (by decide +kernel)) (by decide +kernel)
theorem lk164 : Cond.code yX2_init cX2_init 2 none ∈ TT := tt_mem (List.mem_of_getElem? (i := 164) (by decide +kernel)) (by decide +kernel)
theorem lk165 : Cond.methodLink RX2 3 objectInit ∈ TT := tt_mem (List.mem_of_getElem? (i := 165) (by decide +kernel)) (by decide +kernel)
theorem lk166 : Cond.classLink RX2 9 RX1 ∈ TT := tt_mem (List.mem_of_getElem? (i := 166) (by decide +kernel)) (by decide +kernel)
theorem lk168 : Cond.methodLink RX2 17 yX1_init ∈ TT := tt_mem (List.mem_of_getElem? (i := 168) (by decide +kernel)) (by decide +kernel)
theorem lk180 : Cond.classLink RX6 32 RX4 ∈ TT := tt_mem (List.mem_of_getElem? (i := 180) (by decide +kernel)) (by decide +kernel)
theorem lk183 : Cond.instanceMethod yX4_init ∈ TT := tt_mem (List.mem_of_getElem? (i := 183) (by decide +kernel)) (by decide +kernel)
theorem lk184 : Cond.code yX4_init cX4_init 1 none ∈ TT := tt_mem (List.mem_of_getElem? (i := 184) (by decide +kernel)) (by decide +kernel)
theorem lk185 : Cond.methodLink RX4 3 objectInit ∈ TT := tt_mem (List.mem_of_getElem? (i := 185) (by decide +kernel)) (by decide +kernel)
theorem lk216 : Cond.classLink RX6 39 RX0 ∈ TT := tt_mem (List.mem_of_getElem? (i := 216) (by decide +kernel)) (by decide +kernel)
theorem lk219 : Cond.instanceMethod yX0_init ∈ TT := tt_mem (List.mem_of_getElem? (i := 219) (by decide +kernel)) (by decide +kernel)
theorem lk220 : Cond.code yX0_init cX0_init 1 none ∈ TT := tt_mem (List.mem_of_getElem? (i := 220) (by decide +kernel)) (by decide +kernel)
theorem lk221 : Cond.methodLink RX0 3 objectInit ∈ TT := tt_mem (List.mem_of_getElem? (i := 221) (by decide +kernel)) (by decide +kernel)
theorem lk270 : Cond.classLink RX6 46 RX5 ∈ TT := tt_mem (List.mem_of_getElem? (i := 270) (by decide +kernel)) (by decide +kernel)
theorem lk273 : Cond.instanceMethod yX5_init ∈ TT := tt_mem (List.mem_of_getElem? (i := 273) (by decide +kernel)) (by decide +kernel)
theorem lk274 : Cond.code yX5_init cX5_init 1 none ∈ TT := tt_mem (List.mem_of_getElem? (i := 274) (by decide +kernel)) (by decide +kernel)
theorem lk275 : Cond.methodLink RX5 3 objectInit ∈ TT := tt_mem (List.mem_of_getElem? (i := 275) (by decide +kernel)) (by decide +kernel)
theorem lk289 : Cond.classLink RX6 53 RX3 ∈ TT := tt_mem (List.mem_of_getElem? (i := 289) (by decide +kernel)) (by decide +kernel)
theorem lk293 : Cond.instanceMethod yX3_init ∈ TT := tt_mem (List.mem_of_getElem? (i := 293) (by decide +kernel)) (by decide +kernel)
theorem lk294 : Cond.code yX3_init cX3_init 1 none ∈ TT := tt_mem (List.mem_of_getElem? (i := 294) (by decide +kernel)) (by decide +kernel)
theorem lk295 : Cond.methodLink RX3 3 objectInit ∈ TT := tt_mem (List.mem_of_getElem? (i := 295) (by decide +kernel)) (by decide +kernel)
theorem lk876 : Cond.methodLink RX7 1 objectInit ∈ TT := tt_mem (List.mem_of_getElem? (i := 876) (by decide +kernel)) (by decide +kernel)
theorem lk_obj : Cond.code objectInit ⟨#[0xb1]⟩ 1 none ∈ TT := tt_mem (List.mem_of_getElem? (i := 111) (by decide +kernel)) (by decide +kernel)
theorem lka_int : Cond.arrayClass .int ∈ TT := tt_mem (List.mem_of_getElem? (i := 159) (by decide +kernel)) (by decide +kernel)
theorem lka_long : Cond.arrayClass .long ∈ TT := tt_mem (List.mem_of_getElem? (i := 215) (by decide +kernel)) (by decide +kernel)
theorem lka_boolean : Cond.arrayClass .boolean ∈ TT := tt_mem (List.mem_of_getElem? (i := 269) (by decide +kernel)) (by decide +kernel)
theorem lka_char : Cond.arrayClass .char ∈ TT := tt_mem (List.mem_of_getElem? (i := 288) (by decide +kernel)) (by decide +kernel)
theorem lki_0 : Cond.instantiable RX0 12 ∈ TT := tt_mem (List.mem_of_getElem? (i := 217) (by decide +kernel)) (by decide +kernel)
theorem lki_1 : Cond.instantiable RX1 8 ∈ TT := tt_mem (List.mem_of_getElem? (i := 113) (by decide +kernel)) (by decide +kernel)
theorem lki_2 : Cond.instantiable RX2 3 ∈ TT := tt_mem (List.mem_of_getElem? (i := 161) (by decide +kernel)) (by decide +kernel)
theorem lki_3 : Cond.instantiable RX3 4 ∈ TT := tt_mem (List.mem_of_getElem? (i := 291) (by decide +kernel)) (by decide +kernel)
theorem lki_4 : Cond.instantiable RX4 8 ∈ TT := tt_mem (List.mem_of_getElem? (i := 181) (by decide +kernel)) (by decide +kernel)
theorem lki_5 : Cond.instantiable RX5 3 ∈ TT := tt_mem (List.mem_of_getElem? (i := 271) (by decide +kernel)) (by decide +kernel)
theorem lki_6 : Cond.instantiable RX6 11 ∈ TT := tt_mem (List.mem_of_getElem? (i := 105) (by decide +kernel)) (by decide +kernel)
theorem lki_7 : Cond.instantiable RX7 28 ∈ TT := tt_mem (List.mem_of_getElem? (i := 872) (by decide +kernel)) (by decide +kernel)
def KN (D : va_G) (ca : Nat → ClassId) (U : State) : Prop := va_K D vwCl (tysG ((fun _ => 0), D, ca)) U ∧ va_Nw (.methodLinkNest RX6 34 yX4_init RX6) U ∧ va_Nw (.methodLinkNest RX6 41 yX0_init RX6) U ∧ va_Nw (.methodLinkNest RX6 48 yX5_init RX6) U ∧ va_Nw (.methodLinkNest RX6 59 yX3_init RX6) U ∧ va_AO "ForceFrames$Frame" U ∧ va_AO "ForceFrames$Row" U
theorem kn_calling {D : va_G} {ca : Nat → ClassId} {U : State} {f : JFrame} {mk : MethodId} {a : Array Value} (h : KN D ca U) : KN D ca (U.calling f mk a) :=
  ⟨va_K.moved (u := U) (U := U.calling f mk a) (Vm.Alike.refl U.vm) h.1, va_Nw.same (u := U) (U := U.calling f mk a) rfl rfl h.2.1, va_Nw.same (u := U) (U := U.calling f mk a) rfl rfl h.2.2.1, va_Nw.same (u := U) (U := U.calling f mk a) rfl rfl h.2.2.2.1, va_Nw.same (u := U) (U := U.calling f mk a) rfl rfl h.2.2.2.2.1, va_AO.moved (u := U) (U := U.calling f mk a) (Vm.Alike.refl U.vm) h.2.2.2.2.2.1, va_AO.moved (u := U) (U := U.calling f mk a) (Vm.Alike.refl U.vm) h.2.2.2.2.2.2⟩
theorem kn_warm {D : va_G} {ca : Nat → ClassId} {s U : State} (hW : s.WarmedH U.vm) (h : KN D ca s) : KN D ca U :=
  ⟨va_K.moved hW.alike h.1, va_Nw.warmM hW h.2.1, va_Nw.warmM hW h.2.2.1, va_Nw.warmM hW h.2.2.2.1, va_Nw.warmM hW h.2.2.2.2.1, va_AO.moved hW.alike h.2.2.2.2.2.1, va_AO.moved hW.alike h.2.2.2.2.2.2⟩
theorem kn_blind {D : va_G} {ca : Nat → ClassId} {sz : Nat} {as : List Value} {ws : va_W} : FrameBlind (va_Pc as (fun U => U.heap.size = sz ∧ va_P D vwCl ws U.heap ∧ KN D ca U ∧ va_D (fun _ => True) ws)) := fun _ _ _ _ q => ⟨q.1, q.2.1, q.2.2.1, kn_calling q.2.2.2.1, q.2.2.2.2⟩
theorem ra_find {U : State} {c : ClassId} {t : FieldType} (h : va_RA U c t) : U.vm.findClass ("[" ++ t.toString) = some c := by
  cases t with
  | object C => exact h.choose_spec.choose_spec.2.2.2
  | _ => exact h
theorem ra_eq {U : State} {c1 c2 : ClassId} {t : FieldType} (h1 : va_RA U c1 t) (h2 : va_RA U c2 t) : c1 = c2 := by
  have e := (ra_find h1).symm.trans (ra_find h2)
  exact Option.some.inj e
theorem va_ring {D : va_G} {cl : List vw_C} {ws : va_W} {H : Heap} (h : va_P D cl ws H) (k : Nat) {a n : Nat} {cA : ClassId} {f g : Nat → Option Nat} (hk : ws[k]? = some (a, .inl (cA, n, .inr (.inr (.inr (.inr f)))))) (he : ∀ j, j < n → f j = g j) : va_P D cl (ws.set k (a, .inl (cA, n, .inr (.inr (.inr (.inr g)))))) H := by
  intro i q hq
  rw [List.getElem?_set] at hq
  by_cases hi : k = i
  · subst hi
    have hl : k < ws.length := (List.getElem?_eq_some_iff.mp hk).1
    rw [if_pos rfl, if_pos hl] at hq
    cases hq
    have h1 : H[a]? = some (vp_cell cA (n, .inr (.inr (.inr (.inr f))))) := h k _ hk
    show H[a]? = some (vp_cell cA (n, .inr (.inr (.inr (.inr g)))))
    rw [h1, vp_cell_q, vp_cell_q]
    have e : (fun j : Fin n => va_rf (f j.val)) = (fun j : Fin n => va_rf (g j.val)) := funext fun j => by rw [he j.val j.isLt]
    simp only [arrV, e]
  · rw [if_neg hi] at hq
    exact h i q hq
section
variable {p : Program} {l : Launch} {e : Env} {R : Room} {s : State} {m : MethodId} {args : Array Value} {below : List Frame} {meth : Method} {c : Code} {H : Heap} {locs : List Loc} {cells slots : Nat} {Q : State → Prop} {cc : ByteArray} {pc : Nat} {ls : Array Slot} {rest : List Value} {D : va_G} {ca : Nat → ClassId} {A : Nat → Prop} {H0 : Heap} {ws : va_W}
theorem k_new0 {atype : ArrayType} (hx : p.tables.exec = Jvm.exec) (hb : c.code = cc) (harr : (Cond.arrayClass .int).before args s = true) (hat : newarray.typeOf atype = .int) (hK : KN D ca s) (hP : va_P D vwCl ws H) (hD : va_D A ws) (hS : va_S A H0 H locs) (hA : ∀ q, H0.size ≤ q → A q) {n : Int32} {N' : Nat} (hn : ¬ n < 0) (hN : n.toNatClampNeg = N') (hbytes : N' * componentBytes .int ≤ 536870912) (hcells : cells + 1 ≤ R.cells) (hslots : slots + N' ≤ R.slots) (hdg : decode cc pc = .ok (.newarray atype, 2)) (kk : ∀ (q : Nat) (H1 : Heap), va_P D vwCl (ws ++ [(q, .inl (ca 0, N', .inl (fun _ => 0)))]) H1 → va_D A (ws ++ [(q, .inl (ca 0, N', .inl (fun _ => 0)))]) → va_S A H0 H1 locs → W p l e R s m args below meth c H1 locs (cells + 1) (slots + N') Q (F0 m (pc + 2) ls (.ref q :: rest))) : W p l e R s m args below meth c H locs cells slots Q (F0 m pc ls (.int n :: rest)) := by
  refine va_newa (a0 := (N', .inl (fun _ => 0))) hx hb (by rw [hat]; exact harr) hat hK.1 hP hD hS hA (fun _ => rfl) hn hN hbytes hcells hslots hdg (fun q cA H1 hK1 hP1 hD1 hS1 => ?_)
  obtain rfl : cA = ca 0 := ra_eq (hK1.2 6 _ rfl).2 (hK.1.2 0 _ rfl).2
  exact kk q H1 hP1 hD1 hS1
theorem k_new1 {atype : ArrayType} (hx : p.tables.exec = Jvm.exec) (hb : c.code = cc) (harr : (Cond.arrayClass .long).before args s = true) (hat : newarray.typeOf atype = .long) (hK : KN D ca s) (hP : va_P D vwCl ws H) (hD : va_D A ws) (hS : va_S A H0 H locs) (hA : ∀ q, H0.size ≤ q → A q) {n : Int32} {N' : Nat} (hn : ¬ n < 0) (hN : n.toNatClampNeg = N') (hbytes : N' * componentBytes .long ≤ 536870912) (hcells : cells + 1 ≤ R.cells) (hslots : slots + N' ≤ R.slots) (hdg : decode cc pc = .ok (.newarray atype, 2)) (kk : ∀ (q : Nat) (H1 : Heap), va_P D vwCl (ws ++ [(q, .inl (ca 1, N', .inr (.inl (fun _ => 0))))]) H1 → va_D A (ws ++ [(q, .inl (ca 1, N', .inr (.inl (fun _ => 0))))]) → va_S A H0 H1 locs → W p l e R s m args below meth c H1 locs (cells + 1) (slots + N') Q (F0 m (pc + 2) ls (.ref q :: rest))) : W p l e R s m args below meth c H locs cells slots Q (F0 m pc ls (.int n :: rest)) := by
  refine va_newa (a0 := (N', .inr (.inl (fun _ => 0)))) hx hb (by rw [hat]; exact harr) hat hK.1 hP hD hS hA (fun _ => rfl) hn hN hbytes hcells hslots hdg (fun q cA H1 hK1 hP1 hD1 hS1 => ?_)
  obtain rfl : cA = ca 1 := ra_eq (hK1.2 6 _ rfl).2 (hK.1.2 1 _ rfl).2
  exact kk q H1 hP1 hD1 hS1
theorem k_new2 {atype : ArrayType} (hx : p.tables.exec = Jvm.exec) (hb : c.code = cc) (harr : (Cond.arrayClass .boolean).before args s = true) (hat : newarray.typeOf atype = .boolean) (hK : KN D ca s) (hP : va_P D vwCl ws H) (hD : va_D A ws) (hS : va_S A H0 H locs) (hA : ∀ q, H0.size ≤ q → A q) {n : Int32} {N' : Nat} (hn : ¬ n < 0) (hN : n.toNatClampNeg = N') (hbytes : N' * componentBytes .boolean ≤ 536870912) (hcells : cells + 1 ≤ R.cells) (hslots : slots + N' ≤ R.slots) (hdg : decode cc pc = .ok (.newarray atype, 2)) (kk : ∀ (q : Nat) (H1 : Heap), va_P D vwCl (ws ++ [(q, .inl (ca 2, N', .inl (fun _ => 0)))]) H1 → va_D A (ws ++ [(q, .inl (ca 2, N', .inl (fun _ => 0)))]) → va_S A H0 H1 locs → W p l e R s m args below meth c H1 locs (cells + 1) (slots + N') Q (F0 m (pc + 2) ls (.ref q :: rest))) : W p l e R s m args below meth c H locs cells slots Q (F0 m pc ls (.int n :: rest)) := by
  refine va_newa (a0 := (N', .inl (fun _ => 0))) hx hb (by rw [hat]; exact harr) hat hK.1 hP hD hS hA (fun _ => rfl) hn hN hbytes hcells hslots hdg (fun q cA H1 hK1 hP1 hD1 hS1 => ?_)
  obtain rfl : cA = ca 2 := ra_eq (hK1.2 6 _ rfl).2 (hK.1.2 2 _ rfl).2
  exact kk q H1 hP1 hD1 hS1
theorem k_new3 {atype : ArrayType} (hx : p.tables.exec = Jvm.exec) (hb : c.code = cc) (harr : (Cond.arrayClass .char).before args s = true) (hat : newarray.typeOf atype = .char) (hK : KN D ca s) (hP : va_P D vwCl ws H) (hD : va_D A ws) (hS : va_S A H0 H locs) (hA : ∀ q, H0.size ≤ q → A q) {n : Int32} {N' : Nat} (hn : ¬ n < 0) (hN : n.toNatClampNeg = N') (hbytes : N' * componentBytes .char ≤ 536870912) (hcells : cells + 1 ≤ R.cells) (hslots : slots + N' ≤ R.slots) (hdg : decode cc pc = .ok (.newarray atype, 2)) (kk : ∀ (q : Nat) (H1 : Heap), va_P D vwCl (ws ++ [(q, .inl (ca 3, N', .inl (fun _ => 0)))]) H1 → va_D A (ws ++ [(q, .inl (ca 3, N', .inl (fun _ => 0)))]) → va_S A H0 H1 locs → W p l e R s m args below meth c H1 locs (cells + 1) (slots + N') Q (F0 m (pc + 2) ls (.ref q :: rest))) : W p l e R s m args below meth c H locs cells slots Q (F0 m pc ls (.int n :: rest)) := by
  refine va_newa (a0 := (N', .inl (fun _ => 0))) hx hb (by rw [hat]; exact harr) hat hK.1 hP hD hS hA (fun _ => rfl) hn hN hbytes hcells hslots hdg (fun q cA H1 hK1 hP1 hD1 hS1 => ?_)
  obtain rfl : cA = ca 3 := ra_eq (hK1.2 6 _ rfl).2 (hK.1.2 3 _ rfl).2
  exact kk q H1 hP1 hD1 hS1
theorem k_newq4 (hx : p.tables.exec = Jvm.exec) (hb : c.code = cc) {own : String} {index : Nat} (hown : s.vm.findClass own = some m.cls) (hcl : (Cond.classLink own index "ForceFrames$Frame").before args s = true) (hover : va_AO "ForceFrames$Frame" s) (hK : KN D ca s) (hP : va_P D vwCl ws H) (hD : va_D A ws) (hS : va_S A H0 H locs) (hA : ∀ q, H0.size ≤ q → A q) {n : Int32} {N' : Nat} (hn : ¬ n < 0) (hN : n.toNatClampNeg = N') (hbytes : N' * 4 ≤ 536870912) (hcells : cells + 1 ≤ R.cells) (hslots : slots + N' ≤ R.slots) (hdg : decode cc pc = .ok (.anewarray index, 3)) (kk : ∀ (q : Nat) (H1 : Heap), va_P D vwCl (ws ++ [(q, .inl (ca 4, N', .inr (.inr (.inr (.inr (fun _ => none))))))]) H1 → va_D A (ws ++ [(q, .inl (ca 4, N', .inr (.inr (.inr (.inr (fun _ => none))))))]) → va_S A H0 H1 locs → W p l e R s m args below meth c H1 locs (cells + 1) (slots + N') Q (F0 m (pc + 3) ls (.ref q :: rest))) : W p l e R s m args below meth c H locs cells slots Q (F0 m pc ls (.int n :: rest)) := by
  refine va_newq hx hb hown hcl hover hK.1 hP hD hS hA hn hN hbytes hcells hslots hdg (fun q cA H1 hK1 hP1 hD1 hS1 => ?_)
  obtain rfl : cA = ca 4 := ra_eq (hK1.2 6 _ rfl).2 (hK.1.2 4 _ rfl).2
  exact kk q H1 hP1 hD1 hS1
theorem k_newq5 (hx : p.tables.exec = Jvm.exec) (hb : c.code = cc) {own : String} {index : Nat} (hown : s.vm.findClass own = some m.cls) (hcl : (Cond.classLink own index "ForceFrames$Row").before args s = true) (hover : va_AO "ForceFrames$Row" s) (hK : KN D ca s) (hP : va_P D vwCl ws H) (hD : va_D A ws) (hS : va_S A H0 H locs) (hA : ∀ q, H0.size ≤ q → A q) {n : Int32} {N' : Nat} (hn : ¬ n < 0) (hN : n.toNatClampNeg = N') (hbytes : N' * 4 ≤ 536870912) (hcells : cells + 1 ≤ R.cells) (hslots : slots + N' ≤ R.slots) (hdg : decode cc pc = .ok (.anewarray index, 3)) (kk : ∀ (q : Nat) (H1 : Heap), va_P D vwCl (ws ++ [(q, .inl (ca 5, N', .inr (.inr (.inr (.inr (fun _ => none))))))]) H1 → va_D A (ws ++ [(q, .inl (ca 5, N', .inr (.inr (.inr (.inr (fun _ => none))))))]) → va_S A H0 H1 locs → W p l e R s m args below meth c H1 locs (cells + 1) (slots + N') Q (F0 m (pc + 3) ls (.ref q :: rest))) : W p l e R s m args below meth c H locs cells slots Q (F0 m pc ls (.int n :: rest)) := by
  refine va_newq hx hb hown hcl hover hK.1 hP hD hS hA hn hN hbytes hcells hslots hdg (fun q cA H1 hK1 hP1 hD1 hS1 => ?_)
  obtain rfl : cA = ca 5 := ra_eq (hK1.2 6 _ rfl).2 (hK.1.2 5 _ rfl).2
  exact kk q H1 hP1 hD1 hS1
end
def NF (ca : Nat → ClassId) (h : Nat) (a : Nat → Nat) : va_W := [(h, .inr (1, [.int 0, .int 0, .int 1, .ref (a 1), .ref (a 2), .ref (a 3), .ref (a 4), .ref (a 5)])), (a 1, .inl (ca 0, 6, .inl (fun _ => 0))), (a 2, .inl (ca 0, 6, .inl (fun _ => 0))), (a 3, .inl (ca 0, 9, .inl (fun _ => 0))), (a 4, .inl (ca 0, 9, .inl (fun _ => 0))), (a 5, .inl (ca 0, 9, .inl (upd (fun _ => 0) 0 1)))]
def NH (ca : Nat → ClassId) (h : Nat) (a : Nat → Nat) : va_W := [(h, .inr (2, [.ref (a 1), .int 0, .int 0])), (a 1, .inl (ca 4, 6, .inr (.inr (.inr (.inr (fun i => if i < 6 then some (a (2 + 6 * i)) else none))))))] ++ NF ca (a 2) (fun k => a (2 + k)) ++ NF ca (a 8) (fun k => a (8 + k)) ++ NF ca (a 14) (fun k => a (14 + k)) ++ NF ca (a 20) (fun k => a (20 + k)) ++ NF ca (a 26) (fun k => a (26 + k)) ++ NF ca (a 32) (fun k => a (32 + k))
theorem NH_congr {ca : Nat → ClassId} {h : Nat} {a b : Nat → Nat} (e : ∀ k, 0 < k → k < 38 → a k = b k) : NH ca h a = NH ca h b := by
  have er : (fun i => if i < 6 then some (a (2 + 6 * i)) else none) = (fun i => if i < 6 then some (b (2 + 6 * i)) else none) := by
    funext i
    by_cases hi : i < 6
    · rw [if_pos hi, if_pos hi, e (2 + 6 * i) (by omega) (by omega)]
    · rw [if_neg hi, if_neg hi]
  have ef : ∀ j, 0 < j → j + 5 < 38 → NF ca (a j) (fun k => a (j + k)) = NF ca (b j) (fun k => b (j + k)) := by
    intro j h0 hj
    unfold NF
    simp only [e j h0 (by omega), e (j + 1) (by omega) (by omega), e (j + 2) (by omega) (by omega), e (j + 3) (by omega) (by omega), e (j + 4) (by omega) (by omega), e (j + 5) (by omega) (by omega)]
  unfold NH
  rw [er, e 1 (by decide) (by decide), ef 2 (by decide) (by decide), ef 8 (by decide) (by decide), ef 14 (by decide) (by decide), ef 20 (by decide) (by decide), ef 26 (by decide) (by decide), ef 32 (by decide) (by decide)]
def NS (ca : Nat → ClassId) (h : Nat) (a : Nat → Nat) : va_W := [(h, .inr (4, [.int 0, .int 0, .int 0, .long 1, .ref (a 1), .ref (a 2), .ref (a 3), .ref (a 4)])), (a 1, .inl (ca 1, 81, .inr (.inl (fun _ => 0)))), (a 2, .inl (ca 1, 9, .inr (.inl (fun _ => 0)))), (a 3, .inl (ca 1, 108, .inr (.inl (fun _ => 0)))), (a 4, .inl (ca 0, 9, .inl (fun _ => 0)))]
def NA (ca : Nat → ClassId) (h : Nat) (a : Nat → Nat) : va_W := [(h, .inr (0, [.int 0, .int (-4), .ref (a 1), .ref (a 2), .ref (a 3), .ref (a 4), .ref (a 5), .ref (a 6), .ref (a 7), .ref (a 8), .ref (a 9), .ref (a 10)])), (a 1, .inl (ca 0, 18, .inl (fun _ => 0))), (a 2, .inl (ca 0, 18, .inl (fun _ => 0))), (a 3, .inl (ca 0, 18, .inl (fun _ => 0))), (a 4, .inl (ca 0, 18, .inl (fun _ => 0))), (a 5, .inl (ca 0, 18, .inl (fun _ => 0))), (a 6, .inl (ca 0, 18, .inl (fun _ => 0))), (a 7, .inl (ca 1, 18, .inr (.inl (fun _ => 0)))), (a 8, .inl (ca 1, 18, .inr (.inl (fun _ => 0)))), (a 9, .inl (ca 1, 18, .inr (.inl (fun _ => 0)))), (a 10, .inl (ca 2, 18, .inl (fun _ => 0)))]
def NT (ca : Nat → ClassId) (h : Nat) (a : Nat → Nat) : va_W := [(h, .inr (5, [.ref (a 1), .int 0, .int 0])), (a 1, .inl (ca 3, 60, .inl (fun _ => 0)))]
def NR (ca : Nat → ClassId) (h : Nat) (a : Nat → Nat) : va_W := [(h, .inr (3, [.int 0, .int 0, .int 0, .ref (a 1)])), (a 1, .inl (ca 1, 24, .inr (.inl (fun _ => 0))))]
def NM (ca : Nat → ClassId) (h : Nat) (a : Nat → Nat) : va_W := [(h, .inr (7, [.ref (a 1), .ref (a 2), .int 0, .ref (a 3), .ref (a 4), .int (-1), .ref (a 5), .int 0, .ref (a 6), .ref (a 7), .ref (a 8), .ref (a 9), .ref (a 10), .ref (a 11), .ref (a 12), .ref (a 13), .long 0, .int 0, .ref (a 14), .int 0, .ref (a 15), .ref (a 16), .ref (a 17), .ref (a 18), .ref (a 19), .ref (a 20), .int 0, .ref (a 21)])), (a 1, .inl (ca 0, 42, .inl (upd (upd (fun _ => 0) 2 1) 33 1))), (a 2, .inl (ca 0, 252, .inl (fun _ => 0))), (a 3, .inl (ca 0, 42, .inl (fun _ => 0))), (a 4, .inl (ca 0, 252, .inl (fun _ => 0))), (a 5, .inl (ca 0, 60, .inl (fun _ => 0))), (a 6, .inl (ca 0, 4, .inl (upd (upd (upd (upd (fun _ => 0) 0 (-1)) 1 (-1)) 2 (-1)) 3 (-1)))), (a 7, .inl (ca 0, 4, .inl (fun _ => 0))), (a 8, .inl (ca 1, 96, .inr (.inl (fun _ => 0)))), (a 9, .inl (ca 1, 24, .inr (.inl (fun _ => 0)))), (a 10, .inl (ca 0, 42, .inl (fun _ => 0))), (a 11, .inl (ca 0, 42, .inl (fun _ => 0))), (a 12, .inl (ca 1, 108, .inr (.inl (fun _ => 0)))), (a 13, .inl (ca 0, 12, .inl (fun _ => 0))), (a 14, .inl (ca 0, 18, .inl (fun _ => 0))), (a 15, .inl (ca 1, 18, .inr (.inl (fun _ => 0)))), (a 16, .inl (ca 1, 18, .inr (.inl (fun _ => 0)))), (a 17, .inl (ca 1, 18, .inr (.inl (fun _ => 0)))), (a 18, .inl (ca 1, 18, .inr (.inl (fun _ => 0)))), (a 19, .inl (ca 1, 18, .inr (.inl (fun _ => 0)))), (a 20, .inl (ca 2, 18, .inl (fun _ => 0))), (a 21, .inl (ca 0, 42, .inl (fun _ => 0)))]
def rmX1_init : Room := { frames := 1, cells := 5, slots := 39, locals := 12 }
set_option maxHeartbeats 8000000 in
set_option maxRecDepth 100000 in
theorem n_X1_init (l : Launch) (D : va_G) (ca : Nat → ClassId) (h0 sz : Nat) : Met l yX1_init (Cond.code yX1_init cX1_init 1 none :: TT) rmX1_init (va_Pc [.ref h0] (fun U => U.heap.size = sz ∧ va_P D vwCl [(h0, .inr (1, [.int 0, .int 0, .int 0, .null, .null, .null, .null, .null]))] U.heap ∧ KN D ca U ∧ va_D (fun _ => True) [(h0, .inr (1, [.int 0, .int 0, .int 0, .null, .null, .null, .null, .null]))])) (va_Qv (fun (_ : Nat → Nat) => True) (fun a t => va_P D vwCl (NF ca h0 a) t.heap ∧ va_D (va_A [(h0, .inr (1, [.int 0, .int 0, .int 0, .null, .null, .null, .null, .null]))] sz) (NF ca h0 a)) (va_A [(h0, .inr (1, [.int 0, .int 0, .int 0, .null, .null, .null, .null, .null]))] sz)) 5 39 (va_A [(h0, .inr (1, [.int 0, .int 0, .int 0, .null, .null, .null, .null, .null]))] sz) := by
  refine Met.ofW (cc := cX1_init) (maxL := 1) (ret := none) (by decide) rfl ?_
  intro p e s m args below meth c s₁ B hml hv
  obtain ⟨rfl, hsz, hP, hKK, hD0⟩ := hv
  have hx := B.exec
  have hb := B.bytes
  have hr := B.returns
  have hts : ∀ w ∈ TT, w.before _ s = true := fun w h => atoms_spec (ws := Cond.code yX1_init cX1_init 1 none :: TT) B.pre w (List.mem_cons_of_mem _ h)
  have hown : s.vm.findClass RX1 = some m.cls := findClass_of_methodNamed B.named
  have hlocks := B.notSynchronized
  have hin : meth.name = "<init>" := (name_of_methodNamed B.named B.method).1
  subst hsz
  have hD := hD0.self (sz := s.heap.size)
  generalize hAe : va_A [(h0, .inr (1, [.int 0, .int 0, .int 0, .null, .null, .null, .null, .null]))] s.heap.size = A at hD ⊢
  have hA : ∀ q : Nat, s.heap.size ≤ q → A q := fun q h => by rw [← hAe]; exact Or.inr h
  have hS : va_S A s.heap s.heap [] := va_S.rf
  have hP : va_P D vwCl [(h0, .inr (1, [.int 0, .int 0, .int 0, .null, .null, .null, .null, .null]))] s.heap := hP
  have hAO4 : va_AO "ForceFrames$Frame" s := hKK.2.2.2.2.2.1
  have hAO5 : va_AO "ForceFrames$Row" s := hKK.2.2.2.2.2.2
  have hl := lv_entry ([.ref h0]) (n := 1) (Nat.le_of_ble_eq_true rfl)
  rw [lg_entry_eq]
  generalize (lg_sl ([.ref h0]) ++ List.replicate (1 - (lg_sl ([.ref h0])).length) Slot.unset).toArray = ls at hl ⊢
  have hl : lv_has ls 1 [(0, .ref h0)] := hl
  refine lv_aload_n hx hb dX1_init_0 rfl (lv_at hl 0 rfl) ?_
  refine W.objInit hx hb hown (hts _ lk117) (hts _ lk110) (hts _ lk_obj) rfl (by rw [hml]; exact hl.1) rfl dX1_init_1 (Nat.le_of_ble_eq_true rfl) (Nat.le_of_ble_eq_true rfl) ?_
  refine W.eq (g2 := F0 m 4 ls []) rfl ?_
  refine lv_aload_n hx hb dX1_init_4 rfl (lv_at hl 0 rfl) ?_
  refine lv_iconst (v := 1) hx hb dX1_init_5 (by decide) ?_
  refine va_put (D := D) (ci := 1) (v := .int 1) (ty := .int) (C := RX1) (T := TX1) (N := 8) hx hb hts inTX1 tyX1 tyX1_ok nmX1 hown hKK.1 hP hD hS 0 rfl rfl 2 (by decide) (hts _ lk127) (fun _ h9 => h9) rfl (by decide +kernel) rfl rfl (Nat.le_of_ble_eq_true rfl) dX1_init_6 (fun H locs hP hD hS => ?_)
  have hP : va_P D vwCl ([(h0, .inr (1, [.int 0, .int 0, .int 1, .null, .null, .null, .null, .null]))]) H := hP
  have hD : va_D A ([(h0, .inr (1, [.int 0, .int 0, .int 1, .null, .null, .null, .null, .null]))]) := hD
  refine lv_aload_n hx hb dX1_init_9 rfl (lv_at hl 0 rfl) ?_
  refine lv_bipush (v := 6) hx hb dX1_init_10 (by decide) ?_
  refine k_new0 (N' := 6) hx hb (hts _ lka_int) rfl hKK hP hD hS hA (by decide) rfl (Nat.le_of_ble_eq_true rfl) (Nat.le_of_ble_eq_true rfl) (Nat.le_of_ble_eq_true rfl) dX1_init_12 (fun q1 H hP hD hS => ?_)
  have hP : va_P D vwCl ([(h0, .inr (1, [.int 0, .int 0, .int 1, .null, .null, .null, .null, .null])), (q1, .inl (ca 0, 6, .inl (fun _ => 0)))]) H := hP
  have hD : va_D A ([(h0, .inr (1, [.int 0, .int 0, .int 1, .null, .null, .null, .null, .null])), (q1, .inl (ca 0, 6, .inl (fun _ => 0)))]) := hD
  refine va_putF (D := D) (ci := 1) (v := .ref q1) (ty := tyX1 3) (C := RX1) (T := TX1) (N := 8) hx hb hts inTX1 tyX1 tyX1_ok nmX1 hown hKK.1 hP hD hS 0 rfl rfl 3 (by decide) (hts _ lk129) (fun _ h9 => h9) rfl hin rfl (by decide +kernel) rfl rfl (Nat.le_of_ble_eq_true rfl) dX1_init_14 (fun H locs hP hD hS => ?_)
  have hP : va_P D vwCl ([(h0, .inr (1, [.int 0, .int 0, .int 1, .ref q1, .null, .null, .null, .null])), (q1, .inl (ca 0, 6, .inl (fun _ => 0)))]) H := hP
  have hD : va_D A ([(h0, .inr (1, [.int 0, .int 0, .int 1, .ref q1, .null, .null, .null, .null])), (q1, .inl (ca 0, 6, .inl (fun _ => 0)))]) := hD
  refine lv_aload_n hx hb dX1_init_17 rfl (lv_at hl 0 rfl) ?_
  refine lv_bipush (v := 6) hx hb dX1_init_18 (by decide) ?_
  refine k_new0 (N' := 6) hx hb (hts _ lka_int) rfl hKK hP hD hS hA (by decide) rfl (Nat.le_of_ble_eq_true rfl) (Nat.le_of_ble_eq_true rfl) (Nat.le_of_ble_eq_true rfl) dX1_init_20 (fun q2 H hP hD hS => ?_)
  have hP : va_P D vwCl ([(h0, .inr (1, [.int 0, .int 0, .int 1, .ref q1, .null, .null, .null, .null])), (q1, .inl (ca 0, 6, .inl (fun _ => 0))), (q2, .inl (ca 0, 6, .inl (fun _ => 0)))]) H := hP
  have hD : va_D A ([(h0, .inr (1, [.int 0, .int 0, .int 1, .ref q1, .null, .null, .null, .null])), (q1, .inl (ca 0, 6, .inl (fun _ => 0))), (q2, .inl (ca 0, 6, .inl (fun _ => 0)))]) := hD
  refine va_putF (D := D) (ci := 1) (v := .ref q2) (ty := tyX1 4) (C := RX1) (T := TX1) (N := 8) hx hb hts inTX1 tyX1 tyX1_ok nmX1 hown hKK.1 hP hD hS 0 rfl rfl 4 (by decide) (hts _ lk132) (fun _ h9 => h9) rfl hin rfl (by decide +kernel) rfl rfl (Nat.le_of_ble_eq_true rfl) dX1_init_22 (fun H locs hP hD hS => ?_)
  have hP : va_P D vwCl ([(h0, .inr (1, [.int 0, .int 0, .int 1, .ref q1, .ref q2, .null, .null, .null])), (q1, .inl (ca 0, 6, .inl (fun _ => 0))), (q2, .inl (ca 0, 6, .inl (fun _ => 0)))]) H := hP
  have hD : va_D A ([(h0, .inr (1, [.int 0, .int 0, .int 1, .ref q1, .ref q2, .null, .null, .null])), (q1, .inl (ca 0, 6, .inl (fun _ => 0))), (q2, .inl (ca 0, 6, .inl (fun _ => 0)))]) := hD
  refine lv_aload_n hx hb dX1_init_25 rfl (lv_at hl 0 rfl) ?_
  refine lv_bipush (v := 9) hx hb dX1_init_26 (by decide) ?_
  refine k_new0 (N' := 9) hx hb (hts _ lka_int) rfl hKK hP hD hS hA (by decide) rfl (Nat.le_of_ble_eq_true rfl) (Nat.le_of_ble_eq_true rfl) (Nat.le_of_ble_eq_true rfl) dX1_init_28 (fun q3 H hP hD hS => ?_)
  have hP : va_P D vwCl ([(h0, .inr (1, [.int 0, .int 0, .int 1, .ref q1, .ref q2, .null, .null, .null])), (q1, .inl (ca 0, 6, .inl (fun _ => 0))), (q2, .inl (ca 0, 6, .inl (fun _ => 0))), (q3, .inl (ca 0, 9, .inl (fun _ => 0)))]) H := hP
  have hD : va_D A ([(h0, .inr (1, [.int 0, .int 0, .int 1, .ref q1, .ref q2, .null, .null, .null])), (q1, .inl (ca 0, 6, .inl (fun _ => 0))), (q2, .inl (ca 0, 6, .inl (fun _ => 0))), (q3, .inl (ca 0, 9, .inl (fun _ => 0)))]) := hD
  refine va_putF (D := D) (ci := 1) (v := .ref q3) (ty := tyX1 5) (C := RX1) (T := TX1) (N := 8) hx hb hts inTX1 tyX1 tyX1_ok nmX1 hown hKK.1 hP hD hS 0 rfl rfl 5 (by decide) (hts _ lk135) (fun _ h9 => h9) rfl hin rfl (by decide +kernel) rfl rfl (Nat.le_of_ble_eq_true rfl) dX1_init_30 (fun H locs hP hD hS => ?_)
  have hP : va_P D vwCl ([(h0, .inr (1, [.int 0, .int 0, .int 1, .ref q1, .ref q2, .ref q3, .null, .null])), (q1, .inl (ca 0, 6, .inl (fun _ => 0))), (q2, .inl (ca 0, 6, .inl (fun _ => 0))), (q3, .inl (ca 0, 9, .inl (fun _ => 0)))]) H := hP
  have hD : va_D A ([(h0, .inr (1, [.int 0, .int 0, .int 1, .ref q1, .ref q2, .ref q3, .null, .null])), (q1, .inl (ca 0, 6, .inl (fun _ => 0))), (q2, .inl (ca 0, 6, .inl (fun _ => 0))), (q3, .inl (ca 0, 9, .inl (fun _ => 0)))]) := hD
  refine lv_aload_n hx hb dX1_init_33 rfl (lv_at hl 0 rfl) ?_
  refine lv_bipush (v := 9) hx hb dX1_init_34 (by decide) ?_
  refine k_new0 (N' := 9) hx hb (hts _ lka_int) rfl hKK hP hD hS hA (by decide) rfl (Nat.le_of_ble_eq_true rfl) (Nat.le_of_ble_eq_true rfl) (Nat.le_of_ble_eq_true rfl) dX1_init_36 (fun q4 H hP hD hS => ?_)
  have hP : va_P D vwCl ([(h0, .inr (1, [.int 0, .int 0, .int 1, .ref q1, .ref q2, .ref q3, .null, .null])), (q1, .inl (ca 0, 6, .inl (fun _ => 0))), (q2, .inl (ca 0, 6, .inl (fun _ => 0))), (q3, .inl (ca 0, 9, .inl (fun _ => 0))), (q4, .inl (ca 0, 9, .inl (fun _ => 0)))]) H := hP
  have hD : va_D A ([(h0, .inr (1, [.int 0, .int 0, .int 1, .ref q1, .ref q2, .ref q3, .null, .null])), (q1, .inl (ca 0, 6, .inl (fun _ => 0))), (q2, .inl (ca 0, 6, .inl (fun _ => 0))), (q3, .inl (ca 0, 9, .inl (fun _ => 0))), (q4, .inl (ca 0, 9, .inl (fun _ => 0)))]) := hD
  refine va_putF (D := D) (ci := 1) (v := .ref q4) (ty := tyX1 6) (C := RX1) (T := TX1) (N := 8) hx hb hts inTX1 tyX1 tyX1_ok nmX1 hown hKK.1 hP hD hS 0 rfl rfl 6 (by decide) (hts _ lk137) (fun _ h9 => h9) rfl hin rfl (by decide +kernel) rfl rfl (Nat.le_of_ble_eq_true rfl) dX1_init_38 (fun H locs hP hD hS => ?_)
  have hP : va_P D vwCl ([(h0, .inr (1, [.int 0, .int 0, .int 1, .ref q1, .ref q2, .ref q3, .ref q4, .null])), (q1, .inl (ca 0, 6, .inl (fun _ => 0))), (q2, .inl (ca 0, 6, .inl (fun _ => 0))), (q3, .inl (ca 0, 9, .inl (fun _ => 0))), (q4, .inl (ca 0, 9, .inl (fun _ => 0)))]) H := hP
  have hD : va_D A ([(h0, .inr (1, [.int 0, .int 0, .int 1, .ref q1, .ref q2, .ref q3, .ref q4, .null])), (q1, .inl (ca 0, 6, .inl (fun _ => 0))), (q2, .inl (ca 0, 6, .inl (fun _ => 0))), (q3, .inl (ca 0, 9, .inl (fun _ => 0))), (q4, .inl (ca 0, 9, .inl (fun _ => 0)))]) := hD
  refine lv_aload_n hx hb dX1_init_41 rfl (lv_at hl 0 rfl) ?_
  refine lv_bipush (v := 9) hx hb dX1_init_42 (by decide) ?_
  refine k_new0 (N' := 9) hx hb (hts _ lka_int) rfl hKK hP hD hS hA (by decide) rfl (Nat.le_of_ble_eq_true rfl) (Nat.le_of_ble_eq_true rfl) (Nat.le_of_ble_eq_true rfl) dX1_init_44 (fun q5 H hP hD hS => ?_)
  have hP : va_P D vwCl ([(h0, .inr (1, [.int 0, .int 0, .int 1, .ref q1, .ref q2, .ref q3, .ref q4, .null])), (q1, .inl (ca 0, 6, .inl (fun _ => 0))), (q2, .inl (ca 0, 6, .inl (fun _ => 0))), (q3, .inl (ca 0, 9, .inl (fun _ => 0))), (q4, .inl (ca 0, 9, .inl (fun _ => 0))), (q5, .inl (ca 0, 9, .inl (fun _ => 0)))]) H := hP
  have hD : va_D A ([(h0, .inr (1, [.int 0, .int 0, .int 1, .ref q1, .ref q2, .ref q3, .ref q4, .null])), (q1, .inl (ca 0, 6, .inl (fun _ => 0))), (q2, .inl (ca 0, 6, .inl (fun _ => 0))), (q3, .inl (ca 0, 9, .inl (fun _ => 0))), (q4, .inl (ca 0, 9, .inl (fun _ => 0))), (q5, .inl (ca 0, 9, .inl (fun _ => 0)))]) := hD
  refine va_putF (D := D) (ci := 1) (v := .ref q5) (ty := tyX1 7) (C := RX1) (T := TX1) (N := 8) hx hb hts inTX1 tyX1 tyX1_ok nmX1 hown hKK.1 hP hD hS 0 rfl rfl 7 (by decide) (hts _ lk139) (fun _ h9 => h9) rfl hin rfl (by decide +kernel) rfl rfl (Nat.le_of_ble_eq_true rfl) dX1_init_46 (fun H locs hP hD hS => ?_)
  have hP : va_P D vwCl ([(h0, .inr (1, [.int 0, .int 0, .int 1, .ref q1, .ref q2, .ref q3, .ref q4, .ref q5])), (q1, .inl (ca 0, 6, .inl (fun _ => 0))), (q2, .inl (ca 0, 6, .inl (fun _ => 0))), (q3, .inl (ca 0, 9, .inl (fun _ => 0))), (q4, .inl (ca 0, 9, .inl (fun _ => 0))), (q5, .inl (ca 0, 9, .inl (fun _ => 0)))]) H := hP
  have hD : va_D A ([(h0, .inr (1, [.int 0, .int 0, .int 1, .ref q1, .ref q2, .ref q3, .ref q4, .ref q5])), (q1, .inl (ca 0, 6, .inl (fun _ => 0))), (q2, .inl (ca 0, 6, .inl (fun _ => 0))), (q3, .inl (ca 0, 9, .inl (fun _ => 0))), (q4, .inl (ca 0, 9, .inl (fun _ => 0))), (q5, .inl (ca 0, 9, .inl (fun _ => 0)))]) := hD
  refine lv_aload_n hx hb dX1_init_49 rfl (lv_at hl 0 rfl) ?_
  refine va_get (D := D) (ci := 1) (v := .ref q5) (C := RX1) (T := TX1) (N := 8) hx hb hts inTX1 hown hKK.1 hP 0 rfl rfl 7 (by decide) (hts _ lk139) (fun _ h9 => h9) rfl dX1_init_50 ?_
  refine lv_iconst (v := 0) hx hb dX1_init_53 (by decide) ?_
  refine lv_iconst (v := 1) hx hb dX1_init_54 (by decide) ?_
  refine va_iast hx hb hKK.1 hP hD hS 5 0 rfl rfl (i := 0) (x := 1) (vp_in_iff.mpr (by decide)) dX1_init_55 (fun H locs hP hD hS => ?_)
  have hP : va_P D vwCl ([(h0, .inr (1, [.int 0, .int 0, .int 1, .ref q1, .ref q2, .ref q3, .ref q4, .ref q5])), (q1, .inl (ca 0, 6, .inl (fun _ => 0))), (q2, .inl (ca 0, 6, .inl (fun _ => 0))), (q3, .inl (ca 0, 9, .inl (fun _ => 0))), (q4, .inl (ca 0, 9, .inl (fun _ => 0))), (q5, .inl (ca 0, 9, .inl (upd (fun _ => 0) 0 1)))]) H := hP
  have hD : va_D A ([(h0, .inr (1, [.int 0, .int 0, .int 1, .ref q1, .ref q2, .ref q3, .ref q4, .ref q5])), (q1, .inl (ca 0, 6, .inl (fun _ => 0))), (q2, .inl (ca 0, 6, .inl (fun _ => 0))), (q3, .inl (ca 0, 9, .inl (fun _ => 0))), (q4, .inl (ca 0, 9, .inl (fun _ => 0))), (q5, .inl (ca 0, 9, .inl (upd (fun _ => 0) 0 1)))]) := hD
  refine W.widen (k := 5) (n := 39) (Nat.le_of_ble_eq_true rfl) (Nat.le_of_ble_eq_true rfl) ?_
  exact W.vret hx hb hr (fun t ht hW => ⟨⟨(fun k => [h0, q1, q2, q3, q4, q5].getD k 0), rfl, trivial, by show va_P D vwCl (NF ca h0 (fun k => [h0, q1, q2, q3, q4, q5].getD k 0)) t.heap; rw [ht]; exact hP, hD⟩, hS.F ht⟩) hS.2.2 dX1_init_56
def rmX2_init : Room := { frames := 2, cells := 37, slots := 288, locals := 32 }
set_option maxHeartbeats 8000000 in
set_option maxRecDepth 100000 in
theorem n_X2_init (l : Launch) (D : va_G) (ca : Nat → ClassId) (h0 sz : Nat) : Met l yX2_init (Cond.code yX2_init cX2_init 2 none :: TT) rmX2_init (va_Pc [.ref h0] (fun U => U.heap.size = sz ∧ va_P D vwCl [(h0, .inr (2, [.null, .int 0, .int 0]))] U.heap ∧ KN D ca U ∧ va_D (fun _ => True) [(h0, .inr (2, [.null, .int 0, .int 0]))])) (va_Qv (fun (_ : Nat → Nat) => True) (fun a t => va_P D vwCl (NH ca h0 a) t.heap ∧ va_D (va_A [(h0, .inr (2, [.null, .int 0, .int 0]))] sz) (NH ca h0 a)) (va_A [(h0, .inr (2, [.null, .int 0, .int 0]))] sz)) 37 288 (va_A [(h0, .inr (2, [.null, .int 0, .int 0]))] sz) := by
  refine Met.ofW (cc := cX2_init) (maxL := 2) (ret := none) (by decide) rfl ?_
  intro p e s m args below meth c s₁ B hml hv
  obtain ⟨rfl, hsz, hP, hKK, hD0⟩ := hv
  have hx := B.exec
  have hb := B.bytes
  have hr := B.returns
  have hts : ∀ w ∈ TT, w.before _ s = true := fun w h => atoms_spec (ws := Cond.code yX2_init cX2_init 2 none :: TT) B.pre w (List.mem_cons_of_mem _ h)
  have hown : s.vm.findClass RX2 = some m.cls := findClass_of_methodNamed B.named
  have hlocks := B.notSynchronized
  have hin : meth.name = "<init>" := (name_of_methodNamed B.named B.method).1
  subst hsz
  have hD := hD0.self (sz := s.heap.size)
  generalize hAe : va_A [(h0, .inr (2, [.null, .int 0, .int 0]))] s.heap.size = A at hD ⊢
  have hA : ∀ q : Nat, s.heap.size ≤ q → A q := fun q h => by rw [← hAe]; exact Or.inr h
  have hS : va_S A s.heap s.heap [] := va_S.rf
  have hP : va_P D vwCl [(h0, .inr (2, [.null, .int 0, .int 0]))] s.heap := hP
  have hAO4 : va_AO "ForceFrames$Frame" s := hKK.2.2.2.2.2.1
  have hAO5 : va_AO "ForceFrames$Row" s := hKK.2.2.2.2.2.2
  have hl := lv_entry ([.ref h0]) (n := 2) (Nat.le_of_ble_eq_true rfl)
  rw [lg_entry_eq]
  generalize (lg_sl ([.ref h0]) ++ List.replicate (2 - (lg_sl ([.ref h0])).length) Slot.unset).toArray = ls at hl ⊢
  have hl : lv_has ls 2 [(0, .ref h0)] := hl
  refine lv_aload_n hx hb dX2_init_0 rfl (lv_at hl 0 rfl) ?_
  refine W.objInit hx hb hown (hts _ lk165) (hts _ lk110) (hts _ lk_obj) rfl (by rw [hml]; exact hl.1) rfl dX2_init_1 (Nat.le_of_ble_eq_true rfl) (Nat.le_of_ble_eq_true rfl) ?_
  refine W.eq (g2 := F0 m 4 ls []) rfl ?_
  refine lv_aload_n hx hb dX2_init_4 rfl (lv_at hl 0 rfl) ?_
  refine lv_bipush (v := 6) hx hb dX2_init_5 (by decide) ?_
  refine k_newq4 (N' := 6) hx hb hown (hts _ lk166) hAO4 hKK hP hD hS hA (by decide) rfl (Nat.le_of_ble_eq_true rfl) (Nat.le_of_ble_eq_true rfl) (Nat.le_of_ble_eq_true rfl) dX2_init_7 (fun q1 H hP hD hS => ?_)
  have hP : va_P D vwCl ([(h0, .inr (2, [.null, .int 0, .int 0])), (q1, .inl (ca 4, 6, .inr (.inr (.inr (.inr (fun _ => none))))))]) H := hP
  have hD : va_D A ([(h0, .inr (2, [.null, .int 0, .int 0])), (q1, .inl (ca 4, 6, .inr (.inr (.inr (.inr (fun _ => none))))))]) := hD
  refine va_putF (D := D) (ci := 2) (v := .ref q1) (ty := tyX2 0) (C := RX2) (T := TX2) (N := 3) hx hb hts inTX2 tyX2 tyX2_ok nmX2 hown hKK.1 hP hD hS 0 rfl rfl 0 (by decide) (hts _ lk169) (fun _ h9 => h9) rfl hin rfl (by decide +kernel) rfl rfl (Nat.le_of_ble_eq_true rfl) dX2_init_10 (fun H locs hP hD hS => ?_)
  have hP : va_P D vwCl ([(h0, .inr (2, [.ref q1, .int 0, .int 0])), (q1, .inl (ca 4, 6, .inr (.inr (.inr (.inr (fun _ => none))))))]) H := hP
  have hD : va_D A ([(h0, .inr (2, [.ref q1, .int 0, .int 0])), (q1, .inl (ca 4, 6, .inr (.inr (.inr (.inr (fun _ => none))))))]) := hD
  refine lv_iconst (v := 0) hx hb dX2_init_13 (by decide) ?_
  refine lv_istore_n (lv' := [(1, .int 0), (0, .ref h0)]) hx hb dX2_init_14 rfl hl (by decide) rfl (fun ls hl => ?_)
  refine lv_iload_n hx hb dX2_init_15 rfl (lv_at hl 0 rfl) ?_
  refine lv_bipush (v := 6) hx hb dX2_init_16 (by decide) ?_
  refine lv_icmp_ge (tgt := 40) hx hb dX2_init_18 (by decide) (fun c => absurd c (by decide)) (fun _ => ?_)
  refine lv_aload_n hx hb dX2_init_21 rfl (lv_at hl 1 rfl) ?_
  refine va_get (D := D) (ci := 2) (v := .ref q1) (C := RX2) (T := TX2) (N := 3) hx hb hts inTX2 hown hKK.1 hP 0 rfl rfl 0 (by decide) (hts _ lk169) (fun _ h9 => h9) rfl dX2_init_22 ?_
  refine lv_iload_n hx hb dX2_init_25 rfl (lv_at hl 0 rfl) ?_
  refine va_new (ci := 1) (fs := [.int 0, .int 0, .int 0, .null, .null, .null, .null, .null]) (C := RX1) (T := TX1) (N := 8) hx hb hts inTX1 tyX1 tyX1_ok hown (hts _ lk166) (hts _ lki_1) (hts _ lk94) hKK.1 hP hD hS hA rfl (by decide) (Nat.le_of_ble_eq_true rfl) (Nat.le_of_ble_eq_true rfl) dX2_init_26 (fun q2 H hP hD hS => ?_)
  have hP : va_P D vwCl ([(h0, .inr (2, [.ref q1, .int 0, .int 0])), (q1, .inl (ca 4, 6, .inr (.inr (.inr (.inr (fun _ => none)))))), (q2, .inr (1, [.int 0, .int 0, .int 0, .null, .null, .null, .null, .null]))]) H := hP
  have hD : va_D A ([(h0, .inr (2, [.ref q1, .int 0, .int 0])), (q1, .inl (ca 4, 6, .inr (.inr (.inr (.inr (fun _ => none)))))), (q2, .inr (1, [.int 0, .int 0, .int 0, .null, .null, .null, .null, .null]))]) := hD
  refine lv_dup hx hb dX2_init_29 rfl ?_
  have hPc := hP.sub (ws' := [(q2, .inr (1, [.int 0, .int 0, .int 0, .null, .null, .null, .null, .null]))]) [2] rfl
  have hDc := hD.sub (ws' := [(q2, .inr (1, [.int 0, .int 0, .int 0, .null, .null, .null, .null, .null]))]) [2] (by decide) rfl
  have hFc := va_free (wc := [(q2, .inr (1, [.int 0, .int 0, .int 0, .null, .null, .null, .null, .null]))]) hD hS hA [2] rfl
  refine va_callv (va_runI (As := []) (rest := [.ref q2, .int 0, .ref q1]) ⟨hx, hb, hml, hown, hts⟩ (n_X1_init l D ca q2 H.size) (cwI 0 hts (tt_goodT lk116) rfl rfl rfl (hts _ lk94) (hts _ lk168) (hts _ lk115) rfl (by decide +kernel) ⟨Nat.le_of_ble_eq_true rfl, Nat.le_of_ble_eq_true rfl⟩) ⟨kn_blind, fun U hU hW => ⟨rfl, by rw [hU], by rw [hU]; exact hPc, kn_warm hW hKK, hDc.weaken (fun _ _ _ _ => trivial)⟩⟩ rfl rfl hl.1 rfl (lv_room (Nat.le_of_ble_eq_true rfl)) dX2_init_30 ⟨Nat.le_of_ble_eq_true rfl, Nat.le_of_ble_eq_true rfl⟩) hS (fun q _ h => hFc q h) hFc (fun u3 t H1 locs ht hvm hw hB hz1 hk1 hS => ?_)
  obtain ⟨hP1, hD1⟩ := hB
  rw [ht] at hP1
  obtain ⟨hP, hD⟩ := va_join (wr := [(h0, .inr (2, [.ref q1, .int 0, .int 0])), (q1, .inl (ca 4, 6, .inr (.inr (.inr (.inr (fun _ => none))))))]) (w1 := NF ca q2 u3) hP hD [2] [0, 1] rfl rfl (by decide) (by decide) hk1 hFc hP1 hD1
  generalize H1 = H at hP hS ⊢
  have hP : va_P D vwCl (([(h0, .inr (2, [.ref q1, .int 0, .int 0])), (q1, .inl (ca 4, 6, .inr (.inr (.inr (.inr (fun _ => none))))))] ++ NF ca q2 u3)) H := hP
  have hD : va_D A (([(h0, .inr (2, [.ref q1, .int 0, .int 0])), (q1, .inl (ca 4, 6, .inr (.inr (.inr (.inr (fun _ => none))))))] ++ NF ca q2 u3)) := hD
  refine va_astq hx hb hKK.1 hP hD hS 1 4 2 1 rfl rfl rfl rfl (i := 0) (vp_in_iff.mpr (by decide)) dX2_init_33 (fun H locs hP hD hS => ?_)
  have hP : va_P D vwCl (([(h0, .inr (2, [.ref q1, .int 0, .int 0])), (q1, .inl (ca 4, 6, .inr (.inr (.inr (.inr (va_up (fun _ => none) 0 (some q2)))))))] ++ NF ca q2 u3)) H := hP
  have hD : va_D A (([(h0, .inr (2, [.ref q1, .int 0, .int 0])), (q1, .inl (ca 4, 6, .inr (.inr (.inr (.inr (va_up (fun _ => none) 0 (some q2)))))))] ++ NF ca q2 u3)) := hD
  refine lv_iinc (v := 1) (lv' := [(1, .int 1), (0, .ref h0)]) hx hb dX2_init_34 hl (k := 0) rfl (by decide) (by decide) rfl (fun ls hl => ?_)
  refine lv_goto (tgt := 15) hx hb dX2_init_37 (by decide) ?_
  refine lv_iload_n hx hb dX2_init_15 rfl (lv_at hl 0 rfl) ?_
  refine lv_bipush (v := 6) hx hb dX2_init_16 (by decide) ?_
  refine lv_icmp_ge (tgt := 40) hx hb dX2_init_18 (by decide) (fun c => absurd c (by decide)) (fun _ => ?_)
  refine lv_aload_n hx hb dX2_init_21 rfl (lv_at hl 1 rfl) ?_
  refine va_get (D := D) (ci := 2) (v := .ref q1) (C := RX2) (T := TX2) (N := 3) hx hb hts inTX2 hown hKK.1 hP 0 rfl rfl 0 (by decide) (hts _ lk169) (fun _ h9 => h9) rfl dX2_init_22 ?_
  refine lv_iload_n hx hb dX2_init_25 rfl (lv_at hl 0 rfl) ?_
  refine va_new (ci := 1) (fs := [.int 0, .int 0, .int 0, .null, .null, .null, .null, .null]) (C := RX1) (T := TX1) (N := 8) hx hb hts inTX1 tyX1 tyX1_ok hown (hts _ lk166) (hts _ lki_1) (hts _ lk94) hKK.1 hP hD hS hA rfl (by decide) (Nat.le_of_ble_eq_true rfl) (Nat.le_of_ble_eq_true rfl) dX2_init_26 (fun q4 H hP hD hS => ?_)
  have hP : va_P D vwCl ((([(h0, .inr (2, [.ref q1, .int 0, .int 0])), (q1, .inl (ca 4, 6, .inr (.inr (.inr (.inr (va_up (fun _ => none) 0 (some q2)))))))] ++ NF ca q2 u3) ++ [(q4, .inr (1, [.int 0, .int 0, .int 0, .null, .null, .null, .null, .null]))])) H := hP
  have hD : va_D A ((([(h0, .inr (2, [.ref q1, .int 0, .int 0])), (q1, .inl (ca 4, 6, .inr (.inr (.inr (.inr (va_up (fun _ => none) 0 (some q2)))))))] ++ NF ca q2 u3) ++ [(q4, .inr (1, [.int 0, .int 0, .int 0, .null, .null, .null, .null, .null]))])) := hD
  refine lv_dup hx hb dX2_init_29 rfl ?_
  have hPc := hP.sub (ws' := [(q4, .inr (1, [.int 0, .int 0, .int 0, .null, .null, .null, .null, .null]))]) [8] rfl
  have hDc := hD.sub (ws' := [(q4, .inr (1, [.int 0, .int 0, .int 0, .null, .null, .null, .null, .null]))]) [8] (by decide) rfl
  have hFc := va_free (wc := [(q4, .inr (1, [.int 0, .int 0, .int 0, .null, .null, .null, .null, .null]))]) hD hS hA [8] rfl
  refine va_callv (va_runI (As := []) (rest := [.ref q4, .int 1, .ref q1]) ⟨hx, hb, hml, hown, hts⟩ (n_X1_init l D ca q4 H.size) (cwI 0 hts (tt_goodT lk116) rfl rfl rfl (hts _ lk94) (hts _ lk168) (hts _ lk115) rfl (by decide +kernel) ⟨Nat.le_of_ble_eq_true rfl, Nat.le_of_ble_eq_true rfl⟩) ⟨kn_blind, fun U hU hW => ⟨rfl, by rw [hU], by rw [hU]; exact hPc, kn_warm hW hKK, hDc.weaken (fun _ _ _ _ => trivial)⟩⟩ rfl rfl hl.1 rfl (lv_room (Nat.le_of_ble_eq_true rfl)) dX2_init_30 ⟨Nat.le_of_ble_eq_true rfl, Nat.le_of_ble_eq_true rfl⟩) hS (fun q _ h => hFc q h) hFc (fun u5 t H1 locs ht hvm hw hB hz1 hk1 hS => ?_)
  obtain ⟨hP1, hD1⟩ := hB
  rw [ht] at hP1
  obtain ⟨hP, hD⟩ := va_join (wr := ([(h0, .inr (2, [.ref q1, .int 0, .int 0])), (q1, .inl (ca 4, 6, .inr (.inr (.inr (.inr (va_up (fun _ => none) 0 (some q2)))))))] ++ NF ca q2 u3)) (w1 := NF ca q4 u5) hP hD [8] [0, 1, 2, 3, 4, 5, 6, 7] rfl rfl (by decide) (by decide) hk1 hFc hP1 hD1
  generalize H1 = H at hP hS ⊢
  have hP : va_P D vwCl ((([(h0, .inr (2, [.ref q1, .int 0, .int 0])), (q1, .inl (ca 4, 6, .inr (.inr (.inr (.inr (va_up (fun _ => none) 0 (some q2)))))))] ++ NF ca q2 u3) ++ NF ca q4 u5)) H := hP
  have hD : va_D A ((([(h0, .inr (2, [.ref q1, .int 0, .int 0])), (q1, .inl (ca 4, 6, .inr (.inr (.inr (.inr (va_up (fun _ => none) 0 (some q2)))))))] ++ NF ca q2 u3) ++ NF ca q4 u5)) := hD
  refine va_astq hx hb hKK.1 hP hD hS 1 4 8 1 rfl rfl rfl rfl (i := 1) (vp_in_iff.mpr (by decide)) dX2_init_33 (fun H locs hP hD hS => ?_)
  have hP : va_P D vwCl ((([(h0, .inr (2, [.ref q1, .int 0, .int 0])), (q1, .inl (ca 4, 6, .inr (.inr (.inr (.inr (va_up (va_up (fun _ => none) 0 (some q2)) 1 (some q4)))))))] ++ NF ca q2 u3) ++ NF ca q4 u5)) H := hP
  have hD : va_D A ((([(h0, .inr (2, [.ref q1, .int 0, .int 0])), (q1, .inl (ca 4, 6, .inr (.inr (.inr (.inr (va_up (va_up (fun _ => none) 0 (some q2)) 1 (some q4)))))))] ++ NF ca q2 u3) ++ NF ca q4 u5)) := hD
  refine lv_iinc (v := 2) (lv' := [(1, .int 2), (0, .ref h0)]) hx hb dX2_init_34 hl (k := 0) rfl (by decide) (by decide) rfl (fun ls hl => ?_)
  refine lv_goto (tgt := 15) hx hb dX2_init_37 (by decide) ?_
  refine lv_iload_n hx hb dX2_init_15 rfl (lv_at hl 0 rfl) ?_
  refine lv_bipush (v := 6) hx hb dX2_init_16 (by decide) ?_
  refine lv_icmp_ge (tgt := 40) hx hb dX2_init_18 (by decide) (fun c => absurd c (by decide)) (fun _ => ?_)
  refine lv_aload_n hx hb dX2_init_21 rfl (lv_at hl 1 rfl) ?_
  refine va_get (D := D) (ci := 2) (v := .ref q1) (C := RX2) (T := TX2) (N := 3) hx hb hts inTX2 hown hKK.1 hP 0 rfl rfl 0 (by decide) (hts _ lk169) (fun _ h9 => h9) rfl dX2_init_22 ?_
  refine lv_iload_n hx hb dX2_init_25 rfl (lv_at hl 0 rfl) ?_
  refine va_new (ci := 1) (fs := [.int 0, .int 0, .int 0, .null, .null, .null, .null, .null]) (C := RX1) (T := TX1) (N := 8) hx hb hts inTX1 tyX1 tyX1_ok hown (hts _ lk166) (hts _ lki_1) (hts _ lk94) hKK.1 hP hD hS hA rfl (by decide) (Nat.le_of_ble_eq_true rfl) (Nat.le_of_ble_eq_true rfl) dX2_init_26 (fun q6 H hP hD hS => ?_)
  have hP : va_P D vwCl (((([(h0, .inr (2, [.ref q1, .int 0, .int 0])), (q1, .inl (ca 4, 6, .inr (.inr (.inr (.inr (va_up (va_up (fun _ => none) 0 (some q2)) 1 (some q4)))))))] ++ NF ca q2 u3) ++ NF ca q4 u5) ++ [(q6, .inr (1, [.int 0, .int 0, .int 0, .null, .null, .null, .null, .null]))])) H := hP
  have hD : va_D A (((([(h0, .inr (2, [.ref q1, .int 0, .int 0])), (q1, .inl (ca 4, 6, .inr (.inr (.inr (.inr (va_up (va_up (fun _ => none) 0 (some q2)) 1 (some q4)))))))] ++ NF ca q2 u3) ++ NF ca q4 u5) ++ [(q6, .inr (1, [.int 0, .int 0, .int 0, .null, .null, .null, .null, .null]))])) := hD
  refine lv_dup hx hb dX2_init_29 rfl ?_
  have hPc := hP.sub (ws' := [(q6, .inr (1, [.int 0, .int 0, .int 0, .null, .null, .null, .null, .null]))]) [14] rfl
  have hDc := hD.sub (ws' := [(q6, .inr (1, [.int 0, .int 0, .int 0, .null, .null, .null, .null, .null]))]) [14] (by decide) rfl
  have hFc := va_free (wc := [(q6, .inr (1, [.int 0, .int 0, .int 0, .null, .null, .null, .null, .null]))]) hD hS hA [14] rfl
  refine va_callv (va_runI (As := []) (rest := [.ref q6, .int 2, .ref q1]) ⟨hx, hb, hml, hown, hts⟩ (n_X1_init l D ca q6 H.size) (cwI 0 hts (tt_goodT lk116) rfl rfl rfl (hts _ lk94) (hts _ lk168) (hts _ lk115) rfl (by decide +kernel) ⟨Nat.le_of_ble_eq_true rfl, Nat.le_of_ble_eq_true rfl⟩) ⟨kn_blind, fun U hU hW => ⟨rfl, by rw [hU], by rw [hU]; exact hPc, kn_warm hW hKK, hDc.weaken (fun _ _ _ _ => trivial)⟩⟩ rfl rfl hl.1 rfl (lv_room (Nat.le_of_ble_eq_true rfl)) dX2_init_30 ⟨Nat.le_of_ble_eq_true rfl, Nat.le_of_ble_eq_true rfl⟩) hS (fun q _ h => hFc q h) hFc (fun u7 t H1 locs ht hvm hw hB hz1 hk1 hS => ?_)
  obtain ⟨hP1, hD1⟩ := hB
  rw [ht] at hP1
  obtain ⟨hP, hD⟩ := va_join (wr := (([(h0, .inr (2, [.ref q1, .int 0, .int 0])), (q1, .inl (ca 4, 6, .inr (.inr (.inr (.inr (va_up (va_up (fun _ => none) 0 (some q2)) 1 (some q4)))))))] ++ NF ca q2 u3) ++ NF ca q4 u5)) (w1 := NF ca q6 u7) hP hD [14] [0, 1, 2, 3, 4, 5, 6, 7, 8, 9, 10, 11, 12, 13] rfl rfl (by decide) (by decide) hk1 hFc hP1 hD1
  generalize H1 = H at hP hS ⊢
  have hP : va_P D vwCl (((([(h0, .inr (2, [.ref q1, .int 0, .int 0])), (q1, .inl (ca 4, 6, .inr (.inr (.inr (.inr (va_up (va_up (fun _ => none) 0 (some q2)) 1 (some q4)))))))] ++ NF ca q2 u3) ++ NF ca q4 u5) ++ NF ca q6 u7)) H := hP
  have hD : va_D A (((([(h0, .inr (2, [.ref q1, .int 0, .int 0])), (q1, .inl (ca 4, 6, .inr (.inr (.inr (.inr (va_up (va_up (fun _ => none) 0 (some q2)) 1 (some q4)))))))] ++ NF ca q2 u3) ++ NF ca q4 u5) ++ NF ca q6 u7)) := hD
  refine va_astq hx hb hKK.1 hP hD hS 1 4 14 1 rfl rfl rfl rfl (i := 2) (vp_in_iff.mpr (by decide)) dX2_init_33 (fun H locs hP hD hS => ?_)
  have hP : va_P D vwCl (((([(h0, .inr (2, [.ref q1, .int 0, .int 0])), (q1, .inl (ca 4, 6, .inr (.inr (.inr (.inr (va_up (va_up (va_up (fun _ => none) 0 (some q2)) 1 (some q4)) 2 (some q6)))))))] ++ NF ca q2 u3) ++ NF ca q4 u5) ++ NF ca q6 u7)) H := hP
  have hD : va_D A (((([(h0, .inr (2, [.ref q1, .int 0, .int 0])), (q1, .inl (ca 4, 6, .inr (.inr (.inr (.inr (va_up (va_up (va_up (fun _ => none) 0 (some q2)) 1 (some q4)) 2 (some q6)))))))] ++ NF ca q2 u3) ++ NF ca q4 u5) ++ NF ca q6 u7)) := hD
  refine lv_iinc (v := 3) (lv' := [(1, .int 3), (0, .ref h0)]) hx hb dX2_init_34 hl (k := 0) rfl (by decide) (by decide) rfl (fun ls hl => ?_)
  refine lv_goto (tgt := 15) hx hb dX2_init_37 (by decide) ?_
  refine lv_iload_n hx hb dX2_init_15 rfl (lv_at hl 0 rfl) ?_
  refine lv_bipush (v := 6) hx hb dX2_init_16 (by decide) ?_
  refine lv_icmp_ge (tgt := 40) hx hb dX2_init_18 (by decide) (fun c => absurd c (by decide)) (fun _ => ?_)
  refine lv_aload_n hx hb dX2_init_21 rfl (lv_at hl 1 rfl) ?_
  refine va_get (D := D) (ci := 2) (v := .ref q1) (C := RX2) (T := TX2) (N := 3) hx hb hts inTX2 hown hKK.1 hP 0 rfl rfl 0 (by decide) (hts _ lk169) (fun _ h9 => h9) rfl dX2_init_22 ?_
  refine lv_iload_n hx hb dX2_init_25 rfl (lv_at hl 0 rfl) ?_
  refine va_new (ci := 1) (fs := [.int 0, .int 0, .int 0, .null, .null, .null, .null, .null]) (C := RX1) (T := TX1) (N := 8) hx hb hts inTX1 tyX1 tyX1_ok hown (hts _ lk166) (hts _ lki_1) (hts _ lk94) hKK.1 hP hD hS hA rfl (by decide) (Nat.le_of_ble_eq_true rfl) (Nat.le_of_ble_eq_true rfl) dX2_init_26 (fun q8 H hP hD hS => ?_)
  have hP : va_P D vwCl ((((([(h0, .inr (2, [.ref q1, .int 0, .int 0])), (q1, .inl (ca 4, 6, .inr (.inr (.inr (.inr (va_up (va_up (va_up (fun _ => none) 0 (some q2)) 1 (some q4)) 2 (some q6)))))))] ++ NF ca q2 u3) ++ NF ca q4 u5) ++ NF ca q6 u7) ++ [(q8, .inr (1, [.int 0, .int 0, .int 0, .null, .null, .null, .null, .null]))])) H := hP
  have hD : va_D A ((((([(h0, .inr (2, [.ref q1, .int 0, .int 0])), (q1, .inl (ca 4, 6, .inr (.inr (.inr (.inr (va_up (va_up (va_up (fun _ => none) 0 (some q2)) 1 (some q4)) 2 (some q6)))))))] ++ NF ca q2 u3) ++ NF ca q4 u5) ++ NF ca q6 u7) ++ [(q8, .inr (1, [.int 0, .int 0, .int 0, .null, .null, .null, .null, .null]))])) := hD
  refine lv_dup hx hb dX2_init_29 rfl ?_
  have hPc := hP.sub (ws' := [(q8, .inr (1, [.int 0, .int 0, .int 0, .null, .null, .null, .null, .null]))]) [20] rfl
  have hDc := hD.sub (ws' := [(q8, .inr (1, [.int 0, .int 0, .int 0, .null, .null, .null, .null, .null]))]) [20] (by decide) rfl
  have hFc := va_free (wc := [(q8, .inr (1, [.int 0, .int 0, .int 0, .null, .null, .null, .null, .null]))]) hD hS hA [20] rfl
  refine va_callv (va_runI (As := []) (rest := [.ref q8, .int 3, .ref q1]) ⟨hx, hb, hml, hown, hts⟩ (n_X1_init l D ca q8 H.size) (cwI 0 hts (tt_goodT lk116) rfl rfl rfl (hts _ lk94) (hts _ lk168) (hts _ lk115) rfl (by decide +kernel) ⟨Nat.le_of_ble_eq_true rfl, Nat.le_of_ble_eq_true rfl⟩) ⟨kn_blind, fun U hU hW => ⟨rfl, by rw [hU], by rw [hU]; exact hPc, kn_warm hW hKK, hDc.weaken (fun _ _ _ _ => trivial)⟩⟩ rfl rfl hl.1 rfl (lv_room (Nat.le_of_ble_eq_true rfl)) dX2_init_30 ⟨Nat.le_of_ble_eq_true rfl, Nat.le_of_ble_eq_true rfl⟩) hS (fun q _ h => hFc q h) hFc (fun u9 t H1 locs ht hvm hw hB hz1 hk1 hS => ?_)
  obtain ⟨hP1, hD1⟩ := hB
  rw [ht] at hP1
  obtain ⟨hP, hD⟩ := va_join (wr := ((([(h0, .inr (2, [.ref q1, .int 0, .int 0])), (q1, .inl (ca 4, 6, .inr (.inr (.inr (.inr (va_up (va_up (va_up (fun _ => none) 0 (some q2)) 1 (some q4)) 2 (some q6)))))))] ++ NF ca q2 u3) ++ NF ca q4 u5) ++ NF ca q6 u7)) (w1 := NF ca q8 u9) hP hD [20] [0, 1, 2, 3, 4, 5, 6, 7, 8, 9, 10, 11, 12, 13, 14, 15, 16, 17, 18, 19] rfl rfl (by decide) (by decide) hk1 hFc hP1 hD1
  generalize H1 = H at hP hS ⊢
  have hP : va_P D vwCl ((((([(h0, .inr (2, [.ref q1, .int 0, .int 0])), (q1, .inl (ca 4, 6, .inr (.inr (.inr (.inr (va_up (va_up (va_up (fun _ => none) 0 (some q2)) 1 (some q4)) 2 (some q6)))))))] ++ NF ca q2 u3) ++ NF ca q4 u5) ++ NF ca q6 u7) ++ NF ca q8 u9)) H := hP
  have hD : va_D A ((((([(h0, .inr (2, [.ref q1, .int 0, .int 0])), (q1, .inl (ca 4, 6, .inr (.inr (.inr (.inr (va_up (va_up (va_up (fun _ => none) 0 (some q2)) 1 (some q4)) 2 (some q6)))))))] ++ NF ca q2 u3) ++ NF ca q4 u5) ++ NF ca q6 u7) ++ NF ca q8 u9)) := hD
  refine va_astq hx hb hKK.1 hP hD hS 1 4 20 1 rfl rfl rfl rfl (i := 3) (vp_in_iff.mpr (by decide)) dX2_init_33 (fun H locs hP hD hS => ?_)
  have hP : va_P D vwCl ((((([(h0, .inr (2, [.ref q1, .int 0, .int 0])), (q1, .inl (ca 4, 6, .inr (.inr (.inr (.inr (va_up (va_up (va_up (va_up (fun _ => none) 0 (some q2)) 1 (some q4)) 2 (some q6)) 3 (some q8)))))))] ++ NF ca q2 u3) ++ NF ca q4 u5) ++ NF ca q6 u7) ++ NF ca q8 u9)) H := hP
  have hD : va_D A ((((([(h0, .inr (2, [.ref q1, .int 0, .int 0])), (q1, .inl (ca 4, 6, .inr (.inr (.inr (.inr (va_up (va_up (va_up (va_up (fun _ => none) 0 (some q2)) 1 (some q4)) 2 (some q6)) 3 (some q8)))))))] ++ NF ca q2 u3) ++ NF ca q4 u5) ++ NF ca q6 u7) ++ NF ca q8 u9)) := hD
  refine lv_iinc (v := 4) (lv' := [(1, .int 4), (0, .ref h0)]) hx hb dX2_init_34 hl (k := 0) rfl (by decide) (by decide) rfl (fun ls hl => ?_)
  refine lv_goto (tgt := 15) hx hb dX2_init_37 (by decide) ?_
  refine lv_iload_n hx hb dX2_init_15 rfl (lv_at hl 0 rfl) ?_
  refine lv_bipush (v := 6) hx hb dX2_init_16 (by decide) ?_
  refine lv_icmp_ge (tgt := 40) hx hb dX2_init_18 (by decide) (fun c => absurd c (by decide)) (fun _ => ?_)
  refine lv_aload_n hx hb dX2_init_21 rfl (lv_at hl 1 rfl) ?_
  refine va_get (D := D) (ci := 2) (v := .ref q1) (C := RX2) (T := TX2) (N := 3) hx hb hts inTX2 hown hKK.1 hP 0 rfl rfl 0 (by decide) (hts _ lk169) (fun _ h9 => h9) rfl dX2_init_22 ?_
  refine lv_iload_n hx hb dX2_init_25 rfl (lv_at hl 0 rfl) ?_
  refine va_new (ci := 1) (fs := [.int 0, .int 0, .int 0, .null, .null, .null, .null, .null]) (C := RX1) (T := TX1) (N := 8) hx hb hts inTX1 tyX1 tyX1_ok hown (hts _ lk166) (hts _ lki_1) (hts _ lk94) hKK.1 hP hD hS hA rfl (by decide) (Nat.le_of_ble_eq_true rfl) (Nat.le_of_ble_eq_true rfl) dX2_init_26 (fun q10 H hP hD hS => ?_)
  have hP : va_P D vwCl (((((([(h0, .inr (2, [.ref q1, .int 0, .int 0])), (q1, .inl (ca 4, 6, .inr (.inr (.inr (.inr (va_up (va_up (va_up (va_up (fun _ => none) 0 (some q2)) 1 (some q4)) 2 (some q6)) 3 (some q8)))))))] ++ NF ca q2 u3) ++ NF ca q4 u5) ++ NF ca q6 u7) ++ NF ca q8 u9) ++ [(q10, .inr (1, [.int 0, .int 0, .int 0, .null, .null, .null, .null, .null]))])) H := hP
  have hD : va_D A (((((([(h0, .inr (2, [.ref q1, .int 0, .int 0])), (q1, .inl (ca 4, 6, .inr (.inr (.inr (.inr (va_up (va_up (va_up (va_up (fun _ => none) 0 (some q2)) 1 (some q4)) 2 (some q6)) 3 (some q8)))))))] ++ NF ca q2 u3) ++ NF ca q4 u5) ++ NF ca q6 u7) ++ NF ca q8 u9) ++ [(q10, .inr (1, [.int 0, .int 0, .int 0, .null, .null, .null, .null, .null]))])) := hD
  refine lv_dup hx hb dX2_init_29 rfl ?_
  have hPc := hP.sub (ws' := [(q10, .inr (1, [.int 0, .int 0, .int 0, .null, .null, .null, .null, .null]))]) [26] rfl
  have hDc := hD.sub (ws' := [(q10, .inr (1, [.int 0, .int 0, .int 0, .null, .null, .null, .null, .null]))]) [26] (by decide) rfl
  have hFc := va_free (wc := [(q10, .inr (1, [.int 0, .int 0, .int 0, .null, .null, .null, .null, .null]))]) hD hS hA [26] rfl
  refine va_callv (va_runI (As := []) (rest := [.ref q10, .int 4, .ref q1]) ⟨hx, hb, hml, hown, hts⟩ (n_X1_init l D ca q10 H.size) (cwI 0 hts (tt_goodT lk116) rfl rfl rfl (hts _ lk94) (hts _ lk168) (hts _ lk115) rfl (by decide +kernel) ⟨Nat.le_of_ble_eq_true rfl, Nat.le_of_ble_eq_true rfl⟩) ⟨kn_blind, fun U hU hW => ⟨rfl, by rw [hU], by rw [hU]; exact hPc, kn_warm hW hKK, hDc.weaken (fun _ _ _ _ => trivial)⟩⟩ rfl rfl hl.1 rfl (lv_room (Nat.le_of_ble_eq_true rfl)) dX2_init_30 ⟨Nat.le_of_ble_eq_true rfl, Nat.le_of_ble_eq_true rfl⟩) hS (fun q _ h => hFc q h) hFc (fun u11 t H1 locs ht hvm hw hB hz1 hk1 hS => ?_)
  obtain ⟨hP1, hD1⟩ := hB
  rw [ht] at hP1
  obtain ⟨hP, hD⟩ := va_join (wr := (((([(h0, .inr (2, [.ref q1, .int 0, .int 0])), (q1, .inl (ca 4, 6, .inr (.inr (.inr (.inr (va_up (va_up (va_up (va_up (fun _ => none) 0 (some q2)) 1 (some q4)) 2 (some q6)) 3 (some q8)))))))] ++ NF ca q2 u3) ++ NF ca q4 u5) ++ NF ca q6 u7) ++ NF ca q8 u9)) (w1 := NF ca q10 u11) hP hD [26] [0, 1, 2, 3, 4, 5, 6, 7, 8, 9, 10, 11, 12, 13, 14, 15, 16, 17, 18, 19, 20, 21, 22, 23, 24, 25] rfl rfl (by decide) (by decide) hk1 hFc hP1 hD1
  generalize H1 = H at hP hS ⊢
  have hP : va_P D vwCl (((((([(h0, .inr (2, [.ref q1, .int 0, .int 0])), (q1, .inl (ca 4, 6, .inr (.inr (.inr (.inr (va_up (va_up (va_up (va_up (fun _ => none) 0 (some q2)) 1 (some q4)) 2 (some q6)) 3 (some q8)))))))] ++ NF ca q2 u3) ++ NF ca q4 u5) ++ NF ca q6 u7) ++ NF ca q8 u9) ++ NF ca q10 u11)) H := hP
  have hD : va_D A (((((([(h0, .inr (2, [.ref q1, .int 0, .int 0])), (q1, .inl (ca 4, 6, .inr (.inr (.inr (.inr (va_up (va_up (va_up (va_up (fun _ => none) 0 (some q2)) 1 (some q4)) 2 (some q6)) 3 (some q8)))))))] ++ NF ca q2 u3) ++ NF ca q4 u5) ++ NF ca q6 u7) ++ NF ca q8 u9) ++ NF ca q10 u11)) := hD
  refine va_astq hx hb hKK.1 hP hD hS 1 4 26 1 rfl rfl rfl rfl (i := 4) (vp_in_iff.mpr (by decide)) dX2_init_33 (fun H locs hP hD hS => ?_)
  have hP : va_P D vwCl (((((([(h0, .inr (2, [.ref q1, .int 0, .int 0])), (q1, .inl (ca 4, 6, .inr (.inr (.inr (.inr (va_up (va_up (va_up (va_up (va_up (fun _ => none) 0 (some q2)) 1 (some q4)) 2 (some q6)) 3 (some q8)) 4 (some q10)))))))] ++ NF ca q2 u3) ++ NF ca q4 u5) ++ NF ca q6 u7) ++ NF ca q8 u9) ++ NF ca q10 u11)) H := hP
  have hD : va_D A (((((([(h0, .inr (2, [.ref q1, .int 0, .int 0])), (q1, .inl (ca 4, 6, .inr (.inr (.inr (.inr (va_up (va_up (va_up (va_up (va_up (fun _ => none) 0 (some q2)) 1 (some q4)) 2 (some q6)) 3 (some q8)) 4 (some q10)))))))] ++ NF ca q2 u3) ++ NF ca q4 u5) ++ NF ca q6 u7) ++ NF ca q8 u9) ++ NF ca q10 u11)) := hD
  refine lv_iinc (v := 5) (lv' := [(1, .int 5), (0, .ref h0)]) hx hb dX2_init_34 hl (k := 0) rfl (by decide) (by decide) rfl (fun ls hl => ?_)
  refine lv_goto (tgt := 15) hx hb dX2_init_37 (by decide) ?_
  refine lv_iload_n hx hb dX2_init_15 rfl (lv_at hl 0 rfl) ?_
  refine lv_bipush (v := 6) hx hb dX2_init_16 (by decide) ?_
  refine lv_icmp_ge (tgt := 40) hx hb dX2_init_18 (by decide) (fun c => absurd c (by decide)) (fun _ => ?_)
  refine lv_aload_n hx hb dX2_init_21 rfl (lv_at hl 1 rfl) ?_
  refine va_get (D := D) (ci := 2) (v := .ref q1) (C := RX2) (T := TX2) (N := 3) hx hb hts inTX2 hown hKK.1 hP 0 rfl rfl 0 (by decide) (hts _ lk169) (fun _ h9 => h9) rfl dX2_init_22 ?_
  refine lv_iload_n hx hb dX2_init_25 rfl (lv_at hl 0 rfl) ?_
  refine va_new (ci := 1) (fs := [.int 0, .int 0, .int 0, .null, .null, .null, .null, .null]) (C := RX1) (T := TX1) (N := 8) hx hb hts inTX1 tyX1 tyX1_ok hown (hts _ lk166) (hts _ lki_1) (hts _ lk94) hKK.1 hP hD hS hA rfl (by decide) (Nat.le_of_ble_eq_true rfl) (Nat.le_of_ble_eq_true rfl) dX2_init_26 (fun q12 H hP hD hS => ?_)
  have hP : va_P D vwCl ((((((([(h0, .inr (2, [.ref q1, .int 0, .int 0])), (q1, .inl (ca 4, 6, .inr (.inr (.inr (.inr (va_up (va_up (va_up (va_up (va_up (fun _ => none) 0 (some q2)) 1 (some q4)) 2 (some q6)) 3 (some q8)) 4 (some q10)))))))] ++ NF ca q2 u3) ++ NF ca q4 u5) ++ NF ca q6 u7) ++ NF ca q8 u9) ++ NF ca q10 u11) ++ [(q12, .inr (1, [.int 0, .int 0, .int 0, .null, .null, .null, .null, .null]))])) H := hP
  have hD : va_D A ((((((([(h0, .inr (2, [.ref q1, .int 0, .int 0])), (q1, .inl (ca 4, 6, .inr (.inr (.inr (.inr (va_up (va_up (va_up (va_up (va_up (fun _ => none) 0 (some q2)) 1 (some q4)) 2 (some q6)) 3 (some q8)) 4 (some q10)))))))] ++ NF ca q2 u3) ++ NF ca q4 u5) ++ NF ca q6 u7) ++ NF ca q8 u9) ++ NF ca q10 u11) ++ [(q12, .inr (1, [.int 0, .int 0, .int 0, .null, .null, .null, .null, .null]))])) := hD
  refine lv_dup hx hb dX2_init_29 rfl ?_
  have hPc := hP.sub (ws' := [(q12, .inr (1, [.int 0, .int 0, .int 0, .null, .null, .null, .null, .null]))]) [32] rfl
  have hDc := hD.sub (ws' := [(q12, .inr (1, [.int 0, .int 0, .int 0, .null, .null, .null, .null, .null]))]) [32] (by decide) rfl
  have hFc := va_free (wc := [(q12, .inr (1, [.int 0, .int 0, .int 0, .null, .null, .null, .null, .null]))]) hD hS hA [32] rfl
  refine va_callv (va_runI (As := []) (rest := [.ref q12, .int 5, .ref q1]) ⟨hx, hb, hml, hown, hts⟩ (n_X1_init l D ca q12 H.size) (cwI 0 hts (tt_goodT lk116) rfl rfl rfl (hts _ lk94) (hts _ lk168) (hts _ lk115) rfl (by decide +kernel) ⟨Nat.le_of_ble_eq_true rfl, Nat.le_of_ble_eq_true rfl⟩) ⟨kn_blind, fun U hU hW => ⟨rfl, by rw [hU], by rw [hU]; exact hPc, kn_warm hW hKK, hDc.weaken (fun _ _ _ _ => trivial)⟩⟩ rfl rfl hl.1 rfl (lv_room (Nat.le_of_ble_eq_true rfl)) dX2_init_30 ⟨Nat.le_of_ble_eq_true rfl, Nat.le_of_ble_eq_true rfl⟩) hS (fun q _ h => hFc q h) hFc (fun u13 t H1 locs ht hvm hw hB hz1 hk1 hS => ?_)
  obtain ⟨hP1, hD1⟩ := hB
  rw [ht] at hP1
  obtain ⟨hP, hD⟩ := va_join (wr := ((((([(h0, .inr (2, [.ref q1, .int 0, .int 0])), (q1, .inl (ca 4, 6, .inr (.inr (.inr (.inr (va_up (va_up (va_up (va_up (va_up (fun _ => none) 0 (some q2)) 1 (some q4)) 2 (some q6)) 3 (some q8)) 4 (some q10)))))))] ++ NF ca q2 u3) ++ NF ca q4 u5) ++ NF ca q6 u7) ++ NF ca q8 u9) ++ NF ca q10 u11)) (w1 := NF ca q12 u13) hP hD [32] [0, 1, 2, 3, 4, 5, 6, 7, 8, 9, 10, 11, 12, 13, 14, 15, 16, 17, 18, 19, 20, 21, 22, 23, 24, 25, 26, 27, 28, 29, 30, 31] rfl rfl (by decide) (by decide) hk1 hFc hP1 hD1
  generalize H1 = H at hP hS ⊢
  have hP : va_P D vwCl ((((((([(h0, .inr (2, [.ref q1, .int 0, .int 0])), (q1, .inl (ca 4, 6, .inr (.inr (.inr (.inr (va_up (va_up (va_up (va_up (va_up (fun _ => none) 0 (some q2)) 1 (some q4)) 2 (some q6)) 3 (some q8)) 4 (some q10)))))))] ++ NF ca q2 u3) ++ NF ca q4 u5) ++ NF ca q6 u7) ++ NF ca q8 u9) ++ NF ca q10 u11) ++ NF ca q12 u13)) H := hP
  have hD : va_D A ((((((([(h0, .inr (2, [.ref q1, .int 0, .int 0])), (q1, .inl (ca 4, 6, .inr (.inr (.inr (.inr (va_up (va_up (va_up (va_up (va_up (fun _ => none) 0 (some q2)) 1 (some q4)) 2 (some q6)) 3 (some q8)) 4 (some q10)))))))] ++ NF ca q2 u3) ++ NF ca q4 u5) ++ NF ca q6 u7) ++ NF ca q8 u9) ++ NF ca q10 u11) ++ NF ca q12 u13)) := hD
  refine va_astq hx hb hKK.1 hP hD hS 1 4 32 1 rfl rfl rfl rfl (i := 5) (vp_in_iff.mpr (by decide)) dX2_init_33 (fun H locs hP hD hS => ?_)
  have hP : va_P D vwCl ((((((([(h0, .inr (2, [.ref q1, .int 0, .int 0])), (q1, .inl (ca 4, 6, .inr (.inr (.inr (.inr (va_up (va_up (va_up (va_up (va_up (va_up (fun _ => none) 0 (some q2)) 1 (some q4)) 2 (some q6)) 3 (some q8)) 4 (some q10)) 5 (some q12)))))))] ++ NF ca q2 u3) ++ NF ca q4 u5) ++ NF ca q6 u7) ++ NF ca q8 u9) ++ NF ca q10 u11) ++ NF ca q12 u13)) H := hP
  have hD : va_D A ((((((([(h0, .inr (2, [.ref q1, .int 0, .int 0])), (q1, .inl (ca 4, 6, .inr (.inr (.inr (.inr (va_up (va_up (va_up (va_up (va_up (va_up (fun _ => none) 0 (some q2)) 1 (some q4)) 2 (some q6)) 3 (some q8)) 4 (some q10)) 5 (some q12)))))))] ++ NF ca q2 u3) ++ NF ca q4 u5) ++ NF ca q6 u7) ++ NF ca q8 u9) ++ NF ca q10 u11) ++ NF ca q12 u13)) := hD
  refine lv_iinc (v := 6) (lv' := [(1, .int 6), (0, .ref h0)]) hx hb dX2_init_34 hl (k := 0) rfl (by decide) (by decide) rfl (fun ls hl => ?_)
  refine lv_goto (tgt := 15) hx hb dX2_init_37 (by decide) ?_
  refine lv_iload_n hx hb dX2_init_15 rfl (lv_at hl 0 rfl) ?_
  refine lv_bipush (v := 6) hx hb dX2_init_16 (by decide) ?_
  refine lv_icmp_ge (tgt := 40) hx hb dX2_init_18 (by decide) (fun _ => ?_) (fun c => absurd (by decide) c)
  have hP := va_ring hP 1 rfl (g := fun i => if i < 6 then some ((fun k => [h0, q1, q2, (u3 1), (u3 2), (u3 3), (u3 4), (u3 5), q4, (u5 1), (u5 2), (u5 3), (u5 4), (u5 5), q6, (u7 1), (u7 2), (u7 3), (u7 4), (u7 5), q8, (u9 1), (u9 2), (u9 3), (u9 4), (u9 5), q10, (u11 1), (u11 2), (u11 3), (u11 4), (u11 5), q12, (u13 1), (u13 2), (u13 3), (u13 4), (u13 5)].getD k 0) (2 + 6 * i)) else none) (fun j hj => by
    match j, hj with
    | 0, _ => rfl
    | 1, _ => rfl
    | 2, _ => rfl
    | 3, _ => rfl
    | 4, _ => rfl
    | 5, _ => rfl)
  have hD := va_D.set (e := .inl (ca 4, 6, .inr (.inr (.inr (.inr (fun i => if i < 6 then some ((fun k => [h0, q1, q2, (u3 1), (u3 2), (u3 3), (u3 4), (u3 5), q4, (u5 1), (u5 2), (u5 3), (u5 4), (u5 5), q6, (u7 1), (u7 2), (u7 3), (u7 4), (u7 5), q8, (u9 1), (u9 2), (u9 3), (u9 4), (u9 5), q10, (u11 1), (u11 2), (u11 3), (u11 4), (u11 5), q12, (u13 1), (u13 2), (u13 3), (u13 4), (u13 5)].getD k 0) (2 + 6 * i)) else none)))))) hD (p := 1) rfl
  refine W.widen (k := 37) (n := 288) (Nat.le_of_ble_eq_true rfl) (Nat.le_of_ble_eq_true rfl) ?_
  exact W.vret hx hb hr (fun t ht hW => ⟨⟨(fun k => [h0, q1, q2, (u3 1), (u3 2), (u3 3), (u3 4), (u3 5), q4, (u5 1), (u5 2), (u5 3), (u5 4), (u5 5), q6, (u7 1), (u7 2), (u7 3), (u7 4), (u7 5), q8, (u9 1), (u9 2), (u9 3), (u9 4), (u9 5), q10, (u11 1), (u11 2), (u11 3), (u11 4), (u11 5), q12, (u13 1), (u13 2), (u13 3), (u13 4), (u13 5)].getD k 0), rfl, trivial, by show va_P D vwCl (NH ca h0 (fun k => [h0, q1, q2, (u3 1), (u3 2), (u3 3), (u3 4), (u3 5), q4, (u5 1), (u5 2), (u5 3), (u5 4), (u5 5), q6, (u7 1), (u7 2), (u7 3), (u7 4), (u7 5), q8, (u9 1), (u9 2), (u9 3), (u9 4), (u9 5), q10, (u11 1), (u11 2), (u11 3), (u11 4), (u11 5), q12, (u13 1), (u13 2), (u13 3), (u13 4), (u13 5)].getD k 0)) t.heap; rw [ht]; exact hP, hD⟩, hS.F ht⟩) hS.2.2 dX2_init_40
def rmX4_init : Room := { frames := 1, cells := 4, slots := 207, locals := 12 }
set_option maxHeartbeats 8000000 in
set_option maxRecDepth 100000 in
theorem n_X4_init (l : Launch) (D : va_G) (ca : Nat → ClassId) (h0 sz : Nat) : Met l yX4_init (Cond.code yX4_init cX4_init 1 none :: TT) rmX4_init (va_Pc [.ref h0] (fun U => U.heap.size = sz ∧ va_P D vwCl [(h0, .inr (4, [.int 0, .int 0, .int 0, .long 0, .null, .null, .null, .null]))] U.heap ∧ KN D ca U ∧ va_D (fun _ => True) [(h0, .inr (4, [.int 0, .int 0, .int 0, .long 0, .null, .null, .null, .null]))])) (va_Qv (fun (_ : Nat → Nat) => True) (fun a t => va_P D vwCl (NS ca h0 a) t.heap ∧ va_D (va_A [(h0, .inr (4, [.int 0, .int 0, .int 0, .long 0, .null, .null, .null, .null]))] sz) (NS ca h0 a)) (va_A [(h0, .inr (4, [.int 0, .int 0, .int 0, .long 0, .null, .null, .null, .null]))] sz)) 4 207 (va_A [(h0, .inr (4, [.int 0, .int 0, .int 0, .long 0, .null, .null, .null, .null]))] sz) := by
  refine Met.ofW (cc := cX4_init) (maxL := 1) (ret := none) (by decide) rfl ?_
  intro p e s m args below meth c s₁ B hml hv
  obtain ⟨rfl, hsz, hP, hKK, hD0⟩ := hv
  have hx := B.exec
  have hb := B.bytes
  have hr := B.returns
  have hts : ∀ w ∈ TT, w.before _ s = true := fun w h => atoms_spec (ws := Cond.code yX4_init cX4_init 1 none :: TT) B.pre w (List.mem_cons_of_mem _ h)
  have hown : s.vm.findClass RX4 = some m.cls := findClass_of_methodNamed B.named
  have hlocks := B.notSynchronized
  have hin : meth.name = "<init>" := (name_of_methodNamed B.named B.method).1
  subst hsz
  have hD := hD0.self (sz := s.heap.size)
  generalize hAe : va_A [(h0, .inr (4, [.int 0, .int 0, .int 0, .long 0, .null, .null, .null, .null]))] s.heap.size = A at hD ⊢
  have hA : ∀ q : Nat, s.heap.size ≤ q → A q := fun q h => by rw [← hAe]; exact Or.inr h
  have hS : va_S A s.heap s.heap [] := va_S.rf
  have hP : va_P D vwCl [(h0, .inr (4, [.int 0, .int 0, .int 0, .long 0, .null, .null, .null, .null]))] s.heap := hP
  have hAO4 : va_AO "ForceFrames$Frame" s := hKK.2.2.2.2.2.1
  have hAO5 : va_AO "ForceFrames$Row" s := hKK.2.2.2.2.2.2
  have hl := lv_entry ([.ref h0]) (n := 1) (Nat.le_of_ble_eq_true rfl)
  rw [lg_entry_eq]
  generalize (lg_sl ([.ref h0]) ++ List.replicate (1 - (lg_sl ([.ref h0])).length) Slot.unset).toArray = ls at hl ⊢
  have hl : lv_has ls 1 [(0, .ref h0)] := hl
  refine lv_aload_n hx hb dX4_init_0 rfl (lv_at hl 0 rfl) ?_
  refine W.objInit hx hb hown (hts _ lk185) (hts _ lk110) (hts _ lk_obj) rfl (by rw [hml]; exact hl.1) rfl dX4_init_1 (Nat.le_of_ble_eq_true rfl) (Nat.le_of_ble_eq_true rfl) ?_
  refine W.eq (g2 := F0 m 4 ls []) rfl ?_
  refine lv_aload_n hx hb dX4_init_4 rfl (lv_at hl 0 rfl) ?_
  refine lv_lconst (v := 1) hx hb dX4_init_5 (by decide) ?_
  refine va_put (D := D) (ci := 4) (v := .long 1) (ty := .long) (C := RX4) (T := TX4) (N := 8) hx hb hts inTX4 tyX4 tyX4_ok nmX4 hown hKK.1 hP hD hS 0 rfl rfl 3 (by decide) (hts _ lk190) (fun _ h9 => h9) rfl (by decide +kernel) rfl rfl (Nat.le_of_ble_eq_true rfl) dX4_init_6 (fun H locs hP hD hS => ?_)
  have hP : va_P D vwCl ([(h0, .inr (4, [.int 0, .int 0, .int 0, .long 1, .null, .null, .null, .null]))]) H := hP
  have hD : va_D A ([(h0, .inr (4, [.int 0, .int 0, .int 0, .long 1, .null, .null, .null, .null]))]) := hD
  refine lv_aload_n hx hb dX4_init_9 rfl (lv_at hl 0 rfl) ?_
  refine lv_bipush (v := 81) hx hb dX4_init_10 (by decide) ?_
  refine k_new1 (N' := 81) hx hb (hts _ lka_long) rfl hKK hP hD hS hA (by decide) rfl (Nat.le_of_ble_eq_true rfl) (Nat.le_of_ble_eq_true rfl) (Nat.le_of_ble_eq_true rfl) dX4_init_12 (fun q1 H hP hD hS => ?_)
  have hP : va_P D vwCl ([(h0, .inr (4, [.int 0, .int 0, .int 0, .long 1, .null, .null, .null, .null])), (q1, .inl (ca 1, 81, .inr (.inl (fun _ => 0))))]) H := hP
  have hD : va_D A ([(h0, .inr (4, [.int 0, .int 0, .int 0, .long 1, .null, .null, .null, .null])), (q1, .inl (ca 1, 81, .inr (.inl (fun _ => 0))))]) := hD
  refine va_putF (D := D) (ci := 4) (v := .ref q1) (ty := tyX4 4) (C := RX4) (T := TX4) (N := 8) hx hb hts inTX4 tyX4 tyX4_ok nmX4 hown hKK.1 hP hD hS 0 rfl rfl 4 (by decide) (hts _ lk192) (fun _ h9 => h9) rfl hin rfl (by decide +kernel) rfl rfl (Nat.le_of_ble_eq_true rfl) dX4_init_14 (fun H locs hP hD hS => ?_)
  have hP : va_P D vwCl ([(h0, .inr (4, [.int 0, .int 0, .int 0, .long 1, .ref q1, .null, .null, .null])), (q1, .inl (ca 1, 81, .inr (.inl (fun _ => 0))))]) H := hP
  have hD : va_D A ([(h0, .inr (4, [.int 0, .int 0, .int 0, .long 1, .ref q1, .null, .null, .null])), (q1, .inl (ca 1, 81, .inr (.inl (fun _ => 0))))]) := hD
  refine lv_aload_n hx hb dX4_init_17 rfl (lv_at hl 0 rfl) ?_
  refine lv_bipush (v := 9) hx hb dX4_init_18 (by decide) ?_
  refine k_new1 (N' := 9) hx hb (hts _ lka_long) rfl hKK hP hD hS hA (by decide) rfl (Nat.le_of_ble_eq_true rfl) (Nat.le_of_ble_eq_true rfl) (Nat.le_of_ble_eq_true rfl) dX4_init_20 (fun q2 H hP hD hS => ?_)
  have hP : va_P D vwCl ([(h0, .inr (4, [.int 0, .int 0, .int 0, .long 1, .ref q1, .null, .null, .null])), (q1, .inl (ca 1, 81, .inr (.inl (fun _ => 0)))), (q2, .inl (ca 1, 9, .inr (.inl (fun _ => 0))))]) H := hP
  have hD : va_D A ([(h0, .inr (4, [.int 0, .int 0, .int 0, .long 1, .ref q1, .null, .null, .null])), (q1, .inl (ca 1, 81, .inr (.inl (fun _ => 0)))), (q2, .inl (ca 1, 9, .inr (.inl (fun _ => 0))))]) := hD
  refine va_putF (D := D) (ci := 4) (v := .ref q2) (ty := tyX4 5) (C := RX4) (T := TX4) (N := 8) hx hb hts inTX4 tyX4 tyX4_ok nmX4 hown hKK.1 hP hD hS 0 rfl rfl 5 (by decide) (hts _ lk194) (fun _ h9 => h9) rfl hin rfl (by decide +kernel) rfl rfl (Nat.le_of_ble_eq_true rfl) dX4_init_22 (fun H locs hP hD hS => ?_)
  have hP : va_P D vwCl ([(h0, .inr (4, [.int 0, .int 0, .int 0, .long 1, .ref q1, .ref q2, .null, .null])), (q1, .inl (ca 1, 81, .inr (.inl (fun _ => 0)))), (q2, .inl (ca 1, 9, .inr (.inl (fun _ => 0))))]) H := hP
  have hD : va_D A ([(h0, .inr (4, [.int 0, .int 0, .int 0, .long 1, .ref q1, .ref q2, .null, .null])), (q1, .inl (ca 1, 81, .inr (.inl (fun _ => 0)))), (q2, .inl (ca 1, 9, .inr (.inl (fun _ => 0))))]) := hD
  refine lv_aload_n hx hb dX4_init_25 rfl (lv_at hl 0 rfl) ?_
  refine lv_bipush (v := 108) hx hb dX4_init_26 (by decide) ?_
  refine k_new1 (N' := 108) hx hb (hts _ lka_long) rfl hKK hP hD hS hA (by decide) rfl (Nat.le_of_ble_eq_true rfl) (Nat.le_of_ble_eq_true rfl) (Nat.le_of_ble_eq_true rfl) dX4_init_28 (fun q3 H hP hD hS => ?_)
  have hP : va_P D vwCl ([(h0, .inr (4, [.int 0, .int 0, .int 0, .long 1, .ref q1, .ref q2, .null, .null])), (q1, .inl (ca 1, 81, .inr (.inl (fun _ => 0)))), (q2, .inl (ca 1, 9, .inr (.inl (fun _ => 0)))), (q3, .inl (ca 1, 108, .inr (.inl (fun _ => 0))))]) H := hP
  have hD : va_D A ([(h0, .inr (4, [.int 0, .int 0, .int 0, .long 1, .ref q1, .ref q2, .null, .null])), (q1, .inl (ca 1, 81, .inr (.inl (fun _ => 0)))), (q2, .inl (ca 1, 9, .inr (.inl (fun _ => 0)))), (q3, .inl (ca 1, 108, .inr (.inl (fun _ => 0))))]) := hD
  refine va_putF (D := D) (ci := 4) (v := .ref q3) (ty := tyX4 6) (C := RX4) (T := TX4) (N := 8) hx hb hts inTX4 tyX4 tyX4_ok nmX4 hown hKK.1 hP hD hS 0 rfl rfl 6 (by decide) (hts _ lk196) (fun _ h9 => h9) rfl hin rfl (by decide +kernel) rfl rfl (Nat.le_of_ble_eq_true rfl) dX4_init_30 (fun H locs hP hD hS => ?_)
  have hP : va_P D vwCl ([(h0, .inr (4, [.int 0, .int 0, .int 0, .long 1, .ref q1, .ref q2, .ref q3, .null])), (q1, .inl (ca 1, 81, .inr (.inl (fun _ => 0)))), (q2, .inl (ca 1, 9, .inr (.inl (fun _ => 0)))), (q3, .inl (ca 1, 108, .inr (.inl (fun _ => 0))))]) H := hP
  have hD : va_D A ([(h0, .inr (4, [.int 0, .int 0, .int 0, .long 1, .ref q1, .ref q2, .ref q3, .null])), (q1, .inl (ca 1, 81, .inr (.inl (fun _ => 0)))), (q2, .inl (ca 1, 9, .inr (.inl (fun _ => 0)))), (q3, .inl (ca 1, 108, .inr (.inl (fun _ => 0))))]) := hD
  refine lv_aload_n hx hb dX4_init_33 rfl (lv_at hl 0 rfl) ?_
  refine lv_bipush (v := 9) hx hb dX4_init_34 (by decide) ?_
  refine k_new0 (N' := 9) hx hb (hts _ lka_int) rfl hKK hP hD hS hA (by decide) rfl (Nat.le_of_ble_eq_true rfl) (Nat.le_of_ble_eq_true rfl) (Nat.le_of_ble_eq_true rfl) dX4_init_36 (fun q4 H hP hD hS => ?_)
  have hP : va_P D vwCl ([(h0, .inr (4, [.int 0, .int 0, .int 0, .long 1, .ref q1, .ref q2, .ref q3, .null])), (q1, .inl (ca 1, 81, .inr (.inl (fun _ => 0)))), (q2, .inl (ca 1, 9, .inr (.inl (fun _ => 0)))), (q3, .inl (ca 1, 108, .inr (.inl (fun _ => 0)))), (q4, .inl (ca 0, 9, .inl (fun _ => 0)))]) H := hP
  have hD : va_D A ([(h0, .inr (4, [.int 0, .int 0, .int 0, .long 1, .ref q1, .ref q2, .ref q3, .null])), (q1, .inl (ca 1, 81, .inr (.inl (fun _ => 0)))), (q2, .inl (ca 1, 9, .inr (.inl (fun _ => 0)))), (q3, .inl (ca 1, 108, .inr (.inl (fun _ => 0)))), (q4, .inl (ca 0, 9, .inl (fun _ => 0)))]) := hD
  refine va_putF (D := D) (ci := 4) (v := .ref q4) (ty := tyX4 7) (C := RX4) (T := TX4) (N := 8) hx hb hts inTX4 tyX4 tyX4_ok nmX4 hown hKK.1 hP hD hS 0 rfl rfl 7 (by decide) (hts _ lk197) (fun _ h9 => h9) rfl hin rfl (by decide +kernel) rfl rfl (Nat.le_of_ble_eq_true rfl) dX4_init_38 (fun H locs hP hD hS => ?_)
  have hP : va_P D vwCl ([(h0, .inr (4, [.int 0, .int 0, .int 0, .long 1, .ref q1, .ref q2, .ref q3, .ref q4])), (q1, .inl (ca 1, 81, .inr (.inl (fun _ => 0)))), (q2, .inl (ca 1, 9, .inr (.inl (fun _ => 0)))), (q3, .inl (ca 1, 108, .inr (.inl (fun _ => 0)))), (q4, .inl (ca 0, 9, .inl (fun _ => 0)))]) H := hP
  have hD : va_D A ([(h0, .inr (4, [.int 0, .int 0, .int 0, .long 1, .ref q1, .ref q2, .ref q3, .ref q4])), (q1, .inl (ca 1, 81, .inr (.inl (fun _ => 0)))), (q2, .inl (ca 1, 9, .inr (.inl (fun _ => 0)))), (q3, .inl (ca 1, 108, .inr (.inl (fun _ => 0)))), (q4, .inl (ca 0, 9, .inl (fun _ => 0)))]) := hD
  refine W.widen (k := 4) (n := 207) (Nat.le_of_ble_eq_true rfl) (Nat.le_of_ble_eq_true rfl) ?_
  exact W.vret hx hb hr (fun t ht hW => ⟨⟨(fun k => [h0, q1, q2, q3, q4].getD k 0), rfl, trivial, by show va_P D vwCl (NS ca h0 (fun k => [h0, q1, q2, q3, q4].getD k 0)) t.heap; rw [ht]; exact hP, hD⟩, hS.F ht⟩) hS.2.2 dX4_init_41
def rmX0_init : Room := { frames := 1, cells := 10, slots := 180, locals := 12 }
set_option maxHeartbeats 8000000 in
set_option maxRecDepth 100000 in
theorem n_X0_init (l : Launch) (D : va_G) (ca : Nat → ClassId) (h0 sz : Nat) : Met l yX0_init (Cond.code yX0_init cX0_init 1 none :: TT) rmX0_init (va_Pc [.ref h0] (fun U => U.heap.size = sz ∧ va_P D vwCl [(h0, .inr (0, [.int 0, .int 0, .null, .null, .null, .null, .null, .null, .null, .null, .null, .null]))] U.heap ∧ KN D ca U ∧ va_D (fun _ => True) [(h0, .inr (0, [.int 0, .int 0, .null, .null, .null, .null, .null, .null, .null, .null, .null, .null]))])) (va_Qv (fun (_ : Nat → Nat) => True) (fun a t => va_P D vwCl (NA ca h0 a) t.heap ∧ va_D (va_A [(h0, .inr (0, [.int 0, .int 0, .null, .null, .null, .null, .null, .null, .null, .null, .null, .null]))] sz) (NA ca h0 a)) (va_A [(h0, .inr (0, [.int 0, .int 0, .null, .null, .null, .null, .null, .null, .null, .null, .null, .null]))] sz)) 10 180 (va_A [(h0, .inr (0, [.int 0, .int 0, .null, .null, .null, .null, .null, .null, .null, .null, .null, .null]))] sz) := by
  refine Met.ofW (cc := cX0_init) (maxL := 1) (ret := none) (by decide) rfl ?_
  intro p e s m args below meth c s₁ B hml hv
  obtain ⟨rfl, hsz, hP, hKK, hD0⟩ := hv
  have hx := B.exec
  have hb := B.bytes
  have hr := B.returns
  have hts : ∀ w ∈ TT, w.before _ s = true := fun w h => atoms_spec (ws := Cond.code yX0_init cX0_init 1 none :: TT) B.pre w (List.mem_cons_of_mem _ h)
  have hown : s.vm.findClass RX0 = some m.cls := findClass_of_methodNamed B.named
  have hlocks := B.notSynchronized
  have hin : meth.name = "<init>" := (name_of_methodNamed B.named B.method).1
  subst hsz
  have hD := hD0.self (sz := s.heap.size)
  generalize hAe : va_A [(h0, .inr (0, [.int 0, .int 0, .null, .null, .null, .null, .null, .null, .null, .null, .null, .null]))] s.heap.size = A at hD ⊢
  have hA : ∀ q : Nat, s.heap.size ≤ q → A q := fun q h => by rw [← hAe]; exact Or.inr h
  have hS : va_S A s.heap s.heap [] := va_S.rf
  have hP : va_P D vwCl [(h0, .inr (0, [.int 0, .int 0, .null, .null, .null, .null, .null, .null, .null, .null, .null, .null]))] s.heap := hP
  have hAO4 : va_AO "ForceFrames$Frame" s := hKK.2.2.2.2.2.1
  have hAO5 : va_AO "ForceFrames$Row" s := hKK.2.2.2.2.2.2
  have hl := lv_entry ([.ref h0]) (n := 1) (Nat.le_of_ble_eq_true rfl)
  rw [lg_entry_eq]
  generalize (lg_sl ([.ref h0]) ++ List.replicate (1 - (lg_sl ([.ref h0])).length) Slot.unset).toArray = ls at hl ⊢
  have hl : lv_has ls 1 [(0, .ref h0)] := hl
  refine lv_aload_n hx hb dX0_init_0 rfl (lv_at hl 0 rfl) ?_
  refine W.objInit hx hb hown (hts _ lk221) (hts _ lk110) (hts _ lk_obj) rfl (by rw [hml]; exact hl.1) rfl dX0_init_1 (Nat.le_of_ble_eq_true rfl) (Nat.le_of_ble_eq_true rfl) ?_
  refine W.eq (g2 := F0 m 4 ls []) rfl ?_
  refine lv_aload_n hx hb dX0_init_4 rfl (lv_at hl 0 rfl) ?_
  refine lv_bipush (v := -4) hx hb dX0_init_5 (by decide) ?_
  refine va_put (D := D) (ci := 0) (v := .int (-4)) (ty := .int) (C := RX0) (T := TX0) (N := 12) hx hb hts inTX0 tyX0 tyX0_ok nmX0 hown hKK.1 hP hD hS 0 rfl rfl 1 (by decide) (hts _ lk224) (fun _ h9 => h9) rfl (by decide +kernel) rfl rfl (Nat.le_of_ble_eq_true rfl) dX0_init_7 (fun H locs hP hD hS => ?_)
  have hP : va_P D vwCl ([(h0, .inr (0, [.int 0, .int (-4), .null, .null, .null, .null, .null, .null, .null, .null, .null, .null]))]) H := hP
  have hD : va_D A ([(h0, .inr (0, [.int 0, .int (-4), .null, .null, .null, .null, .null, .null, .null, .null, .null, .null]))]) := hD
  refine lv_aload_n hx hb dX0_init_10 rfl (lv_at hl 0 rfl) ?_
  refine lv_bipush (v := 18) hx hb dX0_init_11 (by decide) ?_
  refine k_new0 (N' := 18) hx hb (hts _ lka_int) rfl hKK hP hD hS hA (by decide) rfl (Nat.le_of_ble_eq_true rfl) (Nat.le_of_ble_eq_true rfl) (Nat.le_of_ble_eq_true rfl) dX0_init_13 (fun q1 H hP hD hS => ?_)
  have hP : va_P D vwCl ([(h0, .inr (0, [.int 0, .int (-4), .null, .null, .null, .null, .null, .null, .null, .null, .null, .null])), (q1, .inl (ca 0, 18, .inl (fun _ => 0)))]) H := hP
  have hD : va_D A ([(h0, .inr (0, [.int 0, .int (-4), .null, .null, .null, .null, .null, .null, .null, .null, .null, .null])), (q1, .inl (ca 0, 18, .inl (fun _ => 0)))]) := hD
  refine va_putF (D := D) (ci := 0) (v := .ref q1) (ty := tyX0 2) (C := RX0) (T := TX0) (N := 12) hx hb hts inTX0 tyX0 tyX0_ok nmX0 hown hKK.1 hP hD hS 0 rfl rfl 2 (by decide) (hts _ lk226) (fun _ h9 => h9) rfl hin rfl (by decide +kernel) rfl rfl (Nat.le_of_ble_eq_true rfl) dX0_init_15 (fun H locs hP hD hS => ?_)
  have hP : va_P D vwCl ([(h0, .inr (0, [.int 0, .int (-4), .ref q1, .null, .null, .null, .null, .null, .null, .null, .null, .null])), (q1, .inl (ca 0, 18, .inl (fun _ => 0)))]) H := hP
  have hD : va_D A ([(h0, .inr (0, [.int 0, .int (-4), .ref q1, .null, .null, .null, .null, .null, .null, .null, .null, .null])), (q1, .inl (ca 0, 18, .inl (fun _ => 0)))]) := hD
  refine lv_aload_n hx hb dX0_init_18 rfl (lv_at hl 0 rfl) ?_
  refine lv_bipush (v := 18) hx hb dX0_init_19 (by decide) ?_
  refine k_new0 (N' := 18) hx hb (hts _ lka_int) rfl hKK hP hD hS hA (by decide) rfl (Nat.le_of_ble_eq_true rfl) (Nat.le_of_ble_eq_true rfl) (Nat.le_of_ble_eq_true rfl) dX0_init_21 (fun q2 H hP hD hS => ?_)
  have hP : va_P D vwCl ([(h0, .inr (0, [.int 0, .int (-4), .ref q1, .null, .null, .null, .null, .null, .null, .null, .null, .null])), (q1, .inl (ca 0, 18, .inl (fun _ => 0))), (q2, .inl (ca 0, 18, .inl (fun _ => 0)))]) H := hP
  have hD : va_D A ([(h0, .inr (0, [.int 0, .int (-4), .ref q1, .null, .null, .null, .null, .null, .null, .null, .null, .null])), (q1, .inl (ca 0, 18, .inl (fun _ => 0))), (q2, .inl (ca 0, 18, .inl (fun _ => 0)))]) := hD
  refine va_putF (D := D) (ci := 0) (v := .ref q2) (ty := tyX0 3) (C := RX0) (T := TX0) (N := 12) hx hb hts inTX0 tyX0 tyX0_ok nmX0 hown hKK.1 hP hD hS 0 rfl rfl 3 (by decide) (hts _ lk228) (fun _ h9 => h9) rfl hin rfl (by decide +kernel) rfl rfl (Nat.le_of_ble_eq_true rfl) dX0_init_23 (fun H locs hP hD hS => ?_)
  have hP : va_P D vwCl ([(h0, .inr (0, [.int 0, .int (-4), .ref q1, .ref q2, .null, .null, .null, .null, .null, .null, .null, .null])), (q1, .inl (ca 0, 18, .inl (fun _ => 0))), (q2, .inl (ca 0, 18, .inl (fun _ => 0)))]) H := hP
  have hD : va_D A ([(h0, .inr (0, [.int 0, .int (-4), .ref q1, .ref q2, .null, .null, .null, .null, .null, .null, .null, .null])), (q1, .inl (ca 0, 18, .inl (fun _ => 0))), (q2, .inl (ca 0, 18, .inl (fun _ => 0)))]) := hD
  refine lv_aload_n hx hb dX0_init_26 rfl (lv_at hl 0 rfl) ?_
  refine lv_bipush (v := 18) hx hb dX0_init_27 (by decide) ?_
  refine k_new0 (N' := 18) hx hb (hts _ lka_int) rfl hKK hP hD hS hA (by decide) rfl (Nat.le_of_ble_eq_true rfl) (Nat.le_of_ble_eq_true rfl) (Nat.le_of_ble_eq_true rfl) dX0_init_29 (fun q3 H hP hD hS => ?_)
  have hP : va_P D vwCl ([(h0, .inr (0, [.int 0, .int (-4), .ref q1, .ref q2, .null, .null, .null, .null, .null, .null, .null, .null])), (q1, .inl (ca 0, 18, .inl (fun _ => 0))), (q2, .inl (ca 0, 18, .inl (fun _ => 0))), (q3, .inl (ca 0, 18, .inl (fun _ => 0)))]) H := hP
  have hD : va_D A ([(h0, .inr (0, [.int 0, .int (-4), .ref q1, .ref q2, .null, .null, .null, .null, .null, .null, .null, .null])), (q1, .inl (ca 0, 18, .inl (fun _ => 0))), (q2, .inl (ca 0, 18, .inl (fun _ => 0))), (q3, .inl (ca 0, 18, .inl (fun _ => 0)))]) := hD
  refine va_putF (D := D) (ci := 0) (v := .ref q3) (ty := tyX0 4) (C := RX0) (T := TX0) (N := 12) hx hb hts inTX0 tyX0 tyX0_ok nmX0 hown hKK.1 hP hD hS 0 rfl rfl 4 (by decide) (hts _ lk230) (fun _ h9 => h9) rfl hin rfl (by decide +kernel) rfl rfl (Nat.le_of_ble_eq_true rfl) dX0_init_31 (fun H locs hP hD hS => ?_)
  have hP : va_P D vwCl ([(h0, .inr (0, [.int 0, .int (-4), .ref q1, .ref q2, .ref q3, .null, .null, .null, .null, .null, .null, .null])), (q1, .inl (ca 0, 18, .inl (fun _ => 0))), (q2, .inl (ca 0, 18, .inl (fun _ => 0))), (q3, .inl (ca 0, 18, .inl (fun _ => 0)))]) H := hP
  have hD : va_D A ([(h0, .inr (0, [.int 0, .int (-4), .ref q1, .ref q2, .ref q3, .null, .null, .null, .null, .null, .null, .null])), (q1, .inl (ca 0, 18, .inl (fun _ => 0))), (q2, .inl (ca 0, 18, .inl (fun _ => 0))), (q3, .inl (ca 0, 18, .inl (fun _ => 0)))]) := hD
  refine lv_aload_n hx hb dX0_init_34 rfl (lv_at hl 0 rfl) ?_
  refine lv_bipush (v := 18) hx hb dX0_init_35 (by decide) ?_
  refine k_new0 (N' := 18) hx hb (hts _ lka_int) rfl hKK hP hD hS hA (by decide) rfl (Nat.le_of_ble_eq_true rfl) (Nat.le_of_ble_eq_true rfl) (Nat.le_of_ble_eq_true rfl) dX0_init_37 (fun q4 H hP hD hS => ?_)
  have hP : va_P D vwCl ([(h0, .inr (0, [.int 0, .int (-4), .ref q1, .ref q2, .ref q3, .null, .null, .null, .null, .null, .null, .null])), (q1, .inl (ca 0, 18, .inl (fun _ => 0))), (q2, .inl (ca 0, 18, .inl (fun _ => 0))), (q3, .inl (ca 0, 18, .inl (fun _ => 0))), (q4, .inl (ca 0, 18, .inl (fun _ => 0)))]) H := hP
  have hD : va_D A ([(h0, .inr (0, [.int 0, .int (-4), .ref q1, .ref q2, .ref q3, .null, .null, .null, .null, .null, .null, .null])), (q1, .inl (ca 0, 18, .inl (fun _ => 0))), (q2, .inl (ca 0, 18, .inl (fun _ => 0))), (q3, .inl (ca 0, 18, .inl (fun _ => 0))), (q4, .inl (ca 0, 18, .inl (fun _ => 0)))]) := hD
  refine va_putF (D := D) (ci := 0) (v := .ref q4) (ty := tyX0 5) (C := RX0) (T := TX0) (N := 12) hx hb hts inTX0 tyX0 tyX0_ok nmX0 hown hKK.1 hP hD hS 0 rfl rfl 5 (by decide) (hts _ lk232) (fun _ h9 => h9) rfl hin rfl (by decide +kernel) rfl rfl (Nat.le_of_ble_eq_true rfl) dX0_init_39 (fun H locs hP hD hS => ?_)
  have hP : va_P D vwCl ([(h0, .inr (0, [.int 0, .int (-4), .ref q1, .ref q2, .ref q3, .ref q4, .null, .null, .null, .null, .null, .null])), (q1, .inl (ca 0, 18, .inl (fun _ => 0))), (q2, .inl (ca 0, 18, .inl (fun _ => 0))), (q3, .inl (ca 0, 18, .inl (fun _ => 0))), (q4, .inl (ca 0, 18, .inl (fun _ => 0)))]) H := hP
  have hD : va_D A ([(h0, .inr (0, [.int 0, .int (-4), .ref q1, .ref q2, .ref q3, .ref q4, .null, .null, .null, .null, .null, .null])), (q1, .inl (ca 0, 18, .inl (fun _ => 0))), (q2, .inl (ca 0, 18, .inl (fun _ => 0))), (q3, .inl (ca 0, 18, .inl (fun _ => 0))), (q4, .inl (ca 0, 18, .inl (fun _ => 0)))]) := hD
  refine lv_aload_n hx hb dX0_init_42 rfl (lv_at hl 0 rfl) ?_
  refine lv_bipush (v := 18) hx hb dX0_init_43 (by decide) ?_
  refine k_new0 (N' := 18) hx hb (hts _ lka_int) rfl hKK hP hD hS hA (by decide) rfl (Nat.le_of_ble_eq_true rfl) (Nat.le_of_ble_eq_true rfl) (Nat.le_of_ble_eq_true rfl) dX0_init_45 (fun q5 H hP hD hS => ?_)
  have hP : va_P D vwCl ([(h0, .inr (0, [.int 0, .int (-4), .ref q1, .ref q2, .ref q3, .ref q4, .null, .null, .null, .null, .null, .null])), (q1, .inl (ca 0, 18, .inl (fun _ => 0))), (q2, .inl (ca 0, 18, .inl (fun _ => 0))), (q3, .inl (ca 0, 18, .inl (fun _ => 0))), (q4, .inl (ca 0, 18, .inl (fun _ => 0))), (q5, .inl (ca 0, 18, .inl (fun _ => 0)))]) H := hP
  have hD : va_D A ([(h0, .inr (0, [.int 0, .int (-4), .ref q1, .ref q2, .ref q3, .ref q4, .null, .null, .null, .null, .null, .null])), (q1, .inl (ca 0, 18, .inl (fun _ => 0))), (q2, .inl (ca 0, 18, .inl (fun _ => 0))), (q3, .inl (ca 0, 18, .inl (fun _ => 0))), (q4, .inl (ca 0, 18, .inl (fun _ => 0))), (q5, .inl (ca 0, 18, .inl (fun _ => 0)))]) := hD
  refine va_putF (D := D) (ci := 0) (v := .ref q5) (ty := tyX0 6) (C := RX0) (T := TX0) (N := 12) hx hb hts inTX0 tyX0 tyX0_ok nmX0 hown hKK.1 hP hD hS 0 rfl rfl 6 (by decide) (hts _ lk234) (fun _ h9 => h9) rfl hin rfl (by decide +kernel) rfl rfl (Nat.le_of_ble_eq_true rfl) dX0_init_47 (fun H locs hP hD hS => ?_)
  have hP : va_P D vwCl ([(h0, .inr (0, [.int 0, .int (-4), .ref q1, .ref q2, .ref q3, .ref q4, .ref q5, .null, .null, .null, .null, .null])), (q1, .inl (ca 0, 18, .inl (fun _ => 0))), (q2, .inl (ca 0, 18, .inl (fun _ => 0))), (q3, .inl (ca 0, 18, .inl (fun _ => 0))), (q4, .inl (ca 0, 18, .inl (fun _ => 0))), (q5, .inl (ca 0, 18, .inl (fun _ => 0)))]) H := hP
  have hD : va_D A ([(h0, .inr (0, [.int 0, .int (-4), .ref q1, .ref q2, .ref q3, .ref q4, .ref q5, .null, .null, .null, .null, .null])), (q1, .inl (ca 0, 18, .inl (fun _ => 0))), (q2, .inl (ca 0, 18, .inl (fun _ => 0))), (q3, .inl (ca 0, 18, .inl (fun _ => 0))), (q4, .inl (ca 0, 18, .inl (fun _ => 0))), (q5, .inl (ca 0, 18, .inl (fun _ => 0)))]) := hD
  refine lv_aload_n hx hb dX0_init_50 rfl (lv_at hl 0 rfl) ?_
  refine lv_bipush (v := 18) hx hb dX0_init_51 (by decide) ?_
  refine k_new0 (N' := 18) hx hb (hts _ lka_int) rfl hKK hP hD hS hA (by decide) rfl (Nat.le_of_ble_eq_true rfl) (Nat.le_of_ble_eq_true rfl) (Nat.le_of_ble_eq_true rfl) dX0_init_53 (fun q6 H hP hD hS => ?_)
  have hP : va_P D vwCl ([(h0, .inr (0, [.int 0, .int (-4), .ref q1, .ref q2, .ref q3, .ref q4, .ref q5, .null, .null, .null, .null, .null])), (q1, .inl (ca 0, 18, .inl (fun _ => 0))), (q2, .inl (ca 0, 18, .inl (fun _ => 0))), (q3, .inl (ca 0, 18, .inl (fun _ => 0))), (q4, .inl (ca 0, 18, .inl (fun _ => 0))), (q5, .inl (ca 0, 18, .inl (fun _ => 0))), (q6, .inl (ca 0, 18, .inl (fun _ => 0)))]) H := hP
  have hD : va_D A ([(h0, .inr (0, [.int 0, .int (-4), .ref q1, .ref q2, .ref q3, .ref q4, .ref q5, .null, .null, .null, .null, .null])), (q1, .inl (ca 0, 18, .inl (fun _ => 0))), (q2, .inl (ca 0, 18, .inl (fun _ => 0))), (q3, .inl (ca 0, 18, .inl (fun _ => 0))), (q4, .inl (ca 0, 18, .inl (fun _ => 0))), (q5, .inl (ca 0, 18, .inl (fun _ => 0))), (q6, .inl (ca 0, 18, .inl (fun _ => 0)))]) := hD
  refine va_putF (D := D) (ci := 0) (v := .ref q6) (ty := tyX0 7) (C := RX0) (T := TX0) (N := 12) hx hb hts inTX0 tyX0 tyX0_ok nmX0 hown hKK.1 hP hD hS 0 rfl rfl 7 (by decide) (hts _ lk236) (fun _ h9 => h9) rfl hin rfl (by decide +kernel) rfl rfl (Nat.le_of_ble_eq_true rfl) dX0_init_55 (fun H locs hP hD hS => ?_)
  have hP : va_P D vwCl ([(h0, .inr (0, [.int 0, .int (-4), .ref q1, .ref q2, .ref q3, .ref q4, .ref q5, .ref q6, .null, .null, .null, .null])), (q1, .inl (ca 0, 18, .inl (fun _ => 0))), (q2, .inl (ca 0, 18, .inl (fun _ => 0))), (q3, .inl (ca 0, 18, .inl (fun _ => 0))), (q4, .inl (ca 0, 18, .inl (fun _ => 0))), (q5, .inl (ca 0, 18, .inl (fun _ => 0))), (q6, .inl (ca 0, 18, .inl (fun _ => 0)))]) H := hP
  have hD : va_D A ([(h0, .inr (0, [.int 0, .int (-4), .ref q1, .ref q2, .ref q3, .ref q4, .ref q5, .ref q6, .null, .null, .null, .null])), (q1, .inl (ca 0, 18, .inl (fun _ => 0))), (q2, .inl (ca 0, 18, .inl (fun _ => 0))), (q3, .inl (ca 0, 18, .inl (fun _ => 0))), (q4, .inl (ca 0, 18, .inl (fun _ => 0))), (q5, .inl (ca 0, 18, .inl (fun _ => 0))), (q6, .inl (ca 0, 18, .inl (fun _ => 0)))]) := hD
  refine lv_aload_n hx hb dX0_init_58 rfl (lv_at hl 0 rfl) ?_
  refine lv_bipush (v := 18) hx hb dX0_init_59 (by decide) ?_
  refine k_new1 (N' := 18) hx hb (hts _ lka_long) rfl hKK hP hD hS hA (by decide) rfl (Nat.le_of_ble_eq_true rfl) (Nat.le_of_ble_eq_true rfl) (Nat.le_of_ble_eq_true rfl) dX0_init_61 (fun q7 H hP hD hS => ?_)
  have hP : va_P D vwCl ([(h0, .inr (0, [.int 0, .int (-4), .ref q1, .ref q2, .ref q3, .ref q4, .ref q5, .ref q6, .null, .null, .null, .null])), (q1, .inl (ca 0, 18, .inl (fun _ => 0))), (q2, .inl (ca 0, 18, .inl (fun _ => 0))), (q3, .inl (ca 0, 18, .inl (fun _ => 0))), (q4, .inl (ca 0, 18, .inl (fun _ => 0))), (q5, .inl (ca 0, 18, .inl (fun _ => 0))), (q6, .inl (ca 0, 18, .inl (fun _ => 0))), (q7, .inl (ca 1, 18, .inr (.inl (fun _ => 0))))]) H := hP
  have hD : va_D A ([(h0, .inr (0, [.int 0, .int (-4), .ref q1, .ref q2, .ref q3, .ref q4, .ref q5, .ref q6, .null, .null, .null, .null])), (q1, .inl (ca 0, 18, .inl (fun _ => 0))), (q2, .inl (ca 0, 18, .inl (fun _ => 0))), (q3, .inl (ca 0, 18, .inl (fun _ => 0))), (q4, .inl (ca 0, 18, .inl (fun _ => 0))), (q5, .inl (ca 0, 18, .inl (fun _ => 0))), (q6, .inl (ca 0, 18, .inl (fun _ => 0))), (q7, .inl (ca 1, 18, .inr (.inl (fun _ => 0))))]) := hD
  refine va_putF (D := D) (ci := 0) (v := .ref q7) (ty := tyX0 8) (C := RX0) (T := TX0) (N := 12) hx hb hts inTX0 tyX0 tyX0_ok nmX0 hown hKK.1 hP hD hS 0 rfl rfl 8 (by decide) (hts _ lk238) (fun _ h9 => h9) rfl hin rfl (by decide +kernel) rfl rfl (Nat.le_of_ble_eq_true rfl) dX0_init_63 (fun H locs hP hD hS => ?_)
  have hP : va_P D vwCl ([(h0, .inr (0, [.int 0, .int (-4), .ref q1, .ref q2, .ref q3, .ref q4, .ref q5, .ref q6, .ref q7, .null, .null, .null])), (q1, .inl (ca 0, 18, .inl (fun _ => 0))), (q2, .inl (ca 0, 18, .inl (fun _ => 0))), (q3, .inl (ca 0, 18, .inl (fun _ => 0))), (q4, .inl (ca 0, 18, .inl (fun _ => 0))), (q5, .inl (ca 0, 18, .inl (fun _ => 0))), (q6, .inl (ca 0, 18, .inl (fun _ => 0))), (q7, .inl (ca 1, 18, .inr (.inl (fun _ => 0))))]) H := hP
  have hD : va_D A ([(h0, .inr (0, [.int 0, .int (-4), .ref q1, .ref q2, .ref q3, .ref q4, .ref q5, .ref q6, .ref q7, .null, .null, .null])), (q1, .inl (ca 0, 18, .inl (fun _ => 0))), (q2, .inl (ca 0, 18, .inl (fun _ => 0))), (q3, .inl (ca 0, 18, .inl (fun _ => 0))), (q4, .inl (ca 0, 18, .inl (fun _ => 0))), (q5, .inl (ca 0, 18, .inl (fun _ => 0))), (q6, .inl (ca 0, 18, .inl (fun _ => 0))), (q7, .inl (ca 1, 18, .inr (.inl (fun _ => 0))))]) := hD
  refine lv_aload_n hx hb dX0_init_66 rfl (lv_at hl 0 rfl) ?_
  refine lv_bipush (v := 18) hx hb dX0_init_67 (by decide) ?_
  refine k_new1 (N' := 18) hx hb (hts _ lka_long) rfl hKK hP hD hS hA (by decide) rfl (Nat.le_of_ble_eq_true rfl) (Nat.le_of_ble_eq_true rfl) (Nat.le_of_ble_eq_true rfl) dX0_init_69 (fun q8 H hP hD hS => ?_)
  have hP : va_P D vwCl ([(h0, .inr (0, [.int 0, .int (-4), .ref q1, .ref q2, .ref q3, .ref q4, .ref q5, .ref q6, .ref q7, .null, .null, .null])), (q1, .inl (ca 0, 18, .inl (fun _ => 0))), (q2, .inl (ca 0, 18, .inl (fun _ => 0))), (q3, .inl (ca 0, 18, .inl (fun _ => 0))), (q4, .inl (ca 0, 18, .inl (fun _ => 0))), (q5, .inl (ca 0, 18, .inl (fun _ => 0))), (q6, .inl (ca 0, 18, .inl (fun _ => 0))), (q7, .inl (ca 1, 18, .inr (.inl (fun _ => 0)))), (q8, .inl (ca 1, 18, .inr (.inl (fun _ => 0))))]) H := hP
  have hD : va_D A ([(h0, .inr (0, [.int 0, .int (-4), .ref q1, .ref q2, .ref q3, .ref q4, .ref q5, .ref q6, .ref q7, .null, .null, .null])), (q1, .inl (ca 0, 18, .inl (fun _ => 0))), (q2, .inl (ca 0, 18, .inl (fun _ => 0))), (q3, .inl (ca 0, 18, .inl (fun _ => 0))), (q4, .inl (ca 0, 18, .inl (fun _ => 0))), (q5, .inl (ca 0, 18, .inl (fun _ => 0))), (q6, .inl (ca 0, 18, .inl (fun _ => 0))), (q7, .inl (ca 1, 18, .inr (.inl (fun _ => 0)))), (q8, .inl (ca 1, 18, .inr (.inl (fun _ => 0))))]) := hD
  refine va_putF (D := D) (ci := 0) (v := .ref q8) (ty := tyX0 9) (C := RX0) (T := TX0) (N := 12) hx hb hts inTX0 tyX0 tyX0_ok nmX0 hown hKK.1 hP hD hS 0 rfl rfl 9 (by decide) (hts _ lk240) (fun _ h9 => h9) rfl hin rfl (by decide +kernel) rfl rfl (Nat.le_of_ble_eq_true rfl) dX0_init_71 (fun H locs hP hD hS => ?_)
  have hP : va_P D vwCl ([(h0, .inr (0, [.int 0, .int (-4), .ref q1, .ref q2, .ref q3, .ref q4, .ref q5, .ref q6, .ref q7, .ref q8, .null, .null])), (q1, .inl (ca 0, 18, .inl (fun _ => 0))), (q2, .inl (ca 0, 18, .inl (fun _ => 0))), (q3, .inl (ca 0, 18, .inl (fun _ => 0))), (q4, .inl (ca 0, 18, .inl (fun _ => 0))), (q5, .inl (ca 0, 18, .inl (fun _ => 0))), (q6, .inl (ca 0, 18, .inl (fun _ => 0))), (q7, .inl (ca 1, 18, .inr (.inl (fun _ => 0)))), (q8, .inl (ca 1, 18, .inr (.inl (fun _ => 0))))]) H := hP
  have hD : va_D A ([(h0, .inr (0, [.int 0, .int (-4), .ref q1, .ref q2, .ref q3, .ref q4, .ref q5, .ref q6, .ref q7, .ref q8, .null, .null])), (q1, .inl (ca 0, 18, .inl (fun _ => 0))), (q2, .inl (ca 0, 18, .inl (fun _ => 0))), (q3, .inl (ca 0, 18, .inl (fun _ => 0))), (q4, .inl (ca 0, 18, .inl (fun _ => 0))), (q5, .inl (ca 0, 18, .inl (fun _ => 0))), (q6, .inl (ca 0, 18, .inl (fun _ => 0))), (q7, .inl (ca 1, 18, .inr (.inl (fun _ => 0)))), (q8, .inl (ca 1, 18, .inr (.inl (fun _ => 0))))]) := hD
  refine lv_aload_n hx hb dX0_init_74 rfl (lv_at hl 0 rfl) ?_
  refine lv_bipush (v := 18) hx hb dX0_init_75 (by decide) ?_
  refine k_new1 (N' := 18) hx hb (hts _ lka_long) rfl hKK hP hD hS hA (by decide) rfl (Nat.le_of_ble_eq_true rfl) (Nat.le_of_ble_eq_true rfl) (Nat.le_of_ble_eq_true rfl) dX0_init_77 (fun q9 H hP hD hS => ?_)
  have hP : va_P D vwCl ([(h0, .inr (0, [.int 0, .int (-4), .ref q1, .ref q2, .ref q3, .ref q4, .ref q5, .ref q6, .ref q7, .ref q8, .null, .null])), (q1, .inl (ca 0, 18, .inl (fun _ => 0))), (q2, .inl (ca 0, 18, .inl (fun _ => 0))), (q3, .inl (ca 0, 18, .inl (fun _ => 0))), (q4, .inl (ca 0, 18, .inl (fun _ => 0))), (q5, .inl (ca 0, 18, .inl (fun _ => 0))), (q6, .inl (ca 0, 18, .inl (fun _ => 0))), (q7, .inl (ca 1, 18, .inr (.inl (fun _ => 0)))), (q8, .inl (ca 1, 18, .inr (.inl (fun _ => 0)))), (q9, .inl (ca 1, 18, .inr (.inl (fun _ => 0))))]) H := hP
  have hD : va_D A ([(h0, .inr (0, [.int 0, .int (-4), .ref q1, .ref q2, .ref q3, .ref q4, .ref q5, .ref q6, .ref q7, .ref q8, .null, .null])), (q1, .inl (ca 0, 18, .inl (fun _ => 0))), (q2, .inl (ca 0, 18, .inl (fun _ => 0))), (q3, .inl (ca 0, 18, .inl (fun _ => 0))), (q4, .inl (ca 0, 18, .inl (fun _ => 0))), (q5, .inl (ca 0, 18, .inl (fun _ => 0))), (q6, .inl (ca 0, 18, .inl (fun _ => 0))), (q7, .inl (ca 1, 18, .inr (.inl (fun _ => 0)))), (q8, .inl (ca 1, 18, .inr (.inl (fun _ => 0)))), (q9, .inl (ca 1, 18, .inr (.inl (fun _ => 0))))]) := hD
  refine va_putF (D := D) (ci := 0) (v := .ref q9) (ty := tyX0 10) (C := RX0) (T := TX0) (N := 12) hx hb hts inTX0 tyX0 tyX0_ok nmX0 hown hKK.1 hP hD hS 0 rfl rfl 10 (by decide) (hts _ lk242) (fun _ h9 => h9) rfl hin rfl (by decide +kernel) rfl rfl (Nat.le_of_ble_eq_true rfl) dX0_init_79 (fun H locs hP hD hS => ?_)
  have hP : va_P D vwCl ([(h0, .inr (0, [.int 0, .int (-4), .ref q1, .ref q2, .ref q3, .ref q4, .ref q5, .ref q6, .ref q7, .ref q8, .ref q9, .null])), (q1, .inl (ca 0, 18, .inl (fun _ => 0))), (q2, .inl (ca 0, 18, .inl (fun _ => 0))), (q3, .inl (ca 0, 18, .inl (fun _ => 0))), (q4, .inl (ca 0, 18, .inl (fun _ => 0))), (q5, .inl (ca 0, 18, .inl (fun _ => 0))), (q6, .inl (ca 0, 18, .inl (fun _ => 0))), (q7, .inl (ca 1, 18, .inr (.inl (fun _ => 0)))), (q8, .inl (ca 1, 18, .inr (.inl (fun _ => 0)))), (q9, .inl (ca 1, 18, .inr (.inl (fun _ => 0))))]) H := hP
  have hD : va_D A ([(h0, .inr (0, [.int 0, .int (-4), .ref q1, .ref q2, .ref q3, .ref q4, .ref q5, .ref q6, .ref q7, .ref q8, .ref q9, .null])), (q1, .inl (ca 0, 18, .inl (fun _ => 0))), (q2, .inl (ca 0, 18, .inl (fun _ => 0))), (q3, .inl (ca 0, 18, .inl (fun _ => 0))), (q4, .inl (ca 0, 18, .inl (fun _ => 0))), (q5, .inl (ca 0, 18, .inl (fun _ => 0))), (q6, .inl (ca 0, 18, .inl (fun _ => 0))), (q7, .inl (ca 1, 18, .inr (.inl (fun _ => 0)))), (q8, .inl (ca 1, 18, .inr (.inl (fun _ => 0)))), (q9, .inl (ca 1, 18, .inr (.inl (fun _ => 0))))]) := hD
  refine lv_aload_n hx hb dX0_init_82 rfl (lv_at hl 0 rfl) ?_
  refine lv_bipush (v := 18) hx hb dX0_init_83 (by decide) ?_
  refine k_new2 (N' := 18) hx hb (hts _ lka_boolean) rfl hKK hP hD hS hA (by decide) rfl (Nat.le_of_ble_eq_true rfl) (Nat.le_of_ble_eq_true rfl) (Nat.le_of_ble_eq_true rfl) dX0_init_85 (fun q10 H hP hD hS => ?_)
  have hP : va_P D vwCl ([(h0, .inr (0, [.int 0, .int (-4), .ref q1, .ref q2, .ref q3, .ref q4, .ref q5, .ref q6, .ref q7, .ref q8, .ref q9, .null])), (q1, .inl (ca 0, 18, .inl (fun _ => 0))), (q2, .inl (ca 0, 18, .inl (fun _ => 0))), (q3, .inl (ca 0, 18, .inl (fun _ => 0))), (q4, .inl (ca 0, 18, .inl (fun _ => 0))), (q5, .inl (ca 0, 18, .inl (fun _ => 0))), (q6, .inl (ca 0, 18, .inl (fun _ => 0))), (q7, .inl (ca 1, 18, .inr (.inl (fun _ => 0)))), (q8, .inl (ca 1, 18, .inr (.inl (fun _ => 0)))), (q9, .inl (ca 1, 18, .inr (.inl (fun _ => 0)))), (q10, .inl (ca 2, 18, .inl (fun _ => 0)))]) H := hP
  have hD : va_D A ([(h0, .inr (0, [.int 0, .int (-4), .ref q1, .ref q2, .ref q3, .ref q4, .ref q5, .ref q6, .ref q7, .ref q8, .ref q9, .null])), (q1, .inl (ca 0, 18, .inl (fun _ => 0))), (q2, .inl (ca 0, 18, .inl (fun _ => 0))), (q3, .inl (ca 0, 18, .inl (fun _ => 0))), (q4, .inl (ca 0, 18, .inl (fun _ => 0))), (q5, .inl (ca 0, 18, .inl (fun _ => 0))), (q6, .inl (ca 0, 18, .inl (fun _ => 0))), (q7, .inl (ca 1, 18, .inr (.inl (fun _ => 0)))), (q8, .inl (ca 1, 18, .inr (.inl (fun _ => 0)))), (q9, .inl (ca 1, 18, .inr (.inl (fun _ => 0)))), (q10, .inl (ca 2, 18, .inl (fun _ => 0)))]) := hD
  refine va_putF (D := D) (ci := 0) (v := .ref q10) (ty := tyX0 11) (C := RX0) (T := TX0) (N := 12) hx hb hts inTX0 tyX0 tyX0_ok nmX0 hown hKK.1 hP hD hS 0 rfl rfl 11 (by decide) (hts _ lk243) (fun _ h9 => h9) rfl hin rfl (by decide +kernel) rfl rfl (Nat.le_of_ble_eq_true rfl) dX0_init_87 (fun H locs hP hD hS => ?_)
  have hP : va_P D vwCl ([(h0, .inr (0, [.int 0, .int (-4), .ref q1, .ref q2, .ref q3, .ref q4, .ref q5, .ref q6, .ref q7, .ref q8, .ref q9, .ref q10])), (q1, .inl (ca 0, 18, .inl (fun _ => 0))), (q2, .inl (ca 0, 18, .inl (fun _ => 0))), (q3, .inl (ca 0, 18, .inl (fun _ => 0))), (q4, .inl (ca 0, 18, .inl (fun _ => 0))), (q5, .inl (ca 0, 18, .inl (fun _ => 0))), (q6, .inl (ca 0, 18, .inl (fun _ => 0))), (q7, .inl (ca 1, 18, .inr (.inl (fun _ => 0)))), (q8, .inl (ca 1, 18, .inr (.inl (fun _ => 0)))), (q9, .inl (ca 1, 18, .inr (.inl (fun _ => 0)))), (q10, .inl (ca 2, 18, .inl (fun _ => 0)))]) H := hP
  have hD : va_D A ([(h0, .inr (0, [.int 0, .int (-4), .ref q1, .ref q2, .ref q3, .ref q4, .ref q5, .ref q6, .ref q7, .ref q8, .ref q9, .ref q10])), (q1, .inl (ca 0, 18, .inl (fun _ => 0))), (q2, .inl (ca 0, 18, .inl (fun _ => 0))), (q3, .inl (ca 0, 18, .inl (fun _ => 0))), (q4, .inl (ca 0, 18, .inl (fun _ => 0))), (q5, .inl (ca 0, 18, .inl (fun _ => 0))), (q6, .inl (ca 0, 18, .inl (fun _ => 0))), (q7, .inl (ca 1, 18, .inr (.inl (fun _ => 0)))), (q8, .inl (ca 1, 18, .inr (.inl (fun _ => 0)))), (q9, .inl (ca 1, 18, .inr (.inl (fun _ => 0)))), (q10, .inl (ca 2, 18, .inl (fun _ => 0)))]) := hD
  refine W.widen (k := 10) (n := 180) (Nat.le_of_ble_eq_true rfl) (Nat.le_of_ble_eq_true rfl) ?_
  exact W.vret hx hb hr (fun t ht hW => ⟨⟨(fun k => [h0, q1, q2, q3, q4, q5, q6, q7, q8, q9, q10].getD k 0), rfl, trivial, by show va_P D vwCl (NA ca h0 (fun k => [h0, q1, q2, q3, q4, q5, q6, q7, q8, q9, q10].getD k 0)) t.heap; rw [ht]; exact hP, hD⟩, hS.F ht⟩) hS.2.2 dX0_init_90
def rmX5_init : Room := { frames := 1, cells := 1, slots := 60, locals := 12 }
set_option maxHeartbeats 8000000 in
set_option maxRecDepth 100000 in
theorem n_X5_init (l : Launch) (D : va_G) (ca : Nat → ClassId) (h0 sz : Nat) : Met l yX5_init (Cond.code yX5_init cX5_init 1 none :: TT) rmX5_init (va_Pc [.ref h0] (fun U => U.heap.size = sz ∧ va_P D vwCl [(h0, .inr (5, [.null, .int 0, .int 0]))] U.heap ∧ KN D ca U ∧ va_D (fun _ => True) [(h0, .inr (5, [.null, .int 0, .int 0]))])) (va_Qv (fun (_ : Nat → Nat) => True) (fun a t => va_P D vwCl (NT ca h0 a) t.heap ∧ va_D (va_A [(h0, .inr (5, [.null, .int 0, .int 0]))] sz) (NT ca h0 a)) (va_A [(h0, .inr (5, [.null, .int 0, .int 0]))] sz)) 1 60 (va_A [(h0, .inr (5, [.null, .int 0, .int 0]))] sz) := by
  refine Met.ofW (cc := cX5_init) (maxL := 1) (ret := none) (by decide) rfl ?_
  intro p e s m args below meth c s₁ B hml hv
  obtain ⟨rfl, hsz, hP, hKK, hD0⟩ := hv
  have hx := B.exec
  have hb := B.bytes
  have hr := B.returns
  have hts : ∀ w ∈ TT, w.before _ s = true := fun w h => atoms_spec (ws := Cond.code yX5_init cX5_init 1 none :: TT) B.pre w (List.mem_cons_of_mem _ h)
  have hown : s.vm.findClass RX5 = some m.cls := findClass_of_methodNamed B.named
  have hlocks := B.notSynchronized
  have hin : meth.name = "<init>" := (name_of_methodNamed B.named B.method).1
  subst hsz
  have hD := hD0.self (sz := s.heap.size)
  generalize hAe : va_A [(h0, .inr (5, [.null, .int 0, .int 0]))] s.heap.size = A at hD ⊢
  have hA : ∀ q : Nat, s.heap.size ≤ q → A q := fun q h => by rw [← hAe]; exact Or.inr h
  have hS : va_S A s.heap s.heap [] := va_S.rf
  have hP : va_P D vwCl [(h0, .inr (5, [.null, .int 0, .int 0]))] s.heap := hP
  have hAO4 : va_AO "ForceFrames$Frame" s := hKK.2.2.2.2.2.1
  have hAO5 : va_AO "ForceFrames$Row" s := hKK.2.2.2.2.2.2
  have hl := lv_entry ([.ref h0]) (n := 1) (Nat.le_of_ble_eq_true rfl)
  rw [lg_entry_eq]
  generalize (lg_sl ([.ref h0]) ++ List.replicate (1 - (lg_sl ([.ref h0])).length) Slot.unset).toArray = ls at hl ⊢
  have hl : lv_has ls 1 [(0, .ref h0)] := hl
  refine lv_aload_n hx hb dX5_init_0 rfl (lv_at hl 0 rfl) ?_
  refine W.objInit hx hb hown (hts _ lk275) (hts _ lk110) (hts _ lk_obj) rfl (by rw [hml]; exact hl.1) rfl dX5_init_1 (Nat.le_of_ble_eq_true rfl) (Nat.le_of_ble_eq_true rfl) ?_
  refine W.eq (g2 := F0 m 4 ls []) rfl ?_
  refine lv_aload_n hx hb dX5_init_4 rfl (lv_at hl 0 rfl) ?_
  refine lv_bipush (v := 60) hx hb dX5_init_5 (by decide) ?_
  refine k_new3 (N' := 60) hx hb (hts _ lka_char) rfl hKK hP hD hS hA (by decide) rfl (Nat.le_of_ble_eq_true rfl) (Nat.le_of_ble_eq_true rfl) (Nat.le_of_ble_eq_true rfl) dX5_init_7 (fun q1 H hP hD hS => ?_)
  have hP : va_P D vwCl ([(h0, .inr (5, [.null, .int 0, .int 0])), (q1, .inl (ca 3, 60, .inl (fun _ => 0)))]) H := hP
  have hD : va_D A ([(h0, .inr (5, [.null, .int 0, .int 0])), (q1, .inl (ca 3, 60, .inl (fun _ => 0)))]) := hD
  refine va_putF (D := D) (ci := 5) (v := .ref q1) (ty := tyX5 0) (C := RX5) (T := TX5) (N := 3) hx hb hts inTX5 tyX5 tyX5_ok nmX5 hown hKK.1 hP hD hS 0 rfl rfl 0 (by decide) (hts _ lk276) (fun _ h9 => h9) rfl hin rfl (by decide +kernel) rfl rfl (Nat.le_of_ble_eq_true rfl) dX5_init_9 (fun H locs hP hD hS => ?_)
  have hP : va_P D vwCl ([(h0, .inr (5, [.ref q1, .int 0, .int 0])), (q1, .inl (ca 3, 60, .inl (fun _ => 0)))]) H := hP
  have hD : va_D A ([(h0, .inr (5, [.ref q1, .int 0, .int 0])), (q1, .inl (ca 3, 60, .inl (fun _ => 0)))]) := hD
  refine W.widen (k := 1) (n := 60) (Nat.le_of_ble_eq_true rfl) (Nat.le_of_ble_eq_true rfl) ?_
  exact W.vret hx hb hr (fun t ht hW => ⟨⟨(fun k => [h0, q1].getD k 0), rfl, trivial, by show va_P D vwCl (NT ca h0 (fun k => [h0, q1].getD k 0)) t.heap; rw [ht]; exact hP, hD⟩, hS.F ht⟩) hS.2.2 dX5_init_12
def rmX3_init : Room := { frames := 1, cells := 1, slots := 24, locals := 12 }
set_option maxHeartbeats 8000000 in
set_option maxRecDepth 100000 in
theorem n_X3_init (l : Launch) (D : va_G) (ca : Nat → ClassId) (h0 sz : Nat) : Met l yX3_init (Cond.code yX3_init cX3_init 1 none :: TT) rmX3_init (va_Pc [.ref h0] (fun U => U.heap.size = sz ∧ va_P D vwCl [(h0, .inr (3, [.int 0, .int 0, .int 0, .null]))] U.heap ∧ KN D ca U ∧ va_D (fun _ => True) [(h0, .inr (3, [.int 0, .int 0, .int 0, .null]))])) (va_Qv (fun (_ : Nat → Nat) => True) (fun a t => va_P D vwCl (NR ca h0 a) t.heap ∧ va_D (va_A [(h0, .inr (3, [.int 0, .int 0, .int 0, .null]))] sz) (NR ca h0 a)) (va_A [(h0, .inr (3, [.int 0, .int 0, .int 0, .null]))] sz)) 1 24 (va_A [(h0, .inr (3, [.int 0, .int 0, .int 0, .null]))] sz) := by
  refine Met.ofW (cc := cX3_init) (maxL := 1) (ret := none) (by decide) rfl ?_
  intro p e s m args below meth c s₁ B hml hv
  obtain ⟨rfl, hsz, hP, hKK, hD0⟩ := hv
  have hx := B.exec
  have hb := B.bytes
  have hr := B.returns
  have hts : ∀ w ∈ TT, w.before _ s = true := fun w h => atoms_spec (ws := Cond.code yX3_init cX3_init 1 none :: TT) B.pre w (List.mem_cons_of_mem _ h)
  have hown : s.vm.findClass RX3 = some m.cls := findClass_of_methodNamed B.named
  have hlocks := B.notSynchronized
  have hin : meth.name = "<init>" := (name_of_methodNamed B.named B.method).1
  subst hsz
  have hD := hD0.self (sz := s.heap.size)
  generalize hAe : va_A [(h0, .inr (3, [.int 0, .int 0, .int 0, .null]))] s.heap.size = A at hD ⊢
  have hA : ∀ q : Nat, s.heap.size ≤ q → A q := fun q h => by rw [← hAe]; exact Or.inr h
  have hS : va_S A s.heap s.heap [] := va_S.rf
  have hP : va_P D vwCl [(h0, .inr (3, [.int 0, .int 0, .int 0, .null]))] s.heap := hP
  have hAO4 : va_AO "ForceFrames$Frame" s := hKK.2.2.2.2.2.1
  have hAO5 : va_AO "ForceFrames$Row" s := hKK.2.2.2.2.2.2
  have hl := lv_entry ([.ref h0]) (n := 1) (Nat.le_of_ble_eq_true rfl)
  rw [lg_entry_eq]
  generalize (lg_sl ([.ref h0]) ++ List.replicate (1 - (lg_sl ([.ref h0])).length) Slot.unset).toArray = ls at hl ⊢
  have hl : lv_has ls 1 [(0, .ref h0)] := hl
  refine lv_aload_n hx hb dX3_init_0 rfl (lv_at hl 0 rfl) ?_
  refine W.objInit hx hb hown (hts _ lk295) (hts _ lk110) (hts _ lk_obj) rfl (by rw [hml]; exact hl.1) rfl dX3_init_1 (Nat.le_of_ble_eq_true rfl) (Nat.le_of_ble_eq_true rfl) ?_
  refine W.eq (g2 := F0 m 4 ls []) rfl ?_
  refine lv_aload_n hx hb dX3_init_4 rfl (lv_at hl 0 rfl) ?_
  refine lv_bipush (v := 24) hx hb dX3_init_5 (by decide) ?_
  refine k_new1 (N' := 24) hx hb (hts _ lka_long) rfl hKK hP hD hS hA (by decide) rfl (Nat.le_of_ble_eq_true rfl) (Nat.le_of_ble_eq_true rfl) (Nat.le_of_ble_eq_true rfl) dX3_init_7 (fun q1 H hP hD hS => ?_)
  have hP : va_P D vwCl ([(h0, .inr (3, [.int 0, .int 0, .int 0, .null])), (q1, .inl (ca 1, 24, .inr (.inl (fun _ => 0))))]) H := hP
  have hD : va_D A ([(h0, .inr (3, [.int 0, .int 0, .int 0, .null])), (q1, .inl (ca 1, 24, .inr (.inl (fun _ => 0))))]) := hD
  refine va_putF (D := D) (ci := 3) (v := .ref q1) (ty := tyX3 3) (C := RX3) (T := TX3) (N := 4) hx hb hts inTX3 tyX3 tyX3_ok nmX3 hown hKK.1 hP hD hS 0 rfl rfl 3 (by decide) (hts _ lk302) (fun _ h9 => h9) rfl hin rfl (by decide +kernel) rfl rfl (Nat.le_of_ble_eq_true rfl) dX3_init_9 (fun H locs hP hD hS => ?_)
  have hP : va_P D vwCl ([(h0, .inr (3, [.int 0, .int 0, .int 0, .ref q1])), (q1, .inl (ca 1, 24, .inr (.inl (fun _ => 0))))]) H := hP
  have hD : va_D A ([(h0, .inr (3, [.int 0, .int 0, .int 0, .ref q1])), (q1, .inl (ca 1, 24, .inr (.inl (fun _ => 0))))]) := hD
  refine W.widen (k := 1) (n := 24) (Nat.le_of_ble_eq_true rfl) (Nat.le_of_ble_eq_true rfl) ?_
  exact W.vret hx hb hr (fun t ht hW => ⟨⟨(fun k => [h0, q1].getD k 0), rfl, trivial, by show va_P D vwCl (NR ca h0 (fun k => [h0, q1].getD k 0)) t.heap; rw [ht]; exact hP, hD⟩, hS.F ht⟩) hS.2.2 dX3_init_12
