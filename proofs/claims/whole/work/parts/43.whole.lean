set_option maxHeartbeats 8000000 in
set_option maxRecDepth 100000 in
theorem whole_of (I : Sto → Sto → Prop) (hI0 : I zC0 zM0) (hI : ∀ (a0 a1 a2 a3 a4 a5 : Int32) (σ τ : Sto), I σ τ → ∃ Z : Sto × Sto, stp a0 a1 a2 a3 a4 a5 σ τ = some Z ∧ I Z.1 Z.2) {p : Program} {e : Env} {s : State} {m : MethodId} {below : List Frame} {meth : Method} {c : Code} (l : Launch) {b L : Nat} {xs : Nat → Int32} (hL : L ≤ 3072) (C0 : lw_At p s m meth c b L xs) : W p l e room_1 s m #[Value.ref b] below meth c s.heap [] 0 0 (lw_Z below #[Value.ref b] s) (entryFrame m ([Value.ref b] : List Value).toArray 4) := by
  obtain ⟨hx, hb, hr, hml, hown, hts, hX, hbl, hlocks, hgv⟩ := C0
  have htT : ∀ w ∈ TT, w.before #[Value.ref b] s = true := fun w h => hts w (List.mem_filter.mp h).1
  have hown : s.vm.findClass RL = some m.cls := hown
  have hA : ∀ q : Nat, s.heap.size ≤ q → AL s q := fun _ h => h
  obtain ⟨c0, iS0, hKn0⟩ := u_known (C := RX0) (T := TX0) (N := 12) (n := 12) htT inTX0 (htT _ lki_0)
  obtain ⟨c1, iS1, hKn1⟩ := u_known (C := RX1) (T := TX1) (N := 8) (n := 8) htT inTX1 (htT _ lki_1)
  obtain ⟨c2, iS2, hKn2⟩ := u_known (C := RX2) (T := TX2) (N := 3) (n := 3) htT inTX2 (htT _ lki_2)
  obtain ⟨c3, iS3, hKn3⟩ := u_known (C := RX3) (T := TX3) (N := 4) (n := 4) htT inTX3 (htT _ lki_3)
  obtain ⟨c4, iS4, hKn4⟩ := u_known (C := RX4) (T := TX4) (N := 8) (n := 8) htT inTX4 (htT _ lki_4)
  obtain ⟨c5, iS5, hKn5⟩ := u_known (C := RX5) (T := TX5) (N := 3) (n := 3) htT inTX5 (htT _ lki_5)
  obtain ⟨c6, iS6, hKn6⟩ := u_known (C := RX6) (T := TX6) (N := 11) (n := 11) htT inTX6 (htT _ lki_6)
  obtain ⟨c7, iS7, hKn7⟩ := u_known (C := RX7) (T := TX7) (N := 28) (n := 28) htT inTX7 (htT _ lki_7)
  obtain ⟨D, hKc⟩ : ∃ D : va_G, ∀ (k : Nat) (q : vw_C), vwCl[k]? = some q → u_Kn s q.1 q.2.1 q.2.2 (D.1 k) (D.2 k) := by
    refine ⟨(fun k => [c0, c1, c2, c3, c4, c5, c6, c7].getD k c0, fun k => [iS0, iS1, iS2, iS3, iS4, iS5, iS6, iS7].getD k iS0), ?_⟩
    intro k q hq
    match k, hq with
    | 0, hq => cases hq; exact hKn0
    | 1, hq => cases hq; exact hKn1
    | 2, hq => cases hq; exact hKn2
    | 3, hq => cases hq; exact hKn3
    | 4, hq => cases hq; exact hKn4
    | 5, hq => cases hq; exact hKn5
    | 6, hq => cases hq; exact hKn6
    | 7, hq => cases hq; exact hKn7
    | k + 8, hq => simp [vwCl] at hq
  obtain ⟨y0, hy0⟩ := arrK (ty := .int) (fun C h => by cases h) (htT _ lka_int)
  obtain ⟨y1, hy1⟩ := arrK (ty := .long) (fun C h => by cases h) (htT _ lka_long)
  obtain ⟨y2, hy2⟩ := arrK (ty := .boolean) (fun C h => by cases h) (htT _ lka_boolean)
  obtain ⟨y3, hy3⟩ := arrK (ty := .char) (fun C h => by cases h) (htT _ lka_char)
  have hAO4 : va_AO "ForceFrames$Frame" s := va_AO.of (hts _ lko_4)
  have hAO5 : va_AO "ForceFrames$Row" s := va_AO.of (hts _ lko_5)
  obtain ⟨y4, hy4⟩ := arrKO hAO4
  obtain ⟨y5, hy5⟩ := arrKO hAO5
  obtain ⟨ca, hca⟩ : ∃ ca : Nat → ClassId, ca 0 = y0 ∧ ca 1 = y1 ∧ ca 2 = y2 ∧ ca 3 = y3 ∧ ca 4 = y4 ∧ ca 5 = y5 := ⟨fun k => [y0, y1, y2, y3, y4, y5].getD k y0, rfl, rfl, rfl, rfl, rfl, rfl⟩
  obtain ⟨rfl, rfl, rfl, rfl, rfl, rfl⟩ := hca
  have hK : ∀ ad : Nat → Nat, va_K D vwCl (tysG (ad, D, ca)) s := by
    intro ad
    refine ⟨hKc, fun k q hq => ?_⟩
    match k, hq with
    | 0, hq => cases hq; exact hy0
    | 1, hq => cases hq; exact hy1
    | 2, hq => cases hq; exact hy2
    | 3, hq => cases hq; exact hy3
    | 4, hq => cases hq; exact hy4
    | 5, hq => cases hq; exact hy5
    | k + 6, hq => simp [tysG] at hq
  have hKK : KN D ca s := ⟨hK _, va_Nw.of rfl (hts _ lkn_X6_34), va_Nw.of rfl (hts _ lkn_X6_41), va_Nw.of rfl (hts _ lkn_X6_48), va_Nw.of rfl (hts _ lkn_X6_59), hAO4, hAO5⟩
  have hS : va_S (AL s) s.heap s.heap [] := va_S.rf
  have hP : va_P D vwCl [] s.heap := fun k q h => by simp at h
  have hD : va_D (AL s) [] := ⟨fun i j p q h => by simp at h, fun k q h => by simp at h⟩
  have hl := lv_entry ([.ref b]) (n := 4) (Nat.le_of_ble_eq_true rfl)
  rw [lg_entry_eq]
  generalize (lg_sl ([.ref b]) ++ List.replicate (4 - (lg_sl ([.ref b])).length) Slot.unset).toArray = ls at hl ⊢
  have hl : lv_has ls 4 [(0, .ref b)] := hl
  refine va_new (ci := 6) (fs := [.null, .null, .null, .null, .null, .null, .null, .null, .null, .int 0, .int 0]) (C := RX6) (T := TX6) (N := 11) hx hb htT inTX6 tyX6 tyX6_ok hown (htT _ lk104) (htT _ lki_6) (htT _ lk93) hKK.1 hP hD hS hA rfl (by decide) (Nat.le_of_ble_eq_true rfl) (Nat.le_of_ble_eq_true rfl) dL_law_0 (fun q6 H hP hD hS => ?_)
  refine lv_dup hx hb dL_law_3 rfl ?_
  have hPc := lastP hP
  have hDc := lastD hD
  have hFc := lastF hD hS hA
  refine va_callv (va_runI (As := []) (rest := [.ref q6]) ⟨hx, hb, hml, hown, htT⟩ (n_X6_init l D ca q6 H.size) (cwI 0 htT (tt_goodT lk108) rfl rfl rfl (htT _ lk93) (htT _ lk106) (htT _ lk107) rfl (by decide +kernel) ⟨Nat.le_of_ble_eq_true rfl, Nat.le_of_ble_eq_true rfl⟩) ⟨kn_blind, fun U hU hW => ⟨rfl, by rw [hU], by rw [hU]; exact hPc, kn_warm hW hKK, hDc.weaken (fun _ _ _ _ => trivial)⟩⟩ rfl rfl hl.1 rfl (lv_room (Nat.le_of_ble_eq_true rfl)) dL_law_4 ⟨Nat.le_of_ble_eq_true rfl, Nat.le_of_ble_eq_true rfl⟩) hS (fun q _ h => hFc q h) hFc (fun u6 t H1 locs ht hvm hw hB hz1 hk1 hS => ?_)
  obtain ⟨hP1, hD1⟩ := hB
  rw [ht] at hP1
  obtain ⟨hP, hD⟩ := joinL (w1 := NC ca q6 u6) hP hD hk1 hFc hP1 hD1
  generalize H1 = H at hP hS ⊢
  refine lv_astore_n (lv' := [(1, .ref q6), (0, .ref b)]) hx hb dL_law_7 rfl hl (by decide) rfl (fun ls hl => ?_)
  have hP : va_P D vwCl (NC ca q6 u6) H := hP
  have hD : va_D (AL s) (NC ca q6 u6) := hD
  refine va_new (ci := 7) (fs := [.null, .null, .int 0, .null, .null, .int 0, .null, .int 0, .null, .null, .null, .null, .null, .null, .null, .null, .long 0, .int 0, .null, .int 0, .null, .null, .null, .null, .null, .null, .int 0, .null]) (C := RX7) (T := TX7) (N := 28) hx hb htT inTX7 tyX7 tyX7_ok hown (htT _ lk871) (htT _ lki_7) (htT _ lk100) hKK.1 hP hD hS hA rfl (by decide) (Nat.le_of_ble_eq_true rfl) (Nat.le_of_ble_eq_true rfl) dL_law_8 (fun q7 H hP hD hS => ?_)
  refine lv_dup hx hb dL_law_11 rfl ?_
  have hPc := lastP hP
  have hDc := lastD hD
  have hFc := lastF hD hS hA
  refine va_callv (va_runI (As := []) (rest := [.ref q7]) ⟨hx, hb, hml, hown, htT⟩ (n_X7_init l D ca q7 H.size) (cwI 0 htT (tt_goodT lk875) rfl rfl rfl (htT _ lk100) (htT _ lk873) (htT _ lk874) rfl (by decide +kernel) ⟨Nat.le_of_ble_eq_true rfl, Nat.le_of_ble_eq_true rfl⟩) ⟨kn_blind, fun U hU hW => ⟨rfl, by rw [hU], by rw [hU]; exact hPc, kn_warm hW hKK, hDc.weaken (fun _ _ _ _ => trivial)⟩⟩ rfl rfl hl.1 rfl (lv_room (Nat.le_of_ble_eq_true rfl)) dL_law_12 ⟨Nat.le_of_ble_eq_true rfl, Nat.le_of_ble_eq_true rfl⟩) hS (fun q _ h => hFc q h) hFc (fun u7 t H1 locs ht hvm hw hB hz1 hk1 hS => ?_)
  obtain ⟨hP1, hD1⟩ := hB
  rw [ht] at hP1
  obtain ⟨hP, hD⟩ := joinL (w1 := NM ca q7 u7) hP hD hk1 hFc hP1 hD1
  generalize H1 = H at hP hS ⊢
  refine lv_astore_n (lv' := [(2, .ref q7), (1, .ref q6), (0, .ref b)]) hx hb dL_law_15 rfl hl (by decide) rfl (fun ls hl => ?_)
  refine lv_iconst (v := 0) hx hb dL_law_16 (by decide) ?_
  refine lv_istore_n (lv' := [(3, .int 0), (2, .ref q7), (1, .ref q6), (0, .ref b)]) hx hb dL_law_17 rfl hl (by decide) rfl (fun ls hl => ?_)
  obtain ⟨a1, a2, a3, a4, a5⟩ := apC_of (D := D) hD
  have hW1 : va_P D vwCl (NC ca q6 u6) H := pM.mpr fun q hq => pM.mp hP q (List.mem_append_left _ hq)
  have hW2 : va_P D vwCl (NM ca q7 u7) H := pM.mpr fun q hq => pM.mp hP q (List.mem_append_right _ hq)
  have n1 : va_Nw (.methodLinkNest RX1 91 yX6_asBit RX6) s := va_Nw.of rfl (hts _ lkn_X1_91)
  have n2 : va_Nw (.methodLinkNest RX4 66 yX6_asBit RX6) s := va_Nw.of rfl (hts _ lkn_X4_66)
  have C : LC p s m meth c b L xs (adf q6 u6 q7 u7, D, ca) := ⟨⟨hx, hb, hml, hown, htT⟩, ⟨hX, hbl⟩, ⟨hK _, a1, n1, n2⟩, ⟨hK _, a2, n1, n2⟩, a3, a4, a5⟩
  refine W.widen (k := 144) (n := 2496) (Nat.le_of_ble_eq_true rfl) (Nat.le_of_ble_eq_true rfl) ?_
  exact law_loop hr hlocks C hL I hI (L + 1) 0 0 (by omega) (Nat.zero_le _) nI_0.symm zC0 zM0 hI0 H locs ls (wsC_of hW1) (wsM_of hW2) hS hl
