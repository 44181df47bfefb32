def zCL : List (Nat → Int32) := [(fun _ => 0), (fun k => if k = 2 then 1 else 0), (fun _ => 0), (fun _ => 0), (fun _ => 0), (fun _ => 0), (upd (fun _ => 0) 0 1), (fun k => if k = 2 then 1 else 0), (fun _ => 0), (fun _ => 0), (fun _ => 0), (fun _ => 0), (upd (fun _ => 0) 0 1), (fun k => if k = 2 then 1 else 0), (fun _ => 0), (fun _ => 0), (fun _ => 0), (fun _ => 0), (upd (fun _ => 0) 0 1), (fun _ => 0), (fun _ => 0), (fun k => if k = 2 then 1 else 0), (fun _ => 0), (fun _ => 0), (fun _ => 0), (fun _ => 0), (upd (fun _ => 0) 0 1), (fun k => if k = 2 then 1 else 0), (fun _ => 0), (fun _ => 0), (fun _ => 0), (fun _ => 0), (upd (fun _ => 0) 0 1), (fun k => if k = 2 then 1 else 0), (fun _ => 0), (fun _ => 0), (fun _ => 0), (fun _ => 0), (upd (fun _ => 0) 0 1), (fun k => if k = 2 then 1 else 0), (fun _ => 0), (fun _ => 0), (fun _ => 0), (fun _ => 0), (upd (fun _ => 0) 0 1), (fun k => if k = 2 then 1 else 0), (fun _ => 0), (fun _ => 0), (fun _ => 0), (fun _ => 0), (upd (fun _ => 0) 0 1), (fun k => if k = 2 then 1 else 0), (fun _ => 0), (fun _ => 0), (fun _ => 0), (fun _ => 0), (upd (fun _ => 0) 0 1), (fun _ => 0), (fun _ => 0), (fun k => if k = 2 then 1 else 0), (fun _ => 0), (fun _ => 0), (fun _ => 0), (fun _ => 0), (upd (fun _ => 0) 0 1), (fun k => if k = 2 then 1 else 0), (fun _ => 0), (fun _ => 0), (fun _ => 0), (fun _ => 0), (upd (fun _ => 0) 0 1), (fun k => if k = 2 then 1 else 0), (fun _ => 0), (fun _ => 0), (fun _ => 0), (fun _ => 0), (upd (fun _ => 0) 0 1), (fun k => if k = 2 then 1 else 0), (fun _ => 0), (fun _ => 0), (fun _ => 0), (fun _ => 0), (upd (fun _ => 0) 0 1), (fun k => if k = 2 then 1 else 0), (fun _ => 0), (fun _ => 0), (fun _ => 0), (fun _ => 0), (upd (fun _ => 0) 0 1), (fun k => if k = 2 then 1 else 0), (fun _ => 0), (fun _ => 0), (fun _ => 0), (fun _ => 0), (upd (fun _ => 0) 0 1), (fun _ => 0), (fun _ => 0), (fun _ => 0), (fun _ => 0), (fun _ => 0), (fun k => if k = 1 then -4 else 0), (fun _ => 0), (fun _ => 0), (fun _ => 0), (fun _ => 0), (fun _ => 0), (fun _ => 0), (fun _ => 0), (fun _ => 0), (fun _ => 0), (fun _ => 0), (fun _ => 0), (fun _ => 0), (fun _ => 0), (fun _ => 0), (fun _ => 0), (fun _ => 0), (fun _ => 0), (fun _ => 0), (fun _ => 0), (fun _ => 0), (fun _ => 0)]
def zC0 : Sto := (fun c => zCL.getD c (fun _ => 0), fun c => if c = 95 then (fun k => if k = 3 then 1 else 0) else fun _ => 0)
def zM0 : Sto := (fun c => if c = 122 then (fun k => if k = 5 then -1 else 0) else if c = 123 then upd (upd (fun _ => 0) 2 1) 33 1 else if c = 128 then upd (upd (upd (upd (fun _ => 0) 0 (-1)) 1 (-1)) 2 (-1)) 3 (-1) else fun _ => 0, fun _ => fun _ => 0)
def adf (h : Nat) (a : Nat → Nat) (h' : Nat) (a' : Nat → Nat) (c : Nat) : Nat := if c < 122 then (if c = 0 then h else a c) else if c = 122 then h' else a' (c - 122)
def posC (c : Nat) : Nat := if c = 0 then 0 else if c = 113 then 1 else if c < 113 then c + 1 else c
theorem posC_inj {i j : Nat} (hi : i < 122) (hj : j < 122) (e : posC i = posC j) : i = j := by
  unfold posC at e
  repeat' split at e
  all_goals omega
theorem ringAt {D : va_G} {cl : List vw_C} {x n : Nat} {cA : ClassId} {f g : Nat → Option Nat} {H : Heap} (h : va_at D cl (x, .inl (cA, n, .inr (.inr (.inr (.inr f))))) H) (he : ∀ j, j < n → f j = g j) : va_at D cl (x, .inl (cA, n, .inr (.inr (.inr (.inr g))))) H := by
  have h1 : H[x]? = some (vp_cell cA (n, .inr (.inr (.inr (.inr f))))) := h
  show H[x]? = some (vp_cell cA (n, .inr (.inr (.inr (.inr g)))))
  rw [h1, vp_cell_q, vp_cell_q]
  have e : (fun j : Fin n => va_rf (f j.val)) = (fun j : Fin n => va_rf (g j.val)) := funext fun j => by rw [he j.val j.isLt]
  simp only [arrV, e]
theorem nodup_inj {l : List Nat} {f : Nat → Nat} (h : (l.map f).Nodup) {i j : Nat} (hi : i ∈ l) (hj : j ∈ l) (e : f i = f j) : i = j := by
  induction l with
  | nil => cases hi
  | cons x l ih =>
    rw [List.map_cons, List.nodup_cons] at h
    rcases List.mem_cons.mp hi with e1 | hi2
    · rcases List.mem_cons.mp hj with e2 | hj2
      · rw [e1, e2]
      · exact absurd (List.mem_map.mpr ⟨j, hj2, by rw [← e1]; exact e.symm⟩) h.1
    · rcases List.mem_cons.mp hj with e2 | hj2
      · exact absurd (List.mem_map.mpr ⟨i, hi2, by rw [← e2]; exact e⟩) h.1
      · exact ih h.2 hi2 hj2
theorem subP {D : va_G} {cl : List vw_C} {ws ws' : va_W} {H : Heap} (h : va_P D cl ws H) (hs : ∀ q ∈ ws', q ∈ ws) : va_P D cl ws' H := pM.mpr fun q hq => pM.mp h q (hs q hq)
set_option maxRecDepth 100000 in
set_option maxHeartbeats 16000000 in
theorem wsC_of {D : va_G} {ca : Nat → ClassId} {h : Nat} {a : Nat → Nat} {h' : Nat} {a' : Nat → Nat} {H : Heap} (hP : va_P D vwCl (NC ca h a) H) : va_P D vwCl (WS rC (adf h a h' a', D, ca) zC0) H := by
  have b1 : va_P D vwCl (NF ca (a 1) (fun k => a (1 + k))) H := subP hP (fun q hq => List.mem_cons_of_mem _ (List.mem_cons_of_mem _ (List.mem_append_left _ (List.mem_append_left _ (List.mem_append_left _ (List.mem_append_left _ (List.mem_append_left _ (List.mem_append_left _ (List.mem_append_left _ (List.mem_append_left _ (List.mem_append_left _ (List.mem_append_left _ (List.mem_append_left _ (List.mem_append_right _ hq))))))))))))))
  have b7 : va_P D vwCl (NF ca (a 7) (fun k => a (7 + k))) H := subP hP (fun q hq => List.mem_cons_of_mem _ (List.mem_cons_of_mem _ (List.mem_append_left _ (List.mem_append_left _ (List.mem_append_left _ (List.mem_append_left _ (List.mem_append_left _ (List.mem_append_left _ (List.mem_append_left _ (List.mem_append_left _ (List.mem_append_left _ (List.mem_append_left _ (List.mem_append_right _ hq)))))))))))))
  have b13 : va_P D vwCl (NF ca (a 13) (fun k => a (13 + k))) H := subP hP (fun q hq => List.mem_cons_of_mem _ (List.mem_cons_of_mem _ (List.mem_append_left _ (List.mem_append_left _ (List.mem_append_left _ (List.mem_append_left _ (List.mem_append_left _ (List.mem_append_left _ (List.mem_append_left _ (List.mem_append_left _ (List.mem_append_left _ (List.mem_append_right _ hq))))))))))))
  have b19 : va_P D vwCl (NH ca (a 19) (fun k => a (19 + k))) H := subP hP (fun q hq => List.mem_cons_of_mem _ (List.mem_cons_of_mem _ (List.mem_append_left _ (List.mem_append_left _ (List.mem_append_left _ (List.mem_append_left _ (List.mem_append_left _ (List.mem_append_left _ (List.mem_append_left _ (List.mem_append_left _ (List.mem_append_right _ hq)))))))))))
  have b21 : va_P D vwCl (NF ca (a (19 + 2)) (fun k => a (19 + (2 + k)))) H := subP b19 (fun q hq => List.mem_append_left _ (List.mem_append_left _ (List.mem_append_left _ (List.mem_append_left _ (List.mem_append_left _ (List.mem_append_right _ hq))))))
  have b27 : va_P D vwCl (NF ca (a (19 + 8)) (fun k => a (19 + (8 + k)))) H := subP b19 (fun q hq => List.mem_append_left _ (List.mem_append_left _ (List.mem_append_left _ (List.mem_append_left _ (List.mem_append_right _ hq)))))
  have b33 : va_P D vwCl (NF ca (a (19 + 14)) (fun k => a (19 + (14 + k)))) H := subP b19 (fun q hq => List.mem_append_left _ (List.mem_append_left _ (List.mem_append_left _ (List.mem_append_right _ hq))))
  have b39 : va_P D vwCl (NF ca (a (19 + 20)) (fun k => a (19 + (20 + k)))) H := subP b19 (fun q hq => List.mem_append_left _ (List.mem_append_left _ (List.mem_append_right _ hq)))
  have b45 : va_P D vwCl (NF ca (a (19 + 26)) (fun k => a (19 + (26 + k)))) H := subP b19 (fun q hq => List.mem_append_left _ (List.mem_append_right _ hq))
  have b51 : va_P D vwCl (NF ca (a (19 + 32)) (fun k => a (19 + (32 + k)))) H := subP b19 (fun q hq => List.mem_append_right _ hq)
  have b19r : va_P D vwCl [(a 19, .inr (2, [.ref (a (19 + 1)), .int 0, .int 0])), (a (19 + 1), .inl (ca 4, 6, .inr (.inr (.inr (.inr (fun i => if i < 6 then some (a (19 + (2 + 6 * i))) else none))))))] H := subP b19 (fun q hq => List.mem_append_left _ (List.mem_append_left _ (List.mem_append_left _ (List.mem_append_left _ (List.mem_append_left _ (List.mem_append_left _ (hq)))))))
  have b57 : va_P D vwCl (NH ca (a 57) (fun k => a (57 + k))) H := subP hP (fun q hq => List.mem_cons_of_mem _ (List.mem_cons_of_mem _ (List.mem_append_left _ (List.mem_append_left _ (List.mem_append_left _ (List.mem_append_left _ (List.mem_append_left _ (List.mem_append_left _ (List.mem_append_left _ (List.mem_append_right _ hq))))))))))
  have b59 : va_P D vwCl (NF ca (a (57 + 2)) (fun k => a (57 + (2 + k)))) H := subP b57 (fun q hq => List.mem_append_left _ (List.mem_append_left _ (List.mem_append_left _ (List.mem_append_left _ (List.mem_append_left _ (List.mem_append_right _ hq))))))
  have b65 : va_P D vwCl (NF ca (a (57 + 8)) (fun k => a (57 + (8 + k)))) H := subP b57 (fun q hq => List.mem_append_left _ (List.mem_append_left _ (List.mem_append_left _ (List.mem_append_left _ (List.mem_append_right _ hq)))))
  have b71 : va_P D vwCl (NF ca (a (57 + 14)) (fun k => a (57 + (14 + k)))) H := subP b57 (fun q hq => List.mem_append_left _ (List.mem_append_left _ (List.mem_append_left _ (List.mem_append_right _ hq))))
  have b77 : va_P D vwCl (NF ca (a (57 + 20)) (fun k => a (57 + (20 + k)))) H := subP b57 (fun q hq => List.mem_append_left _ (List.mem_append_left _ (List.mem_append_right _ hq)))
  have b83 : va_P D vwCl (NF ca (a (57 + 26)) (fun k => a (57 + (26 + k)))) H := subP b57 (fun q hq => List.mem_append_left _ (List.mem_append_right _ hq))
  have b89 : va_P D vwCl (NF ca (a (57 + 32)) (fun k => a (57 + (32 + k)))) H := subP b57 (fun q hq => List.mem_append_right _ hq)
  have b57r : va_P D vwCl [(a 57, .inr (2, [.ref (a (57 + 1)), .int 0, .int 0])), (a (57 + 1), .inl (ca 4, 6, .inr (.inr (.inr (.inr (fun i => if i < 6 then some (a (57 + (2 + 6 * i))) else none))))))] H := subP b57 (fun q hq => List.mem_append_left _ (List.mem_append_left _ (List.mem_append_left _ (List.mem_append_left _ (List.mem_append_left _ (List.mem_append_left _ (hq)))))))
  have b95 : va_P D vwCl (NS ca (a 95) (fun k => a (95 + k))) H := subP hP (fun q hq => List.mem_cons_of_mem _ (List.mem_cons_of_mem _ (List.mem_append_left _ (List.mem_append_left _ (List.mem_append_left _ (List.mem_append_left _ (List.mem_append_left _ (List.mem_append_left _ (List.mem_append_right _ hq)))))))))
  have b100 : va_P D vwCl (NA ca (a 100) (fun k => a (100 + k))) H := subP hP (fun q hq => List.mem_cons_of_mem _ (List.mem_cons_of_mem _ (List.mem_append_left _ (List.mem_append_left _ (List.mem_append_left _ (List.mem_append_left _ (List.mem_append_left _ (List.mem_append_right _ hq))))))))
  have b111 : va_P D vwCl (NT ca (a 111) (fun k => a (111 + k))) H := subP hP (fun q hq => List.mem_cons_of_mem _ (List.mem_cons_of_mem _ (List.mem_append_left _ (List.mem_append_left _ (List.mem_append_left _ (List.mem_append_left _ (List.mem_append_right _ hq)))))))
  have b114 : va_P D vwCl (NR ca (a 114) (fun k => a (114 + k))) H := subP hP (fun q hq => List.mem_cons_of_mem _ (List.mem_cons_of_mem _ (List.mem_append_left _ (List.mem_append_left _ (List.mem_append_left _ (List.mem_append_right _ hq))))))
  have b116 : va_P D vwCl (NR ca (a 116) (fun k => a (116 + k))) H := subP hP (fun q hq => List.mem_cons_of_mem _ (List.mem_cons_of_mem _ (List.mem_append_left _ (List.mem_append_left _ (List.mem_append_right _ hq)))))
  have b118 : va_P D vwCl (NR ca (a 118) (fun k => a (118 + k))) H := subP hP (fun q hq => List.mem_cons_of_mem _ (List.mem_cons_of_mem _ (List.mem_append_left _ (List.mem_append_right _ hq))))
  have b120 : va_P D vwCl (NR ca (a 120) (fun k => a (120 + k))) H := subP hP (fun q hq => List.mem_cons_of_mem _ (List.mem_cons_of_mem _ (List.mem_append_right _ hq)))
  have p0 : va_at D vwCl (adf h a h' a' 0, en (adf h a h' a', D, ca) zC0 0) H := by
    rw [en_O (ci := 6) sh_0]
    exact hP 0 _ rfl
  have p1 : va_at D vwCl (adf h a h' a' 1, en (adf h a h' a', D, ca) zC0 1) H := by
    rw [en_O (ci := 1) sh_1]
    exact b1 0 _ rfl
  have p2 : va_at D vwCl (adf h a h' a' 2, en (adf h a h' a', D, ca) zC0 2) H := by
    rw [en_I sh_2]
    exact b1 1 _ rfl
  have p3 : va_at D vwCl (adf h a h' a' 3, en (adf h a h' a', D, ca) zC0 3) H := by
    rw [en_I sh_3]
    exact b1 2 _ rfl
  have p4 : va_at D vwCl (adf h a h' a' 4, en (adf h a h' a', D, ca) zC0 4) H := by
    rw [en_I sh_4]
    exact b1 3 _ rfl
  have p5 : va_at D vwCl (adf h a h' a' 5, en (adf h a h' a', D, ca) zC0 5) H := by
    rw [en_I sh_5]
    exact b1 4 _ rfl
  have p6 : va_at D vwCl (adf h a h' a' 6, en (adf h a h' a', D, ca) zC0 6) H := by
    rw [en_I sh_6]
    exact b1 5 _ rfl
  have p7 : va_at D vwCl (adf h a h' a' 7, en (adf h a h' a', D, ca) zC0 7) H := by
    rw [en_O (ci := 1) sh_7]
    exact b7 0 _ rfl
  have p8 : va_at D vwCl (adf h a h' a' 8, en (adf h a h' a', D, ca) zC0 8) H := by
    rw [en_I sh_8]
    exact b7 1 _ rfl
  have p9 : va_at D vwCl (adf h a h' a' 9, en (adf h a h' a', D, ca) zC0 9) H := by
    rw [en_I sh_9]
    exact b7 2 _ rfl
  have p10 : va_at D vwCl (adf h a h' a' 10, en (adf h a h' a', D, ca) zC0 10) H := by
    rw [en_I sh_10]
    exact b7 3 _ rfl
  have p11 : va_at D vwCl (adf h a h' a' 11, en (adf h a h' a', D, ca) zC0 11) H := by
    rw [en_I sh_11]
    exact b7 4 _ rfl
  have p12 : va_at D vwCl (adf h a h' a' 12, en (adf h a h' a', D, ca) zC0 12) H := by
    rw [en_I sh_12]
    exact b7 5 _ rfl
  have p13 : va_at D vwCl (adf h a h' a' 13, en (adf h a h' a', D, ca) zC0 13) H := by
    rw [en_O (ci := 1) sh_13]
    exact b13 0 _ rfl
  have p14 : va_at D vwCl (adf h a h' a' 14, en (adf h a h' a', D, ca) zC0 14) H := by
    rw [en_I sh_14]
    exact b13 1 _ rfl
  have p15 : va_at D vwCl (adf h a h' a' 15, en (adf h a h' a', D, ca) zC0 15) H := by
    rw [en_I sh_15]
    exact b13 2 _ rfl
  have p16 : va_at D vwCl (adf h a h' a' 16, en (adf h a h' a', D, ca) zC0 16) H := by
    rw [en_I sh_16]
    exact b13 3 _ rfl
  have p17 : va_at D vwCl (adf h a h' a' 17, en (adf h a h' a', D, ca) zC0 17) H := by
    rw [en_I sh_17]
    exact b13 4 _ rfl
  have p18 : va_at D vwCl (adf h a h' a' 18, en (adf h a h' a', D, ca) zC0 18) H := by
    rw [en_I sh_18]
    exact b13 5 _ rfl
  have p19 : va_at D vwCl (adf h a h' a' 19, en (adf h a h' a', D, ca) zC0 19) H := by
    rw [en_O (ci := 2) sh_19]
    exact b19r 0 _ rfl
  have p20 : va_at D vwCl (adf h a h' a' 20, en (adf h a h' a', D, ca) zC0 20) H := by
    rw [en_F sh_20]
    exact ringAt (b19r 1 _ rfl) (fun j hj => by
      match j, hj with
      | 0, _ => rfl
      | 1, _ => rfl
      | 2, _ => rfl
      | 3, _ => rfl
      | 4, _ => rfl
      | 5, _ => rfl)
  have p21 : va_at D vwCl (adf h a h' a' 21, en (adf h a h' a', D, ca) zC0 21) H := by
    rw [en_O (ci := 1) sh_21]
    exact b21 0 _ rfl
  have p22 : va_at D vwCl (adf h a h' a' 22, en (adf h a h' a', D, ca) zC0 22) H := by
    rw [en_I sh_22]
    exact b21 1 _ rfl
  have p23 : va_at D vwCl (adf h a h' a' 23, en (adf h a h' a', D, ca) zC0 23) H := by
    rw [en_I sh_23]
    exact b21 2 _ rfl
  have p24 : va_at D vwCl (adf h a h' a' 24, en (adf h a h' a', D, ca) zC0 24) H := by
    rw [en_I sh_24]
    exact b21 3 _ rfl
  have p25 : va_at D vwCl (adf h a h' a' 25, en (adf h a h' a', D, ca) zC0 25) H := by
    rw [en_I sh_25]
    exact b21 4 _ rfl
  have p26 : va_at D vwCl (adf h a h' a' 26, en (adf h a h' a', D, ca) zC0 26) H := by
    rw [en_I sh_26]
    exact b21 5 _ rfl
  have p27 : va_at D vwCl (adf h a h' a' 27, en (adf h a h' a', D, ca) zC0 27) H := by
    rw [en_O (ci := 1) sh_27]
    exact b27 0 _ rfl
  have p28 : va_at D vwCl (adf h a h' a' 28, en (adf h a h' a', D, ca) zC0 28) H := by
    rw [en_I sh_28]
    exact b27 1 _ rfl
  have p29 : va_at D vwCl (adf h a h' a' 29, en (adf h a h' a', D, ca) zC0 29) H := by
    rw [en_I sh_29]
    exact b27 2 _ rfl
  have p30 : va_at D vwCl (adf h a h' a' 30, en (adf h a h' a', D, ca) zC0 30) H := by
    rw [en_I sh_30]
    exact b27 3 _ rfl
  have p31 : va_at D vwCl (adf h a h' a' 31, en (adf h a h' a', D, ca) zC0 31) H := by
    rw [en_I sh_31]
    exact b27 4 _ rfl
  have p32 : va_at D vwCl (adf h a h' a' 32, en (adf h a h' a', D, ca) zC0 32) H := by
    rw [en_I sh_32]
    exact b27 5 _ rfl
  have p33 : va_at D vwCl (adf h a h' a' 33, en (adf h a h' a', D, ca) zC0 33) H := by
    rw [en_O (ci := 1) sh_33]
    exact b33 0 _ rfl
  have p34 : va_at D vwCl (adf h a h' a' 34, en (adf h a h' a', D, ca) zC0 34) H := by
    rw [en_I sh_34]
    exact b33 1 _ rfl
  have p35 : va_at D vwCl (adf h a h' a' 35, en (adf h a h' a', D, ca) zC0 35) H := by
    rw [en_I sh_35]
    exact b33 2 _ rfl
  have p36 : va_at D vwCl (adf h a h' a' 36, en (adf h a h' a', D, ca) zC0 36) H := by
    rw [en_I sh_36]
    exact b33 3 _ rfl
  have p37 : va_at D vwCl (adf h a h' a' 37, en (adf h a h' a', D, ca) zC0 37) H := by
    rw [en_I sh_37]
    exact b33 4 _ rfl
  have p38 : va_at D vwCl (adf h a h' a' 38, en (adf h a h' a', D, ca) zC0 38) H := by
    rw [en_I sh_38]
    exact b33 5 _ rfl
  have p39 : va_at D vwCl (adf h a h' a' 39, en (adf h a h' a', D, ca) zC0 39) H := by
    rw [en_O (ci := 1) sh_39]
    exact b39 0 _ rfl
  have p40 : va_at D vwCl (adf h a h' a' 40, en (adf h a h' a', D, ca) zC0 40) H := by
    rw [en_I sh_40]
    exact b39 1 _ rfl
  have p41 : va_at D vwCl (adf h a h' a' 41, en (adf h a h' a', D, ca) zC0 41) H := by
    rw [en_I sh_41]
    exact b39 2 _ rfl
  have p42 : va_at D vwCl (adf h a h' a' 42, en (adf h a h' a', D, ca) zC0 42) H := by
    rw [en_I sh_42]
    exact b39 3 _ rfl
  have p43 : va_at D vwCl (adf h a h' a' 43, en (adf h a h' a', D, ca) zC0 43) H := by
    rw [en_I sh_43]
    exact b39 4 _ rfl
  have p44 : va_at D vwCl (adf h a h' a' 44, en (adf h a h' a', D, ca) zC0 44) H := by
    rw [en_I sh_44]
    exact b39 5 _ rfl
  have p45 : va_at D vwCl (adf h a h' a' 45, en (adf h a h' a', D, ca) zC0 45) H := by
    rw [en_O (ci := 1) sh_45]
    exact b45 0 _ rfl
  have p46 : va_at D vwCl (adf h a h' a' 46, en (adf h a h' a', D, ca) zC0 46) H := by
    rw [en_I sh_46]
    exact b45 1 _ rfl
  have p47 : va_at D vwCl (adf h a h' a' 47, en (adf h a h' a', D, ca) zC0 47) H := by
    rw [en_I sh_47]
    exact b45 2 _ rfl
  have p48 : va_at D vwCl (adf h a h' a' 48, en (adf h a h' a', D, ca) zC0 48) H := by
    rw [en_I sh_48]
    exact b45 3 _ rfl
  have p49 : va_at D vwCl (adf h a h' a' 49, en (adf h a h' a', D, ca) zC0 49) H := by
    rw [en_I sh_49]
    exact b45 4 _ rfl
  have p50 : va_at D vwCl (adf h a h' a' 50, en (adf h a h' a', D, ca) zC0 50) H := by
    rw [en_I sh_50]
    exact b45 5 _ rfl
  have p51 : va_at D vwCl (adf h a h' a' 51, en (adf h a h' a', D, ca) zC0 51) H := by
    rw [en_O (ci := 1) sh_51]
    exact b51 0 _ rfl
  have p52 : va_at D vwCl (adf h a h' a' 52, en (adf h a h' a', D, ca) zC0 52) H := by
    rw [en_I sh_52]
    exact b51 1 _ rfl
  have p53 : va_at D vwCl (adf h a h' a' 53, en (adf h a h' a', D, ca) zC0 53) H := by
    rw [en_I sh_53]
    exact b51 2 _ rfl
  have p54 : va_at D vwCl (adf h a h' a' 54, en (adf h a h' a', D, ca) zC0 54) H := by
    rw [en_I sh_54]
    exact b51 3 _ rfl
  have p55 : va_at D vwCl (adf h a h' a' 55, en (adf h a h' a', D, ca) zC0 55) H := by
    rw [en_I sh_55]
    exact b51 4 _ rfl
  have p56 : va_at D vwCl (adf h a h' a' 56, en (adf h a h' a', D, ca) zC0 56) H := by
    rw [en_I sh_56]
    exact b51 5 _ rfl
  have p57 : va_at D vwCl (adf h a h' a' 57, en (adf h a h' a', D, ca) zC0 57) H := by
    rw [en_O (ci := 2) sh_57]
    exact b57r 0 _ rfl
  have p58 : va_at D vwCl (adf h a h' a' 58, en (adf h a h' a', D, ca) zC0 58) H := by
    rw [en_F sh_58]
    exact ringAt (b57r 1 _ rfl) (fun j hj => by
      match j, hj with
      | 0, _ => rfl
      | 1, _ => rfl
      | 2, _ => rfl
      | 3, _ => rfl
      | 4, _ => rfl
      | 5, _ => rfl)
  have p59 : va_at D vwCl (adf h a h' a' 59, en (adf h a h' a', D, ca) zC0 59) H := by
    rw [en_O (ci := 1) sh_59]
    exact b59 0 _ rfl
  have p60 : va_at D vwCl (adf h a h' a' 60, en (adf h a h' a', D, ca) zC0 60) H := by
    rw [en_I sh_60]
    exact b59 1 _ rfl
  have p61 : va_at D vwCl (adf h a h' a' 61, en (adf h a h' a', D, ca) zC0 61) H := by
    rw [en_I sh_61]
    exact b59 2 _ rfl
  have p62 : va_at D vwCl (adf h a h' a' 62, en (adf h a h' a', D, ca) zC0 62) H := by
    rw [en_I sh_62]
    exact b59 3 _ rfl
  have p63 : va_at D vwCl (adf h a h' a' 63, en (adf h a h' a', D, ca) zC0 63) H := by
    rw [en_I sh_63]
    exact b59 4 _ rfl
  have p64 : va_at D vwCl (adf h a h' a' 64, en (adf h a h' a', D, ca) zC0 64) H := by
    rw [en_I sh_64]
    exact b59 5 _ rfl
  have p65 : va_at D vwCl (adf h a h' a' 65, en (adf h a h' a', D, ca) zC0 65) H := by
    rw [en_O (ci := 1) sh_65]
    exact b65 0 _ rfl
  have p66 : va_at D vwCl (adf h a h' a' 66, en (adf h a h' a', D, ca) zC0 66) H := by
    rw [en_I sh_66]
    exact b65 1 _ rfl
  have p67 : va_at D vwCl (adf h a h' a' 67, en (adf h a h' a', D, ca) zC0 67) H := by
    rw [en_I sh_67]
    exact b65 2 _ rfl
  have p68 : va_at D vwCl (adf h a h' a' 68, en (adf h a h' a', D, ca) zC0 68) H := by
    rw [en_I sh_68]
    exact b65 3 _ rfl
  have p69 : va_at D vwCl (adf h a h' a' 69, en (adf h a h' a', D, ca) zC0 69) H := by
    rw [en_I sh_69]
    exact b65 4 _ rfl
  have p70 : va_at D vwCl (adf h a h' a' 70, en (adf h a h' a', D, ca) zC0 70) H := by
    rw [en_I sh_70]
    exact b65 5 _ rfl
  have p71 : va_at D vwCl (adf h a h' a' 71, en (adf h a h' a', D, ca) zC0 71) H := by
    rw [en_O (ci := 1) sh_71]
    exact b71 0 _ rfl
  have p72 : va_at D vwCl (adf h a h' a' 72, en (adf h a h' a', D, ca) zC0 72) H := by
    rw [en_I sh_72]
    exact b71 1 _ rfl
  have p73 : va_at D vwCl (adf h a h' a' 73, en (adf h a h' a', D, ca) zC0 73) H := by
    rw [en_I sh_73]
    exact b71 2 _ rfl
  have p74 : va_at D vwCl (adf h a h' a' 74, en (adf h a h' a', D, ca) zC0 74) H := by
    rw [en_I sh_74]
    exact b71 3 _ rfl
  have p75 : va_at D vwCl (adf h a h' a' 75, en (adf h a h' a', D, ca) zC0 75) H := by
    rw [en_I sh_75]
    exact b71 4 _ rfl
  have p76 : va_at D vwCl (adf h a h' a' 76, en (adf h a h' a', D, ca) zC0 76) H := by
    rw [en_I sh_76]
    exact b71 5 _ rfl
  have p77 : va_at D vwCl (adf h a h' a' 77, en (adf h a h' a', D, ca) zC0 77) H := by
    rw [en_O (ci := 1) sh_77]
    exact b77 0 _ rfl
  have p78 : va_at D vwCl (adf h a h' a' 78, en (adf h a h' a', D, ca) zC0 78) H := by
    rw [en_I sh_78]
    exact b77 1 _ rfl
  have p79 : va_at D vwCl (adf h a h' a' 79, en (adf h a h' a', D, ca) zC0 79) H := by
    rw [en_I sh_79]
    exact b77 2 _ rfl
  have p80 : va_at D vwCl (adf h a h' a' 80, en (adf h a h' a', D, ca) zC0 80) H := by
    rw [en_I sh_80]
    exact b77 3 _ rfl
  have p81 : va_at D vwCl (adf h a h' a' 81, en (adf h a h' a', D, ca) zC0 81) H := by
    rw [en_I sh_81]
    exact b77 4 _ rfl
  have p82 : va_at D vwCl (adf h a h' a' 82, en (adf h a h' a', D, ca) zC0 82) H := by
    rw [en_I sh_82]
    exact b77 5 _ rfl
  have p83 : va_at D vwCl (adf h a h' a' 83, en (adf h a h' a', D, ca) zC0 83) H := by
    rw [en_O (ci := 1) sh_83]
    exact b83 0 _ rfl
  have p84 : va_at D vwCl (adf h a h' a' 84, en (adf h a h' a', D, ca) zC0 84) H := by
    rw [en_I sh_84]
    exact b83 1 _ rfl
  have p85 : va_at D vwCl (adf h a h' a' 85, en (adf h a h' a', D, ca) zC0 85) H := by
    rw [en_I sh_85]
    exact b83 2 _ rfl
  have p86 : va_at D vwCl (adf h a h' a' 86, en (adf h a h' a', D, ca) zC0 86) H := by
    rw [en_I sh_86]
    exact b83 3 _ rfl
  have p87 : va_at D vwCl (adf h a h' a' 87, en (adf h a h' a', D, ca) zC0 87) H := by
    rw [en_I sh_87]
    exact b83 4 _ rfl
  have p88 : va_at D vwCl (adf h a h' a' 88, en (adf h a h' a', D, ca) zC0 88) H := by
    rw [en_I sh_88]
    exact b83 5 _ rfl
  have p89 : va_at D vwCl (adf h a h' a' 89, en (adf h a h' a', D, ca) zC0 89) H := by
    rw [en_O (ci := 1) sh_89]
    exact b89 0 _ rfl
  have p90 : va_at D vwCl (adf h a h' a' 90, en (adf h a h' a', D, ca) zC0 90) H := by
    rw [en_I sh_90]
    exact b89 1 _ rfl
  have p91 : va_at D vwCl (adf h a h' a' 91, en (adf h a h' a', D, ca) zC0 91) H := by
    rw [en_I sh_91]
    exact b89 2 _ rfl
  have p92 : va_at D vwCl (adf h a h' a' 92, en (adf h a h' a', D, ca) zC0 92) H := by
    rw [en_I sh_92]
    exact b89 3 _ rfl
  have p93 : va_at D vwCl (adf h a h' a' 93, en (adf h a h' a', D, ca) zC0 93) H := by
    rw [en_I sh_93]
    exact b89 4 _ rfl
  have p94 : va_at D vwCl (adf h a h' a' 94, en (adf h a h' a', D, ca) zC0 94) H := by
    rw [en_I sh_94]
    exact b89 5 _ rfl
  have p95 : va_at D vwCl (adf h a h' a' 95, en (adf h a h' a', D, ca) zC0 95) H := by
    rw [en_O (ci := 4) sh_95]
    exact b95 0 _ rfl
  have p96 : va_at D vwCl (adf h a h' a' 96, en (adf h a h' a', D, ca) zC0 96) H := by
    rw [en_L sh_96]
    exact b95 1 _ rfl
  have p97 : va_at D vwCl (adf h a h' a' 97, en (adf h a h' a', D, ca) zC0 97) H := by
    rw [en_L sh_97]
    exact b95 2 _ rfl
  have p98 : va_at D vwCl (adf h a h' a' 98, en (adf h a h' a', D, ca) zC0 98) H := by
    rw [en_L sh_98]
    exact b95 3 _ rfl
  have p99 : va_at D vwCl (adf h a h' a' 99, en (adf h a h' a', D, ca) zC0 99) H := by
    rw [en_I sh_99]
    exact b95 4 _ rfl
  have p100 : va_at D vwCl (adf h a h' a' 100, en (adf h a h' a', D, ca) zC0 100) H := by
    rw [en_O (ci := 0) sh_100]
    exact b100 0 _ rfl
  have p101 : va_at D vwCl (adf h a h' a' 101, en (adf h a h' a', D, ca) zC0 101) H := by
    rw [en_I sh_101]
    exact b100 1 _ rfl
  have p102 : va_at D vwCl (adf h a h' a' 102, en (adf h a h' a', D, ca) zC0 102) H := by
    rw [en_I sh_102]
    exact b100 2 _ rfl
  have p103 : va_at D vwCl (adf h a h' a' 103, en (adf h a h' a', D, ca) zC0 103) H := by
    rw [en_I sh_103]
    exact b100 3 _ rfl
  have p104 : va_at D vwCl (adf h a h' a' 104, en (adf h a h' a', D, ca) zC0 104) H := by
    rw [en_I sh_104]
    exact b100 4 _ rfl
  have p105 : va_at D vwCl (adf h a h' a' 105, en (adf h a h' a', D, ca) zC0 105) H := by
    rw [en_I sh_105]
    exact b100 5 _ rfl
  have p106 : va_at D vwCl (adf h a h' a' 106, en (adf h a h' a', D, ca) zC0 106) H := by
    rw [en_I sh_106]
    exact b100 6 _ rfl
  have p107 : va_at D vwCl (adf h a h' a' 107, en (adf h a h' a', D, ca) zC0 107) H := by
    rw [en_L sh_107]
    exact b100 7 _ rfl
  have p108 : va_at D vwCl (adf h a h' a' 108, en (adf h a h' a', D, ca) zC0 108) H := by
    rw [en_L sh_108]
    exact b100 8 _ rfl
  have p109 : va_at D vwCl (adf h a h' a' 109, en (adf h a h' a', D, ca) zC0 109) H := by
    rw [en_L sh_109]
    exact b100 9 _ rfl
  have p110 : va_at D vwCl (adf h a h' a' 110, en (adf h a h' a', D, ca) zC0 110) H := by
    rw [en_Z sh_110]
    exact b100 10 _ rfl
  have p111 : va_at D vwCl (adf h a h' a' 111, en (adf h a h' a', D, ca) zC0 111) H := by
    rw [en_O (ci := 5) sh_111]
    exact b111 0 _ rfl
  have p112 : va_at D vwCl (adf h a h' a' 112, en (adf h a h' a', D, ca) zC0 112) H := by
    rw [en_C sh_112]
    exact b111 1 _ rfl
  have p113 : va_at D vwCl (adf h a h' a' 113, en (adf h a h' a', D, ca) zC0 113) H := by
    rw [en_R sh_113]
    exact ringAt (hP 1 _ rfl) (fun j hj => by
      match j, hj with
      | 0, _ => rfl
      | 1, _ => rfl
      | 2, _ => rfl
      | 3, _ => rfl)
  have p114 : va_at D vwCl (adf h a h' a' 114, en (adf h a h' a', D, ca) zC0 114) H := by
    rw [en_O (ci := 3) sh_114]
    exact b114 0 _ rfl
  have p115 : va_at D vwCl (adf h a h' a' 115, en (adf h a h' a', D, ca) zC0 115) H := by
    rw [en_L sh_115]
    exact b114 1 _ rfl
  have p116 : va_at D vwCl (adf h a h' a' 116, en (adf h a h' a', D, ca) zC0 116) H := by
    rw [en_O (ci := 3) sh_116]
    exact b116 0 _ rfl
  have p117 : va_at D vwCl (adf h a h' a' 117, en (adf h a h' a', D, ca) zC0 117) H := by
    rw [en_L sh_117]
    exact b116 1 _ rfl
  have p118 : va_at D vwCl (adf h a h' a' 118, en (adf h a h' a', D, ca) zC0 118) H := by
    rw [en_O (ci := 3) sh_118]
    exact b118 0 _ rfl
  have p119 : va_at D vwCl (adf h a h' a' 119, en (adf h a h' a', D, ca) zC0 119) H := by
    rw [en_L sh_119]
    exact b118 1 _ rfl
  have p120 : va_at D vwCl (adf h a h' a' 120, en (adf h a h' a', D, ca) zC0 120) H := by
    rw [en_O (ci := 3) sh_120]
    exact b120 0 _ rfl
  have p121 : va_at D vwCl (adf h a h' a' 121, en (adf h a h' a', D, ca) zC0 121) H := by
    rw [en_L sh_121]
    exact b120 1 _ rfl
  have all : ∀ c, c < 122 → va_at D vwCl (adf h a h' a' c, en (adf h a h' a', D, ca) zC0 c) H := lt_s (lt_s (lt_s (lt_s (lt_s (lt_s (lt_s (lt_s (lt_s (lt_s (lt_s (lt_s (lt_s (lt_s (lt_s (lt_s (lt_s (lt_s (lt_s (lt_s (lt_s (lt_s (lt_s (lt_s (lt_s (lt_s (lt_s (lt_s (lt_s (lt_s (lt_s (lt_s (lt_s (lt_s (lt_s (lt_s (lt_s (lt_s (lt_s (lt_s (lt_s (lt_s (lt_s (lt_s (lt_s (lt_s (lt_s (lt_s (lt_s (lt_s (lt_s (lt_s (lt_s (lt_s (lt_s (lt_s (lt_s (lt_s (lt_s (lt_s (lt_s (lt_s (lt_s (lt_s (lt_s (lt_s (lt_s (lt_s (lt_s (lt_s (lt_s (lt_s (lt_s (lt_s (lt_s (lt_s (lt_s (lt_s (lt_s (lt_s (lt_s (lt_s (lt_s (lt_s (lt_s (lt_s (lt_s (lt_s (lt_s (lt_s (lt_s (lt_s (lt_s (lt_s (lt_s (lt_s (lt_s (lt_s (lt_s (lt_s (lt_s (lt_s (lt_s (lt_s (lt_s (lt_s (lt_s (lt_s (lt_s (lt_s (lt_s (lt_s (lt_s (lt_s (lt_s (lt_s (lt_s (lt_s (lt_s (lt_s (lt_s (lt_s (lt_0) p0) p1) p2) p3) p4) p5) p6) p7) p8) p9) p10) p11) p12) p13) p14) p15) p16) p17) p18) p19) p20) p21) p22) p23) p24) p25) p26) p27) p28) p29) p30) p31) p32) p33) p34) p35) p36) p37) p38) p39) p40) p41) p42) p43) p44) p45) p46) p47) p48) p49) p50) p51) p52) p53) p54) p55) p56) p57) p58) p59) p60) p61) p62) p63) p64) p65) p66) p67) p68) p69) p70) p71) p72) p73) p74) p75) p76) p77) p78) p79) p80) p81) p82) p83) p84) p85) p86) p87) p88) p89) p90) p91) p92) p93) p94) p95) p96) p97) p98) p99) p100) p101) p102) p103) p104) p105) p106) p107) p108) p109) p110) p111) p112) p113) p114) p115) p116) p117) p118) p119) p120) p121
  refine pM.mpr fun q hq => ?_
  simp only [WS, List.mem_map, List.mem_range] at hq
  obtain ⟨i, hi, rfl⟩ := hq
  exact all (rC.1 + i) (by show 0 + i < 122; have : i < 122 := hi; omega)
set_option maxRecDepth 100000 in
set_option maxHeartbeats 16000000 in
theorem wsM_of {D : va_G} {ca : Nat → ClassId} {h : Nat} {a : Nat → Nat} {h' : Nat} {a' : Nat → Nat} {H : Heap} (hP : va_P D vwCl (NM ca h' a') H) : va_P D vwCl (WS rM (adf h a h' a', D, ca) zM0) H := by
  have p122 : va_at D vwCl (adf h a h' a' 122, en (adf h a h' a', D, ca) zM0 122) H := by
    rw [en_O (ci := 7) sh_122]
    exact hP 0 _ rfl
  have p123 : va_at D vwCl (adf h a h' a' 123, en (adf h a h' a', D, ca) zM0 123) H := by
    rw [en_I sh_123]
    exact hP 1 _ rfl
  have p124 : va_at D vwCl (adf h a h' a' 124, en (adf h a h' a', D, ca) zM0 124) H := by
    rw [en_I sh_124]
    exact hP 2 _ rfl
  have p125 : va_at D vwCl (adf h a h' a' 125, en (adf h a h' a', D, ca) zM0 125) H := by
    rw [en_I sh_125]
    exact hP 3 _ rfl
  have p126 : va_at D vwCl (adf h a h' a' 126, en (adf h a h' a', D, ca) zM0 126) H := by
    rw [en_I sh_126]
    exact hP 4 _ rfl
  have p127 : va_at D vwCl (adf h a h' a' 127, en (adf h a h' a', D, ca) zM0 127) H := by
    rw [en_I sh_127]
    exact hP 5 _ rfl
  have p128 : va_at D vwCl (adf h a h' a' 128, en (adf h a h' a', D, ca) zM0 128) H := by
    rw [en_I sh_128]
    exact hP 6 _ rfl
  have p129 : va_at D vwCl (adf h a h' a' 129, en (adf h a h' a', D, ca) zM0 129) H := by
    rw [en_I sh_129]
    exact hP 7 _ rfl
  have p130 : va_at D vwCl (adf h a h' a' 130, en (adf h a h' a', D, ca) zM0 130) H := by
    rw [en_L sh_130]
    exact hP 8 _ rfl
  have p131 : va_at D vwCl (adf h a h' a' 131, en (adf h a h' a', D, ca) zM0 131) H := by
    rw [en_L sh_131]
    exact hP 9 _ rfl
  have p132 : va_at D vwCl (adf h a h' a' 132, en (adf h a h' a', D, ca) zM0 132) H := by
    rw [en_I sh_132]
    exact hP 10 _ rfl
  have p133 : va_at D vwCl (adf h a h' a' 133, en (adf h a h' a', D, ca) zM0 133) H := by
    rw [en_I sh_133]
    exact hP 11 _ rfl
  have p134 : va_at D vwCl (adf h a h' a' 134, en (adf h a h' a', D, ca) zM0 134) H := by
    rw [en_L sh_134]
    exact hP 12 _ rfl
  have p135 : va_at D vwCl (adf h a h' a' 135, en (adf h a h' a', D, ca) zM0 135) H := by
    rw [en_I sh_135]
    exact hP 13 _ rfl
  have p136 : va_at D vwCl (adf h a h' a' 136, en (adf h a h' a', D, ca) zM0 136) H := by
    rw [en_I sh_136]
    exact hP 14 _ rfl
  have p137 : va_at D vwCl (adf h a h' a' 137, en (adf h a h' a', D, ca) zM0 137) H := by
    rw [en_L sh_137]
    exact hP 15 _ rfl
  have p138 : va_at D vwCl (adf h a h' a' 138, en (adf h a h' a', D, ca) zM0 138) H := by
    rw [en_L sh_138]
    exact hP 16 _ rfl
  have p139 : va_at D vwCl (adf h a h' a' 139, en (adf h a h' a', D, ca) zM0 139) H := by
    rw [en_L sh_139]
    exact hP 17 _ rfl
  have p140 : va_at D vwCl (adf h a h' a' 140, en (adf h a h' a', D, ca) zM0 140) H := by
    rw [en_L sh_140]
    exact hP 18 _ rfl
  have p141 : va_at D vwCl (adf h a h' a' 141, en (adf h a h' a', D, ca) zM0 141) H := by
    rw [en_L sh_141]
    exact hP 19 _ rfl
  have p142 : va_at D vwCl (adf h a h' a' 142, en (adf h a h' a', D, ca) zM0 142) H := by
    rw [en_Z sh_142]
    exact hP 20 _ rfl
  have p143 : va_at D vwCl (adf h a h' a' 143, en (adf h a h' a', D, ca) zM0 143) H := by
    rw [en_I sh_143]
    exact hP 21 _ rfl
  have all : ∀ c, c < 22 → va_at D vwCl (adf h a h' a' (122 + c), en (adf h a h' a', D, ca) zM0 (122 + c)) H := lt_s (lt_s (lt_s (lt_s (lt_s (lt_s (lt_s (lt_s (lt_s (lt_s (lt_s (lt_s (lt_s (lt_s (lt_s (lt_s (lt_s (lt_s (lt_s (lt_s (lt_s (lt_s (lt_0) p122) p123) p124) p125) p126) p127) p128) p129) p130) p131) p132) p133) p134) p135) p136) p137) p138) p139) p140) p141) p142) p143
  refine pM.mpr fun q hq => ?_
  simp only [WS, List.mem_map, List.mem_range] at hq
  obtain ⟨i, hi, rfl⟩ := hq
  exact all i hi
def idxA : List Nat := 0 :: 113 :: (List.range' 1 112 ++ List.range' 114 8) ++ List.range' 122 22
theorem mem_idxA {i : Nat} (h : i < 144) : i ∈ idxA := by
  unfold idxA
  simp only [List.cons_append, List.mem_cons, List.mem_append, List.mem_range']
  by_cases h0 : i = 0
  · exact Or.inl h0
  · by_cases h1 : i = 113
    · exact Or.inr (Or.inl h1)
    · refine Or.inr (Or.inr ?_)
      by_cases h2 : i < 113
      · exact Or.inl (Or.inl ⟨i - 1, by omega, by omega⟩)
      · by_cases h3 : i < 122
        · exact Or.inl (Or.inr ⟨i - 114, by omega, by omega⟩)
        · exact Or.inr ⟨i - 122, by omega, by omega⟩
set_option maxRecDepth 100000 in
set_option maxHeartbeats 16000000 in
theorem addrs (ca : Nat → ClassId) (h : Nat) (a : Nat → Nat) (h' : Nat) (a' : Nat → Nat) : (NC ca h a ++ NM ca h' a').map (fun q => q.1) = idxA.map (adf h a h' a') := rfl
theorem apC_of {A : Nat → Prop} {D : va_G} {ca : Nat → ClassId} {h : Nat} {a : Nat → Nat} {h' : Nat} {a' : Nat → Nat} (hD : va_D A (NC ca h a ++ NM ca h' a')) : Ap rC (adf h a h' a', D, ca) ∧ Ap rM (adf h a h' a', D, ca) ∧ (∀ k, inR rC k → A (adf h a h' a' k)) ∧ (∀ k, inR rM k → A (adf h a h' a' k)) ∧ ∀ j k, inR rC j → inR rM k → adf h a h' a' j ≠ adf h a h' a' k := by
  have hd := dM.mp hD
  have hn := hd.1
  rw [addrs] at hn
  have inj : ∀ i j, i < 144 → j < 144 → adf h a h' a' i = adf h a h' a' j → i = j := fun i j hi hj e => nodup_inj hn (mem_idxA hi) (mem_idxA hj) e
  have rc : ∀ k, inR rC k → k < 122 := fun k hk => by have := hk.2; simpa [rC] using this
  have rm1 : ∀ k, inR rM k → 122 ≤ k := fun k hk => hk.1
  have rm2 : ∀ k, inR rM k → k < 144 := fun k hk => by have := hk.2; simpa [rM] using this
  have al : ∀ k, k < 144 → A (adf h a h' a' k) := by
    intro k hk
    have h1 : adf h a h' a' k ∈ (NC ca h a ++ NM ca h' a').map (fun q => q.1) := by rw [addrs]; exact List.mem_map.mpr ⟨k, mem_idxA hk, rfl⟩
    obtain ⟨q, hq, e⟩ := List.mem_map.mp h1
    rw [← e]
    exact hd.2 q hq
  refine ⟨fun i j hi hj e => inj i j (by have := rc i hi; omega) (by have := rc j hj; omega) e, fun i j hi hj e => inj i j (rm2 i hi) (rm2 j hj) e, fun k hk => al k (by have := rc k hk; omega), fun k hk => al k (rm2 k hk), fun j k hj hk e => ?_⟩
  have h1 := inj j k (by have := rc j hj; omega) (rm2 k hk) e
  have h2 := rc j hj
  have h3 := rm1 k hk
  omega
theorem lk104 : Cond.classLink RL 7 RX6 ∈ TT := tt_mem (List.mem_of_getElem? (i := 104) (by decide +kernel)) (by decide +kernel)
theorem lk871 : Cond.classLink RL 10 RX7 ∈ TT := tt_mem (List.mem_of_getElem? (i := 871) (by decide +kernel)) (by decide +kernel)
theorem lk106 : Cond.methodLink RL 9 yX6_init ∈ TT := tt_mem (List.mem_of_getElem? (i := 106) (by decide +kernel)) (by decide +kernel)
theorem lk873 : Cond.methodLink RL 12 yX7_init ∈ TT := tt_mem (List.mem_of_getElem? (i := 873) (by decide +kernel)) (by decide +kernel)
theorem lk107 : Cond.instanceMethod yX6_init ∈ TT := tt_mem (List.mem_of_getElem? (i := 107) (by decide +kernel)) (by decide +kernel)
theorem lk874 : Cond.instanceMethod yX7_init ∈ TT := tt_mem (List.mem_of_getElem? (i := 874) (by decide +kernel)) (by decide +kernel)
theorem lk108 : Cond.code yX6_init cX6_init 2 none ∈ TT := tt_mem (List.mem_of_getElem? (i := 108) (by decide +kernel)) (by decide +kernel)
theorem lk875 : Cond.code yX7_init cX7_init 2 none ∈ TT := tt_mem (List.mem_of_getElem? (i := 875) (by decide +kernel)) (by decide +kernel)
theorem lkn_X6_34 : Cond.methodLinkNest RX6 34 yX4_init RX6 ∈ lw_tbl := List.mem_of_getElem? (i := 182) (by decide +kernel)
theorem lkn_X6_41 : Cond.methodLinkNest RX6 41 yX0_init RX6 ∈ lw_tbl := List.mem_of_getElem? (i := 218) (by decide +kernel)
theorem lkn_X6_48 : Cond.methodLinkNest RX6 48 yX5_init RX6 ∈ lw_tbl := List.mem_of_getElem? (i := 272) (by decide +kernel)
theorem lkn_X6_59 : Cond.methodLinkNest RX6 59 yX3_init RX6 ∈ lw_tbl := List.mem_of_getElem? (i := 292) (by decide +kernel)
theorem lkn_X1_91 : Cond.methodLinkNest RX1 91 yX6_asBit RX6 ∈ lw_tbl := List.mem_of_getElem? (i := 442) (by decide +kernel)
theorem lkn_X4_66 : Cond.methodLinkNest RX4 66 yX6_asBit RX6 ∈ lw_tbl := List.mem_of_getElem? (i := 659) (by decide +kernel)
theorem lko_4 : Cond.arrayOver (.object "ForceFrames$Frame") ∈ lw_tbl := List.mem_of_getElem? (i := 167) (by decide +kernel)
theorem lko_5 : Cond.arrayOver (.object "ForceFrames$Row") ∈ lw_tbl := List.mem_of_getElem? (i := 290) (by decide +kernel)
theorem arrK {s : State} {args : Array Value} {ty : FieldType} (hn : ∀ C, ty ≠ .object C) (h : (Cond.arrayClass ty).before args s = true) : ∃ cA, ArrOfT s cA ty ∧ va_RA s cA ty := by
  obtain ⟨cA, kA, comp, hf, hk, hkind⟩ := Cond.arrayClass_spec h
  refine ⟨cA, fun n z => ⟨fun k h => (by cases h), kA, hk, comp, hkind⟩, ?_⟩
  cases ty with
  | object C => exact absurd rfl (hn C)
  | _ => exact hf
theorem arrKO {s : State} {C : String} (h : va_AO C s) : ∃ cA, ArrOfT s cA (.object C) ∧ va_RA s cA (.object C) := by
  obtain ⟨comp, cA, kA, h1, -, h3, h4, h5⟩ := Cond.arrayOver_spec (va_AO.use (A := #[]) h)
  exact ⟨cA, fun n z => ⟨fun k h => (by cases h), kA, h3, comp, h4⟩, kA, comp, h3, h4, h1, h5⟩
