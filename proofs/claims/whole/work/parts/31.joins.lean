theorem pM {D : va_G} {cl : List vw_C} {ws : va_W} {H : Heap} : va_P D cl ws H ↔ ∀ q ∈ ws, va_at D cl q H :=
  ⟨fun h q hq => by obtain ⟨k, hk⟩ := List.getElem?_of_mem hq; exact h k q hk, fun h k q hk => h q (List.mem_of_getElem? hk)⟩
theorem dM {A : Nat → Prop} {ws : va_W} : va_D A ws ↔ (ws.map (fun q => q.1)).Nodup ∧ ∀ q ∈ ws, A q.1 := by
  constructor
  · intro h
    refine ⟨?_, fun q hq => by obtain ⟨k, hk⟩ := List.getElem?_of_mem hq; exact h.2 k q hk⟩
    rw [List.Nodup, List.pairwise_iff_getElem]
    intro i j hi hj hij e
    simp only [List.length_map] at hi hj
    simp only [List.getElem_map] at e
    have := h.1 i j _ _ (List.getElem?_eq_getElem hi) (List.getElem?_eq_getElem hj) e
    omega
  · intro h
    refine ⟨fun i j p q hp hq e => ?_, fun k q hk => h.2 q (List.mem_of_getElem? hk)⟩
    obtain ⟨hi, ei⟩ := List.getElem?_eq_some_iff.mp hp
    obtain ⟨hj, ej⟩ := List.getElem?_eq_some_iff.mp hq
    have hn := h.1
    rw [List.Nodup, List.pairwise_iff_getElem] at hn
    rcases Nat.lt_trichotomy i j with hl | hl | hl
    · have := hn i j (by simpa using hi) (by simpa using hj) hl
      simp only [List.getElem_map] at this
      exact absurd (by rw [ei, ej]; exact e) this
    · exact hl
    · have := hn j i (by simpa using hj) (by simpa using hi) hl
      simp only [List.getElem_map] at this
      exact absurd (by rw [ei, ej]; exact e.symm) this
theorem perP {D : va_G} {cl : List vw_C} {ws ws' : va_W} {H : Heap} (hp : ws.Perm ws') (h : va_P D cl ws H) : va_P D cl ws' H := pM.mpr fun q hq => pM.mp h q (hp.mem_iff.mpr hq)
theorem perD {A : Nat → Prop} {ws ws' : va_W} (hp : ws.Perm ws') (h : va_D A ws) : va_D A ws' := by
  have h1 := dM.mp h
  exact dM.mpr ⟨(hp.map _).nodup_iff.mp h1.1, fun q hq => h1.2 q (hp.mem_iff.mpr hq)⟩
theorem lastP {D : va_G} {cl : List vw_C} {B : va_W} {x : Nat × va_E} {H : Heap} (h : va_P D cl (B ++ [x]) H) : va_P D cl [x] H := pM.mpr fun q hq => pM.mp h q (List.mem_append_right _ hq)
theorem lastD {A : Nat → Prop} {B : va_W} {x : Nat × va_E} (h : va_D A (B ++ [x])) : va_D A [x] := by
  have h1 := dM.mp h
  exact dM.mpr ⟨by simp, fun q hq => h1.2 q (List.mem_append_right _ hq)⟩
theorem lastF {A0 : Nat → Prop} {B : va_W} {x : Nat × va_E} {H0 H : Heap} {locs : List Loc} (hD : va_D A0 (B ++ [x])) (hS : va_S A0 H0 H locs) (hA : ∀ q, H0.size ≤ q → A0 q) : ∀ q, va_A [x] H.size q → A0 q := by
  intro q hq
  rcases hq with ⟨k, e, hk⟩ | hq
  · have h1 : (q, e) ∈ [x] := List.mem_of_getElem? hk
    have h2 := (dM.mp hD).2 (q, e) (List.mem_append_right _ h1)
    exact h2
  · exact hA q (Nat.le_trans hS.1 hq)
theorem joinL {A0 : Nat → Prop} {D : va_G} {cl : List vw_C} {B w1 : va_W} {x : Nat × va_E} {H H1 : Heap} (hP : va_P D cl (B ++ [x]) H) (hD : va_D A0 (B ++ [x])) (hk : ∀ q : Nat, q < H.size → ¬ va_A [x] H.size q → H1[q]? = H[q]?) (hF : ∀ q, va_A [x] H.size q → A0 q) (hP1 : va_P D cl w1 H1) (hD1 : va_D (va_A [x] H.size) w1) : va_P D cl (B ++ w1) H1 ∧ va_D A0 (B ++ w1) := by
  have p1 := pM.mp hP
  have d1 := dM.mp hD
  have p2 := pM.mp hP1
  have d2 := dM.mp hD1
  have lt : ∀ q ∈ B, q.1 < H.size := fun q hq => (p1 q (List.mem_append_left _ hq)).lt
  have ne : ∀ q ∈ B, q.1 ≠ x.1 := by
    intro q hq e
    have hn := d1.1
    rw [List.map_append] at hn
    exact (List.nodup_append.mp hn).2.2 q.1 (List.mem_map.mpr ⟨q, hq, rfl⟩) x.1 (by simp) e
  have out : ∀ q ∈ B, ¬ va_A [x] H.size q.1 := by
    intro q hq h
    rcases h with ⟨k, e, hk⟩ | h
    · have h1 : (q.1, e) ∈ [x] := List.mem_of_getElem? hk
      rw [List.mem_singleton] at h1
      exact ne q hq (by rw [← h1])
    · exact absurd h (Nat.not_le.mpr (lt q hq))
  constructor
  · refine pM.mpr fun q hq => ?_
    rcases List.mem_append.mp hq with h | h
    · exact (p1 q (List.mem_append_left _ h)).kept (hk q.1 (lt q h) (out q h))
    · exact p2 q h
  · refine dM.mpr ⟨?_, fun q hq => ?_⟩
    · rw [List.map_append]
      refine List.nodup_append.mpr ⟨?_, d2.1, ?_⟩
      · have hn := d1.1
        rw [List.map_append] at hn
        exact (List.nodup_append.mp hn).1
      · intro a ha b hb e
        obtain ⟨q, hq, rfl⟩ := List.mem_map.mp ha
        obtain ⟨r, hr, rfl⟩ := List.mem_map.mp hb
        exact out q hq (by rw [e]; exact d2.2 r hr)
    · rcases List.mem_append.mp hq with h | h
      · exact d1.2 q (List.mem_append_left _ h)
      · exact hF q.1 (d2.2 q h)
theorem mvL {y x : Nat × va_E} {B : va_W} : ((y :: B) ++ [x]).Perm (y :: x :: B) := by
  have h : (B ++ [x]).Perm (x :: B) := List.perm_append_comm (l₁ := B) (l₂ := [x])
  exact h.cons y
