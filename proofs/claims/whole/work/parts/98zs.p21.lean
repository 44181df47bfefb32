section
variable {s t : Sto}
theorem P21 (h : Inv s t) : ∃ Z : Sto × Sto, st_21 s t = some Z ∧ Inv Z.1 Z.2 := by
  obtain ⟨A, n, Hs, hF, hG, ⟨k, hk, t1, t2, t3⟩, hS, hK⟩ := h
  have hF' := hF
  obtain ⟨f1, f2, f3, f4, f5⟩ := hF
  obtain ⟨L, hL⟩ : ∃ L : Nat → Nat, ∀ i, i < k → 32 ≤ L i ∧ L i ≤ 126 ∧ s.1 112 i = nI (L i) ∧ t.1 127 i = nI (L i) := ⟨fun i => if h : i < k then Classical.choose (t3 i h) else 0, fun i hi => by
    simp only [dif_pos hi]
    exact Classical.choose_spec (t3 i hi)⟩
  obtain ⟨g, g1, e1⟩ := rd_keep (z := t)
  obtain ⟨g', g2, e2⟩ := rd_wipe (z := stI t 143 g)
  obtain ⟨t0, ht0⟩ : ∃ t0, t0 = upI (stI (stI t 143 g) 123 g') 122 26 (0 : Int32) := ⟨_, rfl⟩
  obtain ⟨B0, hB0⟩ : ∃ B0 : Fm, B0 = ((0, 0), (fun _ => 0, fun _ => 0), (fun _ => 0, fun _ => 0), fun j => (s.1 12 j).toInt, (s.1 7 2).toInt) := ⟨_, rfl⟩
  have b1 : fN B0 = 0 := by rw [hB0]; rfl
  have b2 : fM B0 = 0 := by rw [hB0]; rfl
  have g2' : ∀ i, i < 42 → g' i = if i < 33 ∧ i ≠ 2 then 0 else t.1 123 i := fun i hi => by rw [g2 i hi, stI_ne (by decide)]
  have u1 : ∀ c, c ≠ 122 → c ≠ 123 → c ≠ 143 → t0.1 c = t.1 c := fun c a b d => by rw [ht0, upI_ne a, stI_ne b, stI_ne d]
  have u2 : ∀ j, j ≠ 26 → t0.1 122 j = t.1 122 j := fun j hj => by rw [ht0, upI_at, if_neg (by omega), stI_ne (by decide), stI_ne (by decide)]
  have u3 : t0.1 123 = g' := by rw [ht0, upI_ne (by decide), stI_same]
  have u4 : t0.1 143 = g := by rw [ht0, upI_ne (by decide), stI_ne (by decide), stI_same]
  have u5 : t0.2 = t.2 := by rw [ht0]; rfl
  have hT : TL s t0 L k := ⟨hk, fun i hi => by
    obtain ⟨q1, q2, q3, q4⟩ := hL i hi
    exact ⟨q1, q2, q3, by rw [u1 127 (by omega) (by omega) (by omega)]; exact q4⟩⟩
  have hw : WF (fg A B0) := by
    obtain ⟨w1, w2, w3, w4, w5, w6⟩ := f1
    have c1 : fN (fg A B0) = 0 := b1
    have c2 : fM (fg A B0) = 0 := b2
    refine ⟨⟨by omega, by omega, fun j hj => by omega, fun j hj => by omega⟩, fun i j hi => by omega, fun i j hi => by omega, fun i hi => by omega, w5, w6⟩
  have hM : Ms t0 A k t0 B0 0 := by
    refine ⟨?_, ⟨by rw [u2 7 (by omega)]; exact t2, by rw [ht0, upI_at, if_pos ⟨rfl, rfl⟩]; rfl⟩, fun _ _ => rfl, fun _ _ _ => rfl, rfl⟩
    rw [u3]
    have c1 : fN (fg A B0) = 0 := b1
    have c2 : fM (fg A B0) = 0 := b2
    refine ⟨⟨?_, ?_, ?_⟩, fun j hj => by omega, fun j hj => by omega, fun j hj => by omega, fun j hj => by omega, fun j hj => ?_⟩
    · rw [g2' 0 (by omega), if_pos ⟨by omega, by omega⟩, c1]; rfl
    · rw [g2' 1 (by omega), if_pos ⟨by omega, by omega⟩, c2]; rfl
    · rw [g2' 2 (by omega), if_neg (by omega)]; exact f4.1.1.2.2
    · rw [g2' (33 + j) (by omega), if_neg (by omega)]; exact f4.1.2.2.2.2.2 j hj
  have hC : Cs s k (upI (upI (upI s 111 2 (0 : Int32)) 7 0 (0 : Int32)) 7 1 (0 : Int32)) B0 0 := by
    refine ⟨⟨⟨?_, ?_, ?_⟩, fun j hj => by omega, fun j hj => by omega, fun j hj => by omega, fun j hj => by omega, fun j hj => ?_⟩, ⟨?_, ?_⟩, fun c hc => ?_, rfl⟩
    · rw [upI_at, if_neg (by omega), upI_at, if_pos ⟨rfl, rfl⟩, b1]; rfl
    · rw [upI_at, if_pos ⟨rfl, rfl⟩, b2]; rfl
    · rw [upI_at, if_neg (by omega), upI_at, if_neg (by omega), upI_at, if_neg (by omega), hB0]
      exact (iI_of _).symm
    · rw [upI_ne (by omega), upI_ne (by omega), upI_ne (by omega), hB0]
      exact (iI_of _).symm
    · rw [upI_ne (by omega), upI_ne (by omega), upI_at, if_neg (by omega)]; exact t1
    · rw [upI_ne (by omega), upI_ne (by omega), upI_at, if_pos ⟨rfl, rfl⟩]; rfl
    · rw [upI_ne (by omega), upI_ne (by omega), upI_ne (by omega)]
  obtain ⟨r, s', t', j, B', r1, r2, r3, r4, r5, r6⟩ := reads hT hC hM hw b1 b2
  obtain ⟨h1, h2, hh, e3⟩ := rd_back (z := upI t' 122 7 (0 : Int32)) (b2i r)
  rw [← ht0, r2, bds2, e3] at e2
  rw [e2] at e1
  obtain ⟨y, hy⟩ : ∃ y, y = stI (stI (upI t' 122 7 (0 : Int32)) 132 h1) 123 h2 := ⟨_, rfl⟩
  rw [← hy] at e1
  obtain ⟨x, hx⟩ : ∃ x, x = upI s' 111 1 (0 : Int32) := ⟨_, rfl⟩
  have y1 : ∀ c, c ≠ 122 → c ≠ 123 → c ≠ 132 → y.1 c = t'.1 c := fun c a b d => by rw [hy, stI_ne b, stI_ne d, upI_ne a]
  have y2 : ∀ j, j ≠ 7 → y.1 122 j = t'.1 122 j := fun j hj => by rw [hy, stI_ne (by decide), stI_ne (by decide), upI_at, if_neg (by omega)]
  have y3 : y.1 122 7 = nI 0 := by rw [hy, stI_ne (by decide), stI_ne (by decide), upI_at, if_pos ⟨rfl, rfl⟩]; rfl
  have y4 : y.2 = t'.2 := by rw [hy]; rfl
  have y5 : ∀ i, i < 42 → y.1 123 i = t.1 123 i := fun i hi => by
    rw [hy, stI_same, (hh i hi).2, upI_ne (by decide), r5.2.2.2.1 143 (by omega) (by omega), u4, g1 i hi]
  have y6 : ∀ i, i < 42 → y.1 132 i = t'.1 123 i := fun i hi => by
    rw [hy, stI_ne (by decide), stI_same, (hh i hi).1, upI_ne (by decide)]
  have x1 : ∀ c, c ≠ 111 → x.1 c = s'.1 c := fun c a => by rw [hx, upI_ne a]
  have x2 : x.1 111 2 = nI j := by rw [hx, upI_at, if_neg (by omega)]; exact r4.2.1.2
  obtain ⟨i1, i2, i3, i4, i5⟩ := Inv_r (s' := x) (t' := y) hF' hG hS hK (fun c hc => by rw [x1 c (by omega)]; exact r4.2.2.1 c hc) (by rw [hx]; exact r4.2.2.2) (by rw [hx, upI_at, if_pos ⟨rfl, rfl⟩]; rfl) (fun c hc => by
      have q1 : c ≠ 122 := fun e => hc (by rw [e]; simp)
      have q2 : c ≠ 123 := fun e => hc (by rw [e]; simp)
      have q3 : c ≠ 132 := fun e => hc (by rw [e]; simp)
      have q4 : c ≠ 143 := fun e => hc (by rw [e]; simp)
      rw [y1 c q1 q2 q3, r5.2.2.2.1 c q1 q2, u1 c q1 q2 q4]) (fun i a b => by rw [y2 i a, r5.2.2.1 i b, u2 i b]) (by rw [y4, r5.2.2.2.2, u5]) y3 y5
  cases r with
  | false =>
    refine ⟨(x, y), st_of (r := (-20 : Int32) - nI j) ?_ ?_, ⟨A, n, Hs, i1, i2, i3, i4, i5⟩⟩
    · unfold f_X6_read
      rw [r1, bds2, lts, ← hx, show b2i false = (0 : Int32) from rfl, if00, x2]
    · rw [e1, show b2i false = (0 : Int32) from rfl, if00, y2 26 (by omega), r5.2.1.2]
  | true =>
    have hRx : RepC x 1 A := i1.2.1
    have hR7 : RepC x 7 B' := RepC_congr (fun c a b => x1 c (by omega)) r4.1
    obtain ⟨s1, c1, c2, c3⟩ := c_startStep f1.1 hRx i1.2.2.1
    have hR8 : RepC s1 7 B' := RepC_congr (fun c a b => c2.1 c (by omega) (by omega)) hR7
    have hBB : BF B' := r6.1
    obtain ⟨s2, d1, d2, d3⟩ := c_takeFigure (q := 1) (q1 := 7) hBB c3 hR8 (by omega)
    obtain ⟨t4, n1, n2, n3, n4, n5⟩ := m_notes (z := y) f1.1 (fun i hi => (f5 i hi).1) i1.2.2.2.1
    obtain ⟨g5, p1, p2⟩ := m_takesBack (z := t4)
    have hg5 : RowM g5 (fg A B') := RowM_congr r6.1 (fun i hi => by rw [p2 i hi, n2.1 132 (by simp), y6 i hi]) r5.1
    refine ⟨(s2, stI t4 123 g5), st_of (r := nI (fM B')) ?_ ?_, Inv_act i1 i2 i3 i4 c2 d3 d2 r6 ((n2.mono (by simp)).st (by simp)) (fun i hi => by rw [stI_ne (by decide)]; exact n4 i hi) ⟨row_st hg5, ⟨n5.2.1.1, by rw [stI_ne (by decide)]; exact n5.2.1.2⟩, by rw [stI_ne (by decide)]; exact n5.2.2⟩⟩
    · unfold f_X6_read
      rw [r1, bds2, lts, ← hx, show b2i true = (1 : Int32) from rfl, if10, c1, bds, d1, bds]
      have := d2.1.2.1
      rw [this]
      rfl
    · rw [e1, show b2i true = (1 : Int32) from rfl, if10, n1, bds, p1, bds, m_rd1, bds, stI_same]
      have := hg5.1.2.1
      rw [this]
      rfl
end
