/- PURE: the reference takes what it has read -/
def mrS (hh R : gH) (s : Nat) : Prop := hh 84 s = R 1 s ∧ hh 85 s = R 2 s ∧ hh 86 s = R 3 s ∧ hh 92 (2 + s) = R 4 s
def mrC (hh R : gH) (k : Nat) : Prop := hh 87 k = R 5 k ∧ hh 88 k = R 6 k ∧ hh 89 k = R 7 k ∧ hh 90 k = R 9 k ∧ hh 92 (20 + k) = R 8 k ∧ hh 92 (32 + k) = R 5 k ∧ hh 92 (38 + k) = -1
theorem m_tr1 {h : gH} (k : gH → Option gO) : f_Mo_takeRead_L38 k 50000 0 h = k (grw h 92 50 (fun _ => 0)) := by
  have key := gloop (S := Int × gH) (F := fun n x => f_Mo_takeRead_L38 k n x.1 x.2) (K := fun x => k x.2) 50 (fun j => ((j : Int), grw h 92 j (fun _ => 0))) ?_ ?_ 50000 (by omega)
  · have key' : f_Mo_takeRead_L38 k 50000 ((0 : Nat) : Int) (grw h 92 0 (fun _ => 0)) = _ := key
    rw [grw_0] at key'
    exact key'
  · intro n j hj
    show f_Mo_takeRead_L38 _ (n + 1) (j : Int) (grw h 92 j (fun _ => 0)) = f_Mo_takeRead_L38 _ n ((j + 1 : Nat) : Int) (grw h 92 (j + 1) (fun _ => 0))
    rw [f_Mo_takeRead_L38, if_neg (by omega)]
    simp (disch := omega) only [gdix, gs_s, ga_s, Int.toNat_natCast]
    rw [← grw_step]
  · intro n
    show f_Mo_takeRead_L38 _ (n + 1) ((50 : Nat) : Int) _ = _
    rw [f_Mo_takeRead_L38, if_pos (by omega)]
theorem m_tr2 {h R : gH} {S : Nat} (hS : S ≤ 9) (h2 : h 83 2 = (S : Int)) (hR : ∀ s : Nat, s < S → h 95 s = R 1 s ∧ h 96 s = R 2 s ∧ h 97 s = R 3 s ∧ h 98 s = R 4 s) (k : gH → Option gO) : ∃ h', f_Mo_takeRead_L59 k 50000 0 h = k h' ∧ (∀ x, x ≠ 84 → x ≠ 85 → x ≠ 86 → x ≠ 92 → h' x = h x) ∧ (∀ s : Nat, s < S → mrS h' R s) ∧ ∀ y, y < 2 ∨ 2 + S ≤ y → h' 92 y = h 92 y := by
  have key := gloopI (S := Int × gH) (F := fun n x => f_Mo_takeRead_L59 k n x.1 x.2) (K := fun x => k x.2) S (fun j x => x.1 = (j : Int) ∧ (∀ z, z ≠ 84 → z ≠ 85 → z ≠ 86 → z ≠ 92 → x.2 z = h z) ∧ (∀ s : Nat, s < j → mrS x.2 R s) ∧ ∀ y, y < 2 ∨ 2 + j ≤ y → x.2 92 y = h 92 y) ?_ ?_ 50000 (0, h) ⟨rfl, fun _ _ _ _ _ => rfl, fun s hs => by omega, fun _ _ => rfl⟩ (by omega)
  · obtain ⟨⟨v, h'⟩, ⟨-, i2, i3, i4⟩, e⟩ := key
    exact ⟨h', e, i2, i3, i4⟩
  · intro n j x hj hx
    obtain ⟨xi, hh⟩ := x
    obtain ⟨x1, x2, x3, x4⟩ := hx
    have x1' : xi = (j : Int) := x1
    have x2' : ∀ z, z ≠ 84 → z ≠ 85 → z ≠ 86 → z ≠ 92 → hh z = h z := x2
    have x3' : ∀ s : Nat, s < j → mrS hh R s := x3
    have x4' : ∀ y, y < 2 ∨ 2 + j ≤ y → hh 92 y = h 92 y := x4
    subst x1'
    obtain ⟨r1, r2, r3, r4⟩ := hR j hj
    show ∃ s', _ ∧ f_Mo_takeRead_L59 k (n + 1) (j : Int) hh = _
    rw [f_Mo_takeRead_L59, x2' 83 (by decide) (by decide) (by decide) (by decide), h2, if_neg (by omega), ga_2 (by omega)]
    simp (disch := omega) only [ga_s, gdix, gs_s, Int.toNat_natCast, gu_r]
    rw [x2' 95 (by decide) (by decide) (by decide) (by decide), x2' 96 (by decide) (by decide) (by decide) (by decide), x2' 97 (by decide) (by decide) (by decide) (by decide), x2' 98 (by decide) (by decide) (by decide) (by decide), r1, r2, r3, r4]
    refine ⟨(((j + 1 : Nat) : Int), gup (gup (gup (gup hh 84 j (R 1 j)) 85 j (R 2 j)) 86 j (R 3 j)) 92 (2 + j) (R 4 j)), ⟨rfl, fun z h1 h3 h4 h5 => ?_, fun s hs => ?_, fun y hy => ?_⟩, rfl⟩
    · show gup (gup (gup (gup hh 84 j (R 1 j)) 85 j (R 2 j)) 86 j (R 3 j)) 92 (2 + j) (R 4 j) z = h z
      simp (disch := omega) only [gu_r]; exact x2' z h1 h3 h4 h5
    · show mrS (gup (gup (gup (gup hh 84 j (R 1 j)) 85 j (R 2 j)) 86 j (R 3 j)) 92 (2 + j) (R 4 j)) R s
      unfold mrS
      by_cases e : s = j
      · subst e
        simp (disch := omega) only [gu_r, gu_at]
        exact ⟨trivial, trivial, trivial, trivial⟩
      · have := x3' s (by omega)
        unfold mrS at this
        simp (disch := omega) only [gu_r, gu_o]
        exact this
    · show gup (gup (gup (gup hh 84 j (R 1 j)) 85 j (R 2 j)) 86 j (R 3 j)) 92 (2 + j) (R 4 j) 92 y = h 92 y
      simp (disch := omega) only [gu_r, gu_o]
      exact x4' y (by omega)
  · intro n x hx
    obtain ⟨xi, hh⟩ := x
    obtain ⟨x1, x2, -⟩ := hx
    have x1' : xi = (S : Int) := x1
    have x2' : hh 83 = h 83 := x2 83 (by decide) (by decide) (by decide) (by decide)
    subst x1'
    show f_Mo_takeRead_L59 k (n + 1) (S : Int) hh = k hh
    rw [f_Mo_takeRead_L59, x2', h2, if_pos (by omega)]
theorem m_tr3 {h R : gH} {C : Nat} (hC : C ≤ 6) (h6 : h 83 6 = (C : Int)) (hR : ∀ k : Nat, k < C → h 99 k = R 5 k ∧ h 100 k = R 6 k ∧ h 101 k = R 7 k ∧ h 102 k = R 8 k ∧ h 103 k = R 9 k) (k : gH → Option gO) : ∃ h', f_Mo_takeRead_L125 k 50000 0 h = k h' ∧ (∀ x, x < 87 ∨ 90 < x → x ≠ 92 → h' x = h x) ∧ (∀ s : Nat, s < C → mrC h' R s) ∧ ∀ y, (y < 20 ∨ 20 + C ≤ y) → (y < 32 ∨ 32 + C ≤ y) → (y < 38 ∨ 38 + C ≤ y) → h' 92 y = h 92 y := by
  have key := gloopI (S := Int × gH) (F := fun n x => f_Mo_takeRead_L125 k n x.1 x.2) (K := fun x => k x.2) C (fun j x => x.1 = (j : Int) ∧ (∀ z, z < 87 ∨ 90 < z → z ≠ 92 → x.2 z = h z) ∧ (∀ s : Nat, s < j → mrC x.2 R s) ∧ ∀ y, (y < 20 ∨ 20 + j ≤ y) → (y < 32 ∨ 32 + j ≤ y) → (y < 38 ∨ 38 + j ≤ y) → x.2 92 y = h 92 y) ?_ ?_ 50000 (0, h) ⟨rfl, fun _ _ _ => rfl, fun s hs => by omega, fun _ _ _ _ => rfl⟩ (by omega)
  · obtain ⟨⟨v, h'⟩, ⟨-, i2, i3, i4⟩, e⟩ := key
    exact ⟨h', e, i2, i3, i4⟩
  · intro n j x hj hx
    obtain ⟨xi, hh⟩ := x
    obtain ⟨x1, x2, x3, x4⟩ := hx
    have x1' : xi = (j : Int) := x1
    have x2' : ∀ z, z < 87 ∨ 90 < z → z ≠ 92 → hh z = h z := x2
    have x3' : ∀ s : Nat, s < j → mrC hh R s := x3
    have x4' : ∀ y, (y < 20 ∨ 20 + j ≤ y) → (y < 32 ∨ 32 + j ≤ y) → (y < 38 ∨ 38 + j ≤ y) → hh 92 y = h 92 y := x4
    subst x1'
    obtain ⟨r1, r2, r3, r4, r5⟩ := hR j hj
    show ∃ s', _ ∧ f_Mo_takeRead_L125 k (n + 1) (j : Int) hh = _
    rw [f_Mo_takeRead_L125, x2' 83 (by omega) (by decide), h6, if_neg (by omega), ga_20 (by omega), ga_32 (by omega), ga_38 (by omega)]
    simp (disch := omega) only [ga_s, gdix, gs_s, Int.toNat_natCast, gu_r, gu_at]
    rw [x2' 99 (by omega) (by decide), x2' 100 (by omega) (by decide), x2' 101 (by omega) (by decide), x2' 102 (by omega) (by decide), x2' 103 (by omega) (by decide), r1, r2, r3, r4, r5]
    generalize hQ : gup (gup (gup (gup (gup (gup (gup hh 87 j (R 5 j)) 88 j (R 6 j)) 89 j (R 7 j)) 90 j (R 9 j)) 92 (20 + j) (R 8 j)) 92 (32 + j) (R 5 j)) 92 (38 + j) (-1) = Q
    refine ⟨(((j + 1 : Nat) : Int), Q), ⟨rfl, fun z h1 h3 => ?_, fun s hs => ?_, fun y y1 y2 y3 => ?_⟩, rfl⟩
    · show Q z = h z
      rw [← hQ]
      simp (disch := omega) only [gu_r]; exact x2' z h1 h3
    · show mrC Q R s
      rw [← hQ]
      unfold mrC
      by_cases e : s = j
      · subst e
        simp (disch := omega) only [gu_r, gu_at, gu_o]
        exact ⟨trivial, trivial, trivial, trivial, trivial, trivial, trivial⟩
      · have := x3' s (by omega)
        unfold mrC at this
        simp (disch := omega) only [gu_r, gu_o]
        exact this
    · show Q 92 y = h 92 y
      rw [← hQ]
      simp (disch := omega) only [gu_r, gu_o]
      exact x4' y (by omega) (by omega) (by omega)
  · intro n x hx
    obtain ⟨xi, hh⟩ := x
    obtain ⟨x1, x2, -⟩ := hx
    have x1' : xi = (C : Int) := x1
    have x2' : hh 83 = h 83 := x2 83 (by omega) (by decide)
    subst x1'
    show f_Mo_takeRead_L125 k (n + 1) (C : Int) hh = k hh
    rw [f_Mo_takeRead_L125, x2', h6, if_pos (by omega)]
def mrZ (N : Nat → Int) : Prop := N 0 = 0 ∧ N 1 = 0 ∧ (∀ s : Nat, s < 9 → N (11 + s) = 0) ∧ ∀ k : Nat, k < 6 → N (26 + k) = 0 ∧ N (44 + k) = 0
def mrA (h' R : gH) (q e : Nat → Int) : Prop := h' 83 0 = q 0 ∧ h' 83 1 = q 1 ∧ h' 83 2 = q 2 ∧ h' 83 6 = q 3 ∧ (∀ s : Nat, (s : Int) < q 2 → mrS h' R s) ∧ (∀ k : Nat, (k : Int) < q 3 → mrC h' R k) ∧ mrZ (h' 92) ∧ (∀ a c : Nat, a < (q 0).toNat → c < (q 0).toNat → h' 91 (7 * a + c) = eD e (7 * a + c)) ∧ ∀ y, y < 49 → 0 ≤ h' 91 y ∧ h' 91 y ≤ 1000000
theorem m_takeRead {h R : gH} {q e : Nat → Int} (hI : pI q R) (hm : mRo h (h 83) q R) (hj : eJ (R 1) (R 2) (R 3) (q 0).toNat (q 2).toNat e) (hc : eC (R 1) (R 2) (R 3) (q 0).toNat (q 2).toNat e) : ∃ h', f_Mo_takeRead h = some (h', 0) ∧ (∀ x, x < 83 ∨ 92 < x → h' x = h x) ∧ (∀ y, y ≠ 0 → y ≠ 1 → y ≠ 2 → y ≠ 6 → h' 83 y = h 83 y) ∧ mrA h' R q e := by
  obtain ⟨q0, q1, q2, q3, qS, qC⟩ := hm
  obtain ⟨hg, hK, hS⟩ := pI_g hI
  have hqi := pI_q hI
  have hqs : (0 ≤ q 2 ∧ q 2 ≤ 9) ∧ (0 ≤ q 3 ∧ q 3 ≤ 6) := hqi.2
  obtain ⟨C, hC⟩ : ∃ C : Nat, q 3 = (C : Int) := ⟨(q 3).toNat, by omega⟩
  generalize (q 0).toNat = K at hK hg hj hc
  generalize (q 2).toNat = S at hS hg hj hc
  unfold f_Mo_takeRead
  rw [gdix (by decide) (by decide), gs_s, gdix (by decide) (by decide), gs_s, gs_s, gs_s]
  rw [gu_r (show 94 ≠ 83 by decide), gu_o (show 21 ≠ 1 by decide), gu_o (show 21 ≠ 0 by decide), gu_o (show 26 ≠ 2 by decide), gu_o (show 26 ≠ 1 by decide), gu_o (show 26 ≠ 0 by decide), q0, q1, q2, q3, m_tr1]
  generalize hH : grw (gup (gup (gup (gup h 83 0 (q 0)) 83 1 (q 1)) 83 2 (q 2)) 83 6 (q 3)) 92 50 (fun _ => 0) = H
  have a0 : H 83 0 = q 0 := by rw [← hH, grw_ne (by decide)]; simp (disch := omega) only [gu_o, gu_at]
  have a1 : H 83 1 = q 1 := by rw [← hH, grw_ne (by decide)]; simp (disch := omega) only [gu_o, gu_at]
  have a2 : H 83 2 = q 2 := by rw [← hH, grw_ne (by decide)]; simp (disch := omega) only [gu_o, gu_at]
  have a6 : H 83 6 = q 3 := by rw [← hH, grw_ne (by decide)]; simp (disch := omega) only [gu_o, gu_at]
  have a83 : ∀ y, y ≠ 0 → y ≠ 1 → y ≠ 2 → y ≠ 6 → H 83 y = h 83 y := fun y h1 h2 h3 h4 => by rw [← hH, grw_ne (by decide)]; simp (disch := omega) only [gu_o]
  have ax : ∀ x, x ≠ 83 → x ≠ 92 → H x = h x := fun x h1 h2 => by rw [← hH, grw_ne h2]; simp (disch := omega) only [gu_r]
  have a92 : ∀ y, y < 50 → H 92 y = 0 := fun y hy => by rw [← hH]; unfold grw; rw [if_pos ⟨rfl, hy⟩]
  clear hH
  obtain ⟨h1, z1, b1, b2, b3⟩ := m_tr2 (h := H) (R := R) (S := S) hg.2.1 (by rw [a2]; exact hS) (fun s hs => by rw [ax 95 (by decide) (by decide), ax 96 (by decide) (by decide), ax 97 (by decide) (by decide), ax 98 (by decide) (by decide)]; exact qS s (by omega)) (fun h13 => f_Mo_takeRead_L125 (fun h22 => gb (f_Mo_findFar h22) (fun h23 r24 => some (h23, 0))) 50000 0 h13)
  rw [z1]
  obtain ⟨h2, z2, c1, c2, c3⟩ := m_tr3 (h := h1) (R := R) (C := C) (by omega) (by rw [b1 83 (by decide) (by decide) (by decide) (by decide), a6]; exact hC) (fun s hs => by rw [b1 99 (by decide) (by decide) (by decide) (by decide), b1 100 (by decide) (by decide) (by decide) (by decide), b1 101 (by decide) (by decide) (by decide) (by decide), b1 102 (by decide) (by decide) (by decide) (by decide), b1 103 (by decide) (by decide) (by decide) (by decide), ax 99 (by decide) (by decide), ax 100 (by decide) (by decide), ax 101 (by decide) (by decide), ax 102 (by decide) (by decide), ax 103 (by decide) (by decide)]; exact qC s (by omega)) (fun h22 => gb (f_Mo_findFar h22) (fun h23 r24 => some (h23, 0)))
  rw [z2]
  have d83 : h2 83 = H 83 := by rw [c1 83 (by omega) (by decide), b1 83 (by decide) (by decide) (by decide) (by decide)]
  have dS : ∀ s : Nat, s < S → mrS h2 R s := fun s hs => by
    have := b2 s hs
    unfold mrS at this ⊢
    rw [c1 84 (by omega) (by decide), c1 85 (by omega) (by decide), c1 86 (by omega) (by decide), c3 (2 + s) (by have := hg.2.1; omega) (by have := hg.2.1; omega) (by have := hg.2.1; omega)]
    exact this
  have hcg : ∀ s : Nat, s < S → h2 84 s = R 1 s ∧ h2 85 s = R 2 s ∧ h2 86 s = R 3 s := fun s hs => ⟨(dS s hs).1, (dS s hs).2.1, (dS s hs).2.2.1⟩
  have hg2 : eGr (h2 84) (h2 85) (h2 86) K S := ⟨hg.1, hg.2.1, fun s hs => by
    obtain ⟨e1, e2, e3⟩ := hcg s hs
    rw [e1, e2, e3]; exact hg.2.2 s hs⟩
  obtain ⟨f, w1, w2, w3⟩ := m_findFar (h := h2) (K := K) (S := S) (e := e) hg2 (by rw [d83, a0]; exact hK) (by rw [d83, a2]; exact hS) (eJ_cg hcg hj) (eC_cg hcg hc)
  rw [w1, gb_s]
  refine ⟨_, rfl, fun x hx => ?_, fun y y0 y1 y2 y6 => ?_, ?_, ?_, ?_, ?_, fun s hs => ?_, fun k hk => ?_, ?_, ?_, ?_⟩
  · rw [grr_ne (by omega), c1 x (by omega) (by omega), b1 x (by omega) (by omega) (by omega) (by omega), ax x (by omega) (by omega)]
  · rw [grr_ne (by decide), d83]; exact a83 y y0 y1 y2 y6
  · rw [grr_ne (by decide), d83]; exact a0
  · rw [grr_ne (by decide), d83]; exact a1
  · rw [grr_ne (by decide), d83]; exact a2
  · rw [grr_ne (by decide), d83]; exact a6
  · have := dS s (by omega)
    unfold mrS at this ⊢
    simp (disch := omega) only [grr_ne]
    exact this
  · have := c2 k (by omega)
    unfold mrC at this ⊢
    simp (disch := omega) only [grr_ne]
    exact this
  · have hz : ∀ y, y < 50 → (y < 2 ∨ 2 + S ≤ y) → (y < 20 ∨ 20 + C ≤ y) → (y < 32 ∨ 32 + C ≤ y) → (y < 38 ∨ 38 + C ≤ y) → grr h2 91 f 92 y = 0 := fun y y0 y1 y2 y3 y4 => by
      rw [grr_ne (by decide), c3 y y2 y3 y4, b3 y y1, a92 y y0]
    have hS9 := hg.2.1
    exact ⟨hz 0 (by omega) (by omega) (by omega) (by omega) (by omega), hz 1 (by omega) (by omega) (by omega) (by omega) (by omega), fun s hs => hz (11 + s) (by omega) (by omega) (by omega) (by omega) (by omega), fun k hk => ⟨hz (26 + k) (by omega) (by omega) (by omega) (by omega) (by omega), hz (44 + k) (by omega) (by omega) (by omega) (by omega) (by omega)⟩⟩
  · rw [show (q 0).toNat = K by omega, grr_at]; exact w2
  · rw [grr_at]; exact w3
