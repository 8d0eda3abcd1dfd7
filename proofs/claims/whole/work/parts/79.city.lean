/- PURE: the call city -/
theorem m_cityL {h R : gH} {n : Nat} {T : Nat → Int} (hT : LT h 93 n T) (h15 : h 83 15 = (n : Int)) (h0T : ∀ i : Nat, i < n → 0 ≤ T i) : ∃ h' σ', f_Mo_city h = f_Mo_city_J55 (rdX T n R).1.1 (grr h' 83 σ') ∧ RM σ' n (rdX T n R).1 ∧ ((rdX T n R).1.1 = 0 → mRo h' σ' (rdX T n R).2.1 (rdX T n R).2.2) ∧ (∀ x, x ≠ 83 → x < 94 ∨ 103 < x → h' x = h x) ∧ ∀ y, y ≠ 16 → y ≠ 17 → y ≠ 18 → y ≠ 19 → y ≠ 21 → y ≠ 26 → σ' y = h 83 y := by
  have hn := hT.1
  unfold f_Mo_city
  rw [gs_s, gs_s, gdix (by decide) (by decide), gs_s, gdix (by decide) (by decide), gs_s, gs_s, gs_s]
  generalize hH : gup (gup (gup (gup (gup (gup h 83 16 (-1)) 83 17 0) 94 0 0) 94 1 0) 83 21 0) 83 26 0 = H
  have a16 : H 83 16 = -1 := by rw [← hH]; simp (disch := omega) only [gu_r, gu_o, gu_at]
  have a17 : H 83 17 = 0 := by rw [← hH]; simp (disch := omega) only [gu_r, gu_o, gu_at]
  have a21 : H 83 21 = 0 := by rw [← hH]; simp (disch := omega) only [gu_r, gu_o, gu_at]
  have a26 : H 83 26 = 0 := by rw [← hH]; simp (disch := omega) only [gu_r, gu_o, gu_at]
  have a94 : H 94 0 = 0 := by rw [← hH]; simp (disch := omega) only [gu_r, gu_o, gu_at]
  have a941 : H 94 1 = 0 := by rw [← hH]; simp (disch := omega) only [gu_r, gu_o, gu_at]
  have ax : ∀ x, x ≠ 83 → x ≠ 94 → H x = h x := fun x h1 h2 => by rw [← hH]; simp (disch := omega) only [gu_r]
  have a83 : ∀ y, y ≠ 16 → y ≠ 17 → y ≠ 21 → y ≠ 26 → H 83 y = h 83 y := fun y h1 h2 h3 h4 => by rw [← hH]; simp (disch := omega) only [gu_r, gu_o]
  clear hH
  obtain ⟨h', σ', e1, e2, e3, e4, e5⟩ := m_lp h0T (fun v13 h14 => f_Mo_city_J55 v13 h14) (n + 1) (0, -1, 0) (fun _ => 0) R H (H 83) 50000 (fun _ => by show n - sk T n 0 < n + 1; omega) (by omega) ⟨hn, fun i hi => by rw [ax 93 (by decide) (by decide)]; exact hT.2 i hi⟩ ⟨by rw [a83 15 (by decide) (by decide) (by decide) (by decide)]; exact h15, a16, by decide, fun _ => ⟨a17, Nat.zero_le _⟩⟩ (fun _ => ⟨a94, a941, a21, a26, fun s hs => by have : (s : Int) < 0 := hs; omega, fun s hs => by have : (s : Int) < 0 := hs; omega⟩) (pI_0 _)
  rw [grr_self] at e1
  refine ⟨h', σ', e1, e2, e3, fun x h1 h2 => ?_, fun y y1 y2 y3 y4 y5 y6 => ?_⟩
  · rw [e4 x (by omega), ax x h1 (by omega)]
  · rw [e5 y y1 y2 y3 y4 y5 y6, a83 y y1 y2 y5 y6]
theorem GK_txt {h h' : gH} {c : Nat} (g : GK h c) (hk : ∀ x, x < 83 → x ≠ 25 → (x < 14 - c ∨ 14 - c + 12 ≤ x) → h' x = h x) (hm : ∀ x, 84 ≤ x → x < 94 ∨ 103 < x → h' x = h x) (h83 : ∀ y, y < 15 ∨ 26 < y → h' 83 y = h 83 y) (ht : GT h') : GK h' c := by
  obtain ⟨g1, g2, ⟨g3, g4, g5, g6, gF⟩, g7, g8, g9, g10, g11, g12, g13⟩ := g
  have hct : ct h' = ct h := ct_eq (fun x _ _ => hm x (by omega) (by omega)) (h83 _ (by omega)) (h83 _ (by omega)) (h83 _ (by omega)) (h83 _ (by omega))
  have h92 := hm 92 (by omega) (by omega)
  unfold GK GC
  rw [hct, h83 32 (by omega), h83 13 (by omega), h92, hk 0 (by omega) (by omega) (by omega)]
  exact ⟨g1, g2, ⟨g3, g4, g5, CR_c (fun x _ _ => hk x (by omega) (by omega) (by omega)) g6, gF⟩, GN_c (fun x _ _ => hk x (by omega) (by omega) (by omega)) g7, g8, ht, GU_c (h83 _ (by omega)) (fun x _ _ => hk x (by omega) (by omega) (by omega)) (fun x _ _ => hm x (by omega) (by omega)) g10, GB_c (h83 _ (by omega)) (fun x _ _ => hk x (by omega) (by omega) (by omega)) (fun x _ _ => hm x (by omega) (by omega)) g11, GP_c (fun x _ _ => hk x (by omega) (by omega) (by omega)) (hm 114 (by omega) (by omega)) (hm 115 (by omega) (by omega)) g12, GS_c (hk 72 (by omega) (by omega) (by omega)) (hk 73 (by omega) (by omega) (by omega)) h92 g13⟩
theorem new_fW {h' R : gH} {q e : Nat → Int} (hA : mrA h' R q e) : fW (ct h') := fun a b ha hb => by
  rw [ct_83_0, hA.1] at ha hb
  have := hA.2.2.2.2.2.2.2.1 a b (by omega) (by omega)
  rw [ct_91, this]
  unfold eD
  split
  · left; assumption
  · right; rfl
theorem op_city {h : gH} (g : GI h) : gok f_DS_city f_Mo_city h := by
  obtain ⟨c, g⟩ := g
  have gg := g
  obtain ⟨g1, g2, ⟨g3, g4, g5, g6, gF⟩, g7, g8, g9, g10, g11, g12, g13⟩ := g
  obtain ⟨⟨b1, b2⟩, b3, b4, b5⟩ := g9
  obtain ⟨n, hn⟩ : ∃ n : Nat, h 83 15 = (n : Int) := ⟨(h 83 15).toNat, by omega⟩
  obtain ⟨d, hd⟩ : ∃ d, d = 14 - c := ⟨_, rfl⟩
  have hd1 : d = 1 ∨ d = 13 := by omega
  have dn : (h 0 1).toNat = d := by rw [g5, Int.toNat_natCast, hd]
  obtain ⟨hA, z1, z2, z3, z4, z5, z6⟩ := k_readInto (h := h) (d := d) (n := n) (T := h 26) hd1 ⟨by omega, fun _ _ => rfl⟩ (by rw [b3, hn])
  by_cases cf : (rdX (h 26) n (fun i => h (d + i))).1.1 = 0
  · obtain ⟨y1, e, y2, y3, y4, y5⟩ := z6 cf
    have a00 : hA 0 0 = (c : Int) := by rw [z4 0 (by omega) (by decide)]; exact g4
    have a01 : hA 0 1 = (d : Int) := by rw [z4 0 (by omega) (by decide), g5, hd]
    generalize hHB : gup (gup hA 0 1 (c : Int)) 0 0 (d : Int) = hB
    have bx : ∀ x, x ≠ 0 → hB x = hA x := fun x hx => by rw [← hHB, gu_r hx, gu_r hx]
    have b00 : hB 0 0 = (d : Int) := by rw [← hHB, gu_at]
    have b01 : hB 0 1 = (c : Int) := by rw [← hHB, gu_o (by decide), gu_at]
    obtain ⟨hC, v1, v2, v3, v4, -⟩ := kq_begin (h := hB) (t := 27) (c := d) (Or.inl rfl) hd1
    generalize hH1 : gup (gup (gup (gup (gup hC 75 0 0) 79 0 0) 68 0 0) 68 1 0) 72 5 0 = H1
    have x1 : ∀ x, x ≠ 75 → x ≠ 79 → x ≠ 68 → x ≠ 72 → H1 x = hC x := fun x h1 h2 h3 h4 => by rw [← hH1, gu_r h4, gu_r h3, gu_r h3, gu_r h2, gu_r h1]
    have hCx : ∀ x, x < 27 ∨ 37 ≤ x → hC x = hB x := fun x hx => v2.1 x hx
    generalize hX : rdX (h 26) n (fun i => h (d + i)) = X at cf z1 z3 z5 y1 y3 y4 y5
    obtain ⟨u, q, R⟩ := X
    have cf : u.1 = 0 := cf
    have z5 : pI q R := z5
    have y1 : RC hA d q R := y1
    have y3 : eJ (R 1) (R 2) (R 3) (q 0).toNat (q 2).toNat e := y3
    have y4 : eC (R 1) (R 2) (R 3) (q 0).toNat (q 2).toNat e := y4
    have e1 : f_DS_city h = some (H1, q 0) := by
      unfold f_DS_city f_Shuffle_forget
      rw [dn, gdcl (gsh_c hd1), z1, gb_s, if_pos cf, a01, a00, Int.toNat_natCast, Int.toNat_natCast, gdcl (gsh_c hd1), gdcl (gsh_c g3), gs_s, gs_s, hHB, b00, Int.toNat_natCast, gdcl (gsh_c hd1), v1, gb_s, gs_s, gs_s, gdix (by decide) (by decide), gs_s, gdix (by decide) (by decide), gs_s, gs_s, gb_s, hH1, x1 0 (by decide) (by decide) (by decide) (by decide), hCx 0 (by omega), b00, Int.toNat_natCast, gdcl (gsh_c hd1), x1 d (by omega) (by omega) (by omega) (by omega), hCx d (by omega), bx d (by omega), y1.1 0 (by decide)]
    have xA : ∀ x, 37 ≤ x → x ≠ 75 → x ≠ 79 → x ≠ 68 → x ≠ 72 → H1 x = h x := fun x h0 h1 h2 h3 h4 => by rw [x1 x h1 h2 h3 h4, hCx x (by omega), bx x (by omega), z4 x (by omega) (by omega)]
    obtain ⟨hM, σ', w1, w2, w3, w4, w5⟩ := m_cityL (h := H1) (R := fun i => h (d + i)) (n := n) (T := h 26) ⟨by omega, fun i hi => by rw [xA 93 (by decide) (by decide) (by decide) (by decide) (by decide)]; exact (b5 i (by omega)).1.symm⟩ (by rw [xA 83 (by decide) (by decide) (by decide) (by decide) (by decide)]; exact hn) (fun i hi => by obtain ⟨q1, q2⟩ := b5 i (by omega); rw [q1]; exact q2)
    rw [hX] at w1 w2 w3
    have w3' : mRo hM σ' q R := w3 cf
    have w2' : RM σ' n u := w2
    generalize hHQ : gup (grr hM 83 σ') 83 15 0 = HQ
    have q83 : ∀ y, y ≠ 15 → HQ 83 y = σ' y := fun y hy => by rw [← hHQ, gu_o hy, grr_at]
    have qx : ∀ x, x ≠ 83 → HQ x = hM x := fun x hx => by rw [← hHQ, gu_r hx, grr_ne hx]
    have hmq : mRo HQ (HQ 83) q R := by
      obtain ⟨p1, p2, p3, p4, p5, p6⟩ := w3'
      unfold mRo
      rw [q83 21 (by decide), q83 26 (by decide), qx 94 (by decide), qx 95 (by decide), qx 96 (by decide), qx 97 (by decide), qx 98 (by decide), qx 99 (by decide), qx 100 (by decide), qx 101 (by decide), qx 102 (by decide), qx 103 (by decide)]
      exact ⟨p1, p2, p3, p4, p5, p6⟩
    obtain ⟨hR, r1, r2, r3, r4⟩ := m_takeRead z5 hmq y3 y4
    generalize hH2 : gup (gup (gup (gup hR 83 38 0) 83 42 0) 115 0 0) 115 1 0 = H2
    have s83 : ∀ y, y ≠ 38 → y ≠ 42 → H2 83 y = hR 83 y := fun y h1 h2 => by rw [← hH2, gu_r (by decide), gu_r (by decide), gu_o h2, gu_o h1]
    have sx : ∀ x, x ≠ 83 → x ≠ 115 → H2 x = hR x := fun x h1 h2 => by rw [← hH2, gu_r h2, gu_r h2, gu_r h1, gu_r h1]
    have e2 : f_Mo_city H1 = some (H2, q 0) := by
      rw [w1]
      unfold f_Mo_city_J55
      rw [gs_s, hHQ, if_pos (show u.1 ≤ 0 by omega), r1, gb_s, gs_s, gs_s, gdix (by decide) (by decide), gs_s, gdix (by decide) (by decide), gs_s, hH2, s83 0 (by decide) (by decide), r4.1]
    have hct : ct H2 = ct hR := ct_eq (fun x _ _ => sx x (by omega) (by omega)) (s83 _ (by omega) (by omega)) (s83 _ (by omega) (by omega)) (s83 _ (by omega) (by omega)) (s83 _ (by omega) (by omega))
    -- cells of the class in H2
    have kx : ∀ x, x < 83 → H2 x = H1 x := fun x hx => by rw [sx x (by omega) (by omega), r2 x (by omega), qx x (by omega), w4 x (by omega) (by omega)]
    have k83 : ∀ y, y ≠ 0 → y ≠ 1 → y ≠ 2 → y ≠ 6 → y ≠ 38 → y ≠ 42 → y ≠ 15 → H2 83 y = σ' y := fun y h0 h1 h2 h6 h38 h42 h15 => by rw [s83 y h38 h42, r3 y h0 h1 h2 h6, q83 y h15]
    have k83' : ∀ y, y ≠ 0 → y ≠ 1 → y ≠ 2 → y ≠ 6 → y < 15 ∨ 26 < y → y ≠ 38 → y ≠ 42 → H2 83 y = h 83 y := fun y h0 h1 h2 h6 h7 h38 h42 => by rw [k83 y h0 h1 h2 h6 h38 h42 (by omega), w5 y (by omega) (by omega) (by omega) (by omega) (by omega) (by omega), xA 83 (by decide) (by decide) (by decide) (by decide) (by decide)]
    have hRB : RC hB d q R := ⟨fun y hy => by rw [bx d (by omega)]; exact y1.1 y hy, fun i h1 h2 => by rw [bx (d + i) (by omega)]; exact y1.2 i h1 h2⟩
    obtain ⟨n1, n2⟩ := new_nW z5 r4
    have hz := r4.2.2.2.2.2.2.1
    refine ⟨H1, q 0, H2, e1, e2, d, ?_⟩
    unfold GK GC
    rw [hct, sx 92 (by decide) (by decide)]
    refine ⟨new_cW z5 r4, new_dW z5 r4 y3 y4, ⟨hd1, ?_, ?_, CR_c (h := hA) (fun x h1 h2 => ?_) (new_CR hd1 z5 r4 y3 y1 y2 y5), new_fW r4⟩, ⟨TR_c (h := hC) (fun x h1 h2 => ?_) (new_TR z5 r4 hRB v2 v3 v4), ?_, ⟨n1, n2, fun k hk h3 => ?_, by rw [hz.1]; decide⟩, ?_⟩, ?_, ⟨?_, ?_, ?_, fun i hi => ?_⟩, ⟨?_, ?_, fun i hi => ?_⟩, ⟨?_, ?_, fun i hi => ?_⟩, fun i hi => ?_, Or.inl ?_⟩
    · rw [kx 0 (by decide), x1 0 (by decide) (by decide) (by decide) (by decide), hCx 0 (by omega), b00]
    · rw [kx 0 (by decide), x1 0 (by decide) (by decide) (by decide) (by decide), hCx 0 (by omega), b01, show 14 - d = c by omega]
    · rw [kx x (by omega), x1 x (by omega) (by omega) (by omega) (by omega), hCx x (by omega), bx x (by omega)]
    · rw [kx x (by omega), x1 x (by omega) (by omega) (by omega) (by omega)]
    · rw [kx 27 (by omega), x1 27 (by omega) (by omega) (by omega) (by omega), v2.2.2.2, bx 27 (by omega), z4 27 (by omega) (by omega), k83' 13 (by omega) (by omega) (by omega) (by omega) (by omega) (by omega) (by omega)]
      exact g7.2.1
    · rw [(hz.2.2.2 k (by rw [ct_83_6, r4.2.2.2.1] at hk; have := (pI_q z5).2.2; omega)).1] at h3
      exact absurd h3 (by decide)
    · rw [k83' 13 (by omega) (by omega) (by omega) (by omega) (by omega) (by omega) (by omega)]; exact g7.2.2.2
    · rw [k83' 32 (by omega) (by omega) (by omega) (by omega) (by omega) (by omega) (by omega)]; exact g8
    · rw [s83 15 (by omega) (by omega), r3 15 (by omega) (by omega) (by omega) (by omega), ← hHQ, gu_at]; decide
    · rw [s83 15 (by omega) (by omega), r3 15 (by omega) (by omega) (by omega) (by omega), ← hHQ, gu_at, kx 25 (by omega), x1 25 (by omega) (by omega) (by omega) (by omega), hCx 25 (by omega), bx 25 (by omega), z2]
    · rw [k83 16 (by omega) (by omega) (by omega) (by omega) (by omega) (by omega) (by omega), w2'.2.1, kx 25 (by omega), x1 25 (by omega) (by omega) (by omega) (by omega), hCx 25 (by omega), bx 25 (by omega), z3]
    · rw [s83 15 (by omega) (by omega), r3 15 (by omega) (by omega) (by omega) (by omega), ← hHQ, gu_at] at hi; omega
    · rw [← hH2, gu_r (by decide), gu_r (by decide), gu_o (by decide), gu_at]; decide
    · rw [kx 75 (by omega), ← hH1, gu_r (by decide), gu_r (by decide), gu_r (by decide), gu_r (by decide), gu_at, ← hH2, gu_r (by decide), gu_r (by decide), gu_o (by decide), gu_at]
    · rw [← hH2, gu_r (by decide), gu_r (by decide), gu_o (by decide), gu_at] at hi; omega
    · rw [← hH2, gu_r (by decide), gu_r (by decide), gu_at]; decide
    · rw [kx 79 (by omega), ← hH1, gu_r (by decide), gu_r (by decide), gu_r (by decide), gu_at, ← hH2, gu_r (by decide), gu_r (by decide), gu_at]
    · rw [← hH2, gu_r (by decide), gu_r (by decide), gu_at] at hi; omega
    · have p68 : H2 68 i = 0 := by
        rw [kx 68 (by omega), ← hH1]
        rcases (show i = 0 ∨ i = 1 by omega) with rfl | rfl <;> simp (disch := omega) only [gu_r, gu_o, gu_at]
      have p115 : H2 115 i = 0 := by
        rw [← hH2]
        rcases (show i = 0 ∨ i = 1 by omega) with rfl | rfl <;> simp (disch := omega) only [gu_r, gu_o, gu_at]
      rw [p68, p115]
      exact ⟨rfl, fun z => absurd rfl z⟩
    · rw [kx 72 (by omega), ← hH1, gu_at]
  · have e1 : f_DS_city h = some (hA, gsub (-10) (rdX (h 26) n (fun i => h (d + i))).1.1) := by
      unfold f_DS_city
      rw [dn, gdcl (gsh_c hd1), z1, gb_s, if_neg cf]
    obtain ⟨hM, σ', w1, w2, w3, w4, w5⟩ := m_cityL (h := hA) (R := fun i => h (d + i)) (n := n) (T := h 26) ⟨by omega, fun i hi => by rw [z4 93 (by omega) (by decide)]; exact (b5 i (by omega)).1.symm⟩ (by rw [z4 83 (by omega) (by decide)]; exact hn) (fun i hi => by obtain ⟨q1, q2⟩ := b5 i (by omega); rw [q1]; exact q2)
    have hpos : 0 ≤ (rdX (h 26) n (fun i => h (d + i))).1.1 := w2.2.2.1
    refine ⟨hA, _, gup (grr hM 83 σ') 83 15 0, e1, ?_, c, ?_⟩
    · rw [w1]
      unfold f_Mo_city_J55
      rw [gs_s, if_neg (by omega)]
    · have q83 : ∀ y, y ≠ 15 → gup (grr hM 83 σ') 83 15 0 83 y = σ' y := fun y hy => by rw [gu_o hy, grr_at]
      have qx : ∀ x, x ≠ 83 → gup (grr hM 83 σ') 83 15 0 x = hM x := fun x hx => by rw [gu_r hx, grr_ne hx]
      refine GK_txt gg (fun x h1 h2 h3 => ?_) (fun x h1 h2 => ?_) (fun y hy => ?_) ⟨?_, ?_, ?_, fun i hi => ?_⟩
      · rw [qx x (by omega), w4 x (by omega) (by omega), z4 x (by omega) h2]
      · rw [qx x (by omega), w4 x (by omega) (by omega), z4 x (by omega) (by omega)]
      · rw [q83 y (by omega), w5 y (by omega) (by omega) (by omega) (by omega) (by omega) (by omega), z4 83 (by omega) (by omega)]
      · rw [gu_at]; decide
      · rw [gu_at, qx 25 (by decide), w4 25 (by decide) (by omega), z2]
      · rw [q83 16 (by decide), w2.2.1, qx 25 (by decide), w4 25 (by decide) (by omega), z3]
      · rw [gu_at] at hi; omega
