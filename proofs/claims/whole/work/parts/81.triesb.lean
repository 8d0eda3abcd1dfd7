/- PURE: lost, decree, costs -/
theorem gb_andn : ∀ m : Nat, m < 64 → ∀ m' : Nat, m' < 64 → gset6 (gand (m : Int) (gxor (m' : Int) (-1))) ∧ ∀ j : Nat, j < 6 → gbit (gand (m : Int) (gxor (m' : Int) (-1))) j = (gbit (m : Int) j && !gbit (m' : Int) j) := by
  unfold gset6
  decide +kernel
theorem gb_full : ∀ C : Nat, C < 7 → gset6 (gsub (gshl 1 (C : Int)) 1) ∧ ∀ j : Nat, j < 6 → gbit (gsub (gshl 1 (C : Int)) 1) j = decide (j < C) := by
  unfold gset6
  decide +kernel
theorem sI_or {C m m' : Int} {P P' : Nat → Bool} (h : sI C m P) (h' : sI C m' P') : sI C (gor m m') (fun i => P i || P' i) := by
  obtain ⟨q, rfl, hq⟩ := sI_nat h
  obtain ⟨q', rfl, hq'⟩ := sI_nat h'
  obtain ⟨g1, g2⟩ := gb_orm q hq q' hq'
  refine ⟨g1, fun i hi => ?_⟩
  rw [g2 i hi, h.2 i hi, h'.2 i hi]
  generalize decide ((i : Int) < C) = b
  cases b <;> rfl
theorem sI_andn {C m m' : Int} {P P' : Nat → Bool} (h : sI C m P) (h' : sI C m' P') : sI C (gand m (gxor m' (-1))) (fun i => P i && !P' i) := by
  obtain ⟨q, rfl, hq⟩ := sI_nat h
  obtain ⟨q', rfl, hq'⟩ := sI_nat h'
  obtain ⟨g1, g2⟩ := gb_andn q hq q' hq'
  refine ⟨g1, fun i hi => ?_⟩
  rw [g2 i hi, h.2 i hi, h'.2 i hi]
  generalize decide ((i : Int) < C) = b
  cases b <;> rfl
theorem sI_full {C : Int} (h0 : 0 ≤ C) (h6 : C ≤ 6) : sI C (gsub (gshl 1 C) 1) (fun _ => true) := by
  obtain ⟨n, rfl⟩ : ∃ n : Nat, C = (n : Int) := ⟨C.toNat, by omega⟩
  obtain ⟨g1, g2⟩ := gb_full n (by omega)
  refine ⟨g1, fun i hi => ?_⟩
  rw [g2 i hi, Bool.and_true]
  exact decide_eq_decide.mpr (by omega)
theorem lost_eq {D : gH} (hc : cW D) {X : Nat → Int} {w : Int} (hn : nW D w X) : gor (gor (aThat D X 0) (aThat D X 1)) (aThat D X 2) = gand (gand (gsub (gshl 1 (D 83 6)) 1) (gxor (aThat D X 3) (-1))) (gxor (aThat D X 4) (-1)) := by
  have b := hc.2.2.1
  have hs : ∀ v : Int, sI (D 83 6) (aThat D X v) (fun k => decide (X (26 + k) = v)) := fun v => sI_msk b.1 b.2 _
  refine sI_eq (sI_or (sI_or (hs 0) (hs 1)) (hs 2)) (sI_same (sI_andn (sI_andn (sI_full b.1 b.2) (hs 3)) (hs 4)) (fun i hi => ?_))
  have h4 := (hn.2.2.2 i hi).2.1
  show (decide (X (26 + i) = 0) || decide (X (26 + i) = 1) || decide (X (26 + i) = 2)) = (true && !decide (X (26 + i) = 3) && !decide (X (26 + i) = 4))
  have h5 : X (26 + i) = 0 ∨ X (26 + i) = 1 ∨ X (26 + i) = 2 ∨ X (26 + i) = 3 ∨ X (26 + i) = 4 := by omega
  rcases h5 with e | e | e | e | e <;> simp [e]
/- the reference's steps on a copy -/
theorem m_goT {h H : gH} {c : Nat} (g : GK h c) (hS : tS h H) {M : Nat → Int} (hn : nW (ct h) 0 M) (ht : tW (ct h) M) {n : Nat} (hn1 : n ≤ 300) (h0 : M 0 + (n : Int) ≤ 100000) : f_Mo_go (n : Int) (gnow (bk H) M) = some (gnow (bk H) (aIt (ct h) (-1) n M), 0) := by
  have hct := tS_ct hS
  have x83 := hS 83 (by omega)
  have g8 := g.2.2.2.2.1
  have := m_goB (H := H) (M := M) (by rw [hct]; exact g.1) (by rw [hct]; exact g.2.1) (by rw [hct]; exact hn) (by rw [hct]; exact ht) (n := n) (by omega) h0
  rw [hct, x83, g8] at this
  exact this
theorem m_minT {h H : gH} {c : Nat} (g : GK h c) (hS : tS h H) {M : Nat → Int} {w : Int} (hn : nW (ct h) w M) (but : Int) : f_Mo_minutes but (gnow (bk H) M) = some (gnow (bk H) M, aSum (ct h) M but) := by
  have hct := tS_ct hS
  rw [m_minB (w := w) (by rw [hct]; exact g.1) (by rw [hct]; exact hn), hct]
theorem m_backT {h H : gH} (hS : tS h H) {M : Nat → Int} (hM : ∀ y, 50 ≤ y → M y = h 92 y) : f_Mo_putBack (gnow (bk H) M) = some (bk H, 0) := m_backB (by rw [hS 92 (by omega)]; exact hM)
theorem bk_selfT {h H : gH} (hS : tS h H) : bk H = gnow (bk H) (h 92) := by rw [← hS 92 (by omega)]; exact (bk_self H).symm
theorem bk_ct {h H : gH} (hS : tS h H) : ct (bk H) = ct h := by rw [ct_bk, tS_ct hS]
theorem op_lost {h : gH} (g : GI h) : gok f_DS_lost f_Mo_lost h := by
  obtain ⟨c, g⟩ := g
  have gg := g
  obtain ⟨g1, g2, ⟨g3, g4, g5, g6, gF⟩, g7, g8, -⟩ := g
  obtain ⟨w1, w2, w3, w4⟩ := g7.2.2.1
  obtain ⟨hA, z1, z2, z3⟩ := k_copy37 gg (tS_id h)
  obtain ⟨H, y1, y2, y3, y4, y5⟩ := k_pass37 gg z3 z2 w1 w2 (n := 300) (by omega) (by omega)
  have y1' : f_Traffic_pass 37 300 hA = some (H, 0) := y1
  have x0 := y3 0 (by omega)
  have x83 := y3 83 (by omega)
  have c6 : H c 3 = h 83 6 := y4.2.2.2.2.1
  have hk : f_DS_lost h = some (H, gand (gand (gsub (gshl 1 (h 83 6)) 1) (gxor (aThat (ct h) (aIt (ct h) (-1) 300 (h 92)) 3) (-1))) (gxor (aThat (ct h) (aIt (ct h) (-1) 300 (h 92)) 4) (-1))) := by
    unfold f_DS_lost
    rw [z1, gb_s, y1', gb_s, x0, g4, Int.toNat_natCast, gdcl (gsh_c g3), (k_those g1 y4 y2 3).1, gb_s, (k_those g1 y4 y2 4).1, gb_s, c6]
  have hm : ∀ n : Nat, n ≤ 300 → f_Mo_lost_J19 (n : Int) (bk H) = some (bk H, gor (gor (aThat (ct h) (aIt (ct h) (-1) n (h 92)) 0) (aThat (ct h) (aIt (ct h) (-1) n (h 92)) 1)) (aThat (ct h) (aIt (ct h) (-1) n (h 92)) 2)) := by
    intro n hn
    have e0 := m_goT gg y3 w1 w2 hn (by omega)
    rw [← bk_selfT y3] at e0
    have hoff : ∀ y, 50 ≤ y → aIt (ct h) (-1) n (h 92) y = h 92 y := off_it g1 (-1) w1.1.1 w3 (fun _ _ => rfl) n
    have mc : ∀ v, f_Mo_cartsThat v (gnow (bk H) (aIt (ct h) (-1) n (h 92))) = some (gnow (bk H) (aIt (ct h) (-1) n (h 92)), aThat (ct h) (aIt (ct h) (-1) n (h 92)) v) := by
      intro v
      rw [m_cartsThat (by rw [ct_now, bk_ct y3]; exact g1), ct_now, bk_ct y3, gnow_92]
    unfold f_Mo_lost_J19
    rw [e0, gb_s, mc, gb_s, mc, gb_s, mc, gb_s, m_backT y3 hoff, gb_s]
  have hn300 := (pW_it g1 g2 (-1) w1 w2 300 (by omega)).1
  have b0 : bk H 83 0 = h 83 0 := by rw [bk_ne (by decide), x83]
  refine ⟨H, gand (gand (gsub (gshl 1 (h 83 6)) 1) (gxor (aThat (ct h) (aIt (ct h) (-1) 300 (h 92)) 3) (-1))) (gxor (aThat (ct h) (aIt (ct h) (-1) 300 (h 92)) 4) (-1)), bk H, hk, ?_, GI_try gg y3⟩
  unfold f_Mo_lost
  rw [m_saveB, gb_s, b0]
  by_cases c0 : h 83 0 = 0
  · have hC0 : h 83 6 = 0 := by
      have hb : 0 ≤ h 83 6 ∧ h 83 6 ≤ 6 := g1.2.2.1
      by_cases z : h 83 6 = 0
      · exact z
      · have hz : ((0 : Nat) : Int) < ct h 83 6 := by rw [ct_83_6]; omega
        have := (g1.2.2.2.2.2.2.1 0 hz).1
        rw [ct_83_0] at this
        omega
    have hz : ∀ (X : Nat → Int) (v : Int), aThat (ct h) X v = 0 := by
      intro X v
      unfold aThat aMsk
      rw [ct_83_6, hC0]
      rfl
    have e := hm 0 (by omega)
    rw [if_pos c0]
    refine (show f_Mo_lost_J19 0 (bk H) = f_Mo_lost_J19 ((0 : Nat) : Int) (bk H) from rfl).trans (e.trans ?_)
    rw [hz, hz, hz, hz, hz, hC0]
    exact congrArg some (congrArg (Prod.mk (bk H)) (by decide))
  · have e := hm 300 (by omega)
    rw [if_neg c0]
    refine (show f_Mo_lost_J19 300 (bk H) = f_Mo_lost_J19 ((300 : Nat) : Int) (bk H) from rfl).trans (e.trans ?_)
    rw [lost_eq g1 hn300]
    rfl
/- a street turned -/
def dcV (D : gH) (N : Nat → Int) (n s : Nat) : Int := aSum D (aIt D (-1) n (aTn D N s)) (-1)
def dcF (D : gH) (N : Nat → Int) (n : Nat) : Nat → Nat → Int × Int → Int × Int
  | 0, _, p => p
  | m + 1, s, p => dcF D N n m (s + 1) (if aOn D N s = 0 then (if p.1 ≤ dcV D N n s then p else (dcV D N n s, (s : Int))) else p)
theorem aTn_ok {D : gH} (hc : cW D) {N : Nat → Int} (hn : nW D 0 N) (ht : tW D N) (hv : vW D N) {s : Nat} (hs : (s : Int) < D 83 2) : nW D 0 (aTn D N s) ∧ tW D (aTn D N s) ∧ vW D (aTn D N s) ∧ aTn D N s 0 = N 0 ∧ ∀ y, 50 ≤ y → aTn D N s y = N y := by
  have hS := hc.2.1
  refine ⟨nW_tn hc hn hs, tW_tn hc ht hs, ?_, ?_, ?_⟩
  · unfold aTn; exact vW_nu hc (by omega) hv
  · unfold aTn; rw [nu_ne (by omega)]
  · intro y hy; unfold aTn; rw [nu_ne (by omega)]
theorem k_dcL {h : gH} {c : Nat} (g : GK h c) {n : Nat} (hn : n ≤ 300) : ∀ (m s f : Nat) (hh : gH) (p : Int × Int), (s : Int) + (m : Int) = h 83 2 → m < f → tS h hh → ∃ h', f_DS_decree_L47 (n : Int) (fun v21 h22 => some (h22, v21)) f p.1 p.2 (s : Int) hh = some (h', (dcF (ct h) (h 92) n m s p).2) ∧ tS h h' := by
  obtain ⟨w1, w2, w3, w4⟩ := g.2.2.2.1.2.2.1
  have g3 := g.2.2.1.1
  have g4 := g.2.2.1.2.1
  have hS : 0 ≤ h 83 2 ∧ h 83 2 ≤ 9 := g.1.2.1
  intro m
  induction m with
  | zero =>
    intro s f hh p hs hf hS2
    obtain ⟨f, rfl⟩ : ∃ f', f = f' + 1 := ⟨f - 1, by omega⟩
    have e2 : hh c 2 = h 83 2 := (tS_CR g hS2).2.2.2.1
    exact ⟨hh, by rw [f_DS_decree_L47, hS2 0 (by omega), g4, Int.toNat_natCast, gdcl (gsh_c g3), e2, if_pos (by omega)]; rfl, hS2⟩
  | succ m ih =>
    intro s f hh p hs hf hS2
    obtain ⟨f, rfl⟩ : ∃ f', f = f' + 1 := ⟨f - 1, by omega⟩
    have e2 : hh c 2 = h 83 2 := (tS_CR g hS2).2.2.2.1
    have hsD : (s : Int) < ct h 83 2 := by rw [ct_83_2]; omega
    have eo : hh 30 s = aOn (ct h) (h 92) s := by rw [hS2 30 (by omega)]; exact TR_on g.1 g.2.2.2.1.1 hsD
    rw [f_DS_decree_L47, hS2 0 (by omega), g4, Int.toNat_natCast, gdcl (gsh_c g3), e2, if_neg (by omega), gdix (by omega) (by omega), Int.toNat_natCast, eo, dcF]
    by_cases c0 : aOn (ct h) (h 92) s = 0
    · obtain ⟨h1, z1, z2, z3⟩ := k_copy37 g hS2
      have e39 : h1 39 s = h 92 (11 + s) := (z2.2.2.1 s hsD).2.1
      have hg := (w1.2.2.1 s hsD).2
      have hT : TR (ct h) (gup h1 39 s (1 - h 92 (11 + s))) c 37 (aTn (ct h) (h 92) s) := by
        have := TR_goes (v := 1 - h 92 (11 + s)) g.1 z2 hsD
        unfold aTn
        rw [if_pos c0]
        exact this
      obtain ⟨p1, p2, p3, p4, p5⟩ := aTn_ok g.1 w1 w2 w3 hsD
      obtain ⟨h3, x1, x2, x3, x4, x5⟩ := k_pass37 g (tS_u (a := 39) (k := s) (v := 1 - h 92 (11 + s)) z3 (by omega)) hT p1 p2 hn (by rw [p4]; omega)
      rw [if_pos c0, z1, gb_s, gdix (by omega) (by omega), gdix (by omega) (by omega), gs_s, e39, gsub_eq (by omega) (by omega), x1, gb_s, k_together g.1 x5 x4 x2, gb_s]
      unfold f_DS_decree_J135
      rw [ga_s (by omega), if_pos c0]
      show ∃ h', (if p.1 ≤ dcV (ct h) (h 92) n s then _ else _) = _ ∧ _
      by_cases cc : p.1 ≤ dcV (ct h) (h 92) n s
      · rw [if_pos cc]
        simp only [if_pos cc]
        exact ih (s + 1) f h3 p (by omega) (by omega) x3
      · rw [if_neg cc]
        simp only [if_neg cc]
        exact ih (s + 1) f h3 (dcV (ct h) (h 92) n s, (s : Int)) (by omega) (by omega) x3
    · rw [if_neg c0]
      unfold f_DS_decree_J135
      rw [ga_s (by omega), if_neg c0]
      exact ih (s + 1) f hh p (by omega) (by omega) hS2
theorem m_dcL {h H : gH} {c : Nat} (g : GK h c) (hS2 : tS h H) {n : Nat} (hn : n ≤ 300) : ∀ (m s f : Nat) (p : Int × Int), (s : Int) + (m : Int) = h 83 2 → m < f → f_Mo_decree_L39 (n : Int) (fun v26 h27 => some (h27, v26)) f p.1 p.2 (s : Int) (bk H) = some (bk H, (dcF (ct h) (h 92) n m s p).2) := by
  obtain ⟨w1, w2, w3, w4⟩ := g.2.2.2.1.2.2.1
  have hS : 0 ≤ h 83 2 ∧ h 83 2 ≤ 9 := g.1.2.1
  have b2 : bk H 83 2 = h 83 2 := by rw [bk_ne (by decide), hS2 83 (by omega)]
  have b92 : bk H 92 = h 92 := by rw [bk_ne (by decide), hS2 92 (by omega)]
  have bc := bk_ct hS2
  intro m
  induction m with
  | zero =>
    intro s f p hs hf
    obtain ⟨f, rfl⟩ : ∃ f', f = f' + 1 := ⟨f - 1, by omega⟩
    rw [f_Mo_decree_L39, b2, if_pos (by omega)]; rfl
  | succ m ih =>
    intro s f p hs hf
    obtain ⟨f, rfl⟩ : ∃ f', f = f' + 1 := ⟨f - 1, by omega⟩
    have hsD : (s : Int) < ct h 83 2 := by rw [ct_83_2]; omega
    have mo : f_Mo_onStreet (s : Int) (bk H) = some (bk H, aOn (ct h) (h 92) s) := by rw [m_onStreet (by rw [bc]; exact g.1), bc, b92]
    rw [f_Mo_decree_L39, b2, if_neg (by omega), mo, gb_s, dcF]
    by_cases c0 : aOn (ct h) (h 92) s = 0
    · have mt : f_Mo_turnNow (s : Int) (bk H) = some (gnow (bk H) (aTn (ct h) (h 92) s), 0) := by rw [m_turnNow (w := 0) (by rw [bc]; exact g.1) (by rw [bc, b92]; exact w1) (by rw [b2]; omega), bc, b92]
      obtain ⟨p1, p2, p3, p4, p5⟩ := aTn_ok g.1 w1 w2 w3 hsD
      have e0 := m_goT g hS2 p1 p2 hn (by rw [p4]; omega)
      have hnn := (pW_it g.1 g.2.1 (-1) p1 p2 n (by rw [p4]; omega)).1
      have hoff : ∀ y, 50 ≤ y → aIt (ct h) (-1) n (aTn (ct h) (h 92) s) y = h 92 y := off_it g.1 (-1) p1.1.1 p3 p5 n
      rw [if_pos c0, mt, gb_s, e0, gb_s, m_minT g hS2 hnn, gb_s, m_backT hS2 hoff, gb_s, if_pos c0]
      unfold f_Mo_decree_J91 f_Mo_decree_J104 f_Mo_decree_J105
      have hV : aSum (ct h) (aIt (ct h) (-1) n (aTn (ct h) (h 92) s)) (-1) = dcV (ct h) (h 92) n s := rfl
      rw [hV, ga_s (by omega)]
      by_cases cc : p.1 ≤ dcV (ct h) (h 92) n s
      · rw [if_pos cc, if_pos cc]
        simp only [if_pos cc]
        exact ih (s + 1) f p (by omega) (by omega)
      · rw [if_neg cc, if_neg cc]
        simp only [if_neg cc]
        exact ih (s + 1) f (dcV (ct h) (h 92) n s, (s : Int)) (by omega) (by omega)
    · rw [if_neg c0]
      unfold f_Mo_decree_J105
      rw [ga_s (by omega), if_neg c0]
      exact ih (s + 1) f p (by omega) (by omega)
theorem op_decree {h : gH} (g : GI h) (a : Int) : gok (f_DS_decree a) (f_Mo_decree a) h := by
  obtain ⟨c, g⟩ := g
  have hgi : GI h := ⟨c, g⟩
  have hS : 0 ≤ h 83 2 ∧ h 83 2 ≤ 9 := g.1.2.1
  by_cases ca : 1 ≤ a ∧ a ≤ 300
  · obtain ⟨n, rfl⟩ : ∃ n : Nat, a = (n : Int) := ⟨a.toNat, by omega⟩
    obtain ⟨w1, w2, w3, w4⟩ := g.2.2.2.1.2.2.1
    obtain ⟨hA, z1, z2, z3⟩ := k_copy37 g (tS_id h)
    obtain ⟨hB, y1, y2, y3, y4, y5⟩ := k_pass37 g z3 z2 w1 w2 (n := n) (by omega) (by omega)
    obtain ⟨H, x1, x2⟩ := k_dcL g (n := n) (by omega) (h 83 2).toNat 0 50000 hB (aSum (ct h) (aIt (ct h) (-1) n (h 92)) (-1), -1) (by omega) (by omega) y3
    have e2 := m_dcL g x2 (n := n) (by omega) (h 83 2).toNat 0 50000 (aSum (ct h) (aIt (ct h) (-1) n (h 92)) (-1), -1) (by omega) (by omega)
    have e0 := m_goT g x2 w1 w2 (n := n) (by omega) (by omega)
    rw [← bk_selfT x2] at e0
    have hoff : ∀ y, 50 ≤ y → aIt (ct h) (-1) n (h 92) y = h 92 y := off_it g.1 (-1) w1.1.1 w3 (fun _ _ => rfl) n
    refine ⟨H, (dcF (ct h) (h 92) n (h 83 2).toNat 0 (aSum (ct h) (aIt (ct h) (-1) n (h 92)) (-1), -1)).2, bk H, ?_, ?_, GI_try g x2⟩
    · unfold f_DS_decree
      rw [k_out, gb_s, if_pos ca, if_pos rfl, z1, gb_s, y1, gb_s, k_together g.1 y5 y4 y2, gb_s]
      exact x1
    · unfold f_Mo_decree
      rw [m_in, gb_s, if_pos ca, if_neg (by decide), m_saveB, gb_s, e0, gb_s, m_minT g x2 y5, gb_s, m_backT x2 hoff, gb_s]
      exact e2
  · exact gok_id (r := -1000000002) hgi (by unfold f_DS_decree; rw [k_out, gb_s, if_neg ca, if_neg (by decide)]) (by unfold f_Mo_decree; rw [m_in, gb_s, if_neg ca, if_pos rfl])
