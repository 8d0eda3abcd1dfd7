/- PURE: calls that do -/
theorem op_feed {h : gH} (g : GI h) (a : Int) : gok (f_DS_feed a) (f_Mo_feed a) h := by
  obtain ⟨c, g⟩ := g
  have hgi : GI h := ⟨c, g⟩
  obtain ⟨⟨b1, b2⟩, b3, b4, b5⟩ : GT h := g.2.2.2.2.2.1
  by_cases ca : 0 ≤ a ∧ a ≤ 255
  · obtain ⟨n, hn⟩ : ∃ n : Nat, h 83 15 = (n : Int) := ⟨(h 83 15).toNat, by omega⟩
    by_cases cb : h 83 15 = 250
    · exact gok_id (r := -1000000004) hgi (by unfold f_DS_feed f_Reader_add; rw [k_out, gb_s, if_pos ca, if_pos rfl, b3, if_neg (by omega), gdz0, gb_s, if_pos rfl]) (by unfold f_Mo_feed; rw [m_in, gb_s, if_pos ca, if_neg (by decide), if_pos cb])
    · generalize hH1 : gup (gup h 26 n a) 25 0 ((n + 1 : Nat) : Int) = H1
      have e1 : f_DS_feed a h = some (H1, ((n + 1 : Nat) : Int)) := by
        unfold f_DS_feed f_Reader_add
        rw [k_out, gb_s, if_pos ca, if_pos rfl, b3, hn, if_pos (by omega), Int.toNat_natCast, gdix (by omega) (by omega), gs_s, gs_s, gu_r (show 25 ≠ 26 by decide), b3, hn, ga_s (by omega), gdz1, gb_s, if_neg (by decide), gu_at, hH1]
      generalize hH2 : gup (gup H1 93 n a) 83 15 ((n + 1 : Nat) : Int) = H2
      have q15 : H1 83 15 = (n : Int) := by rw [← hH1, gu_r (by decide), gu_r (by decide), hn]
      have e2 : f_Mo_feed a H1 = some (H2, ((n + 1 : Nat) : Int)) := by
        unfold f_Mo_feed
        rw [m_in, gb_s, if_pos ca, if_neg (by decide), q15, if_neg (by omega), Int.toNat_natCast, gdix (by omega) (by omega), gs_s, gs_s, gu_r (show 83 ≠ 93 by decide), q15, ga_s (by omega), gu_at, hH2]
      refine ⟨H1, _, H2, e1, e2, c, ?_⟩
      have x83 : ∀ y, y ≠ 15 → H2 83 y = h 83 y := fun y hy => by rw [← hH2, ← hH1, gu_o hy, gu_r (by decide), gu_r (by decide), gu_r (by decide)]
      have x15 : H2 83 15 = ((n + 1 : Nat) : Int) := by rw [← hH2, gu_at]
      have xx : ∀ x, x ≠ 25 → x ≠ 26 → x ≠ 83 → x ≠ 93 → H2 x = h x := fun x h1 h2 h3 h4 => by rw [← hH2, ← hH1, gu_r h3, gu_r h4, gu_r h1, gu_r h2]
      refine GK_book g (fun x h1 h2 h3 => xx x h2 h3 (by omega) (by omega)) (fun x h1 h2 h3 => xx x (by omega) (by omega) (by omega) h2) (fun y h1 h2 h3 => x83 y h1) ⟨?_, ?_, ?_, fun i hi => ?_⟩ (GU_c (x83 _ (by omega)) (fun x _ _ => xx x (by omega) (by omega) (by omega) (by omega)) (fun x _ _ => xx x (by omega) (by omega) (by omega) (by omega)) g.2.2.2.2.2.2.1) (GB_c (x83 _ (by omega)) (fun x _ _ => xx x (by omega) (by omega) (by omega) (by omega)) (fun x _ _ => xx x (by omega) (by omega) (by omega) (by omega)) g.2.2.2.2.2.2.2.1)
      · rw [x15]; omega
      · rw [x15, ← hH2, gu_r (by decide), gu_r (by decide), ← hH1, gu_at]
      · rw [x83 16 (by omega), ← hH2, gu_r (by decide), gu_r (by decide), ← hH1, gu_o (by decide), gu_r (by decide)]; exact b4
      · rw [x15] at hi
        rw [← hH2, gu_r (by decide), gu_r (by decide), gu_r (by decide), ← hH1, gu_r (show 26 ≠ 25 by decide)]
        by_cases e : i = n
        · subst e; rw [gu_at, gu_at]; exact ⟨rfl, ca.1⟩
        · rw [gu_o e, gu_o e, gu_r (by decide), gu_r (by decide)]
          exact b5 i (by omega)
  · exact gok_id (r := -1000000002) hgi (by unfold f_DS_feed; rw [k_out, gb_s, if_neg ca, if_neg (by decide)]) (by unfold f_Mo_feed; rw [m_in, gb_s, if_neg ca, if_pos rfl])
theorem GK_go {h h' h2 : gH} {c : Nat} {N' : Nat → Int} {sd : Int} (g : GK h c) (hH : kH 27 h h') (hT : TR (ct h) h' c 27 N') (hs : h' 27 2 = sd) (hw : gw (ct h) N') (hsd : 0 ≤ sd ∧ sd ≤ 2147483647) (e1 : ∀ x, x < 83 → x ≠ 72 → h2 x = h' x) (e2 : h2 72 5 = 0) (e3 : ∀ x, 84 ≤ x → x ≠ 92 → h2 x = h x) (e4 : ∀ y, y ≠ 13 → h2 83 y = h 83 y) (e5 : h2 92 = N') (e6 : h2 83 13 = sd) : GK h2 c := by
  refine GK_now g (fun x h1 h3 h4 => by rw [e1 x h1 h4, hH x (by omega)]) e2 e3 e4 ?_
  rw [e5, e6]
  exact ⟨TR_c (fun x h1 h3 => e1 x (by omega) (by omega)) hT, by rw [e1 27 (by decide) (by decide), hs], hw, hsd⟩
def rfM (h : gH) (a : Int) : Int := if 1 ≤ a ∧ a ≤ 300 then (if h 83 0 = 0 then -1000000003 else if h 92 0 ≤ 90000 then 0 else -1000000004) else -1000000002
theorem k_ref {h : gH} {c : Nat} (g : GK h c) (a : Int) : f_DS_refusalOfMinutes a h = some (h, rfM h a) := by
  obtain ⟨g1, g2, ⟨g3, g4, g5, g6, gF⟩, g7, -⟩ := g
  have cn : (h 0 0).toNat = c := by rw [g4, Int.toNat_natCast]
  have r0 : h c 0 = h 83 0 := g6.2.1
  have n1 : h 27 1 = h 92 0 := g7.1.2.1
  unfold f_DS_refusalOfMinutes rfM
  rw [k_out, gb_s]
  by_cases c1 : 1 ≤ a ∧ a ≤ 300
  · rw [if_pos c1, if_pos rfl, if_pos c1, cn, gdcl (gsh_c g3), r0, n1]
    by_cases c2 : h 83 0 = 0
    · rw [if_pos c2, if_pos c2]
    · rw [if_neg c2, if_neg c2]
      by_cases c3 : h 92 0 ≤ 90000
      · rw [if_pos c3, if_pos c3]
      · rw [if_neg c3, if_neg c3]
  · rw [if_neg c1, if_neg (by decide), if_neg c1]
theorem m_ref (h : gH) (a : Int) : f_Mo_minutesRefused a h = some (h, rfM h a) := by
  unfold f_Mo_minutesRefused rfM
  rw [m_in, gb_s]
  by_cases c1 : 1 ≤ a ∧ a ≤ 300
  · rw [if_pos c1, if_neg (by decide), if_pos c1, gdix (by decide) (by decide)]
    by_cases c2 : h 83 0 = 0
    · rw [if_pos c2, if_pos c2]
    · rw [if_neg c2, if_neg c2]
      by_cases c3 : h 92 0 ≤ 90000
      · rw [if_pos c3, if_pos c3]
      · rw [if_neg c3, if_neg c3]
  · rw [if_neg c1, if_pos rfl, if_neg c1]
theorem rfM_0 {h : gH} {a : Int} (e : rfM h a = 0) : (1 ≤ a ∧ a ≤ 300) ∧ h 92 0 ≤ 90000 := by
  unfold rfM at e
  by_cases c1 : 1 ≤ a ∧ a ≤ 300
  · rw [if_pos c1] at e
    by_cases c2 : h 83 0 = 0
    · rw [if_pos c2] at e; omega
    · rw [if_neg c2] at e
      by_cases c3 : h 92 0 ≤ 90000
      · exact ⟨c1, c3⟩
      · rw [if_neg c3] at e; omega
  · rw [if_neg c1] at e; omega
theorem gw_it {D : gH} (hc : cW D) (hd : dW D) {N : Nat → Int} (hw : gw D N) (n : Nat) (h0 : N 0 + (n : Int) ≤ 90300) : gw D (aIt D (-1) n N) := by
  obtain ⟨w1, w2, w3, w4⟩ := hw
  obtain ⟨p1, p2, p3⟩ := pW_it hc hd (-1) w1 w2 n (by omega)
  exact ⟨p1, p2, (vQ_it hc (-1) (N0 := N) ⟨w1.1.1, w3, fun _ _ => rfl⟩ n).2.1, by rw [p3]; exact h0⟩
theorem op_minute {h : gH} (g : GI h) (a : Int) : gok (f_DS_minute a) (f_Mo_minute a) h := by
  obtain ⟨c, g⟩ := g
  have hgi : GI h := ⟨c, g⟩
  have kr := k_ref g a
  by_cases e : rfM h a = 0
  · obtain ⟨ha, h0⟩ := rfM_0 e
    obtain ⟨n, rfl⟩ : ∃ n : Nat, a = (n : Int) := ⟨a.toNat, by omega⟩
    have gg := g
    obtain ⟨g1, g2, ⟨g3, g4, g5, g6, gF⟩, g7, g8, -⟩ := g
    have hw := g7.2.2.1
    obtain ⟨h', z1, z2, z3⟩ := k_pass g1 g2 (by decide) hw.1 hw.2.1 g6 g7.1 (n := n) (by omega) (by omega)
    have hr' : CR (ct h) h' c := CR_G (by decide) g6 z3
    generalize hH1 : gup h' 72 5 0 = H1
    have x1 : ∀ x, x ≠ 72 → H1 x = h' x := fun x hx => by rw [← hH1, gu_r hx]
    have xm : ∀ x, 37 ≤ x → x ≠ 72 → H1 x = h x := fun x hx h7 => by rw [x1 x h7]; exact z3.1 x (by omega)
    have hT1 : TR (ct h) H1 c 27 (aIt (ct h) (-1) n (h 92)) := TR_c (fun x _ _ => x1 x (by omega)) z2
    have hr1 : CR (ct h) H1 c := CR_c (fun x _ _ => x1 x (by omega)) hr'
    have e1 : f_DS_minute (n : Int) h = some (H1, gsub (aHome (ct h) (aIt (ct h) (-1) n (h 92))) (aHome (ct h) (h 92))) := by
      unfold f_DS_minute f_Shuffle_forget
      rw [kr, gb_s, if_pos e, k_countHome g1 g6 g7.1, gb_s, z1, gb_s, gs_s, gb_s, hH1, k_countHome g1 hr1 hT1, gb_s]
    have hct : ct H1 = ct h := ct_eq (fun x _ _ => xm x (by omega) (by omega)) (by rw [xm 83 (by omega) (by omega)]) (by rw [xm 83 (by omega) (by omega)]) (by rw [xm 83 (by omega) (by omega)]) (by rw [xm 83 (by omega) (by omega)])
    have x83 := xm 83 (by omega) (by omega)
    have x92 := xm 92 (by omega) (by omega)
    have hm1 : mW H1 := by unfold mW; rw [hct, x92]; exact ⟨g1, g2, hw.1, hw.2.1⟩
    have e2 : f_Mo_minute (n : Int) H1 = some (gnow H1 (aIt (ct h) (-1) n (h 92)), gsub (aHome (ct h) (aIt (ct h) (-1) n (h 92))) (aHome (ct h) (h 92))) := by
      unfold f_Mo_minute
      have er : rfM H1 (n : Int) = rfM h (n : Int) := by unfold rfM; rw [x83, x92]
      rw [m_ref, gb_s, er, if_pos e, m_home (by rw [hct]; exact g1), gb_s, m_it hm1 (L := f_Mo_minute_L20) _ (n := n) (by omega) (fun m j hh => by rw [f_Mo_minute_L20]) (by rw [x92]; omega), hct, x83, x92, g8, m_home (by rw [ct_now, hct]; exact g1), gb_s, ct_now, hct, gnow_92]
    refine ⟨H1, _, _, e1, e2, c, GK_go gg (h' := h') (N' := aIt (ct h) (-1) n (h 92)) (sd := h 83 13) (fun x hx => z3.1 x hx) z2 ?_ (gw_it g1 g2 hw n (by omega)) g7.2.2.2 (fun x h1 h2 => ?_) ?_ (fun x h1 h2 => ?_) (fun y hy => ?_) (gnow_92 _ _) ?_⟩
    · rw [z3.2 2 (by decide)]; exact g7.2.1
    · rw [gnow_ne (by omega), x1 x h2]
    · rw [gnow_ne (by decide), ← hH1, gu_at]
    · rw [gnow_ne h2, xm x (by omega) (by omega)]
    · rw [gnow_ne (by decide), x83]
    · rw [gnow_ne (by decide), x83]
  · refine gok_id (r := rfM h a) hgi ?_ ?_
    · unfold f_DS_minute; rw [kr, gb_s, if_neg e]
    · unfold f_Mo_minute; rw [m_ref, gb_s, if_neg e]
theorem op_drift {h : gH} (g : GI h) (a : Int) : gok (f_DS_drift a) (f_Mo_drift a) h := by
  obtain ⟨c, g⟩ := g
  have hgi : GI h := ⟨c, g⟩
  have kr := k_ref g a
  by_cases e : rfM h a = 0
  · obtain ⟨ha, h0⟩ := rfM_0 e
    obtain ⟨n, rfl⟩ : ∃ n : Nat, a = (n : Int) := ⟨a.toNat, by omega⟩
    have gg := g
    obtain ⟨g1, g2, ⟨g3, g4, g5, g6, gF⟩, g7, g8, -⟩ := g
    obtain ⟨s1, s2, hw, s3, s4⟩ := g7
    obtain ⟨h', z1, z2, z4, z3⟩ := k_drift g1 g2 (by decide) hw.1 hw.2.1 g6 s1 (by rw [s2]; exact ⟨s3, s4⟩) (n := n) (by omega) (by omega)
    rw [s2] at z2 z4
    have hr' : CR (ct h) h' c := CR_H (by decide) g6 z3
    generalize hq : aDr (ct h) n (h 83 13, h 92) = q at z2 z4
    have hq0 := pW_dr g1 g2 (q := (h 83 13, h 92)) hw.1 hw.2.1 ⟨s3, s4⟩ n (by show h 92 0 + (n : Int) ≤ 100000; omega)
    have hqv := vQ_dr g1 (N0 := h 92) (q := (h 83 13, h 92)) ⟨hw.1.1.1, hw.2.2.1, fun _ _ => rfl⟩ n
    rw [hq] at hq0 hqv
    obtain ⟨q1, q2, q3, q4, q5⟩ := hq0
    have q3 : q.2 0 = h 92 0 + (n : Int) := q3
    generalize hH1 : gup h' 72 5 0 = H1
    have x1 : ∀ x, x ≠ 72 → H1 x = h' x := fun x hx => by rw [← hH1, gu_r hx]
    have xm : ∀ x, 37 ≤ x → x ≠ 72 → H1 x = h x := fun x hx h7 => by rw [x1 x h7]; exact z3 x (by omega)
    have hT1 : TR (ct h) H1 c 27 q.2 := TR_c (fun x _ _ => x1 x (by omega)) z2
    have hr1 : CR (ct h) H1 c := CR_c (fun x _ _ => x1 x (by omega)) hr'
    have e1 : f_DS_drift (n : Int) h = some (H1, gsub (aHome (ct h) q.2) (aHome (ct h) (h 92))) := by
      unfold f_DS_drift f_Shuffle_forget
      rw [kr, gb_s, if_pos e, k_countHome g1 g6 s1, gb_s, z1, gb_s, gs_s, gb_s, hH1, k_countHome g1 hr1 hT1, gb_s]
    have hct : ct H1 = ct h := ct_eq (fun x _ _ => xm x (by omega) (by omega)) (by rw [xm 83 (by omega) (by omega)]) (by rw [xm 83 (by omega) (by omega)]) (by rw [xm 83 (by omega) (by omega)]) (by rw [xm 83 (by omega) (by omega)])
    have x83 := xm 83 (by omega) (by omega)
    have x92 := xm 92 (by omega) (by omega)
    have hm1 : mW H1 := by unfold mW; rw [hct, x92]; exact ⟨g1, g2, hw.1, hw.2.1⟩
    have e2 : f_Mo_drift (n : Int) H1 = some (gsd H1 q.1 q.2, gsub (aHome (ct h) q.2) (aHome (ct h) (h 92))) := by
      unfold f_Mo_drift
      have er : rfM H1 (n : Int) = rfM h (n : Int) := by unfold rfM; rw [x83, x92]
      rw [m_ref, gb_s, er, if_pos e, m_home (by rw [hct]; exact g1), gb_s, m_driftL hm1 (by rw [x83]; exact g8) (by rw [x83]; exact ⟨s3, s4⟩) _ _ (n := n) (by omega) (by rw [x92]; omega), hct, x83, x92, hq, m_home (by rw [gsd_ct, hct]; exact g1), gb_s, gsd_ct, hct, gsd_92]
    refine ⟨H1, _, _, e1, e2, c, GK_go gg (h' := h') (N' := q.2) (sd := q.1) (fun x hx => z3 x hx) z2 z4 ⟨q1, q2, hqv.2.1, by rw [q3]; omega⟩ ⟨q4, q5⟩ (fun x h1 h2 => ?_) ?_ (fun x h1 h2 => ?_) (fun y hy => ?_) (gsd_92 _ _ _) (gsd_13 _ _ _)⟩
    · rw [gsd_ne _ _ _ (by omega) (by omega), x1 x h2]
    · rw [gsd_ne _ _ _ (by decide) (by decide), ← hH1, gu_at]
    · rw [gsd_ne _ _ _ (by omega) h2, xm x (by omega) (by omega)]
    · rw [gsd_83 _ _ _ hy, x83]
  · refine gok_id (r := rfM h a) hgi ?_ ?_
    · unfold f_DS_drift; rw [kr, gb_s, if_neg e]
    · unfold f_Mo_drift; rw [m_ref, gb_s, if_neg e]
