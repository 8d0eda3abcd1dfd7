/- PURE: streets turned, laws and ranks given; ruts, record, seed -/
theorem vW_nu {c : gH} (hc : cW c) {N : Nat → Int} {y : Nat} {v : Int} (hy : y < 26) (h : vW c N) : vW c (nu N y v) := by
  have hC := hc.2.2.1.2
  exact vW_of h (fun j hj => Or.inl ⟨nu_ne (by omega), nu_ne (by omega)⟩)
theorem op_turn {h : gH} (g : GI h) (a : Int) : gok (f_DS_turn a) (f_Mo_turn a) h := by
  obtain ⟨c, g⟩ := g
  have hgi : GI h := ⟨c, g⟩
  have gg := g
  have ks := k_noStreet g
  obtain ⟨g1, g2, ⟨g3, g4, g5, g6, gF⟩, g7, g8, -⟩ := g
  have bS : 0 ≤ h 83 2 ∧ h 83 2 ≤ 9 := g1.2.1
  by_cases ca : 0 ≤ a ∧ a < h 83 2
  · obtain ⟨s, rfl⟩ : ∃ s : Nat, a = (s : Int) := ⟨a.toNat, by omega⟩
    have t3 : h 30 s = aOn (ct h) (h 92) s := TR_on g1 g7.1 ca.2
    have t2 : h 29 s = h 92 (11 + s) := (g7.1.2.2.1 s ca.2).2.1
    have hgo := (g7.2.2.1.1.2.2.1 s ca.2).2
    by_cases c0 : aOn (ct h) (h 92) s = 0
    · generalize hv : 1 - h 92 (11 + s) = v
      have hv1 : gsub 1 (h 29 s) = v := by rw [t2, gsub_eq (by omega) (by omega), hv]
      generalize hH1 : gup (gup h 29 s v) 72 5 0 = H1
      have e1 : f_DS_turn (s : Int) h = some (H1, v) := by
        unfold f_DS_turn f_Shuffle_forget
        rw [ks, gb_s, if_pos ca, if_pos rfl, Int.toNat_natCast, gdix (by omega) (by omega), t3, if_pos c0, gdix (by omega) (by omega), gdix (by omega) (by omega), hv1, gs_s, gs_s, gb_s, gdix (by omega) (by omega), hH1, ← hH1, gu_r (show 29 ≠ 72 by decide), gu_at]
      have xm : ∀ x, x ≠ 29 → x ≠ 72 → H1 x = h x := fun x hx h7 => by rw [← hH1, gu_r h7, gu_r hx]
      have x83 := xm 83 (by decide) (by decide)
      have x92 := xm 92 (by decide) (by decide)
      have hct : ct H1 = ct h := ct_eq (fun x _ _ => xm x (by omega) (by omega)) (by rw [x83]) (by rw [x83]) (by rw [x83]) (by rw [x83])
      have hN : aTn (ct h) (h 92) s = nu (h 92) (11 + s) v := by unfold aTn; rw [if_pos c0, hv]
      have e2 : f_Mo_turn (s : Int) H1 = some (gnow H1 (nu (h 92) (11 + s) v), v) := by
        unfold f_Mo_turn
        rw [m_isStreet (by rw [x83]; exact bS), gb_s, x83, if_pos ca, if_neg (by decide), m_onStreet (by rw [hct]; exact g1), gb_s, hct, x92, if_pos c0, m_turnNow (by rw [hct]; exact g1) (w := 0) (by rw [hct, x92]; exact g7.2.2.1.1) (by rw [x83]; exact ca.2), gb_s, ga_11 (by omega), gdix (by omega) (by omega), Int.toNat_natCast, gnow_92, hct, x92, hN, nu_at]
      have hw := g7.2.2.1
      refine ⟨H1, _, _, e1, e2, c, GK_go gg (h' := gup h 29 s v) (N' := nu (h 92) (11 + s) v) (sd := h 83 13) (fun x hx => gu_r (by omega)) (TR_goes g1 g7.1 ca.2) ?_ ⟨by rw [← hN]; exact nW_tn g1 hw.1 ca.2, by rw [← hN]; exact tW_tn g1 hw.2.1 ca.2, vW_nu g1 (by omega) hw.2.2.1, by rw [nu_ne (by omega)]; exact hw.2.2.2⟩ g7.2.2.2 (fun x h1 h2 => ?_) ?_ (fun x h1 h2 => ?_) (fun y hy => ?_) (gnow_92 _ _) ?_⟩
      · rw [gu_r (by decide)]; exact g7.2.1
      · rw [gnow_ne (by omega), ← hH1, gu_r h2]
      · rw [gnow_ne (by decide), ← hH1, gu_at]
      · rw [gnow_ne h2, xm x (by omega) (by omega)]
      · rw [gnow_ne (by decide), x83]
      · rw [gnow_ne (by decide), x83]
    · exact gok_id (r := -1000000003) hgi (by unfold f_DS_turn; rw [ks, gb_s, if_pos ca, if_pos rfl, Int.toNat_natCast, gdix (by omega) (by omega), t3, if_neg c0]) (by unfold f_Mo_turn; rw [m_isStreet bS, gb_s, if_pos ca, if_neg (by decide), m_onStreet g1, gb_s, if_neg c0])
  · exact gok_id (r := -1000000001) hgi (by unfold f_DS_turn; rw [ks, gb_s, if_neg ca, if_neg (by decide)]) (by unfold f_Mo_turn; rw [m_isStreet bS, gb_s, if_neg ca, if_pos rfl])
theorem op_law {h : gH} (g : GI h) (a b : Int) : gok (f_DS_law a b) (f_Mo_law a b) h := by
  obtain ⟨c, g⟩ := g
  have hgi : GI h := ⟨c, g⟩
  have gg := g
  have ks := k_noStreet g
  obtain ⟨g1, g2, ⟨g3, g4, g5, g6, gF⟩, g7, g8, -⟩ := g
  have bS : 0 ≤ h 83 2 ∧ h 83 2 ≤ 9 := g1.2.1
  by_cases ca : 0 ≤ a ∧ a < h 83 2
  · obtain ⟨s, rfl⟩ : ∃ s : Nat, a = (s : Int) := ⟨a.toNat, by omega⟩
    have t1 : h 28 s = h 92 (2 + s) := (g7.1.2.2.1 s ca.2).1
    by_cases cb : 0 ≤ b ∧ b ≤ 4
    · generalize hH1 : gup (gup h 28 s b) 72 5 0 = H1
      have e1 : f_DS_law (s : Int) b h = some (H1, h 92 (2 + s)) := by
        unfold f_DS_law f_Shuffle_forget
        rw [ks, gb_s, if_pos ca, if_pos rfl, k_out, gb_s, if_pos cb, if_pos rfl, Int.toNat_natCast, gdix (by omega) (by omega), gdix (by omega) (by omega), gs_s, gs_s, gb_s, hH1, t1]
      have xm : ∀ x, x ≠ 28 → x ≠ 72 → H1 x = h x := fun x hx h7 => by rw [← hH1, gu_r h7, gu_r hx]
      have x83 := xm 83 (by decide) (by decide)
      have x92 := xm 92 (by decide) (by decide)
      have e2 : f_Mo_law (s : Int) b H1 = some (gnow H1 (nu (h 92) (2 + s) b), h 92 (2 + s)) := by
        unfold f_Mo_law
        rw [m_isStreet (by rw [x83]; exact bS), gb_s, x83, if_pos ca, if_neg (by decide), m_in, gb_s, if_pos cb, if_neg (by decide), ga_2 (by omega), gdix (by omega) (by omega), gdix (by omega) (by omega), Int.toNat_natCast, gs_s, gup92, x92]
      have hw := g7.2.2.1
      obtain ⟨w1, w2⟩ := nW_lawset g1 hw.1 hw.2.1 (s := s) ca.2 cb
      refine ⟨H1, _, _, e1, e2, c, GK_go gg (h' := gup h 28 s b) (N' := nu (h 92) (2 + s) b) (sd := h 83 13) (fun x hx => gu_r (by omega)) (TR_law g1 g7.1 ca.2) ?_ ⟨w1, w2, vW_nu g1 (by omega) hw.2.2.1, by rw [nu_ne (by omega)]; exact hw.2.2.2⟩ g7.2.2.2 (fun x h1 h2 => ?_) ?_ (fun x h1 h2 => ?_) (fun y hy => ?_) (gnow_92 _ _) ?_⟩
      · rw [gu_r (by decide)]; exact g7.2.1
      · rw [gnow_ne (by omega), ← hH1, gu_r h2]
      · rw [gnow_ne (by decide), ← hH1, gu_at]
      · rw [gnow_ne h2, xm x (by omega) (by omega)]
      · rw [gnow_ne (by decide), x83]
      · rw [gnow_ne (by decide), x83]
    · exact gok_id (r := -1000000001) hgi (by unfold f_DS_law; rw [ks, gb_s, if_pos ca, if_pos rfl, k_out, gb_s, if_neg cb, if_neg (by decide)]) (by unfold f_Mo_law; rw [m_isStreet bS, gb_s, if_pos ca, if_neg (by decide), m_in, gb_s, if_neg cb, if_pos rfl])
  · exact gok_id (r := -1000000001) hgi (by unfold f_DS_law; rw [ks, gb_s, if_neg ca, if_neg (by decide)]) (by unfold f_Mo_law; rw [m_isStreet bS, gb_s, if_neg ca, if_pos rfl])
theorem op_rank {h : gH} (g : GI h) (a b : Int) : gok (f_DS_rank a b) (f_Mo_rank a b) h := by
  obtain ⟨c, g⟩ := g
  have hgi : GI h := ⟨c, g⟩
  have gg := g
  have ks := k_noCart g
  obtain ⟨g1, g2, ⟨g3, g4, g5, g6, gF⟩, g7, g8, -⟩ := g
  have bS : 0 ≤ h 83 6 ∧ h 83 6 ≤ 6 := g1.2.2.1
  by_cases ca : 0 ≤ a ∧ a < h 83 6
  · obtain ⟨s, rfl⟩ : ∃ s : Nat, a = (s : Int) := ⟨a.toNat, by omega⟩
    have t1 : h 32 s = h 92 (20 + s) := (g7.1.2.2.2 s ca.2).1
    by_cases cb : 1 ≤ b ∧ b ≤ 9
    · generalize hH1 : gup (gup h 32 s b) 72 5 0 = H1
      have e1 : f_DS_rank (s : Int) b h = some (H1, h 92 (20 + s)) := by
        unfold f_DS_rank f_Shuffle_forget
        rw [ks, gb_s, if_pos ca, if_pos rfl, k_out, gb_s, if_pos cb, if_pos rfl, Int.toNat_natCast, gdix (by omega) (by omega), gdix (by omega) (by omega), gs_s, gs_s, gb_s, hH1, t1]
      have xm : ∀ x, x ≠ 32 → x ≠ 72 → H1 x = h x := fun x hx h7 => by rw [← hH1, gu_r h7, gu_r hx]
      have x83 := xm 83 (by decide) (by decide)
      have x92 := xm 92 (by decide) (by decide)
      have e2 : f_Mo_rank (s : Int) b H1 = some (gnow H1 (nu (h 92) (20 + s) b), h 92 (20 + s)) := by
        unfold f_Mo_rank
        rw [m_isCart (by rw [x83]; exact bS), gb_s, x83, if_pos ca, if_neg (by decide), m_in, gb_s, if_pos cb, if_neg (by decide), ga_20 (by omega), gdix (by omega) (by omega), gdix (by omega) (by omega), Int.toNat_natCast, gs_s, gup92, x92]
      have hw := g7.2.2.1
      obtain ⟨w1, w2⟩ := nW_rankset g1 hw.1 hw.2.1 (k := s) ca.2 cb
      refine ⟨H1, _, _, e1, e2, c, GK_go gg (h' := gup h 32 s b) (N' := nu (h 92) (20 + s) b) (sd := h 83 13) (fun x hx => gu_r (by omega)) (TR_rank g1 g7.1 ca.2) ?_ ⟨w1, w2, vW_nu g1 (by omega) hw.2.2.1, by rw [nu_ne (by omega)]; exact hw.2.2.2⟩ g7.2.2.2 (fun x h1 h2 => ?_) ?_ (fun x h1 h2 => ?_) (fun y hy => ?_) (gnow_92 _ _) ?_⟩
      · rw [gu_r (by decide)]; exact g7.2.1
      · rw [gnow_ne (by omega), ← hH1, gu_r h2]
      · rw [gnow_ne (by decide), ← hH1, gu_at]
      · rw [gnow_ne h2, xm x (by omega) (by omega)]
      · rw [gnow_ne (by decide), x83]
      · rw [gnow_ne (by decide), x83]
    · exact gok_id (r := -1000000002) hgi (by unfold f_DS_rank; rw [ks, gb_s, if_pos ca, if_pos rfl, k_out, gb_s, if_neg cb, if_neg (by decide)]) (by unfold f_Mo_rank; rw [m_isCart bS, gb_s, if_pos ca, if_neg (by decide), m_in, gb_s, if_neg cb, if_pos rfl])
  · exact gok_id (r := -1000000001) hgi (by unfold f_DS_rank; rw [ks, gb_s, if_neg ca, if_neg (by decide)]) (by unfold f_Mo_rank; rw [m_isCart bS, gb_s, if_neg ca, if_pos rfl])
theorem gln_76 : gln 76 = 8 := by decide +kernel
theorem gln_77 : gln 77 = 8 := by decide +kernel
theorem gln_78 : gln 78 = 8 := by decide +kernel
theorem gln_80 : gln 80 = 15 := by decide +kernel
theorem gln_81 : gln 81 = 15 := by decide +kernel
theorem gln_82 : gln 82 = 15 := by decide +kernel
theorem op_rut {h : gH} (g : GI h) (a b d : Int) : gok (f_DS_rut a b d) (f_Mo_rut a b d) h := by
  obtain ⟨c, g⟩ := g
  have hgi : GI h := ⟨c, g⟩
  have gg := g
  have ks := k_noStreet g
  obtain ⟨g1, g2, ⟨g3, g4, g5, g6, gF⟩, g7, g8, g9, g10, g11, -⟩ := g
  have bS : 0 ≤ h 83 2 ∧ h 83 2 ≤ 9 := g1.2.1
  by_cases ca : 0 ≤ a ∧ a < h 83 2
  · by_cases cb : 0 ≤ b ∧ b ≤ 99
    · by_cases cd : 0 ≤ d ∧ d ≤ 1
      · obtain ⟨⟨b1, b2⟩, b3, b4⟩ := g10
        obtain ⟨n, hn⟩ : ∃ n : Nat, h 83 38 = (n : Int) := ⟨(h 83 38).toNat, by omega⟩
        by_cases cf : h 83 38 = 8
        · exact gok_id (r := -1000000004) hgi (by unfold f_DS_rut f_Notes_add; rw [ks, gb_s, if_pos ca, if_pos rfl, k_out, gb_s, if_pos cb, if_pos rfl, k_out, gb_s, if_pos cd, if_pos rfl, b3, gln_76, if_neg (by omega), gdz0, gb_s, if_pos rfl]) (by unfold f_Mo_rut; rw [m_isStreet bS, gb_s, if_pos ca, if_neg (by decide), m_in, gb_s, if_pos cb, if_neg (by decide), m_in, gb_s, if_pos cd, if_neg (by decide), if_pos cf])
        · have q75 : h 75 0 = (n : Int) := by rw [b3, hn]
          generalize hH1 : gup (gup (gup (gup h 76 n a) 77 n b) 78 n d) 75 0 ((n + 1 : Nat) : Int) = H1
          have e1 : f_DS_rut a b d h = some (H1, ((n + 1 : Nat) : Int)) := by
            unfold f_DS_rut f_Notes_add
            rw [ks, gb_s, if_pos ca, if_pos rfl, k_out, gb_s, if_pos cb, if_pos rfl, k_out, gb_s, if_pos cd, if_pos rfl, gln_76, gln_77, gln_78, q75, if_pos (by omega), gdix (by omega) (by omega), gs_s, gu_r (show 75 ≠ 76 by decide), q75, gdix (by omega) (by omega), gs_s, gu_r (show 75 ≠ 77 by decide), gu_r (show 75 ≠ 76 by decide), q75, gdix (by omega) (by omega), gs_s, gs_s, gu_r (show 75 ≠ 78 by decide), gu_r (show 75 ≠ 77 by decide), gu_r (show 75 ≠ 76 by decide), q75, ga_s (by omega), gdz1, gb_s, if_neg (by decide), Int.toNat_natCast, gu_at, hH1]
          generalize hH2 : gup (gup (gup (gup H1 109 n a) 110 n b) 111 n d) 83 38 ((n + 1 : Nat) : Int) = H2
          have y1 : ∀ x, x < 75 ∨ 78 < x → H1 x = h x := fun x hx => by rw [← hH1, gu_r (by omega), gu_r (by omega), gu_r (by omega), gu_r (by omega)]
          have q38 : H1 83 38 = (n : Int) := by rw [y1 83 (by omega), hn]
          have e2 : f_Mo_rut a b d H1 = some (H2, ((n + 1 : Nat) : Int)) := by
            unfold f_Mo_rut
            rw [m_isStreet (by rw [y1 83 (by omega)]; exact bS), gb_s, y1 83 (by omega), if_pos ca, if_neg (by decide), m_in, gb_s, if_pos cb, if_neg (by decide), m_in, gb_s, if_pos cd, if_neg (by decide), q38, if_neg (by omega), gdix (by omega) (by omega), gs_s, gu_r (show 83 ≠ 109 by decide), q38, gdix (by omega) (by omega), gs_s, gu_r (show 83 ≠ 110 by decide), gu_r (show 83 ≠ 109 by decide), q38, gdix (by omega) (by omega), gs_s, gs_s, gu_r (show 83 ≠ 111 by decide), gu_r (show 83 ≠ 110 by decide), gu_r (show 83 ≠ 109 by decide), q38, ga_s (by omega), Int.toNat_natCast, gu_at, hH2]
          refine ⟨H1, _, H2, e1, e2, c, ?_⟩
          have x83 : ∀ y, y ≠ 38 → H2 83 y = h 83 y := fun y hy => by rw [← hH2, gu_o hy, gu_r (by decide), gu_r (by decide), gu_r (by decide), y1 83 (by omega)]
          have x38 : H2 83 38 = ((n + 1 : Nat) : Int) := by rw [← hH2, gu_at]
          have x2 : ∀ x, x ≠ 83 → x < 109 ∨ 111 < x → H2 x = H1 x := fun x h1 h3 => by rw [← hH2, gu_r h1, gu_r (by omega), gu_r (by omega), gu_r (by omega)]
          have xx : ∀ x, x ≠ 83 → (x < 75 ∨ 78 < x) → (x < 109 ∨ 111 < x) → H2 x = h x := fun x h1 h3 h4 => by rw [x2 x h1 h4, y1 x h3]
          refine GK_book gg (fun x h1 h2 h3 => xx x (by omega) (by omega) (by omega)) (fun x h1 h2 h3 => xx x (by omega) (by omega) (by omega)) (fun y h1 h2 h3 => x83 y h2) (GT_c (x83 _ (by omega)) (x83 _ (by omega)) (xx _ (by omega) (by omega) (by omega)) (xx _ (by omega) (by omega) (by omega)) (xx _ (by omega) (by omega) (by omega)) g9) ⟨by rw [x38]; omega, ?_, fun i hi => ?_⟩ (GB_c (x83 _ (by omega)) (fun x _ _ => xx x (by omega) (by omega) (by omega)) (fun x _ _ => xx x (by omega) (by omega) (by omega)) g11)
          · rw [x38, x2 75 (by omega) (by omega), ← hH1, gu_at]
          · rw [x38] at hi
            rw [x2 76 (by omega) (by omega), x2 77 (by omega) (by omega), x2 78 (by omega) (by omega), ← hH2]
            by_cases e : i = n
            · subst e
              rw [← hH1]
              simp (disch := omega) only [gu_r, gu_at]
              exact ⟨trivial, trivial, trivial, cb⟩
            · have := b4 i (by omega)
              rw [← hH1]
              simp (disch := omega) only [gu_r, gu_o]
              exact this
      · exact gok_id (r := -1000000002) hgi (by unfold f_DS_rut; rw [ks, gb_s, if_pos ca, if_pos rfl, k_out, gb_s, if_pos cb, if_pos rfl, k_out, gb_s, if_neg cd, if_neg (by decide)]) (by unfold f_Mo_rut; rw [m_isStreet bS, gb_s, if_pos ca, if_neg (by decide), m_in, gb_s, if_pos cb, if_neg (by decide), m_in, gb_s, if_neg cd, if_pos rfl])
    · exact gok_id (r := -1000000002) hgi (by unfold f_DS_rut; rw [ks, gb_s, if_pos ca, if_pos rfl, k_out, gb_s, if_neg cb, if_neg (by decide)]) (by unfold f_Mo_rut; rw [m_isStreet bS, gb_s, if_pos ca, if_neg (by decide), m_in, gb_s, if_neg cb, if_pos rfl])
  · exact gok_id (r := -1000000001) hgi (by unfold f_DS_rut; rw [ks, gb_s, if_neg ca, if_neg (by decide)]) (by unfold f_Mo_rut; rw [m_isStreet bS, gb_s, if_neg ca, if_pos rfl])
theorem op_write {h : gH} (g : GI h) (a b : Int) : gok (f_DS_write a b) (f_Mo_write a b) h := by
  obtain ⟨c, g⟩ := g
  have hgi : GI h := ⟨c, g⟩
  have gg := g
  have ks := k_noCart g
  obtain ⟨g1, g2, ⟨g3, g4, g5, g6, gF⟩, g7, g8, g9, g10, g11, -⟩ := g
  have bS : 0 ≤ h 83 6 ∧ h 83 6 ≤ 6 := g1.2.2.1
  by_cases ca : 0 ≤ a ∧ a < h 83 6
  · by_cases cb : 0 ≤ b ∧ b ≤ 99999
    · obtain ⟨⟨b1, b2⟩, b3, b4⟩ := g11
      obtain ⟨n, hn⟩ : ∃ n : Nat, h 83 42 = (n : Int) := ⟨(h 83 42).toNat, by omega⟩
      by_cases cf : h 83 42 = 15
      · exact gok_id (r := -1000000004) hgi (by unfold f_DS_write f_Notes_add; rw [ks, gb_s, if_pos ca, if_pos rfl, k_out, gb_s, if_pos cb, if_pos rfl, b3, gln_80, if_neg (by omega), gdz0, gb_s, if_pos rfl]) (by unfold f_Mo_write; rw [m_isCart bS, gb_s, if_pos ca, if_neg (by decide), m_in, gb_s, if_pos cb, if_neg (by decide), if_pos cf])
      · have q79 : h 79 0 = (n : Int) := by rw [b3, hn]
        generalize hH1 : gup (gup (gup (gup h 80 n a) 81 n b) 82 n 0) 79 0 ((n + 1 : Nat) : Int) = H1
        have e1 : f_DS_write a b h = some (H1, ((n + 1 : Nat) : Int)) := by
          unfold f_DS_write f_Notes_add
          rw [ks, gb_s, if_pos ca, if_pos rfl, k_out, gb_s, if_pos cb, if_pos rfl, gln_80, gln_81, gln_82, q79, if_pos (by omega), gdix (by omega) (by omega), gs_s, gu_r (show 79 ≠ 80 by decide), q79, gdix (by omega) (by omega), gs_s, gu_r (show 79 ≠ 81 by decide), gu_r (show 79 ≠ 80 by decide), q79, gdix (by omega) (by omega), gs_s, gs_s, gu_r (show 79 ≠ 82 by decide), gu_r (show 79 ≠ 81 by decide), gu_r (show 79 ≠ 80 by decide), q79, ga_s (by omega), gdz1, gb_s, if_neg (by decide), Int.toNat_natCast, gu_at, hH1]
        generalize hH2 : gup (gup (gup H1 112 n a) 113 n b) 83 42 ((n + 1 : Nat) : Int) = H2
        have y1 : ∀ x, x < 79 ∨ 82 < x → H1 x = h x := fun x hx => by rw [← hH1, gu_r (by omega), gu_r (by omega), gu_r (by omega), gu_r (by omega)]
        have q38 : H1 83 42 = (n : Int) := by rw [y1 83 (by omega), hn]
        have e2 : f_Mo_write a b H1 = some (H2, ((n + 1 : Nat) : Int)) := by
          unfold f_Mo_write
          rw [m_isCart (by rw [y1 83 (by omega)]; exact bS), gb_s, y1 83 (by omega), if_pos ca, if_neg (by decide), m_in, gb_s, if_pos cb, if_neg (by decide), q38, if_neg (by omega), gdix (by omega) (by omega), gs_s, gu_r (show 83 ≠ 112 by decide), q38, gdix (by omega) (by omega), gs_s, gs_s, gu_r (show 83 ≠ 113 by decide), gu_r (show 83 ≠ 112 by decide), q38, ga_s (by omega), Int.toNat_natCast, gu_at, hH2]
        refine ⟨H1, _, H2, e1, e2, c, ?_⟩
        have x83 : ∀ y, y ≠ 42 → H2 83 y = h 83 y := fun y hy => by rw [← hH2, gu_o hy, gu_r (by decide), gu_r (by decide), y1 83 (by omega)]
        have x38 : H2 83 42 = ((n + 1 : Nat) : Int) := by rw [← hH2, gu_at]
        have x2 : ∀ x, x ≠ 83 → x < 112 ∨ 113 < x → H2 x = H1 x := fun x h1 h3 => by rw [← hH2, gu_r h1, gu_r (by omega), gu_r (by omega)]
        have xx : ∀ x, x ≠ 83 → (x < 79 ∨ 82 < x) → (x < 112 ∨ 113 < x) → H2 x = h x := fun x h1 h3 h4 => by rw [x2 x h1 h4, y1 x h3]
        refine GK_book gg (fun x h1 h2 h3 => xx x (by omega) (by omega) (by omega)) (fun x h1 h2 h3 => xx x (by omega) (by omega) (by omega)) (fun y h1 h2 h3 => x83 y h3) (GT_c (x83 _ (by omega)) (x83 _ (by omega)) (xx _ (by omega) (by omega) (by omega)) (xx _ (by omega) (by omega) (by omega)) (xx _ (by omega) (by omega) (by omega)) g9) (GU_c (x83 _ (by omega)) (fun x _ _ => xx x (by omega) (by omega) (by omega)) (fun x _ _ => xx x (by omega) (by omega) (by omega)) g10) ⟨by rw [x38]; omega, ?_, fun i hi => ?_⟩
        · rw [x38, x2 79 (by omega) (by omega), ← hH1, gu_at]
        · rw [x38] at hi
          rw [x2 80 (by omega) (by omega), x2 81 (by omega) (by omega), ← hH2]
          by_cases e : i = n
          · subst e
            rw [← hH1]
            simp (disch := omega) only [gu_r, gu_at]
            exact ⟨trivial, trivial, ca⟩
          · have := b4 i (by omega)
            rw [← hH1]
            simp (disch := omega) only [gu_r, gu_o]
            exact this
    · exact gok_id (r := -1000000002) hgi (by unfold f_DS_write; rw [ks, gb_s, if_pos ca, if_pos rfl, k_out, gb_s, if_neg cb, if_neg (by decide)]) (by unfold f_Mo_write; rw [m_isCart bS, gb_s, if_pos ca, if_neg (by decide), m_in, gb_s, if_neg cb, if_pos rfl])
  · exact gok_id (r := -1000000001) hgi (by unfold f_DS_write; rw [ks, gb_s, if_neg ca, if_neg (by decide)]) (by unfold f_Mo_write; rw [m_isCart bS, gb_s, if_neg ca, if_pos rfl])
theorem op_tear {h : gH} (g : GI h) : gok f_DS_tear f_Mo_tear h := by
  obtain ⟨c, g⟩ := g
  have gg := g
  obtain ⟨g1, g2, ⟨g3, g4, g5, g6, gF⟩, g7, g8, g9, g10, g11, -⟩ := g
  generalize hH2 : gup (gup (gup (gup h 75 0 0) 79 0 0) 83 38 0) 83 42 0 = H2
  refine ⟨gup (gup h 75 0 0) 79 0 0, gadd (h 83 38) (h 83 42), H2, ?_, ?_, c, ?_⟩
  · unfold f_DS_tear
    rw [gs_s, gs_s, g10.2.1, g11.2.1]
  · unfold f_Mo_tear
    rw [gs_s, gs_s, gu_r (show 83 ≠ 79 by decide), gu_r (show 83 ≠ 75 by decide), hH2]
  · have x38 : H2 83 38 = 0 := by rw [← hH2, gu_o (by decide), gu_at]
    have x42 : H2 83 42 = 0 := by rw [← hH2, gu_at]
    have x83 : ∀ y, y ≠ 38 → y ≠ 42 → H2 83 y = h 83 y := fun y h1 h2 => by rw [← hH2, gu_o h2, gu_o h1, gu_r (by decide), gu_r (by decide)]
    have xx : ∀ x, x ≠ 75 → x ≠ 79 → x ≠ 83 → H2 x = h x := fun x h1 h2 h3 => by rw [← hH2, gu_r h3, gu_r h3, gu_r h2, gu_r h1]
    refine GK_book gg (fun x h1 h2 h3 => xx x (by omega) (by omega) (by omega)) (fun x h1 h2 h3 => xx x (by omega) (by omega) (by omega)) (fun y h1 h2 h3 => x83 y h2 h3) (GT_c (x83 _ (by omega) (by omega)) (x83 _ (by omega) (by omega)) (xx _ (by omega) (by omega) (by omega)) (xx _ (by omega) (by omega) (by omega)) (xx _ (by omega) (by omega) (by omega)) g9) ⟨by rw [x38]; omega, ?_, fun i hi => by rw [x38] at hi; omega⟩ ⟨by rw [x42]; omega, ?_, fun i hi => by rw [x42] at hi; omega⟩
    · rw [x38, ← hH2, gu_r (by decide), gu_r (by decide), gu_r (by decide), gu_at]
    · rw [x42, ← hH2, gu_r (by decide), gu_r (by decide), gu_at]
theorem op_seed {h : gH} (g : GI h) (a : Int) (ha : a ≤ 2147483647) : gok (f_DS_seed a) (f_Mo_seed a) h := by
  obtain ⟨c, g⟩ := g
  have hgi : GI h := ⟨c, g⟩
  have gg := g
  obtain ⟨g1, g2, ⟨g3, g4, g5, g6, gF⟩, g7, g8, g9, g10, g11, g12, g13⟩ := g
  by_cases ca : 0 ≤ a
  · generalize hH2 : gup (gup h 27 2 a) 83 13 a = H2
    refine ⟨gup h 27 2 a, h 83 13, H2, ?_, ?_, c, ?_⟩
    · unfold f_DS_seed
      rw [if_pos ca, gs_s, g7.2.1]
    · unfold f_Mo_seed
      rw [if_pos ca, gs_s, gu_r (show 83 ≠ 27 by decide), hH2]
    · have x83 : ∀ y, y ≠ 13 → H2 83 y = h 83 y := fun y h1 => by rw [← hH2, gu_o h1, gu_r (by decide)]
      have xx : ∀ x, x ≠ 27 → x ≠ 83 → H2 x = h x := fun x h1 h3 => by rw [← hH2, gu_r h3, gu_r h1]
      have hct : ct H2 = ct h := ct_eq (fun x _ _ => xx x (by omega) (by omega)) (x83 _ (by omega)) (x83 _ (by omega)) (x83 _ (by omega)) (x83 _ (by omega))
      unfold GK GC
      rw [hct, x83 32 (by omega), xx 92 (by omega) (by omega), xx 0 (by omega) (by omega), show H2 83 13 = a by rw [← hH2, gu_at]]
      exact ⟨g1, g2, ⟨g3, g4, g5, CR_c (fun x _ _ => xx x (by omega) (by omega)) g6, gF⟩, ⟨by rw [← hH2]; exact TR_c (h := gup h 27 2 a) (fun x _ _ => gu_r (by omega)) (TR_seed g7.1), by rw [← hH2, gu_r (by decide), gu_at], g7.2.2.1, ca, ha⟩, g8, GT_c (x83 _ (by omega)) (x83 _ (by omega)) (xx 25 (by omega) (by omega)) (xx 26 (by omega) (by omega)) (xx 93 (by omega) (by omega)) g9, GU_c (x83 _ (by omega)) (fun x _ _ => xx x (by omega) (by omega)) (fun x _ _ => xx x (by omega) (by omega)) g10, GB_c (x83 _ (by omega)) (fun x _ _ => xx x (by omega) (by omega)) (fun x _ _ => xx x (by omega) (by omega)) g11, GP_c (fun x _ _ => xx x (by omega) (by omega)) (xx 114 (by omega) (by omega)) (xx 115 (by omega) (by omega)) g12, GS_c (xx 72 (by omega) (by omega)) (xx 73 (by omega) (by omega)) (xx 92 (by omega) (by omega)) g13⟩
  · exact gok_id (r := -1000000002) hgi (by unfold f_DS_seed; rw [if_neg ca]) (by unfold f_Mo_seed; rw [if_neg ca])
