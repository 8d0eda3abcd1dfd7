/- PURE: images kept and gone back to -/
theorem TR_50 {D h : gH} (hc : cW D) {c t : Nat} {N N' : Nat → Int} (he : ∀ y, y < 50 → N' y = N y) (hT : TR D h c t N) : TR D h c t N' := by
  have hC : D 83 6 ≤ 6 := hc.2.2.1.2
  have hS : D 83 2 ≤ 9 := hc.2.1.2
  obtain ⟨x0, x1, xS, xC⟩ := TR_iff.mp hT
  rw [TR_iff]
  refine ⟨x0, by rw [he 0 (by omega)]; exact x1, fun s hs => ?_, fun k hk => ?_⟩
  · obtain ⟨y1, y2, y3, y4, y5⟩ := xS s hs
    rw [he (2 + s) (by omega), he (11 + s) (by omega)]
    refine ⟨y1, y2, sI_same y3 (fun i hi => ?_), sI_same y4 (fun i hi => ?_), sI_same y5 (fun i hi => ?_)⟩
    · unfold aOnB; rw [he (26 + i) (by omega), he (32 + i) (by omega)]
    · unfold aW aNk; rw [he (26 + i) (by omega), he (32 + i) (by omega)]
    · unfold aW aNk; rw [he (26 + i) (by omega), he (32 + i) (by omega)]
  · rw [he (20 + k) (by omega), he (26 + k) (by omega), he (32 + k) (by omega), he (38 + k) (by omega), he (44 + k) (by omega)]
    exact xC k hk
theorem gw_50 {D : gH} (hc : cW D) {N N' : Nat → Int} (he : ∀ y, y < 50 → N' y = N y) (hw : gw D N) : gw D N' := by
  have hC : D 83 6 ≤ 6 := hc.2.2.1.2
  have hS : D 83 2 ≤ 9 := hc.2.1.2
  obtain ⟨w1, w2, w3, w4⟩ := hw
  refine ⟨?_, ?_, fun k hk h3 => ?_, by rw [he 0 (by omega)]; exact w4⟩
  · rw [nW_kW] at w1 ⊢
    obtain ⟨b1, b2, b3, b4⟩ := w1
    refine ⟨by rw [he 0 (by omega)]; exact b1, by rw [he 1 (by omega)]; exact b2, fun s hs => ?_, fun k hk => ?_⟩
    · rw [he (2 + s) (by omega), he (11 + s) (by omega)]; exact b3 s hs
    · refine kW_congr (fun hh => he _ ?_) (he 0 (by omega)) (he _ (by omega)) (he _ (by omega)) (he _ (by omega)) (he _ (by omega)) (he _ (by omega)) (b4 k hk)
      have := ((b4 k hk).2.2.2.2.2.2 hh).1
      omega
  · unfold tW at w2 ⊢
    rw [he 1 (by omega), aTol_congr (N := N) (fun k hk => he _ (by omega))]
    exact w2
  · rw [he (38 + k) (by omega)]
    exact w3 k hk (by rw [← he (26 + k) (by omega)]; exact h3)
theorem gi51 {i j : Nat} (hi : i < 2) (hj : j ≤ 50) : gadd (gmul 51 (i : Int)) (j : Int) = ((51 * i + j : Nat) : Int) := by
  rw [gmul_eq (by omega) (by omega), gadd_eq (by omega) (by omega)]; omega
theorem m_keepL {h : gH} {i : Nat} (hi : i < 2) (k : gH → Option gO) : ∃ h', f_Mo_keep_L15 (i : Int) k 50000 0 h = k h' ∧ (∀ x, x ≠ 114 → h' x = h x) ∧ (∀ y, y < 51 * i ∨ 51 * i + 50 ≤ y → h' 114 y = h 114 y) ∧ ∀ y, y < 50 → h' 114 (51 * i + y) = h 92 y := by
  have key := gloopI (S := Int × gH) (F := fun n x => f_Mo_keep_L15 (i : Int) k n x.1 x.2) (K := fun x => k x.2) 50 (fun j x => x.1 = (j : Int) ∧ (∀ z, z ≠ 114 → x.2 z = h z) ∧ (∀ y, y < 51 * i ∨ 51 * i + j ≤ y → x.2 114 y = h 114 y) ∧ ∀ y, y < j → x.2 114 (51 * i + y) = h 92 y) ?_ ?_ 50000 (0, h) ⟨rfl, fun _ _ => rfl, fun _ _ => rfl, fun y hy => by omega⟩ (by omega)
  · obtain ⟨⟨v, h'⟩, ⟨-, i2, i3, i4⟩, e⟩ := key
    exact ⟨h', e, i2, i3, i4⟩
  · intro n j x hj hx
    obtain ⟨xi, hh⟩ := x
    obtain ⟨x1, x2, x3, x4⟩ := hx
    have x1' : xi = (j : Int) := x1
    have x2' : ∀ z, z ≠ 114 → hh z = h z := x2
    have x3' : ∀ y, y < 51 * i ∨ 51 * i + j ≤ y → hh 114 y = h 114 y := x3
    have x4' : ∀ y, y < j → hh 114 (51 * i + y) = h 92 y := x4
    subst x1'
    show ∃ s', _ ∧ f_Mo_keep_L15 (i : Int) k (n + 1) (j : Int) hh = _
    rw [f_Mo_keep_L15, if_neg (by omega), gi51 hi (by omega), Int.toNat_natCast, Int.toNat_natCast, gdix (by omega) (by omega), gdix (by omega) (by omega), gs_s, ga_s (by omega), x2' 92 (by decide)]
    refine ⟨(((j + 1 : Nat) : Int), gup hh 114 (51 * i + j) (h 92 j)), ⟨rfl, fun z hz => ?_, fun y hy => ?_, fun y hy => ?_⟩, rfl⟩
    · show gup hh 114 (51 * i + j) (h 92 j) z = h z
      rw [gu_r hz, x2' z hz]
    · show gup hh 114 (51 * i + j) (h 92 j) 114 y = h 114 y
      rw [gu_o (by omega), x3' y (by omega)]
    · show gup hh 114 (51 * i + j) (h 92 j) 114 (51 * i + y) = h 92 y
      by_cases e : y = j
      · subst e; rw [gu_at]
      · rw [gu_o (by omega), x4' y (by omega)]
  · intro n x hx
    obtain ⟨xi, hh⟩ := x
    obtain ⟨x1, -⟩ := hx
    have x1' : xi = (50 : Int) := x1
    subst x1'
    show f_Mo_keep_L15 (i : Int) k (n + 1) 50 hh = k hh
    rw [f_Mo_keep_L15, if_pos (by decide)]
theorem m_backL {h : gH} {i : Nat} (hi : i < 2) (k : gH → Option gO) : ∃ h', f_Mo_goBack_L28 (i : Int) k 50000 0 h = k h' ∧ (∀ x, x ≠ 92 → h' x = h x) ∧ ∀ y, y < 50 → h' 92 y = h 114 (51 * i + y) := by
  have key := gloopI (S := Int × gH) (F := fun n x => f_Mo_goBack_L28 (i : Int) k n x.1 x.2) (K := fun x => k x.2) 50 (fun j x => x.1 = (j : Int) ∧ (∀ z, z ≠ 92 → x.2 z = h z) ∧ ∀ y, y < j → x.2 92 y = h 114 (51 * i + y)) ?_ ?_ 50000 (0, h) ⟨rfl, fun _ _ => rfl, fun y hy => by omega⟩ (by omega)
  · obtain ⟨⟨v, h'⟩, ⟨-, i2, i3⟩, e⟩ := key
    exact ⟨h', e, i2, i3⟩
  · intro n j x hj hx
    obtain ⟨xi, hh⟩ := x
    obtain ⟨x1, x2, x3⟩ := hx
    have x1' : xi = (j : Int) := x1
    have x2' : ∀ z, z ≠ 92 → hh z = h z := x2
    have x3' : ∀ y, y < j → hh 92 y = h 114 (51 * i + y) := x3
    subst x1'
    show ∃ s', _ ∧ f_Mo_goBack_L28 (i : Int) k (n + 1) (j : Int) hh = _
    rw [f_Mo_goBack_L28, if_neg (by omega), gi51 hi (by omega), Int.toNat_natCast, Int.toNat_natCast, gdix (by omega) (by omega), gdix (by omega) (by omega), gs_s, ga_s (by omega), x2' 114 (by decide)]
    refine ⟨(((j + 1 : Nat) : Int), gup hh 92 j (h 114 (51 * i + j))), ⟨rfl, fun z hz => ?_, fun y hy => ?_⟩, rfl⟩
    · show gup hh 92 j (h 114 (51 * i + j)) z = h z
      rw [gu_r hz, x2' z hz]
    · show gup hh 92 j (h 114 (51 * i + j)) 92 y = h 114 (51 * i + y)
      by_cases e : y = j
      · subst e; rw [gu_at]
      · rw [gu_o (by omega), x3' y (by omega)]
  · intro n x hx
    obtain ⟨xi, hh⟩ := x
    obtain ⟨x1, -⟩ := hx
    have x1' : xi = (50 : Int) := x1
    subst x1'
    show f_Mo_goBack_L28 (i : Int) k (n + 1) 50 hh = k hh
    rw [f_Mo_goBack_L28, if_pos (by decide)]
theorem T4_im {i : Nat} (hi : i < 2) : T4 (48 + 10 * i) := by unfold T4; omega
theorem gsh_im {i : Nat} (hi : i < 2) : gsh (47 + 1 + 10 * i) = .inr 4 := by
  rcases (show i = 0 ∨ i = 1 by omega) with rfl | rfl <;> decide +kernel
theorem op_keep {h : gH} (g : GI h) (a : Int) : gok (f_DS_keep a) (f_Mo_keep a) h := by
  obtain ⟨c, g⟩ := g
  have hgi : GI h := ⟨c, g⟩
  have gg := g
  obtain ⟨g1, g2, ⟨g3, g4, g5, g6, gF⟩, g7, g8, g9, g10, g11, g12, g13⟩ := g
  by_cases ca : 0 ≤ a ∧ a ≤ 1
  · obtain ⟨i, rfl⟩ : ∃ i : Nat, a = (i : Int) := ⟨a.toNat, by omega⟩
    have hi : i < 2 := by omega
    obtain ⟨h', z1, z2, z3, z4⟩ := k_copy g1 (p := 27) (t := 48 + 10 * i) (Or.inl rfl) (T4_im hi) (by omega) g6 g7.1
    generalize hH1 : gup h' 68 i 1 = H1
    have y1 : ∀ x, x ≠ 68 → (x < 48 + 10 * i ∨ 48 + 10 * i + 10 ≤ x) → H1 x = h x := fun x h1 h2 => by rw [← hH1, gu_r h1, z4 x h2]
    have e1 : f_DS_keep (i : Int) h = some (H1, 1) := by
      unfold f_DS_keep
      rw [k_out, gb_s, if_pos ca, if_pos rfl, Int.toNat_natCast, gdix (by omega) (by omega), gdcl (gsh_im hi), show 47 + 1 + 10 * i = 48 + 10 * i by omega, z1, gb_s, gdix (by omega) (by omega), gs_s, hH1]
    obtain ⟨hm, w1, w2, w3, w4⟩ := m_keepL (h := H1) hi (fun h6 => gd (gix 102 (gadd (gmul 51 (i : Int)) 50)) (gs (gup h6 114 (gadd (gmul 51 (i : Int)) 50).toNat (h6 83 13)) (fun h7 => gd (gix 2 (i : Int)) (gs (gup h7 115 i 1) (fun h8 => some (h8, 1))))))
    generalize hH2 : gup (gup hm 114 (51 * i + 50) (hm 83 13)) 115 i 1 = H2
    have e2 : f_Mo_keep (i : Int) H1 = some (H2, 1) := by
      unfold f_Mo_keep
      rw [m_in, gb_s, if_pos ca, if_neg (by decide), Int.toNat_natCast, w1, show (50 : Int) = ((50 : Nat) : Int) from rfl, gi51 hi (by omega), gdix (by omega) (by omega), gs_s, gdix (by omega) (by omega), gs_s, Int.toNat_natCast, hH2]
    refine ⟨H1, 1, H2, e1, e2, c, ?_⟩
    have xm : ∀ x, x ≠ 114 → x ≠ 115 → H2 x = H1 x := fun x h1 h2 => by rw [← hH2, gu_r h2, gu_r h1, w2 x h1]
    have xx : ∀ x, x ≠ 114 → x ≠ 115 → x ≠ 68 → (x < 48 + 10 * i ∨ 48 + 10 * i + 10 ≤ x) → H2 x = h x := fun x h1 h2 h3 h4 => by rw [xm x h1 h2, y1 x h3 h4]
    have x83 : H2 83 = h 83 := xx 83 (by omega) (by omega) (by omega) (by omega)
    have x92 : H2 92 = h 92 := xx 92 (by omega) (by omega) (by omega) (by omega)
    have hct : ct H2 = ct h := ct_eq (fun x _ _ => xx x (by omega) (by omega) (by omega) (by omega)) (by rw [x83]) (by rw [x83]) (by rw [x83]) (by rw [x83])
    have p1 : ∀ y, y < 50 → H2 114 (51 * i + y) = h 92 y := fun y hy => by rw [← hH2, gu_r (by decide), gu_o (by omega), w4 y hy, y1 92 (by omega) (by omega)]
    have p2 : H2 114 (51 * i + 50) = h 83 13 := by rw [← hH2, gu_r (by decide), gu_at, w2 83 (by omega), y1 83 (by omega) (by omega)]
    have p3 : ∀ y, y < 51 * i ∨ 51 * i + 51 ≤ y → H2 114 y = h 114 y := fun y hy => by rw [← hH2, gu_r (by decide), gu_o (by omega), w3 y (by omega), y1 114 (by omega) (by omega)]
    unfold GK GC
    rw [hct, x83, x92, xx 0 (by omega) (by omega) (by omega) (by omega)]
    refine ⟨g1, g2, ⟨g3, g4, g5, CR_c (fun x _ _ => xx x (by omega) (by omega) (by omega) (by omega)) g6, gF⟩, GN_c (fun x _ _ => xx x (by omega) (by omega) (by omega) (by omega)) g7, g8, GT_c (by rw [x83]) (by rw [x83]) (xx 25 (by omega) (by omega) (by omega) (by omega)) (xx 26 (by omega) (by omega) (by omega) (by omega)) (xx 93 (by omega) (by omega) (by omega) (by omega)) g9, GU_c (by rw [x83]) (fun x _ _ => xx x (by omega) (by omega) (by omega) (by omega)) (fun x _ _ => xx x (by omega) (by omega) (by omega) (by omega)) g10, GB_c (by rw [x83]) (fun x _ _ => xx x (by omega) (by omega) (by omega) (by omega)) (fun x _ _ => xx x (by omega) (by omega) (by omega) (by omega)) g11, fun j hj => ?_, GS_c (xx 72 (by omega) (by omega) (by omega) (by omega)) (xx 73 (by omega) (by omega) (by omega) (by omega)) x92 g13⟩
    by_cases e : j = i
    · subst e
      refine ⟨?_, fun _ => ⟨?_, ?_, ?_, ?_⟩⟩
      · rw [xm 68 (by omega) (by omega), ← hH1, gu_at, ← hH2, gu_at]
      · refine TR_c (h := h') (fun x _ _ => ?_) (TR_50 g1 (N := h 92) (fun y hy => p1 y hy) z2)
        rw [xm x (by omega) (by omega), ← hH1, gu_r (by omega)]
      · rw [xm (48 + 10 * j) (by omega) (by omega), ← hH1, gu_r (by omega), z3, p2]; exact g7.2.1
      · exact gw_50 g1 (N := h 92) (fun y hy => p1 y hy) g7.2.2.1
      · rw [p2]; exact g7.2.2.2
    · obtain ⟨q1, q2⟩ := g12 j hj
      have r68 : H2 68 j = h 68 j := by rw [xm 68 (by omega) (by omega), ← hH1, gu_o e, z4 68 (by omega)]
      have r115 : H2 115 j = h 115 j := by rw [← hH2, gu_o e, gu_r (by decide), w2 115 (by omega), y1 115 (by omega) (by omega)]
      rw [r68, r115, p3 (51 * j + 50) (by omega)]
      refine ⟨q1, fun z => ?_⟩
      obtain ⟨v1, v2, v3, v4⟩ := q2 z
      have hgm : ∀ y, y < 50 → gim H2 j y = gim h j y := fun y hy => p3 (51 * j + y) (by omega)
      exact ⟨TR_50 g1 hgm (TR_c (fun x _ _ => xx x (by omega) (by omega) (by omega) (by omega)) v1), by rw [xx (48 + 10 * j) (by omega) (by omega) (by omega) (by omega)]; exact v2, gw_50 g1 hgm v3, v4⟩
  · exact gok_id (r := -1000000001) hgi (by unfold f_DS_keep; rw [k_out, gb_s, if_neg ca, if_neg (by decide)]) (by unfold f_Mo_keep; rw [m_in, gb_s, if_neg ca, if_pos rfl])
theorem op_goBack {h : gH} (g : GI h) (a : Int) : gok (f_DS_goBack a) (f_Mo_goBack a) h := by
  obtain ⟨c, g⟩ := g
  have hgi : GI h := ⟨c, g⟩
  have gg := g
  obtain ⟨g1, g2, ⟨g3, g4, g5, g6, gF⟩, g7, g8, g9, g10, g11, g12, g13⟩ := g
  by_cases ca : 0 ≤ a ∧ a ≤ 1
  · obtain ⟨i, rfl⟩ : ∃ i : Nat, a = (i : Int) := ⟨a.toNat, by omega⟩
    have hi : i < 2 := by omega
    obtain ⟨q1, q2⟩ := g12 i hi
    by_cases cz : h 115 i = 0
    · exact gok_id (r := -1000000003) hgi (by unfold f_DS_goBack; rw [k_out, gb_s, if_pos ca, if_pos rfl, gdix (by omega) (by omega), Int.toNat_natCast, q1, if_pos cz]) (by unfold f_Mo_goBack; rw [m_in, gb_s, if_pos ca, if_neg (by decide), gdix (by omega) (by omega), Int.toNat_natCast, if_pos cz])
    · obtain ⟨v1, v2, v3, v4⟩ := q2 cz
      obtain ⟨h', z1, z2, z3, z4⟩ := k_copy g1 (p := 48 + 10 * i) (t := 27) (T4_im hi) (Or.inl rfl) (by omega) g6 v1
      generalize hH1 : gup h' 72 5 0 = H1
      have e1 : f_DS_goBack (i : Int) h = some (H1, 1) := by
        unfold f_DS_goBack f_Shuffle_forget
        rw [k_out, gb_s, if_pos ca, if_pos rfl, Int.toNat_natCast, gdix (by omega) (by omega), q1, if_neg cz, gdix (by omega) (by omega), gdcl (gsh_im hi), show 47 + 1 + 10 * i = 48 + 10 * i by omega, z1, gb_s, gs_s, gb_s, hH1]
      have y1 : ∀ x, x ≠ 72 → (x < 27 ∨ 37 ≤ x) → H1 x = h x := fun x h1 h2 => by rw [← hH1, gu_r h1, z4 x h2]
      obtain ⟨hm, w1, w2, w3⟩ := m_backL (h := H1) hi (fun h7 => gd (gix 102 (gadd (gmul 51 (i : Int)) 50)) (gs (gup h7 83 13 (h7 114 (gadd (gmul 51 (i : Int)) 50).toNat)) (fun h8 => some (h8, 1))))
      generalize hH2 : gup hm 83 13 (h 114 (51 * i + 50)) = H2
      have e2 : f_Mo_goBack (i : Int) H1 = some (H2, 1) := by
        unfold f_Mo_goBack
        rw [m_in, gb_s, if_pos ca, if_neg (by decide), gdix (by omega) (by omega), Int.toNat_natCast, y1 115 (by omega) (by omega), if_neg cz, w1, show (50 : Int) = ((50 : Nat) : Int) from rfl, gi51 hi (by omega), gdix (by omega) (by omega), gs_s, Int.toNat_natCast, w2 114 (by omega), y1 114 (by omega) (by omega), hH2]
      have p1 : ∀ y, y < 50 → H2 92 y = gim h i y := fun y hy => by rw [← hH2, gu_r (by decide), w3 y hy, y1 114 (by omega) (by omega)]; rfl
      refine ⟨H1, 1, H2, e1, e2, c, GK_go gg (h' := h') (N' := H2 92) (sd := h 114 (51 * i + 50)) z4 (TR_50 g1 p1 z2) (by rw [z3]; exact v2) (gw_50 g1 p1 v3) v4 (fun x h1 h2 => ?_) ?_ (fun x h1 h2 => ?_) (fun y hy => ?_) rfl ?_⟩
      · rw [← hH2, gu_r (by omega), w2 x (by omega), ← hH1, gu_r h2]
      · rw [← hH2, gu_r (by omega), w2 72 (by omega), ← hH1, gu_at]
      · rw [← hH2, gu_r (by omega), w2 x h2, y1 x (by omega) (by omega)]
      · rw [← hH2, gu_o hy, w2 83 (by omega), y1 83 (by omega) (by omega)]
      · rw [← hH2, gu_at]
  · exact gok_id (r := -1000000001) hgi (by unfold f_DS_goBack; rw [k_out, gb_s, if_neg ca, if_neg (by decide)]) (by unfold f_Mo_goBack; rw [m_in, gb_s, if_neg ca, if_pos rfl])
