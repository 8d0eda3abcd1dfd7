/- PURE: streets and carts asked for, the record judged -/
theorem op_street {h : gH} (g : GI h) (a b : Int) : gok (f_DS_street a b) (f_Mo_street a b) h := by
  obtain ⟨c, g⟩ := g
  have hgi : GI h := ⟨c, g⟩
  have ks := k_noStreet g
  have kc := k_noCart g
  have gg := g
  obtain ⟨g1, g2, ⟨g3, g4, g5, g6, gF⟩, g7, g8, g9, g10, g11, g12, g13⟩ := g
  have cn : (h 0 0).toNat = c := by rw [g4, Int.toNat_natCast]
  have bS : 0 ≤ h 83 2 ∧ h 83 2 ≤ 9 := g1.2.1
  have bC : 0 ≤ h 83 6 ∧ h 83 6 ≤ 6 := g1.2.2.1
  have ms := fun x => m_isStreet bS x
  have mc := fun x => m_isCart bC x
  by_cases ca : 0 ≤ a ∧ a < h 83 2
  · obtain ⟨s, rfl⟩ : ∃ s : Nat, a = (s : Int) := ⟨a.toNat, by omega⟩
    obtain ⟨u1, u2, u3⟩ := g6.2.2.2.2.2.1 s ca.2
    have u1 : h (c + 1) s = h 84 s := u1
    have u2 : h (c + 2) s = h 85 s := u2
    have u3 : h (c + 3) s = h 86 s := u3
    obtain ⟨t1, t2, -⟩ := g7.1.2.2.1 s ca.2
    have t1 : h 28 s = h 92 (2 + s) := t1
    have t2 : h 29 s = h 92 (11 + s) := t2
    have t3 : h 30 s = aOn (ct h) (h 92) s := TR_on g1 g7.1 ca.2
    by_cases c0 : b = 0
    · exact gok_id (r := h 84 s) hgi (by unfold f_DS_street; rw [ks, gb_s, if_pos ca, if_pos rfl, if_pos c0, cn, gdcl (gsh_c g3), gdix (by omega) (by omega), Int.toNat_natCast, u1]) (by unfold f_Mo_street; rw [ms, gb_s, if_pos ca, if_neg (by decide), if_pos c0, gdix (by omega) (by omega), Int.toNat_natCast])
    by_cases c1 : b = 1
    · exact gok_id (r := h 85 s) hgi (by unfold f_DS_street; rw [ks, gb_s, if_pos ca, if_pos rfl, if_neg c0, if_pos c1, cn, gdcl (gsh_c g3), gdix (by omega) (by omega), Int.toNat_natCast, u2]) (by unfold f_Mo_street; rw [ms, gb_s, if_pos ca, if_neg (by decide), if_neg c0, if_pos c1, gdix (by omega) (by omega), Int.toNat_natCast])
    by_cases c2 : b = 2
    · exact gok_id (r := h 86 s) hgi (by unfold f_DS_street; rw [ks, gb_s, if_pos ca, if_pos rfl, if_neg c0, if_neg c1, if_pos c2, cn, gdcl (gsh_c g3), gdix (by omega) (by omega), Int.toNat_natCast, u3]) (by unfold f_Mo_street; rw [ms, gb_s, if_pos ca, if_neg (by decide), if_neg c0, if_neg c1, if_pos c2, gdix (by omega) (by omega), Int.toNat_natCast])
    by_cases c3 : b = 3
    · exact gok_id (r := h 92 (2 + s)) hgi (by unfold f_DS_street; rw [ks, gb_s, if_pos ca, if_pos rfl, if_neg c0, if_neg c1, if_neg c2, if_pos c3, gdix (by omega) (by omega), Int.toNat_natCast, t1]) (by unfold f_Mo_street; rw [ms, gb_s, if_pos ca, if_neg (by decide), if_neg c0, if_neg c1, if_neg c2, if_pos c3, ga_2 (by omega), gdix (by omega) (by omega), Int.toNat_natCast])
    by_cases c4 : b = 4
    · exact gok_id (r := h 92 (11 + s)) hgi (by unfold f_DS_street; rw [ks, gb_s, if_pos ca, if_pos rfl, if_neg c0, if_neg c1, if_neg c2, if_neg c3, if_pos c4, gdix (by omega) (by omega), Int.toNat_natCast, t2]) (by unfold f_Mo_street; rw [ms, gb_s, if_pos ca, if_neg (by decide), if_neg c0, if_neg c1, if_neg c2, if_neg c3, if_pos c4, ga_11 (by omega), gdix (by omega) (by omega), Int.toNat_natCast])
    by_cases c5 : b = 5
    · exact gok_id (r := aOn (ct h) (h 92) s) hgi (by unfold f_DS_street; rw [ks, gb_s, if_pos ca, if_pos rfl, if_neg c0, if_neg c1, if_neg c2, if_neg c3, if_neg c4, if_pos c5, gdix (by omega) (by omega), Int.toNat_natCast, t3]) (by unfold f_Mo_street; rw [ms, gb_s, if_pos ca, if_neg (by decide), if_neg c0, if_neg c1, if_neg c2, if_neg c3, if_neg c4, if_pos c5, m_onStreet g1, gb_s])
    exact gok_id (r := -1000000002) hgi (by unfold f_DS_street; rw [ks, gb_s, if_pos ca, if_pos rfl, if_neg c0, if_neg c1, if_neg c2, if_neg c3, if_neg c4, if_neg c5]) (by unfold f_Mo_street; rw [ms, gb_s, if_pos ca, if_neg (by decide), if_neg c0, if_neg c1, if_neg c2, if_neg c3, if_neg c4, if_neg c5])
  · exact gok_id (r := -1000000001) hgi (by unfold f_DS_street; rw [ks, gb_s, if_neg ca, if_neg (by decide)]) (by unfold f_Mo_street; rw [ms, gb_s, if_neg ca, if_pos rfl])
theorem op_cart {h : gH} (g : GI h) (a b : Int) : gok (f_DS_cart a b) (f_Mo_cart a b) h := by
  obtain ⟨c, g⟩ := g
  have hgi : GI h := ⟨c, g⟩
  have ks := k_noStreet g
  have kc := k_noCart g
  have gg := g
  obtain ⟨g1, g2, ⟨g3, g4, g5, g6, gF⟩, g7, g8, g9, g10, g11, g12, g13⟩ := g
  have cn : (h 0 0).toNat = c := by rw [g4, Int.toNat_natCast]
  have bS : 0 ≤ h 83 2 ∧ h 83 2 ≤ 9 := g1.2.1
  have bC : 0 ≤ h 83 6 ∧ h 83 6 ≤ 6 := g1.2.2.1
  have ms := fun x => m_isStreet bS x
  have mc := fun x => m_isCart bC x
  by_cases ca : 0 ≤ a ∧ a < h 83 6
  · obtain ⟨s, rfl⟩ : ∃ s : Nat, a = (s : Int) := ⟨a.toNat, by omega⟩
    obtain ⟨u1, u2, u3, u4⟩ := g6.2.2.2.2.2.2.1 s ca.2
    have u1 : h (c + 5) s = h 87 s := u1
    have u2 : h (c + 6) s = h 88 s := u2
    have u3 : h (c + 7) s = h 89 s := u3
    have u4 : h (c + 9) s = h 90 s := u4
    obtain ⟨t1, t2, t3, t4, t5⟩ := g7.1.2.2.2 s ca.2
    have t1 : h 32 s = h 92 (20 + s) := t1
    have t2 : h 33 s = h 92 (26 + s) := t2
    have t3 : h 34 s = h 92 (32 + s) := t3
    have t4 : h 35 s = h 92 (38 + s) := t4
    have t5 : h 36 s = h 92 (44 + s) := t5
    by_cases c0 : b = 0
    · exact gok_id (r := h 87 s) hgi (by unfold f_DS_cart; rw [kc, gb_s, if_pos ca, if_pos rfl, if_pos c0, cn, gdcl (gsh_c g3), gdix (by omega) (by omega), Int.toNat_natCast, u1]) (by unfold f_Mo_cart; rw [mc, gb_s, if_pos ca, if_neg (by decide), if_pos c0, gdix (by omega) (by omega), Int.toNat_natCast])
    by_cases c1 : b = 1
    · exact gok_id (r := h 88 s) hgi (by unfold f_DS_cart; rw [kc, gb_s, if_pos ca, if_pos rfl, if_neg c0, if_pos c1, cn, gdcl (gsh_c g3), gdix (by omega) (by omega), Int.toNat_natCast, u2]) (by unfold f_Mo_cart; rw [mc, gb_s, if_pos ca, if_neg (by decide), if_neg c0, if_pos c1, gdix (by omega) (by omega), Int.toNat_natCast])
    by_cases c2 : b = 2
    · exact gok_id (r := h 89 s) hgi (by unfold f_DS_cart; rw [kc, gb_s, if_pos ca, if_pos rfl, if_neg c0, if_neg c1, if_pos c2, cn, gdcl (gsh_c g3), gdix (by omega) (by omega), Int.toNat_natCast, u3]) (by unfold f_Mo_cart; rw [mc, gb_s, if_pos ca, if_neg (by decide), if_neg c0, if_neg c1, if_pos c2, gdix (by omega) (by omega), Int.toNat_natCast])
    by_cases c3 : b = 3
    · exact gok_id (r := h 92 (20 + s)) hgi (by unfold f_DS_cart; rw [kc, gb_s, if_pos ca, if_pos rfl, if_neg c0, if_neg c1, if_neg c2, if_pos c3, gdix (by omega) (by omega), Int.toNat_natCast, t1]) (by unfold f_Mo_cart; rw [mc, gb_s, if_pos ca, if_neg (by decide), if_neg c0, if_neg c1, if_neg c2, if_pos c3, ga_20 (by omega), gdix (by omega) (by omega), Int.toNat_natCast])
    by_cases c4 : b = 4
    · exact gok_id (r := h 90 s) hgi (by unfold f_DS_cart; rw [kc, gb_s, if_pos ca, if_pos rfl, if_neg c0, if_neg c1, if_neg c2, if_neg c3, if_pos c4, cn, gdcl (gsh_c g3), gdix (by omega) (by omega), Int.toNat_natCast, u4]) (by unfold f_Mo_cart; rw [mc, gb_s, if_pos ca, if_neg (by decide), if_neg c0, if_neg c1, if_neg c2, if_neg c3, if_pos c4, gdix (by omega) (by omega), Int.toNat_natCast])
    by_cases c5 : b = 5
    · exact gok_id (r := h 92 (26 + s)) hgi (by unfold f_DS_cart; rw [kc, gb_s, if_pos ca, if_pos rfl, if_neg c0, if_neg c1, if_neg c2, if_neg c3, if_neg c4, if_pos c5, gdix (by omega) (by omega), Int.toNat_natCast, t2]) (by unfold f_Mo_cart; rw [mc, gb_s, if_pos ca, if_neg (by decide), if_neg c0, if_neg c1, if_neg c2, if_neg c3, if_neg c4, if_pos c5, ga_26 (by omega), gdix (by omega) (by omega), Int.toNat_natCast])
    by_cases c6 : b = 6
    · exact gok_id (r := h 92 (32 + s)) hgi (by unfold f_DS_cart; rw [kc, gb_s, if_pos ca, if_pos rfl, if_neg c0, if_neg c1, if_neg c2, if_neg c3, if_neg c4, if_neg c5, if_pos c6, gdix (by omega) (by omega), Int.toNat_natCast, t3]) (by unfold f_Mo_cart; rw [mc, gb_s, if_pos ca, if_neg (by decide), if_neg c0, if_neg c1, if_neg c2, if_neg c3, if_neg c4, if_neg c5, if_pos c6, ga_32 (by omega), gdix (by omega) (by omega), Int.toNat_natCast])
    by_cases c7 : b = 7
    · exact gok_id (r := h 92 (38 + s)) hgi (by unfold f_DS_cart; rw [kc, gb_s, if_pos ca, if_pos rfl, if_neg c0, if_neg c1, if_neg c2, if_neg c3, if_neg c4, if_neg c5, if_neg c6, if_pos c7, gdix (by omega) (by omega), Int.toNat_natCast, t4]) (by unfold f_Mo_cart; rw [mc, gb_s, if_pos ca, if_neg (by decide), if_neg c0, if_neg c1, if_neg c2, if_neg c3, if_neg c4, if_neg c5, if_neg c6, if_pos c7, ga_38 (by omega), gdix (by omega) (by omega), Int.toNat_natCast])
    by_cases c8 : b = 8
    · exact gok_id (r := h 92 (44 + s)) hgi (by unfold f_DS_cart; rw [kc, gb_s, if_pos ca, if_pos rfl, if_neg c0, if_neg c1, if_neg c2, if_neg c3, if_neg c4, if_neg c5, if_neg c6, if_neg c7, if_pos c8, gdix (by omega) (by omega), Int.toNat_natCast, t5]) (by unfold f_Mo_cart; rw [mc, gb_s, if_pos ca, if_neg (by decide), if_neg c0, if_neg c1, if_neg c2, if_neg c3, if_neg c4, if_neg c5, if_neg c6, if_neg c7, if_pos c8, ga_44 (by omega), gdix (by omega) (by omega), Int.toNat_natCast])
    by_cases c9 : b = 9
    · by_cases ch : h 92 (26 + s) = 3
      · exact gok_id (r := gsub (h 92 (38 + s)) (h 89 s)) hgi (by unfold f_DS_cart; rw [kc, gb_s, if_pos ca, if_pos rfl, if_neg c0, if_neg c1, if_neg c2, if_neg c3, if_neg c4, if_neg c5, if_neg c6, if_neg c7, if_neg c8, if_pos c9, gdix (by omega) (by omega), Int.toNat_natCast, t2, if_pos ch, gdix (by omega) (by omega), cn, gdcl (gsh_c g3), gdix (by omega) (by omega), t4, u3]) (by unfold f_Mo_cart; rw [mc, gb_s, if_pos ca, if_neg (by decide), if_neg c0, if_neg c1, if_neg c2, if_neg c3, if_neg c4, if_neg c5, if_neg c6, if_neg c7, if_neg c8, if_pos c9, ga_26 (by omega), ga_38 (by omega), gdix (by omega) (by omega), Int.toNat_natCast, Int.toNat_natCast, Int.toNat_natCast, if_pos ch, gdix (by omega) (by omega), gdix (by omega) (by omega)])
      · exact gok_id (r := -1) hgi (by unfold f_DS_cart; rw [kc, gb_s, if_pos ca, if_pos rfl, if_neg c0, if_neg c1, if_neg c2, if_neg c3, if_neg c4, if_neg c5, if_neg c6, if_neg c7, if_neg c8, if_pos c9, gdix (by omega) (by omega), Int.toNat_natCast, t2, if_neg ch]) (by unfold f_Mo_cart; rw [mc, gb_s, if_pos ca, if_neg (by decide), if_neg c0, if_neg c1, if_neg c2, if_neg c3, if_neg c4, if_neg c5, if_neg c6, if_neg c7, if_neg c8, if_pos c9, ga_26 (by omega), gdix (by omega) (by omega), Int.toNat_natCast, if_neg ch])
    exact gok_id (r := -1000000002) hgi (by unfold f_DS_cart; rw [kc, gb_s, if_pos ca, if_pos rfl, if_neg c0, if_neg c1, if_neg c2, if_neg c3, if_neg c4, if_neg c5, if_neg c6, if_neg c7, if_neg c8, if_neg c9]) (by unfold f_Mo_cart; rw [mc, gb_s, if_pos ca, if_neg (by decide), if_neg c0, if_neg c1, if_neg c2, if_neg c3, if_neg c4, if_neg c5, if_neg c6, if_neg c7, if_neg c8, if_neg c9])
  · exact gok_id (r := -1000000001) hgi (by unfold f_DS_cart; rw [kc, gb_s, if_neg ca, if_neg (by decide)]) (by unfold f_Mo_cart; rw [mc, gb_s, if_neg ca, if_pos rfl])
theorem op_next {h : gH} (g : GI h) (a : Int) : gok (f_DS_next a) (f_Mo_next a) h := by
  obtain ⟨c, g⟩ := g
  have hgi : GI h := ⟨c, g⟩
  have ks := k_noStreet g
  have kc := k_noCart g
  have gg := g
  obtain ⟨g1, g2, ⟨g3, g4, g5, g6, gF⟩, g7, g8, g9, g10, g11, g12, g13⟩ := g
  have cn : (h 0 0).toNat = c := by rw [g4, Int.toNat_natCast]
  have bS : 0 ≤ h 83 2 ∧ h 83 2 ≤ 9 := g1.2.1
  have bC : 0 ≤ h 83 6 ∧ h 83 6 ≤ 6 := g1.2.2.1
  have ms := fun x => m_isStreet bS x
  have mc := fun x => m_isCart bC x
  by_cases ca : 0 ≤ a ∧ a < h 83 6
  · obtain ⟨s, rfl⟩ : ∃ s : Nat, a = (s : Int) := ⟨a.toNat, by omega⟩
    obtain ⟨u1, u2, u3, u4⟩ := g6.2.2.2.2.2.2.1 s ca.2
    have u2 : h (c + 6) s = h 88 s := u2
    obtain ⟨t1, t2, t3, t4, t5⟩ := g7.1.2.2.2 s ca.2
    have t2 : h 33 s = h 92 (26 + s) := t2
    have t3 : h 34 s = h 92 (32 + s) := t3
    have hw := g7.2.2.1.1.2.2.2 s ca.2
    have hcc := g1.2.2.2.2.2.2.1 s ca.2
    have hcc : (0 ≤ h 88 s ∧ h 88 s < h 83 0) := hcc.2.1
    refine gok_id (r := aNk (ct h) (h 92) s) hgi ?_ (by unfold f_Mo_next; rw [mc, gb_s, if_pos ca, if_neg (by decide), m_nextOf g1 g7.2.2.1.1 ca.2, gb_s])
    unfold f_DS_next aNk
    rw [kc, gb_s, if_pos ca, if_pos rfl, gdix (by omega) (by omega), Int.toNat_natCast, t2]
    by_cases ch : h 92 (26 + s) = 1
    · have hp := (hw.2.2.2.2.2.1 ch).1
      have hp : 0 ≤ h 92 (32 + s) ∧ h 92 (32 + s) < h 83 0 := hp
      rw [if_pos ch, if_pos ch, cn, gdcl (gsh_c g3), gdix (by omega) (by omega), gdcl (gsh_c g3), gdix (by omega) (by omega), t3, u2, ct_88]
      obtain ⟨x, hx⟩ : ∃ x : Nat, h 92 (32 + s) = (x : Int) := ⟨(h 92 (32 + s)).toNat, by omega⟩
      obtain ⟨y, hy⟩ : ∃ y : Nat, h 88 s = (y : Int) := ⟨(h 88 s).toNat, by omega⟩
      rw [hx, hy, k_next g1 g6 (by show (x : Int) < h 83 0; omega) (by show (y : Int) < h 83 0; omega), gb_s]
    · rw [if_neg ch, if_neg ch]
  · exact gok_id (r := -1000000001) hgi (by unfold f_DS_next; rw [kc, gb_s, if_neg ca, if_neg (by decide)]) (by unfold f_Mo_next; rw [mc, gb_s, if_neg ca, if_pos rfl])
theorem op_foremost {h : gH} (g : GI h) (a b : Int) : gok (f_DS_foremost a b) (f_Mo_foremost a b) h := by
  obtain ⟨c, g⟩ := g
  have hgi : GI h := ⟨c, g⟩
  have ks := k_noStreet g
  have kc := k_noCart g
  have gg := g
  obtain ⟨g1, g2, ⟨g3, g4, g5, g6, gF⟩, g7, g8, g9, g10, g11, g12, g13⟩ := g
  have cn : (h 0 0).toNat = c := by rw [g4, Int.toNat_natCast]
  have bS : 0 ≤ h 83 2 ∧ h 83 2 ≤ 9 := g1.2.1
  have bC : 0 ≤ h 83 6 ∧ h 83 6 ≤ 6 := g1.2.2.1
  have ms := fun x => m_isStreet bS x
  have mc := fun x => m_isCart bC x
  by_cases ca : 0 ≤ a ∧ a < h 83 2
  · obtain ⟨s, rfl⟩ : ∃ s : Nat, a = (s : Int) := ⟨a.toNat, by omega⟩
    by_cases cb : 0 ≤ b ∧ b ≤ 1
    · refine gok_id (r := aFore (ct h) (h 92) s b) hgi ?_ (by unfold f_Mo_foremost; rw [ms, gb_s, if_pos ca, if_neg (by decide), m_in, gb_s, if_pos cb, if_neg (by decide), m_foremostOf g1 g7.2.2.1.1 ca.2, gb_s])
      obtain ⟨-, -, -, t4, t5⟩ := g7.1.2.2.1 s ca.2
      unfold f_DS_foremost
      rw [ks, gb_s, if_pos ca, if_pos rfl, k_out, gb_s, if_pos cb, if_pos rfl, gm2 (by omega)]
      rcases (show b = 0 ∨ b = 1 by omega) with rfl | rfl
      · rw [gadd_eq (by omega) (by omega), gdix (by omega) (by omega), show (((2 * s : Nat) : Int) + 0).toNat = 2 * s by omega]
        have t4 : sI (ct h 83 6) (h 31 (2 * s)) (aW (ct h) (h 92) s 0) := t4
        rw [k_firstOf g1 g6 g7.1 t4, gb_s, aFo_fore]
      · rw [gadd_eq (by omega) (by omega), gdix (by omega) (by omega), show (((2 * s : Nat) : Int) + 1).toNat = 2 * s + 1 by omega]
        have t5 : sI (ct h 83 6) (h 31 (2 * s + 1)) (aW (ct h) (h 92) s 1) := t5
        rw [k_firstOf g1 g6 g7.1 t5, gb_s, aFo_fore]
    · exact gok_id (r := -1000000002) hgi (by unfold f_DS_foremost; rw [ks, gb_s, if_pos ca, if_pos rfl, k_out, gb_s, if_neg cb, if_neg (by decide)]) (by unfold f_Mo_foremost; rw [ms, gb_s, if_pos ca, if_neg (by decide), m_in, gb_s, if_neg cb, if_pos rfl])
  · exact gok_id (r := -1000000001) hgi (by unfold f_DS_foremost; rw [ks, gb_s, if_neg ca, if_neg (by decide)]) (by unfold f_Mo_foremost; rw [ms, gb_s, if_neg ca, if_pos rfl])
theorem op_judge {h : gH} (g : GI h) : gok f_DS_judge f_Mo_judge h := by
  obtain ⟨c, g⟩ := g
  have hgi : GI h := ⟨c, g⟩
  have ks := k_noStreet g
  have kc := k_noCart g
  have gg := g
  obtain ⟨g1, g2, ⟨g3, g4, g5, g6, gF⟩, g7, g8, g9, g10, g11, g12, g13⟩ := g
  have cn : (h 0 0).toNat = c := by rw [g4, Int.toNat_natCast]
  have bS : 0 ≤ h 83 2 ∧ h 83 2 ≤ 9 := g1.2.1
  have bC : 0 ≤ h 83 6 ∧ h 83 6 ≤ 6 := g1.2.2.1
  have ms := fun x => m_isStreet bS x
  have mc := fun x => m_isCart bC x
  have bB : 0 ≤ h 83 42 ∧ h 83 42 ≤ 15 := g11.1
  obtain ⟨B, hB⟩ : ∃ B : Nat, h 83 42 = (B : Int) := ⟨(h 83 42).toNat, by omega⟩
  have key : ∀ m i f f', i + m = B → m < f → m < f' → ∃ r, f_DS_judge_L2 (fun h4 => some (h4, -1)) f (i : Int) h = some (h, r) ∧ f_Mo_judge_L2 (fun h4 => some (h4, -1)) f' (i : Int) h = some (h, r) := by
    intro m
    induction m with
    | zero =>
      intro i f f' hi hf hf'
      obtain ⟨f, rfl⟩ : ∃ n, f = n + 1 := ⟨f - 1, by omega⟩
      obtain ⟨f', rfl⟩ : ∃ n, f' = n + 1 := ⟨f' - 1, by omega⟩
      exact ⟨-1, by rw [f_DS_judge_L2, g11.2.1, if_pos (by omega)], by rw [f_Mo_judge_L2, if_pos (by omega)]⟩
    | succ m ih =>
      intro i f f' hi hf hf'
      obtain ⟨f, rfl⟩ : ∃ n, f = n + 1 := ⟨f - 1, by omega⟩
      obtain ⟨f', rfl⟩ : ∃ n, f' = n + 1 := ⟨f' - 1, by omega⟩
      obtain ⟨b1, b2, b3, b4⟩ := g11.2.2 i (by omega)
      have b4 : h 112 i < h 83 6 := b4
      obtain ⟨k, hk⟩ : ∃ k : Nat, h 112 i = (k : Int) := ⟨(h 112 i).toNat, by omega⟩
      obtain ⟨t1, t2, t3, t4, t5⟩ := g7.1.2.2.2 k (by show (k : Int) < h 83 6; omega)
      have t2 : h 33 k = h 92 (26 + k) := t2
      have t4 : h 35 k = h 92 (38 + k) := t4
      obtain ⟨r, q1, q2⟩ := ih (i + 1) f f' (by omega) (by omega) (by omega)
      by_cases c1 : h 92 (26 + k) = 3
      · by_cases c2 : h 92 (38 + k) = h 113 i
        · refine ⟨r, ?_, ?_⟩
          · rw [f_DS_judge_L2, g11.2.1, if_neg (by omega), Int.toNat_natCast, b1, b2, hk, Int.toNat_natCast, gdix (by omega) (by omega), gdix (by omega) (by omega), t2, if_pos c1, gdix (by omega) (by omega), gdix (by omega) (by omega), t4, if_pos c2, ga_s (by omega)]
            exact q1
          · rw [f_Mo_judge_L2, if_neg (by omega), Int.toNat_natCast, hk, ga_26 (by omega), ga_38 (by omega), Int.toNat_natCast, Int.toNat_natCast, gdix (by omega) (by omega), gdix (by omega) (by omega), if_pos c1, gdix (by omega) (by omega), gdix (by omega) (by omega), if_pos c2, ga_s (by omega)]
            exact q2
        · refine ⟨(i : Int), ?_, ?_⟩
          · rw [f_DS_judge_L2, g11.2.1, if_neg (by omega), Int.toNat_natCast, b1, b2, hk, Int.toNat_natCast, gdix (by omega) (by omega), gdix (by omega) (by omega), t2, if_pos c1, gdix (by omega) (by omega), gdix (by omega) (by omega), t4, if_neg c2]
          · rw [f_Mo_judge_L2, if_neg (by omega), Int.toNat_natCast, hk, ga_26 (by omega), ga_38 (by omega), Int.toNat_natCast, Int.toNat_natCast, gdix (by omega) (by omega), gdix (by omega) (by omega), if_pos c1, gdix (by omega) (by omega), gdix (by omega) (by omega), if_neg c2]
      · refine ⟨(i : Int), ?_, ?_⟩
        · rw [f_DS_judge_L2, g11.2.1, if_neg (by omega), Int.toNat_natCast, b1, hk, Int.toNat_natCast, gdix (by omega) (by omega), gdix (by omega) (by omega), t2, if_neg c1]
        · rw [f_Mo_judge_L2, if_neg (by omega), Int.toNat_natCast, hk, ga_26 (by omega), Int.toNat_natCast, gdix (by omega) (by omega), gdix (by omega) (by omega), if_neg c1]
  obtain ⟨r, q1, q2⟩ := key B 0 50000 50000 (by omega) (by omega) (by omega)
  exact gok_id hgi q1 q2
