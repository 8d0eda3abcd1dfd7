/- PURE: the calls that ask, and the short ones that do -/
theorem op_fault {h : gH} (g : GI h) : gok f_DS_fault f_Mo_fault h := by
  obtain ⟨c, g⟩ := g
  have g9 : GT h := g.2.2.2.2.2.1
  refine gok_id (r := h 83 16) ⟨c, g⟩ ?_ rfl
  unfold f_DS_fault
  rw [g9.2.2.1]
theorem op_told {h : gH} (g : GI h) (a : Int) : gok (f_DS_told a) (f_Mo_told a) h := by
  obtain ⟨c, g⟩ := g
  have hgi : GI h := ⟨c, g⟩
  obtain ⟨g1, g2, ⟨g3, g4, g5, g6, gF⟩, g7, g8, g9, g10, g11, g12, g13⟩ := g
  have cn : (h 0 0).toNat = c := by rw [g4, Int.toNat_natCast]
  have r0 : h c 0 = h 83 0 := g6.2.1
  have r1 : h c 1 = h 83 1 := g6.2.2.1
  have r2 : h c 2 = h 83 2 := g6.2.2.2.1
  have r3 : h c 3 = h 83 6 := g6.2.2.2.2.1
  have n1 : h 27 1 = h 92 0 := g7.1.2.1
  by_cases c0 : a = 0
  · exact gok_id (r := h 83 0) hgi (by unfold f_DS_told; rw [if_pos c0, cn, gdcl (gsh_c g3), r0]) (by unfold f_Mo_told; rw [if_pos c0])
  by_cases c1 : a = 1
  · exact gok_id (r := h 83 2) hgi (by unfold f_DS_told; rw [if_neg c0, if_pos c1, cn, gdcl (gsh_c g3), r2]) (by unfold f_Mo_told; rw [if_neg c0, if_pos c1])
  by_cases c2 : a = 2
  · exact gok_id (r := h 83 6) hgi (by unfold f_DS_told; rw [if_neg c0, if_neg c1, if_pos c2, cn, gdcl (gsh_c g3), r3]) (by unfold f_Mo_told; rw [if_neg c0, if_neg c1, if_pos c2])
  by_cases c3 : a = 3
  · exact gok_id (r := h 83 1) hgi (by unfold f_DS_told; rw [if_neg c0, if_neg c1, if_neg c2, if_pos c3, cn, gdcl (gsh_c g3), r1]) (by unfold f_Mo_told; rw [if_neg c0, if_neg c1, if_neg c2, if_pos c3])
  by_cases c4 : a = 4
  · exact gok_id (r := h 83 15) hgi (by unfold f_DS_told; rw [if_neg c0, if_neg c1, if_neg c2, if_neg c3, if_pos c4, g9.2.1]) (by unfold f_Mo_told; rw [if_neg c0, if_neg c1, if_neg c2, if_neg c3, if_pos c4])
  by_cases c5 : a = 5
  · exact gok_id (r := h 92 0) hgi (by unfold f_DS_told; rw [if_neg c0, if_neg c1, if_neg c2, if_neg c3, if_neg c4, if_pos c5, n1]) (by unfold f_Mo_told; rw [if_neg c0, if_neg c1, if_neg c2, if_neg c3, if_neg c4, if_pos c5, gdix (by decide) (by decide)])
  by_cases c6 : a = 6
  · exact gok_id (r := aThat (ct h) (h 92) 3) hgi (by unfold f_DS_told; rw [if_neg c0, if_neg c1, if_neg c2, if_neg c3, if_neg c4, if_neg c5, if_pos c6, (k_those g1 g6 g7.1 3).1, gb_s]) (by unfold f_Mo_told; rw [if_neg c0, if_neg c1, if_neg c2, if_neg c3, if_neg c4, if_neg c5, if_pos c6, m_cartsThat g1, gb_s])
  by_cases c7 : a = 7
  · exact gok_id (r := aThat (ct h) (h 92) 4) hgi (by unfold f_DS_told; rw [if_neg c0, if_neg c1, if_neg c2, if_neg c3, if_neg c4, if_neg c5, if_neg c6, if_pos c7, (k_those g1 g6 g7.1 4).1, gb_s]) (by unfold f_Mo_told; rw [if_neg c0, if_neg c1, if_neg c2, if_neg c3, if_neg c4, if_neg c5, if_neg c6, if_pos c7, m_cartsThat g1, gb_s])
  by_cases c8 : a = 8
  · exact gok_id (r := aThat (ct h) (h 92) 1) hgi (by unfold f_DS_told; rw [if_neg c0, if_neg c1, if_neg c2, if_neg c3, if_neg c4, if_neg c5, if_neg c6, if_neg c7, if_pos c8, (k_those g1 g6 g7.1 1).1, gb_s]) (by unfold f_Mo_told; rw [if_neg c0, if_neg c1, if_neg c2, if_neg c3, if_neg c4, if_neg c5, if_neg c6, if_neg c7, if_pos c8, m_cartsThat g1, gb_s])
  by_cases c9 : a = 9
  · exact gok_id (r := h 92 1) hgi (by unfold f_DS_told; rw [if_neg c0, if_neg c1, if_neg c2, if_neg c3, if_neg c4, if_neg c5, if_neg c6, if_neg c7, if_neg c8, if_pos c9, k_toll g1 g7.2.2.1.1 g6 g7.1, gb_s, show aTol (ct h) (h 92) = h 92 1 from g7.2.2.1.2.1.symm]) (by unfold f_Mo_told; rw [if_neg c0, if_neg c1, if_neg c2, if_neg c3, if_neg c4, if_neg c5, if_neg c6, if_neg c7, if_neg c8, if_pos c9, gdix (by decide) (by decide)])
  by_cases c10 : a = 10
  · exact gok_id (r := h 83 38) hgi (by unfold f_DS_told; rw [if_neg c0, if_neg c1, if_neg c2, if_neg c3, if_neg c4, if_neg c5, if_neg c6, if_neg c7, if_neg c8, if_neg c9, if_pos c10, g10.2.1]) (by unfold f_Mo_told; rw [if_neg c0, if_neg c1, if_neg c2, if_neg c3, if_neg c4, if_neg c5, if_neg c6, if_neg c7, if_neg c8, if_neg c9, if_pos c10])
  by_cases c11 : a = 11
  · exact gok_id (r := h 83 42) hgi (by unfold f_DS_told; rw [if_neg c0, if_neg c1, if_neg c2, if_neg c3, if_neg c4, if_neg c5, if_neg c6, if_neg c7, if_neg c8, if_neg c9, if_neg c10, if_pos c11, g11.2.1]) (by unfold f_Mo_told; rw [if_neg c0, if_neg c1, if_neg c2, if_neg c3, if_neg c4, if_neg c5, if_neg c6, if_neg c7, if_neg c8, if_neg c9, if_neg c10, if_pos c11])
  exact gok_id (r := -1000000002) hgi (by unfold f_DS_told; rw [if_neg c0, if_neg c1, if_neg c2, if_neg c3, if_neg c4, if_neg c5, if_neg c6, if_neg c7, if_neg c8, if_neg c9, if_neg c10, if_neg c11]) (by unfold f_Mo_told; rw [if_neg c0, if_neg c1, if_neg c2, if_neg c3, if_neg c4, if_neg c5, if_neg c6, if_neg c7, if_neg c8, if_neg c9, if_neg c10, if_neg c11])
theorem op_far {h : gH} (g : GI h) (a b : Int) : gok (f_DS_far a b) (f_Mo_far a b) h := by
  obtain ⟨c, g⟩ := g
  have hgi : GI h := ⟨c, g⟩
  have ka := k_noCorner g
  obtain ⟨g1, g2, ⟨g3, g4, g5, g6, gF⟩, g7, -⟩ := g
  have cn : (h 0 0).toNat = c := by rw [g4, Int.toNat_natCast]
  have bK : 0 ≤ h 83 0 ∧ h 83 0 ≤ 7 := g1.1
  have ma := fun x => m_isCorner bK x
  by_cases ca : 0 ≤ a ∧ a < h 83 0
  · by_cases cb : 0 ≤ b ∧ b < h 83 0
    · obtain ⟨x, rfl⟩ : ∃ x : Nat, a = (x : Int) := ⟨a.toNat, by omega⟩
      obtain ⟨y, rfl⟩ : ∃ y : Nat, b = (y : Int) := ⟨b.toNat, by omega⟩
      have hd := (g6.2.2.2.2.2.2.2 x y ca.2 cb.2).2
      have hi : gadd (gmul 7 (x : Int)) (y : Int) = ((7 * x + y : Nat) : Int) := by
        rw [gmul_eq (by omega) (by omega), gadd_eq (by omega) (by omega)]; omega
      have hD : aDist (ct h) (x : Int) (y : Int) = h 91 (7 * x + y) := by
        unfold aDist
        rw [ct_91, show (7 * (x : Int) + (y : Int)).toNat = 7 * x + y by omega]
      have hB : 0 ≤ h 91 (7 * x + y) ∧ h 91 (7 * x + y) ≤ 1000000 := g1.2.2.2.2.2.2.2 (7 * x + y) (by omega)
      rw [hD] at hd
      have ek : f_DS_far (x : Int) (y : Int) h = some (h, if 1000 ≤ h (c + 10) (7 * x + y) then -1 else h (c + 10) (7 * x + y)) := by
        unfold f_DS_far
        rw [ka, gb_s, if_pos ca, if_pos rfl, ka, gb_s, if_pos cb, if_pos rfl, cn, gdcl (gsh_c g3), c_dist2 (by omega) (by omega), gb_s]
        split <;> rfl
      have em : f_Mo_far (x : Int) (y : Int) h = some (h, if 1000000 ≤ h 91 (7 * x + y) then -1 else h 91 (7 * x + y)) := by
        unfold f_Mo_far
        rw [ma, gb_s, if_pos ca, if_neg (by decide), ma, gb_s, if_pos cb, if_neg (by decide), hi, Int.toNat_natCast, gdix (by omega) (by omega), gdix (by omega) (by omega)]
        split <;> rfl
      have hlt : h 91 (7 * x + y) < 1000 ∨ h 91 (7 * x + y) = 1000000 := gF x y ca.2 cb.2
      refine gok_id hgi ek ?_
      rw [em, hd]
      rcases hlt with q | q
      · rw [if_neg (show ¬ (1000000 ≤ h 91 (7 * x + y)) by omega), if_pos (show h 91 (7 * x + y) < 1000000 by omega), if_neg (show ¬ (1000 ≤ h 91 (7 * x + y)) by omega)]
      · rw [if_pos (show (1000000 ≤ h 91 (7 * x + y)) by omega), if_neg (show ¬ h 91 (7 * x + y) < 1000000 by omega), if_pos (by decide)]
    · exact gok_id (r := -1000000001) hgi (by unfold f_DS_far; rw [ka, gb_s, if_pos ca, if_pos rfl, ka, gb_s, if_neg cb, if_neg (by decide)]) (by unfold f_Mo_far; rw [ma, gb_s, if_pos ca, if_neg (by decide), ma, gb_s, if_neg cb, if_pos rfl])
  · exact gok_id (r := -1000000001) hgi (by unfold f_DS_far; rw [ka, gb_s, if_neg ca, if_neg (by decide)]) (by unfold f_Mo_far; rw [ma, gb_s, if_neg ca, if_pos rfl])
