/- PURE: the class's arriving, entering, turning, losing patience -/
theorem nS_congr {N N' : Nat → Int} {k : Nat} {st wh : Int} (h0 : N' 0 = N 0) (h : ∀ j, j ≠ 26 + k → j ≠ 32 + k → j ≠ 38 + k → N' j = N j) : nS N' k st wh = nS N k st wh := by
  funext j
  unfold nS nu
  rw [h0]
  by_cases e1 : j = 26 + k
  · rw [if_pos e1, if_pos e1]
  · rw [if_neg e1, if_neg e1]
    by_cases e2 : j = 38 + k
    · rw [if_pos e2, if_pos e2]
    · rw [if_neg e2, if_neg e2]
      by_cases e3 : j = 32 + k
      · rw [if_pos e3, if_pos e3]
      · rw [if_neg e3, if_neg e3, h j e1 e3 e2]
theorem TX_nu {D h : gH} (hc : cW D) {t k : Nat} (hk : (k : Int) < D 83 6) {N : Nat → Int} {v : Int} (hX : TX D h t N k) : TX D h t (nu N (26 + k) v) k := by
  have hC : D 83 6 ≤ 6 := hc.2.2.1.2
  intro i hi
  obtain ⟨a1, a2, a3⟩ := hX i hi
  rw [nu_ne (by omega), nu_ne (by omega)]
  refine ⟨a1, a2, fun e => ?_⟩
  rw [nu_ne (by omega), nu_ne (by omega), nu_ne (by omega)]
  exact a3 e
theorem nu26_off (N : Nat → Int) (k : Nat) (v : Int) : nOff k N (nu N (26 + k) v) := fun j h1 h2 h3 h4 h5 => nu_ne h1
theorem k_arrive {D h : gH} (hc : cW D) {c t k : Nat} (ht : 27 ≤ t) {N : Nat → Int} (hn : nW D 0 N) (hr : CR D h c) (hT : TR D h c t N) (hk : (k : Int) < D 83 6) (h2 : N (26 + k) = 2) (hm : N 0 - N (38 + k) = D 86 (N (32 + k)).toNat) : ∃ h', f_Traffic_arrive t (k : Int) h = some (h', 0) ∧ TR D h' c t (aArr D k N) ∧ gF t h h' := by
  have hC : D 83 6 ≤ 6 := hc.2.2.1.2
  have hS : D 83 2 ≤ 9 := hc.2.1.2
  have hK : D 83 0 ≤ 7 := hc.1.2
  obtain ⟨x0, x1, xS, xC⟩ := TR_iff.mp hT
  obtain ⟨a1, a2, a3, a4, a5, a6, a7⟩ := (nW_kW.mp hn).2.2.2 k hk
  obtain ⟨d1, d2, d3, d4⟩ := a7 h2
  obtain ⟨s, hs⟩ : ∃ s : Nat, N (32 + k) = (s : Int) := ⟨(N (32 + k)).toNat, by omega⟩
  have hsS : (s : Int) < D 83 2 := by omega
  rw [hs, Int.toNat_natCast] at d3 hm
  have hst := hr.2.2.2.2.2.1 s hsS
  have eA : aArr D k N = nS N k (if aEnd D N s = D 88 k then 3 else 1) (aEnd D N s) := by
    unfold aArr
    rw [hs, Int.toNat_natCast, if_pos ⟨h2, hm⟩]
    rfl
  have hend := aEnd_in hc (N := N) hsS
  obtain ⟨e, he⟩ : ∃ e : Nat, aEnd D N s = (e : Int) := ⟨(aEnd D N s).toNat, by omega⟩
  rw [eA]
  have hp : h (t + 7) k = (s : Int) := by rw [(xC k hk).2.2.1, hs]
  unfold f_Traffic_arrive
  rw [Int.toNat_natCast, hp, gdix (by omega) (by omega), gdix (by omega) (by omega), gdix (by omega) (by omega), gs_s, gdix (by omega) (by omega), Int.toNat_natCast]
  generalize hh1 : gup h (t + 3) s (gand (h (t + 3) s) (gxor (gshl 1 (k : Int)) (-1))) = h1
  have hrow : ∀ x, x ≠ t + 3 → h1 x = h x := fun x hx => by rw [← hh1, gu_r hx]
  have hF1 : gF t h h1 := fun x hx => hrow x (by omega)
  have hr1 : CR D h1 c := CR_F ht hr hF1
  have hS1 : TS D h1 t (nu N (26 + k) 4) := by
    refine TS_gen hc hk xS (nu26_off N k 4) (hrow _ (by omega)) (hrow _ (by omega)) (fun s' hs' => ?_) (fun s' hs' => ⟨Or.inl ⟨by rw [hrow _ (by omega)], ?_⟩, Or.inl ⟨by rw [hrow _ (by omega)], ?_⟩⟩)
    · by_cases q : s' = s
      · subst q
        refine Or.inr (Or.inr ⟨?_, aOnB_no (by rw [nu_at]; decide)⟩)
        rw [← hh1, gu_at]
      · refine Or.inl ⟨?_, ?_⟩
        · rw [← hh1, gu_o q]
        · rw [aOnB_no (by rw [nu_at]; decide), aOnB_ne (by omega)]
    · rw [aW_no (by rw [nu_at]; decide), aW_no (by omega)]
    · rw [aW_no (by rw [nu_at]; decide), aW_no (by omega)]
  have hX1 : TX D h1 t (nu N (26 + k) 4) k := by
    refine TX_nu hc hk ?_
    have := TX_TC (k := k) xC
    intro i hi
    rw [hrow _ (by omega), hrow _ (by omega), hrow _ (by omega), hrow _ (by omega), hrow _ (by omega)]
    exact this i hi
  have h01 : h1 t 0 = (c : Int) := by rw [hrow _ (by omega)]; exact x0
  have h11 : h1 t 1 = nu N (26 + k) 4 0 := by rw [hrow _ (by omega), nu_ne (by omega)]; exact x1
  have h21 : h1 (t + 2) s = N (11 + s) := by rw [hrow _ (by omega)]; exact (xS s hsS).2.1
  have hst1 := hr1.2.2.2.2.2.1 s hsS
  have hct1 := hr1.2.2.2.2.2.2.1 k hk
  have hJ : ∃ h', f_Traffic_arrive_J51 t (k : Int) (e : Int) h1 = some (h', 0) ∧ TR D h' c t (nS N k (if aEnd D N s = D 88 k then 3 else 1) (aEnd D N s)) ∧ gF t h h' := by
    unfold f_Traffic_arrive_J51
    rw [h01, Int.toNat_natCast, gdcl (gsh_c hr.1), gdix (by omega) (by omega), Int.toNat_natCast, hct1.2.1, he]
    by_cases c1 : (e : Int) = D 88 k
    · rw [if_pos c1, if_pos c1, k_settle (by omega), gb_s]
      refine ⟨_, rfl, ?_, gF_tr hF1 (S3_F _ _ _ _ _)⟩
      rw [← nS_congr (N := N) (N' := nu N (26 + k) 4) (nu_ne (by omega)) (fun j q1 q2 q3 => nu_ne q1), TR_iff]
      refine ⟨?_, ?_, TS_calm hc hk (TS_S3 hS1) (by rw [nu_at]; decide) (by rw [nu_at]; decide) (by decide) (by decide), TC_settle hc hk hX1 h11 3 (e : Int)⟩
      · rw [S3_r (by omega) (by omega) (by omega)]; exact h01
      · rw [S3_r (by omega) (by omega) (by omega), nS_0]; exact h11
    · rw [if_neg c1, if_neg c1]
      obtain ⟨h', g1, g2, g3⟩ := k_waitAt hc ht (a := e) hr1 h01 h11 hk (by omega) hS1 hX1 (by rw [nu_at]; decide) (by rw [nu_at]; decide)
      rw [g1, gb_s]
      refine ⟨h', rfl, ?_, gF_tr hF1 g3⟩
      rw [he] at d3
      rw [if_pos (d3.resolve_left c1), nS_congr (N := N) (nu_ne (by omega)) (fun j q1 q2 q3 => nu_ne q1)] at g2
      exact g2
  by_cases c0 : N (11 + s) = 0
  · rw [h21, if_pos c0, h01, Int.toNat_natCast, gdcl (gsh_c hr.1), gdix (by omega) (by omega), hst1.2.1]
    have : D 85 s = (e : Int) := by rw [← he]; unfold aEnd; rw [if_pos c0]
    rw [this]; exact hJ
  · rw [h21, if_neg c0, h01, Int.toNat_natCast, gdcl (gsh_c hr.1), gdix (by omega) (by omega), hst1.1]
    have : D 84 s = (e : Int) := by rw [← he]; unfold aEnd; rw [if_neg c0]
    rw [this]; exact hJ
theorem k_start {D h : gH} (hc : cW D) {c t k : Nat} (ht : 27 ≤ t) {N : Nat → Int} {w : Int} (hn : nW D w N) (hr : CR D h c) (hT : TR D h c t N) (hk : (k : Int) < D 83 6) (h2 : N (26 + k) = 0) (hm : D 89 k = N 0) : ∃ h', f_Traffic_waitAt t (k : Int) (D 87 k) h = some (h', 0) ∧ TR D h' c t (aSta D (-1) k N) ∧ gF t h h' := by
  obtain ⟨x0, x1, xS, xC⟩ := TR_iff.mp hT
  obtain ⟨a1, a2, a3, a4, a5, a6, a7⟩ := (nW_kW.mp hn).2.2.2 k hk
  have hck := hc.2.2.2.2.2.2.1 k hk
  obtain ⟨a, ha⟩ : ∃ a : Nat, D 87 k = (a : Int) := ⟨(D 87 k).toNat, by omega⟩
  have eA : aSta D (-1) k N = nS N k (if 0 ≤ aNx D (a : Int) (D 88 k) then 1 else 4) (a : Int) := by
    unfold aSta nS
    rw [if_pos ⟨h2, hm, by omega⟩, ha]
    funext j
    unfold nu
    by_cases e1 : j = 26 + k
    · rw [if_pos e1, if_pos e1]
    · rw [if_neg e1, if_neg e1]
      by_cases e2 : j = 38 + k
      · rw [if_pos e2, if_pos e2]
      · rw [if_neg e2, if_neg e2]
        by_cases e3 : j = 32 + k
        · rw [if_pos e3, e3, (a5 h2).1, ha]
        · rw [if_neg e3]
  rw [eA, ha]
  exact k_waitAt hc ht hr x0 x1 hk (by omega) xS (TX_TC xC) (by omega) (by omega)
theorem k_letIn {D h : gH} (hc : cW D) {c t s : Nat} (ht : 27 ≤ t) {N : Nat → Int} {w : Int} (hn : nW D w N) (hr : CR D h c) (hT : TR D h c t N) (hs : (s : Int) < D 83 2) : ∃ h', f_Traffic_letIn t (s : Int) h = some (h', 0) ∧ TR D h' c t (aLet D N s) ∧ gF t h h' := by
  have hC : D 83 6 ≤ 6 := hc.2.2.1.2
  have hS : D 83 2 ≤ 9 := hc.2.1.2
  obtain ⟨x0, x1, xS, xC⟩ := TR_iff.mp hT
  obtain ⟨y1, y2, y3, y4, y5⟩ := xS s hs
  have hg := (hn.2.2.1 s hs).2
  have hgz : ∃ g : Nat, N (11 + s) = (g : Int) ∧ (g = 0 ∨ g = 1) := by
    rcases hg with q | q
    · exact ⟨0, q, Or.inl rfl⟩
    · exact ⟨1, q, Or.inr rfl⟩
  obtain ⟨g, hge, hg01⟩ := hgz
  have ei : gadd (gmul 2 (s : Int)) (g : Int) = ((2 * s + g : Nat) : Int) := by
    rw [gmul_eq (by omega) (by omega), gadd_eq (by omega) (by omega)]; omega
  have hq : sI (D 83 6) (h (t + 4) (2 * s + g)) (aW D N s (g : Int)) := by
    rcases hg01 with rfl | rfl
    · exact y4
    · exact y5
  unfold f_Traffic_letIn
  rw [gdix (by omega) (by omega), Int.toNat_natCast, y2, hge, ei, gdix (by omega) (by omega), Int.toNat_natCast, k_firstOf hc hr hT hq, gb_s, aFo_fore]
  unfold aLet
  rw [hge]
  have hf := aFore_lt hc N s (g : Int)
  by_cases c1 : aFore D N s (g : Int) = -1
  · rw [if_pos c1, if_pos (by omega)]
    exact ⟨h, rfl, hT, gF_id t h⟩
  · rw [if_neg c1, if_neg (show ¬ aFore D N s (g : Int) < 0 by omega)]
    obtain ⟨k, e, hk, hwk⟩ := aFore_w hc (show ¬ aFore D N s (g : Int) < 0 by omega)
    rw [e]
    have hk6 : k < 6 := by omega
    obtain ⟨v1, v2, v3⟩ := aW_iff.mp hwk
    simp (disch := omega) only [gdix, gs_s, Int.toNat_natCast]
    generalize hh1 : gup h (t + 4) (2 * s + g) (gand (h (t + 4) (2 * s + g)) (gxor (gshl 1 (k : Int)) (-1))) = h1
    generalize hh2 : gup h1 (t + 3) s (gor (h1 (t + 3) s) (gshl 1 (k : Int))) = h2
    rw [k_settle hk6, gb_s]
    have r1 : ∀ x, x ≠ t + 4 → h1 x = h x := fun x hx => by rw [← hh1, gu_r hx]
    have r2 : ∀ x, x ≠ t + 3 → h2 x = h1 x := fun x hx => by rw [← hh2, gu_r hx]
    have hN : nu (nu (nu N (26 + k) 2) (32 + k) (s : Int)) (38 + k) (N 0) = nS N k 2 (s : Int) := by
      funext j
      unfold nS nu
      by_cases e1 : j = 26 + k
      · rw [if_pos e1, if_neg (by omega), if_neg (by omega), if_pos e1]
      · rw [if_neg e1, if_neg e1]
    rw [hN]
    have hF2 : gF t h h2 := fun x hx => by rw [r2 x (by omega), r1 x (by omega)]
    refine ⟨_, rfl, ?_, gF_tr hF2 (S3_F _ _ _ _ _)⟩
    rw [TR_iff]
    have e26 := nS_26 N k 2 (s : Int)
    have e32 := @nS_32 N k 2 (s : Int)
    have h12 : h2 t 1 = N 0 := by rw [hF2 t (by omega)]; exact x1
    refine ⟨?_, ?_, TS_S3 ?_, TC_settle hc hk ?_ h12 2 (s : Int)⟩
    · rw [S3_r (by omega) (by omega) (by omega), hF2 t (by omega)]; exact x0
    · rw [S3_r (by omega) (by omega) (by omega), nS_0]; exact h12
    · have hw := aW_sd hc (N := N) (k := k) (s := s) v1 v2
      have hsg : sd D s (N (32 + k)) = g := by
        rcases hg01 with rfl | rfl
        · exact ((hw s).1.mp hwk).2
        · exact ((hw s).2.mp hwk).2
      rw [hsg] at hw
      refine TS_gen hc hk xS (nS_off N k 2 (s : Int)) (by rw [r2 _ (by omega), r1 _ (by omega)]) (by rw [r2 _ (by omega), r1 _ (by omega)]) (fun s' hs' => ?_) (fun s' hs' => ⟨?_, ?_⟩)
      · by_cases q : s' = s
        · subst q
          refine Or.inr (Or.inl ⟨?_, aOnB_yes e26 e32⟩)
          rw [← hh2, gu_at, r1 _ (by omega)]
        · refine Or.inl ⟨?_, ?_⟩
          · rw [← hh2, gu_o q, r1 _ (by omega)]
          · rw [aOnB_ne (by rw [e32]; omega), aOnB_no (by omega)]
      · rw [r2 _ (by omega)]
        by_cases q : s' = s ∧ g = 0
        · obtain ⟨q1, q2⟩ := q
          subst q1
          refine Or.inr (Or.inr ⟨?_, aW_no (by rw [e26]; decide)⟩)
          rw [← hh1, q2, show 2 * s' + 0 = 2 * s' by omega, gu_at]
        · refine Or.inl ⟨?_, ?_⟩
          · rw [← hh1, gu_o (by omega)]
          · rw [aW_no (by rw [e26]; decide)]
            cases hz : aW D N s' 0 k with
            | false => rfl
            | true => exact absurd ((hw s').1.mp hz) q
      · rw [r2 _ (by omega)]
        by_cases q : s' = s ∧ g = 1
        · obtain ⟨q1, q2⟩ := q
          subst q1
          refine Or.inr (Or.inr ⟨?_, aW_no (by rw [e26]; decide)⟩)
          rw [← hh1, q2, gu_at]
        · refine Or.inl ⟨?_, ?_⟩
          · rw [← hh1, gu_o (by omega)]
          · rw [aW_no (by rw [e26]; decide)]
            cases hz : aW D N s' 1 k with
            | false => rfl
            | true => exact absurd ((hw s').2.mp hz) q
    · have := TX_TC (k := k) xC
      intro i hi
      rw [r2 _ (by omega), r2 _ (by omega), r2 _ (by omega), r2 _ (by omega), r2 _ (by omega), r1 _ (by omega), r1 _ (by omega), r1 _ (by omega), r1 _ (by omega), r1 _ (by omega)]
      exact this i hi
theorem k_lose {D h : gH} (hc : cW D) {c t k : Nat} (ht : 27 ≤ t) {N : Nat → Int} {w : Int} (hn : nW D w N) (hr : CR D h c) (hT : TR D h c t N) (hk : (k : Int) < D 83 6) (hw1 : N (26 + k) = 1) : ∃ h', f_Traffic_losePatience t (k : Int) h = some (h', 0) ∧ TR D h' c t (aTir D k N) ∧ gF t h h' := by
  have hC : D 83 6 ≤ 6 := hc.2.2.1.2
  have hS : D 83 2 ≤ 9 := hc.2.1.2
  have hK : D 83 0 ≤ 7 := hc.1.2
  obtain ⟨x0, x1, xS, xC⟩ := TR_iff.mp hT
  obtain ⟨a1, a2, a3, a4, a5, a6, a7⟩ := (nW_kW.mp hn).2.2.2 k hk
  obtain ⟨d1, d2, d3⟩ := a6 hw1
  have hck := hc.2.2.2.2.2.2.1 k hk
  have hk6 : k < 6 := by omega
  unfold f_Traffic_losePatience
  simp (disch := omega) only [gdix, gs_s, Int.toNat_natCast]
  rw [(xC k hk).2.2.2.2, gadd_eq (by omega) (by omega)]
  generalize hh1 : gup h (t + 9) k (N (44 + k) + 1) = h1
  have r1 : ∀ x, x ≠ t + 9 → h1 x = h x := fun x hx => by rw [← hh1, gu_r hx]
  have hF1 : gF t h h1 := fun x hx => r1 x (by omega)
  have hr1 : CR D h1 c := CR_F ht hr hF1
  have h01 : h1 t 0 = (c : Int) := by rw [r1 _ (by omega)]; exact x0
  have h91 : h1 (t + 9) k = N (44 + k) + 1 := by rw [← hh1, gu_at]
  have h71 : h1 (t + 7) k = N (32 + k) := by rw [r1 _ (by omega)]; exact (xC k hk).2.2.1
  have hct1 := hr1.2.2.2.2.2.2.1 k hk
  simp only [h01, Int.toNat_natCast, gdcl (gsh_c hr.1), h91, h71, hct1.2.1, hct1.2.2.2]
  unfold aTir
  rw [if_pos hw1]
  generalize hM : nu (nu N (44 + k) (N (44 + k) + 1)) 1 (N 1 + 1) = M
  have m44 : M (44 + k) = N (44 + k) + 1 := by rw [← hM, nu_ne (by omega), nu_at]
  have mo : ∀ j, j ≠ 44 + k → j ≠ 1 → M j = N j := fun j j1 j2 => by rw [← hM, nu_ne j2, nu_ne j1]
  have hoff : nOff k N M := fun j j1 j2 j3 j4 j5 => mo j j4 j5
  have hS1 : TS D h1 t M := by
    have e26 : M (26 + k) = N (26 + k) := mo _ (by omega) (by omega)
    have e32 : M (32 + k) = N (32 + k) := mo _ (by omega) (by omega)
    refine TS_gen hc hk xS hoff (r1 _ (by omega)) (r1 _ (by omega)) (fun s' hs' => Or.inl ⟨by rw [r1 _ (by omega)], ?_⟩) (fun s' hs' => ⟨Or.inl ⟨by rw [r1 _ (by omega)], ?_⟩, Or.inl ⟨by rw [r1 _ (by omega)], ?_⟩⟩)
    · unfold aOnB; rw [e26, e32]
    · unfold aW aNk; rw [e26, e32]
    · unfold aW aNk; rw [e26, e32]
  have hC1 : TC D h1 t M := by
    intro i hi
    obtain ⟨b1, b2, b3, b4, b5⟩ := xC i hi
    rw [r1 _ (by omega), r1 _ (by omega), r1 _ (by omega), r1 _ (by omega), mo _ (by omega) (by omega), mo _ (by omega) (by omega), mo _ (by omega) (by omega), mo _ (by omega) (by omega)]
    refine ⟨b1, b2, b3, b4, ?_⟩
    by_cases q : i = k
    · subst q; rw [h91, m44]
    · rw [← hh1, gu_o q, mo _ (by omega) (by omega)]; exact b5
  by_cases c1 : N (44 + k) + 1 ≤ D 90 k
  · rw [if_pos c1, if_pos c1]
    refine ⟨h1, rfl, ?_, hF1⟩
    rw [TR_iff]
    refine ⟨h01, ?_, hS1, hC1⟩
    rw [r1 _ (by omega), mo _ (by omega) (by omega)]; exact x1
  · rw [if_neg c1, if_neg c1]
    obtain ⟨a, ha⟩ : ∃ a : Nat, N (32 + k) = (a : Int) := ⟨(N (32 + k)).toNat, by omega⟩
    obtain ⟨b, hb⟩ : ∃ b : Nat, D 88 k = (b : Int) := ⟨(D 88 k).toNat, by omega⟩
    rw [ha, hb, k_next hc hr1 (by omega) (by omega), gb_s]
    obtain ⟨s, hs⟩ : ∃ s : Nat, aNx D (a : Int) (b : Int) = (s : Int) := ⟨(aNx D (a : Int) (b : Int)).toNat, by rw [ha, hb] at d3; omega⟩
    have hs2 : (s : Int) < D 83 2 := by have := aNx_in D hc (a : Int) (b : Int); omega
    rw [hs, if_neg (by omega), h01, Int.toNat_natCast, gdcl (gsh_c hr.1), k_sideOf hr1 hs2 hS (a : Int), gb_s]
    have hsd : (if D 84 s = (a : Int) then (0 : Int) else 1) = ((sd D s (a : Int) : Nat) : Int) := by
      unfold sd
      split <;> rfl
    have hsl := sd_lt D s (a : Int)
    rw [hsd]
    have ei : gadd (gmul 2 (s : Int)) ((sd D s (a : Int) : Nat) : Int) = ((2 * s + sd D s (a : Int) : Nat) : Int) := by
      rw [gmul_eq (by omega) (by omega), gadd_eq (by omega) (by omega)]; omega
    rw [ei, gdix (by omega) (by omega), gdix (by omega) (by omega), Int.toNat_natCast]
    unfold f_Traffic_losePatience_J84
    rw [k_settle hk6, gb_s]
    generalize hh2 : gup h1 (t + 4) (2 * s + sd D s (a : Int)) (gand (h1 (t + 4) (2 * s + sd D s (a : Int))) (gxor (gshl 1 (k : Int)) (-1))) = h2
    have r2 : ∀ x, x ≠ t + 4 → h2 x = h1 x := fun x hx => by rw [← hh2, gu_r hx]
    have hF2 : gF t h h2 := gF_tr hF1 (fun x hx => r2 x (by omega))
    have m0 : M 0 = N 0 := mo _ (by omega) (by omega)
    have h12 : h2 t 1 = M 0 := by rw [hF2 t (by omega), m0]; exact x1
    have hN : nu (nu M (26 + k) 4) (38 + k) (N 0) = nS M k 4 (a : Int) := by
      funext j
      unfold nS nu
      rw [m0]
      by_cases e1 : j = 26 + k
      · rw [if_pos e1, if_neg (by omega), if_pos e1]
      · rw [if_neg e1, if_neg e1]
        by_cases e2 : j = 38 + k
        · rw [if_pos e2, if_pos e2]
        · rw [if_neg e2, if_neg e2]
          by_cases e3 : j = 32 + k
          · rw [if_pos e3, e3, mo _ (by omega) (by omega), ha]
          · rw [if_neg e3]
    rw [hN]
    refine ⟨_, rfl, ?_, gF_tr hF2 (S3_F _ _ _ _ _)⟩
    rw [TR_iff]
    have e26 := nS_26 M k 4 (a : Int)
    refine ⟨?_, ?_, TS_S3 ?_, TC_settle hc hk ?_ h12 4 (a : Int)⟩
    · rw [S3_r (by omega) (by omega) (by omega), hF2 t (by omega)]; exact x0
    · rw [S3_r (by omega) (by omega) (by omega), nS_0]; exact h12
    · have m26 : M (26 + k) = 1 := by rw [mo _ (by omega) (by omega)]; exact hw1
      have m32 : M (32 + k) = (a : Int) := by rw [mo _ (by omega) (by omega)]; exact ha
      have hw := aW_sd hc (N := M) (k := k) (s := s) m26 (by rw [m32, hb, hs])
      rw [m32] at hw
      refine TS_gen hc hk hS1 (nS_off M k 4 (a : Int)) (r2 _ (by omega)) (r2 _ (by omega)) (fun s' hs' => Or.inl ⟨by rw [r2 _ (by omega)], ?_⟩) (fun s' hs' => ⟨?_, ?_⟩)
      · rw [aOnB_no (by rw [e26]; decide), aOnB_no (by omega)]
      · by_cases q : s' = s ∧ sd D s (a : Int) = 0
        · obtain ⟨q1, q2⟩ := q
          subst q1
          refine Or.inr (Or.inr ⟨?_, aW_no (by rw [e26]; decide)⟩)
          rw [← hh2, q2, show 2 * s' + 0 = 2 * s' by omega, gu_at]
        · refine Or.inl ⟨?_, ?_⟩
          · rw [← hh2, gu_o (by omega)]
          · rw [aW_no (by rw [e26]; decide)]
            cases hz : aW D M s' 0 k with
            | false => rfl
            | true => exact absurd ((hw s').1.mp hz) q
      · by_cases q : s' = s ∧ sd D s (a : Int) = 1
        · obtain ⟨q1, q2⟩ := q
          subst q1
          refine Or.inr (Or.inr ⟨?_, aW_no (by rw [e26]; decide)⟩)
          rw [← hh2, q2, gu_at]
        · refine Or.inl ⟨?_, ?_⟩
          · rw [← hh2, gu_o (by omega)]
          · rw [aW_no (by rw [e26]; decide)]
            cases hz : aW D M s' 1 k with
            | false => rfl
            | true => exact absurd ((hw s').2.mp hz) q
    · have := TX_TC (k := k) hC1
      intro i hi
      rw [r2 _ (by omega), r2 _ (by omega), r2 _ (by omega), r2 _ (by omega), r2 _ (by omega)]
      exact this i hi
