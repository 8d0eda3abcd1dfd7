/- PURE: every run of calls -/
theorem gok_k {f g : gH → Option gO} {h : gH} {k : gH → Option gO} (hg : gok f g h) (hk : ∀ h2, GI h2 → ∃ h', k h2 = some (h', 1)) : ∃ h', gb (f h) (fun hr1 r1 => gb (g hr1) (fun hr2 r2 => if r1 = r2 then k hr2 else none)) = some (h', 1) := by
  obtain ⟨h1, r, h2, q1, q2, q3⟩ := hg
  obtain ⟨h', e⟩ := hk h2 q3
  exact ⟨h', by rw [q1, gb_s, q2, gb_s, if_pos rfl]; exact e⟩
theorem ite_k {c : Prop} {inst : Decidable c} {x y : Option gO} (h1 : c → ∃ h' : gH, x = some (h', 1)) (h2 : ¬ c → ∃ h' : gH, y = some (h', 1)) : ∃ h' : gH, (@ite _ c inst x y) = some (h', 1) := by
  by_cases hc : c
  · rw [if_pos hc]; exact h1 hc
  · rw [if_neg hc]; exact h2 hc
theorem case_k {sc : Nat → Int32} {k : gH → Option gO} {i : Nat} {h : gH} (g : GI h) (hk : ∀ h2, GI h2 → ∃ h', k h2 = some (h', 1)) : ∃ h', f_case sc k i h = some (h', 1) := by
  unfold f_case
  refine ite_k (fun _ => gok_k (op_feed g _) hk) (fun _ => ?_)
  refine ite_k (fun _ => gok_k (op_city g) hk) (fun _ => ?_)
  refine ite_k (fun _ => gok_k (op_fault g) hk) (fun _ => ?_)
  refine ite_k (fun _ => gok_k (op_told g _) hk) (fun _ => ?_)
  refine ite_k (fun _ => gok_k (op_far g _ _) hk) (fun _ => ?_)
  refine ite_k (fun _ => gok_k (op_street g _ _) hk) (fun _ => ?_)
  refine ite_k (fun _ => gok_k (op_cart g _ _) hk) (fun _ => ?_)
  refine ite_k (fun _ => gok_k (op_next g _) hk) (fun _ => ?_)
  refine ite_k (fun _ => gok_k (op_foremost g _ _) hk) (fun _ => ?_)
  refine ite_k (fun _ => gok_k (op_minute g _) hk) (fun _ => ?_)
  refine ite_k (fun _ => gok_k (op_drift g _) hk) (fun _ => ?_)
  refine ite_k (fun _ => gok_k (op_turn g _) hk) (fun _ => ?_)
  refine ite_k (fun _ => gok_k (op_law g _ _) hk) (fun _ => ?_)
  refine ite_k (fun _ => gok_k (op_rank g _ _) hk) (fun _ => ?_)
  refine ite_k (fun _ => gok_k (op_allHome g _ _) hk) (fun _ => ?_)
  refine ite_k (fun _ => gok_k (op_foreseen g _ _ _) hk) (fun _ => ?_)
  refine ite_k (fun _ => gok_k (op_bought g _ _ _ _) hk) (fun _ => ?_)
  refine ite_k (fun _ => gok_k (op_ranks g _ _) hk) (fun _ => ?_)
  refine ite_k (fun _ => gok_k (op_bestLaw g _ _) hk) (fun _ => ?_)
  refine ite_k (fun _ => gok_k (op_lost g) hk) (fun _ => ?_)
  refine ite_k (fun _ => gok_k (op_costs g _ _) hk) (fun _ => ?_)
  refine ite_k (fun _ => gok_k (op_decree g _) hk) (fun _ => ?_)
  refine ite_k (fun _ => gok_k (op_rut g _ _ _) hk) (fun _ => ?_)
  refine ite_k (fun _ => gok_k (op_laws g _) hk) (fun _ => ?_)
  refine ite_k (fun _ => gok_k (op_write g _ _) hk) (fun _ => ?_)
  refine ite_k (fun _ => gok_k (op_tear g) hk) (fun _ => ?_)
  refine ite_k (fun _ => gok_k (op_judge g) hk) (fun _ => ?_)
  refine ite_k (fun _ => gok_k (op_seed g _ (gRsc sc (i + 1)).2) hk) (fun _ => ?_)
  refine ite_k (fun _ => gok_k (op_keep g _) hk) (fun _ => ?_)
  refine ite_k (fun _ => gok_k (op_goBack g _) hk) (fun _ => ?_)
  exact hk h g
theorem law_k {sc : Nat → Int32} {Ln : Nat} : ∀ (n i : Nat) (h : gH), GI h → 1 ≤ n → Ln < i + 5 * n → ∃ h', f_law sc Ln n i h = some (h', 1) := by
  intro n
  induction n with
  | zero => intro i h g h1; omega
  | succ n ih =>
    intro i h g h1 h2
    rw [f_law]
    by_cases c : Ln < i + 5
    · rw [if_pos c]; exact ⟨h, rfl⟩
    · rw [if_neg c]
      exact case_k g (fun h2 g2 => ih (i + 5) h2 g2 (by omega) (by omega))
/- the beginning -/
theorem gI3_z {x : Nat} (h0 : x ≠ 0) (h1 : x ≠ 25) (y : Nat) : gI3 x y = 0 := by
  show gup (gup (gup gI0 0 0 ((1 : Nat) : Int)) 0 1 ((13 : Nat) : Int)) 25 1 (-1) x y = 0
  rw [gu_r h1, gu_r h0, gu_r h0]; rfl
theorem gI3_rg : gRg gI3 := by
  intro a i
  have e : gI3 a i = if a = 25 ∧ i = 1 then -1 else if a = 0 ∧ i = 1 then ((13 : Nat) : Int) else if a = 0 ∧ i = 0 then ((1 : Nat) : Int) else 0 := rfl
  unfold gR32
  rw [e]
  split
  · decide
  · split
    · decide
    · split <;> decide
theorem gBL_o {t i : Nat} (h : i ∉ gBL t) : i < t ∨ t + 10 ≤ i := by
  by_cases c : i < t ∨ t + 10 ≤ i
  · exact c
  · exfalso
    refine h ?_
    unfold gBL
    refine List.mem_append.mpr (Or.inl (List.mem_map.mpr ⟨i - t, List.mem_range.mpr (by omega), by omega⟩))
theorem gI_start {H4 : gH} (hx : ∀ x, (x < 27 ∨ 67 < x ∨ x = 47) → H4 x = gI3 x) (h0 : H4 27 0 = 1) (h1 : H4 27 1 = 0) (h2 : H4 27 2 = 0) : GI (gup (gup (gup H4 83 16 (-1)) 83 32 (-1)) 83 0 0) := by
  generalize hH : gup (gup (gup H4 83 16 (-1)) 83 32 (-1)) 83 0 0 = H
  have e1 : ∀ x, x ≠ 83 → H x = H4 x := fun x z => by rw [← hH, gu_r z, gu_r z, gu_r z]
  have ez : ∀ x, x ≠ 0 → x ≠ 25 → x ≠ 83 → (x < 27 ∨ 67 < x ∨ x = 47) → ∀ y, H x y = 0 := fun x z1 z2 z3 z4 y => by rw [e1 x z3, hx x z4]; exact gI3_z z1 z2 y
  have e83 : ∀ y, y ≠ 16 → y ≠ 32 → H 83 y = 0 := fun y z1 z2 => by
    rw [← hH]
    by_cases c : y = 0
    · rw [c, gu_at]
    · rw [gu_o c, gu_o z2, gu_o z1, hx 83 (by omega)]; exact gI3_z (by decide) (by decide) y
  have e16 : H 83 16 = -1 := by rw [← hH, gu_o (by decide), gu_o (by decide), gu_at]
  have e32 : H 83 32 = -1 := by rw [← hH, gu_o (by decide), gu_at]
  have e0 : ∀ y, H 0 y = gI3 0 y := fun y => by rw [e1 0 (by decide), hx 0 (by omega)]
  have e25 : ∀ y, H 25 y = gI3 25 y := fun y => by rw [e1 25 (by decide), hx 25 (by omega)]
  have hct : ct H = gI0 := by
    funext x y
    unfold ct
    by_cases c1 : 84 ≤ x ∧ x ≤ 91
    · rw [if_pos c1]; exact ez x (by omega) (by omega) (by omega) (by omega) y
    · rw [if_neg c1]
      by_cases c2 : x = 83
      · rw [if_pos c2]
        by_cases c3 : y = 0 ∨ y = 1 ∨ y = 2 ∨ y = 6
        · rw [if_pos c3]; exact e83 y (by omega) (by omega)
        · rw [if_neg c3]; rfl
      · rw [if_neg c2]; rfl
  have d0 : ∀ x y, gI0 x y = 0 := fun _ _ => rfl
  have N0 : ∀ y, H 92 y = 0 := ez 92 (by decide) (by decide) (by decide) (by omega)
  have no : ∀ (x y k : Nat), ¬ ((k : Int) < gI0 x y) := fun x y k z => by rw [d0] at z; omega
  have hcW : cW gI0 := ⟨⟨by decide, by decide⟩, ⟨by decide, by decide⟩, ⟨by decide, by decide⟩, ⟨by decide, by decide⟩, fun z => absurd z (by decide), fun s hs => absurd hs (no _ _ _), fun s hs => absurd hs (no _ _ _), fun y _ => by rw [d0]; decide⟩
  refine ⟨1, ?_⟩
  unfold GK GC
  rw [hct]
  refine ⟨hcW, fun a b z1 z2 _ _ => ?_, ⟨Or.inl rfl, ?_, ?_, ?_, fun a b ha => absurd ha (no _ _ _)⟩, ⟨⟨?_, ?_, fun s hs => absurd hs (no _ _ _), fun k hk => absurd hk (no _ _ _)⟩, ?_, ⟨⟨?_, ?_, fun s hs => absurd hs (no _ _ _), fun k hk => absurd hk (no _ _ _)⟩, ?_, fun k hk => absurd hk (no _ _ _), ?_⟩, ?_, ?_⟩, e32, ⟨?_, ?_, ?_, fun i hi => ?_⟩, ⟨?_, ?_, fun i hi => ?_⟩, ⟨?_, ?_, fun i hi => ?_⟩, fun i hi => ⟨?_, fun z => ?_⟩, Or.inl (ez 72 (by decide) (by decide) (by decide) (by omega) 5)⟩
  · rw [d0] at z2; omega
  · rw [e0]; rfl
  · rw [e0]; rfl
  · exact ⟨Or.inl rfl, ez 1 (by decide) (by decide) (by decide) (by omega) 0, ez 1 (by decide) (by decide) (by decide) (by omega) 1, ez 1 (by decide) (by decide) (by decide) (by omega) 2, ez 1 (by decide) (by decide) (by decide) (by omega) 3, fun s hs => absurd hs (no _ _ _), fun s hs => absurd hs (no _ _ _), fun a b ha => absurd ha (no _ _ _)⟩
  · rw [e1 27 (by decide), h0]; rfl
  · rw [e1 27 (by decide), h1, N0]
  · rw [e1 27 (by decide), h2, e83 13 (by decide) (by decide)]
  · rw [N0]; decide
  · rw [N0]; decide
  · unfold tW
    rw [N0, aTol_0 (fun k hk => absurd hk (no _ _ _))]
  · rw [N0]; decide
  · rw [e83 13 (by decide) (by decide)]; decide
  · rw [e83 13 (by decide) (by decide)]; decide
  · rw [e83 15 (by decide) (by decide)]; decide
  · rw [e83 15 (by decide) (by decide), e25]; rfl
  · rw [e16, e25]; rfl
  · rw [e83 15 (by decide) (by decide)] at hi; omega
  · rw [e83 38 (by decide) (by decide)]; decide
  · rw [e83 38 (by decide) (by decide)]; exact ez 75 (by decide) (by decide) (by decide) (by omega) 0
  · rw [e83 38 (by decide) (by decide)] at hi; omega
  · rw [e83 42 (by decide) (by decide)]; decide
  · rw [e83 42 (by decide) (by decide)]; exact ez 79 (by decide) (by decide) (by decide) (by omega) 0
  · rw [e83 42 (by decide) (by decide)] at hi; omega
  · rw [ez 68 (by decide) (by decide) (by decide) (by omega) i, ez 115 (by decide) (by decide) (by decide) (by omega) i]
  · exact absurd (ez 115 (by decide) (by decide) (by decide) (by omega) i) z
theorem pure_all (sc : Nat → Int32) (Ln : Nat) (hLn : Ln ≤ 2560) : ∃ (o1 o2 o3 o4 : gO) (h' : gH), gRg gI3 ∧ f_Traffic_begin 27 1 gI3 = some o1 ∧ (∀ i, i ∉ gBL 27 → o1.1 i = gI3 i) ∧ gRg o1.1 ∧ f_Traffic_begin 37 1 o1.1 = some o2 ∧ (∀ i, i ∉ gBL 37 → o2.1 i = o1.1 i) ∧ gRg o2.1 ∧ f_Traffic_begin 48 1 o2.1 = some o3 ∧ (∀ i, i ∉ gBL 48 → o3.1 i = o2.1 i) ∧ gRg o3.1 ∧ f_Traffic_begin 58 1 o3.1 = some o4 ∧ (∀ i, i ∉ gBL 58 → o4.1 i = o3.1 i) ∧ gRg o4.1 ∧ f_law sc Ln 600 0 (gup (gup (gup o4.1 83 16 (-1)) 83 32 (-1)) 83 0 0) = some (h', 1) := by
  obtain ⟨a1, p1, ⟨q1, q1a, q1b, q1c⟩, -, -, r1⟩ := kq_begin (h := gI3) (t := 27) (c := 1) (Or.inl rfl) (Or.inl rfl)
  obtain ⟨a2, p2, ⟨q2, -⟩, -, -, r2⟩ := kq_begin (h := a1) (t := 37) (c := 1) (Or.inr (Or.inl rfl)) (Or.inl rfl)
  obtain ⟨a3, p3, ⟨q3, -⟩, -, -, r3⟩ := kq_begin (h := a2) (t := 48) (c := 1) (Or.inr (Or.inr (Or.inl rfl))) (Or.inl rfl)
  obtain ⟨a4, p4, ⟨q4, -⟩, -, -, r4⟩ := kq_begin (h := a3) (t := 58) (c := 1) (Or.inr (Or.inr (Or.inr rfl))) (Or.inl rfl)
  have s1 := r1 gI3_rg
  have s2 := r2 s1
  have s3 := r3 s2
  have s4 := r4 s3
  have x27 : a4 27 = a1 27 := by rw [q4 27 (by omega), q3 27 (by omega), q2 27 (by omega)]
  have hx : ∀ x, (x < 27 ∨ 67 < x ∨ x = 47) → a4 x = gI3 x := fun x hx => by rw [q4 x (by omega), q3 x (by omega), q2 x (by omega), q1 x (by omega)]
  obtain ⟨h', e⟩ := law_k (sc := sc) (Ln := Ln) 600 0 _ (gI_start hx (by rw [x27, q1a]; rfl) (by rw [x27, q1b]) (by rw [x27, q1c]; exact gI3_z (by decide) (by decide) 2)) (by omega) (by omega)
  exact ⟨(a1, 0), (a2, 0), (a3, 0), (a4, 0), h', gI3_rg, p1, fun i hi => q1 i (gBL_o hi), s1, p2, fun i hi => q2 i (gBL_o hi), s2, p3, fun i hi => q3 i (gBL_o hi), s3, p4, fun i hi => q4 i (gBL_o hi), s4, e⟩
