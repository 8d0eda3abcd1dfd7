/- PURE: a clause of the text, read by the reference -/
theorem uC_no (T : Nat → Int) (n : Nat) {K : Int} (hK : ¬ K = 0) (pl : Int) (p : Nat) : (uC T n K (0, pl, p)).1 = (3, (p : Int), p) := by
  have e0 : uW (decide (K = 0)) pl p = (3, (p : Int), p) := by unfold uW; rw [if_neg (by rw [decide_eq_true_eq]; exact hK)]
  unfold uC
  show uE T n (uN T n 1 60 (uN T n 2 7 (uW (decide (K = 0)) pl p)).2).2 = _
  rw [e0]; rfl
theorem s5_no (T : Nat → Int) (n : Nat) (K : Int) (pl : Int) (p : Nat) : s5 T n K false (0, pl, p) = (3, (p : Int), p) := rfl
theorem k6_no (T : Nat → Int) (n : Nat) (K : Int) (pl : Int) (p : Nat) : k6 T n K false (0, pl, p) = (3, (p : Int), p) := rfl
theorem m_E {h : gH} {σ : Nat → Int} {T : Nat → Int} {n : Nat} {u : Int × Int × Nat} (hT : LT h 93 n T) (hu : RM σ n u) : ∃ σ', f_Mo_takeClause_J173 u.1 (grr h 83 σ) = some (grr h 83 σ', (uE T n u).1) ∧ RM σ' n (uE T n u) ∧ mS σ σ' := by
  obtain ⟨h0, h16, hnn, h3⟩ := hu
  have hn := hT.1
  unfold f_Mo_takeClause_J173 f_Mo_takeClause_J199 uE
  by_cases c0 : u.1 = 0
  · obtain ⟨p3, pn⟩ := h3 c0
    rw [if_pos c0, if_pos c0, m_here hT h0 p3 pn, gb_s]
    obtain ⟨s1, s2, s3⟩ := sk_spec (T := T) (n := n) (n - u.2.2) u.2.2 (Nat.le_refl _) pn
    generalize sk T n u.2.2 = q at s1 s2 s3 ⊢
    by_cases c1 : q < n ∧ T q = 59
    · rw [if_pos c1, if_pos c1.1, if_pos c1.2, gs_s, grr_at, nu_at, ga_s (by omega), grr_up, nu_nu]
      refine ⟨_, by rw [c0], ⟨?_, ?_, by show (0 : Int) ≤ 0; decide, fun _ => ⟨nu_at _ _ _, by show q + 1 ≤ n; omega⟩⟩, fun y y1 y2 y3 y4 => nu_ne y2⟩
      · rw [nu_ne (by decide)]; exact h0
      · rw [nu_ne (by decide)]; exact h16
    · have hne : ¬ (if q < n then T q else -1) = 59 := by
        by_cases c2 : q < n
        · rw [if_pos c2]; exact fun z => c1 ⟨c2, z⟩
        · rw [if_neg c2]; decide
      unfold f_Mo_fails
      rw [if_neg c1, if_neg hne, gs_s, grr_at, nu_at, grr_up, gb_s]
      refine ⟨_, rfl, ⟨?_, nu_at _ _ _, by show (0 : Int) ≤ 1; decide, fun z => absurd (show (1 : Int) = 0 from z) (by decide)⟩, fun y y1 y2 y3 y4 => by rw [nu_ne y1, nu_ne y2]⟩
      rw [nu_ne (by decide), nu_ne (by decide)]; exact h0
  · rw [if_neg c0, if_neg c0, gs_s, grr_up]
    refine ⟨_, rfl, ⟨?_, ?_, hnn, fun z => absurd z c0⟩, fun y y1 y2 y3 y4 => nu_ne y2⟩
    · rw [nu_ne (by decide)]; exact h0
    · rw [nu_ne (by decide)]; exact h16
def mRo (h : gH) (σ q : Nat → Int) (R : gH) : Prop := h 94 0 = q 0 ∧ h 94 1 = q 1 ∧ σ 21 = q 2 ∧ σ 26 = q 3 ∧
  (∀ s : Nat, (s : Int) < q 2 → h 95 s = R 1 s ∧ h 96 s = R 2 s ∧ h 97 s = R 3 s ∧ h 98 s = R 4 s) ∧
  (∀ k : Nat, (k : Int) < q 3 → h 99 k = R 5 k ∧ h 100 k = R 6 k ∧ h 101 k = R 7 k ∧ h 102 k = R 8 k ∧ h 103 k = R 9 k)
def kM (h h' : gH) : Prop := ∀ x, x < 94 ∨ 103 < x → h' x = h x
theorem uN_0 {T : Nat → Int} {n : Nat} {lo hi : Int} {u : Int × Int × Nat} (h : (uN T n lo hi u).2.1 = 0) : u.1 = 0 := by
  by_cases c : u.1 = 0
  · exact c
  · have : uN T n lo hi u = (0, u) := by unfold uN; rw [if_neg c]
    rw [this] at h
    exact h
theorem m_takeCity {h : gH} {σ : Nat → Int} {T : Nat → Int} {n : Nat} {u : Int × Int × Nat} (hT : LT h 93 n T) (hu : RM σ n u) (h00 : u.1 = 0) : ∃ σ' h', f_Mo_takeCity (grr h 83 σ) = some (grr h' 83 σ', (uN T n 1 60 (uN T n 2 7 u).2).2.1) ∧ RM σ' n (uN T n 1 60 (uN T n 2 7 u).2).2 ∧ mS σ σ' ∧ kM h h' ∧ ((uN T n 1 60 (uN T n 2 7 u).2).2.1 = 0 → h' = gup (gup h 94 0 (uN T n 2 7 u).1) 94 1 (uN T n 1 60 (uN T n 2 7 u).2).1) := by
  have hl : gln 94 = 2 := by decide +kernel
  obtain ⟨σ1, h1, e1, r1, m1, w1, f1, -⟩ := m_step hT hu (r := 94) (k := 0) (by decide) (by rw [hl]; decide) 2 7 (fun r2 hx => if r2 ≤ 0 then gb (f_Mo_into 94 ((1 : Nat) : Int) 1 60 hx) (fun h4 r5 => some (h4, r5)) else some (hx, r2))
  rw [if_pos (by omega)] at e1
  have hT1 : LT h1 93 n T := ⟨hT.1, fun i hi => by rw [f1 93 (by decide)]; exact hT.2 i hi⟩
  obtain ⟨σ2, h2, e2, r2, m2, w2, f2, -⟩ := m_step hT1 r1 (r := 94) (k := 1) (by decide) (by rw [hl]; decide) 1 60 (fun r5 hx => some (hx, r5))
  have e3 : f_Mo_takeCity (grr h 83 σ) = gb (f_Mo_into 94 ((0 : Nat) : Int) 2 7 (grr h 83 σ)) (fun h1 r2 => if r2 ≤ 0 then gb (f_Mo_into 94 ((1 : Nat) : Int) 1 60 h1) (fun h4 r5 => some (h4, r5)) else some (h1, r2)) := rfl
  rw [e3]
  refine ⟨σ2, h2, (e1.trans e2), r2, mS_tr m1 m2, fun x hx => by rw [f2 x (by omega), f1 x (by omega)], fun z => ?_⟩
  have z1 : (uN T n 2 7 u).2.1 = 0 := uN_0 z
  rw [w2 z, w1 z1]
theorem uO_0 {T : Nat → Int} {n : Nat} {a hi : Int} {u : Int × Int × Nat} (h : (uO T n a hi u).2.1 = 0) : (uN T n 0 hi u).2.1 = 0 ∧ (uN T n 0 hi u).1 ≠ a ∧ uO T n a hi u = uN T n 0 hi u := by
  unfold uO at h ⊢
  by_cases c : (uN T n 0 hi u).2.1 = 0
  · rw [if_pos c] at h ⊢
    by_cases c2 : (uN T n 0 hi u).1 = a
    · rw [if_pos c2] at h
      exact absurd (show (4 : Int) = 0 from h) (by decide)
    · rw [if_neg c2]
      exact ⟨c, c2, rfl⟩
  · rw [if_neg c] at h
    exact absurd h c
/- two corners that differ -/
theorem m_two {h : gH} {σ : Nat → Int} {T : Nat → Int} {n : Nat} {u : Int × Int × Nat} {r k : Nat} {K : Int} (hT : LT h 93 n T) (hu : RM σ n u) (h00 : u.1 = 0) (hr : 95 ≤ r) (hk1 : k < gln r) (hk2 : k < gln (r + 1)) (hK : h 94 0 = K) (hKb : 0 ≤ K ∧ K ≤ 7) : ∃ σ' h', f_Mo_takeTwo r (r + 1) (k : Int) (grr h 83 σ) = some (grr h' 83 σ', (uO T n (uN T n 0 (K - 1) u).1 (K - 1) (uN T n 0 (K - 1) u).2).2.1) ∧ RM σ' n (uO T n (uN T n 0 (K - 1) u).1 (K - 1) (uN T n 0 (K - 1) u).2).2 ∧ mS σ σ' ∧ (∀ x, x ≠ r → x ≠ r + 1 → h' x = h x) ∧ ((uO T n (uN T n 0 (K - 1) u).1 (K - 1) (uN T n 0 (K - 1) u).2).2.1 = 0 → h' = gup (gup h r k (uN T n 0 (K - 1) u).1) (r + 1) k (uO T n (uN T n 0 (K - 1) u).1 (K - 1) (uN T n 0 (K - 1) u).2).1) := by
  obtain ⟨σ1, h1, e1, r1, m1, w1, f1, -⟩ := m_step hT hu (r := r) (k := k) (by omega) hk1 0 (K - 1) (fun r2 hx => if r2 ≤ 0 then gb (f_Mo_into (r + 1) (k : Int) 0 (K - 1) hx) (fun h4 r5 => f_Mo_takeTwo_J42 r (r + 1) (k : Int) r5 h4) else f_Mo_takeTwo_J42 r (r + 1) (k : Int) r2 hx)
  rw [if_pos (by omega)] at e1
  have hT1 : LT h1 93 n T := ⟨hT.1, fun i hi => by rw [f1 93 (by omega)]; exact hT.2 i hi⟩
  obtain ⟨σ2, h2, e2, r2, m2, w2, f2, g2⟩ := m_step hT1 r1 (r := r + 1) (k := k) (by omega) hk2 0 (K - 1) (fun r5 hx => f_Mo_takeTwo_J42 r (r + 1) (k : Int) r5 hx)
  have e3 : f_Mo_takeTwo r (r + 1) (k : Int) (grr h 83 σ) = gb (f_Mo_into r (k : Int) 0 (K - 1) (grr h 83 σ)) (fun h1 r2 => if r2 ≤ 0 then gb (f_Mo_into (r + 1) (k : Int) 0 (K - 1) h1) (fun h4 r5 => f_Mo_takeTwo_J42 r (r + 1) (k : Int) r5 h4) else f_Mo_takeTwo_J42 r (r + 1) (k : Int) r2 h1) := by
    unfold f_Mo_takeTwo
    rw [gdix (by omega) (by omega), grr_ne (show 94 ≠ 83 by decide), hK, gsub_eq (by omega) (by omega)]
    obtain ⟨σ', z1, z2, z3, z4⟩ := m_num hT hu h00 0 (K - 1)
    have hin : f_Mo_into r (k : Int) 0 (K - 1) (grr h 83 σ) = some (grr (gup h r k (σ' 18)) 83 σ', (uN T n 0 (K - 1) u).2.1) := by
      unfold f_Mo_into
      rw [z1, gb_s, gdix (by omega) (by omega), gs_s, Int.toNat_natCast, grr_at, grr_gu (by omega)]
    rw [hin, gb_s, gb_s, gdix (by omega) (by omega), grr_ne (show 94 ≠ 83 by decide), gu_r (show 94 ≠ r by omega), hK, gsub_eq (by omega) (by omega)]
  rw [e3, e1, e2]
  generalize hA : uN T n 0 (K - 1) u = A at r1 w1 e1 e2 r2 w2 g2 ⊢
  unfold uO
  generalize hB : uN T n 0 (K - 1) A.2 = B at r2 w2 g2 e2 ⊢
  have hBn := r2.2.2.1
  unfold f_Mo_takeTwo_J42
  by_cases c1 : B.2.1 = 0
  · have hA0 : A.2.1 = 0 := by rw [← hB] at c1; exact uN_0 c1
    have eh2 := w2 c1
    have eh1 := w1 hA0
    have v1 : h2 r k = A.1 := by rw [eh2, gu_r (by omega), eh1, gu_at]
    have v2 : h2 (r + 1) k = B.1 := by rw [eh2, gu_at]
    rw [if_pos (by omega), gdix (by omega) (by omega), gdix (by omega) (by omega), grr_ne (by omega), grr_ne (by omega), Int.toNat_natCast, v1, v2, if_pos c1]
    by_cases c2 : B.1 = A.1
    · unfold f_Mo_fails
      rw [if_pos c2.symm, if_pos c2, gs_s, grr_at, g2 c1, grr_up, gb_s]
      refine ⟨_, h2, rfl, ⟨?_, nu_at _ _ _, by show (0 : Int) ≤ 4; decide, fun z => absurd (show (4 : Int) = 0 from z) (by decide)⟩, fun y y1 y2 y3 y4 => by rw [nu_ne y1]; exact (mS_tr m1 m2) y y1 y2 y3 y4, fun x x1 x2 => by rw [f2 x x2, f1 x x1], fun z => absurd (show (4 : Int) = 0 from z) (by decide)⟩
      rw [nu_ne (by decide)]; exact r2.1
    · rw [if_neg (fun z => c2 z.symm), if_neg c2, c1]
      refine ⟨σ2, h2, rfl, r2, mS_tr m1 m2, fun x x1 x2 => by rw [f2 x x2, f1 x x1], fun _ => ?_⟩
      rw [eh2, eh1]
  · rw [if_neg (by omega), if_neg c1]
    exact ⟨σ2, h2, rfl, r2, mS_tr m1 m2, fun x x1 x2 => by rw [f2 x x2, f1 x x1], fun z => absurd z c1⟩
theorem m_takeStreet {h : gH} {σ : Nat → Int} {T : Nat → Int} {n S : Nat} {pl : Int} {p : Nat} {K : Int} (hT : LT h 93 n T) (hu : RM σ n (0, pl, p + 1)) (hS : σ 21 = (S : Int)) (hS9 : S < 9) (hK : h 94 0 = K) (hKb : 0 ≤ K ∧ K ≤ 7) : ∃ σ' h', f_Mo_takeStreet (grr h 83 σ) = some (grr h' 83 σ', (s4 T n K true (0, pl, p)).2.1) ∧ RM σ' n (s4 T n K true (0, pl, p)).2 ∧ mS (nu σ 21 ((S + 1 : Nat) : Int)) σ' ∧ (∀ x, x < 95 ∨ 98 < x → h' x = h x) ∧ ((s4 T n K true (0, pl, p)).2.1 = 0 → h' = gup (gup (gup (gup h 95 S (s1 T n K true (0, pl, p)).1) 96 S (s2 T n K true (0, pl, p)).1) 97 S (s3 T n K true (0, pl, p)).1) 98 S (s4 T n K true (0, pl, p)).1) := by
  have l5 : gln 95 = 9 := by decide +kernel
  have l6 : gln 96 = 9 := by decide +kernel
  have l7 : gln 97 = 9 := by decide +kernel
  have l8 : gln 98 = 9 := by decide +kernel
  have hu' : RM (nu σ 21 ((S + 1 : Nat) : Int)) n (0, pl, p + 1) := by
    obtain ⟨q1, q2, q3, q4⟩ := hu
    exact ⟨by rw [nu_ne (by decide)]; exact q1, by rw [nu_ne (by decide)]; exact q2, q3, fun z => by rw [nu_ne (by decide)]; exact q4 z⟩
  obtain ⟨σ1, h1, e1, r1, m1, f1, w1⟩ := m_two (r := 95) (k := S) hT hu' rfl (by decide) (by rw [l5]; exact hS9) (by rw [l6]; exact hS9) hK hKb
  have d2 : uO T n (uN T n 0 (K - 1) (0, pl, p + 1)).1 (K - 1) (uN T n 0 (K - 1) (0, pl, p + 1)).2 = s2 T n K true (0, pl, p) := rfl
  have d1 : uN T n 0 (K - 1) (0, pl, p + 1) = s1 T n K true (0, pl, p) := rfl
  rw [d2] at e1 r1 w1
  rw [d1] at w1
  have hT1 : LT h1 93 n T := ⟨hT.1, fun i hi => by rw [f1 93 (by decide) (by decide)]; exact hT.2 i hi⟩
  obtain ⟨σ2, h2, e2, r2, m2, w2, f2, -⟩ := m_step hT1 r1 (r := 97) (k := S) (by decide) (by rw [l7]; exact hS9) 1 9 (fun r6 hx => f_Mo_takeStreet_J49 (S : Int) r6 hx)
  have d3 : uN T n 1 9 (s2 T n K true (0, pl, p)).2 = s3 T n K true (0, pl, p) := rfl
  rw [d3] at e2 r2 w2
  have hT2 : LT h2 93 n T := ⟨hT.1, fun i hi => by rw [f2 93 (by decide)]; exact hT1.2 i hi⟩
  obtain ⟨σ3, h3, e3, r3, m3, w3, f3, -⟩ := m_step hT2 r2 (r := 98) (k := S) (by decide) (by rw [l8]; exact hS9) 0 4 (fun r9 hx => some (hx, r9))
  have d4 : uN T n 0 4 (s3 T n K true (0, pl, p)).2 = s4 T n K true (0, pl, p) := rfl
  rw [d4] at e3 r3 w3
  have e0 : f_Mo_takeStreet (grr h 83 σ) = some (grr h3 83 σ3, (s4 T n K true (0, pl, p)).2.1) := by
    unfold f_Mo_takeStreet
    rw [gs_s, grr_at, hS, ga_s (by omega), grr_up, e1, gb_s]
    exact e2.trans e3
  refine ⟨σ3, h3, e0, r3, mS_tr m1 (mS_tr m2 m3), fun x hx => by rw [f3 x (by omega), f2 x (by omega), f1 x (by omega) (by omega)], fun z => ?_⟩
  have z3 : (s3 T n K true (0, pl, p)).2.1 = 0 := uN_0 z
  have z2 : (s2 T n K true (0, pl, p)).2.1 = 0 := uN_0 z3
  rw [w3 z, w2 z3, w1 z2]
theorem m_takeCart {h : gH} {σ : Nat → Int} {T : Nat → Int} {n S : Nat} {pl : Int} {p : Nat} {K : Int} (hT : LT h 93 n T) (hu : RM σ n (0, pl, p + 1)) (hS : σ 26 = (S : Int)) (hS9 : S < 6) (hK : h 94 0 = K) (hKb : 0 ≤ K ∧ K ≤ 7) : ∃ σ' h', f_Mo_takeCart (grr h 83 σ) = some (grr h' 83 σ', (k5 T n K true (0, pl, p)).2.1) ∧ RM σ' n (k5 T n K true (0, pl, p)).2 ∧ mS (nu σ 26 ((S + 1 : Nat) : Int)) σ' ∧ (∀ x, x < 99 ∨ 103 < x → h' x = h x) ∧ ((k5 T n K true (0, pl, p)).2.1 = 0 → h' = gup (gup (gup (gup (gup h 99 S (s1 T n K true (0, pl, p)).1) 100 S (s2 T n K true (0, pl, p)).1) 101 S (k3 T n K true (0, pl, p)).1) 102 S (k4 T n K true (0, pl, p)).1) 103 S (k5 T n K true (0, pl, p)).1) := by
  have l5 : gln 99 = 6 := by decide +kernel
  have l6 : gln 100 = 6 := by decide +kernel
  have l7 : gln 101 = 6 := by decide +kernel
  have l8 : gln 102 = 6 := by decide +kernel
  have l9 : gln 103 = 6 := by decide +kernel
  have hu' : RM (nu σ 26 ((S + 1 : Nat) : Int)) n (0, pl, p + 1) := by
    obtain ⟨q1, q2, q3, q4⟩ := hu
    exact ⟨by rw [nu_ne (by decide)]; exact q1, by rw [nu_ne (by decide)]; exact q2, q3, fun z => by rw [nu_ne (by decide)]; exact q4 z⟩
  obtain ⟨σ1, h1, e1, r1, m1, f1, w1⟩ := m_two (r := 99) (k := S) hT hu' rfl (by decide) (by rw [l5]; exact hS9) (by rw [l6]; exact hS9) hK hKb
  have d2 : uO T n (uN T n 0 (K - 1) (0, pl, p + 1)).1 (K - 1) (uN T n 0 (K - 1) (0, pl, p + 1)).2 = s2 T n K true (0, pl, p) := rfl
  have d1 : uN T n 0 (K - 1) (0, pl, p + 1) = s1 T n K true (0, pl, p) := rfl
  rw [d2] at e1 r1 w1
  rw [d1] at w1
  have hT1 : LT h1 93 n T := ⟨hT.1, fun i hi => by rw [f1 93 (by decide) (by decide)]; exact hT.2 i hi⟩
  obtain ⟨σ2, h2, e2, r2, m2, w2, f2, -⟩ := m_step hT1 r1 (r := 101) (k := S) (by decide) (by rw [l7]; exact hS9) 0 200 (fun r6 hx => f_Mo_takeCart_J50 (S : Int) r6 hx)
  have d3 : uN T n 0 200 (s2 T n K true (0, pl, p)).2 = k3 T n K true (0, pl, p) := rfl
  rw [d3] at e2 r2 w2
  have hT2 : LT h2 93 n T := ⟨hT.1, fun i hi => by rw [f2 93 (by decide)]; exact hT1.2 i hi⟩
  obtain ⟨σ3, h3, e3, r3, m3, w3, f3, -⟩ := m_step hT2 r2 (r := 102) (k := S) (by decide) (by rw [l8]; exact hS9) 1 9 (fun r9 hx => f_Mo_takeCart_J71 (S : Int) r9 hx)
  have d4 : uN T n 1 9 (k3 T n K true (0, pl, p)).2 = k4 T n K true (0, pl, p) := rfl
  rw [d4] at e3 r3 w3
  have hT3 : LT h3 93 n T := ⟨hT.1, fun i hi => by rw [f3 93 (by decide)]; exact hT2.2 i hi⟩
  obtain ⟨σ4, h4, e4, r4, m4, w4, f4, -⟩ := m_step hT3 r3 (r := 103) (k := S) (by decide) (by rw [l9]; exact hS9) 0 99 (fun r9 hx => some (hx, r9))
  have d5 : uN T n 0 99 (k4 T n K true (0, pl, p)).2 = k5 T n K true (0, pl, p) := rfl
  rw [d5] at e4 r4 w4
  have e0 : f_Mo_takeCart (grr h 83 σ) = some (grr h4 83 σ4, (k5 T n K true (0, pl, p)).2.1) := by
    unfold f_Mo_takeCart
    rw [gs_s, grr_at, hS, ga_s (by omega), grr_up, e1, gb_s]
    exact e2.trans (e3.trans e4)
  refine ⟨σ4, h4, e0, r4, mS_tr m1 (mS_tr m2 (mS_tr m3 m4)), fun x hx => by rw [f4 x (by omega), f3 x (by omega), f2 x (by omega), f1 x (by omega) (by omega)], fun z => ?_⟩
  have z4 : (k4 T n K true (0, pl, p)).2.1 = 0 := uN_0 z
  have z3 : (k3 T n K true (0, pl, p)).2.1 = 0 := uN_0 z4
  have z2 : (s2 T n K true (0, pl, p)).2.1 = 0 := uN_0 z3
  rw [w4 z, w3 z4, w2 z3, w1 z2]
def mT (σ σ' : Nat → Int) : Prop := ∀ y, y ≠ 16 → y ≠ 17 → y ≠ 18 → y ≠ 19 → y ≠ 21 → y ≠ 26 → σ' y = σ y
theorem uE_0 {T : Nat → Int} {n : Nat} {u : Int × Int × Nat} (h : (uE T n u).1 = 0) : u.1 = 0 := by
  by_cases c : u.1 = 0
  · exact c
  · unfold uE at h
    rw [if_neg c] at h
    exact h
theorem aCl_99 {T q : Nat → Int} {n p : Nat} {pl : Int} {R : gH} (h : T p = 99) : aCl T n (0, pl, p) q R = if (uC T n (q 0) (0, pl, p)).1.1 = 0 then ((uC T n (q 0) (0, pl, p)).1, nu (nu q 0 (uC T n (q 0) (0, pl, p)).2.1) 1 (uC T n (q 0) (0, pl, p)).2.2, R) else ((uC T n (q 0) (0, pl, p)).1, q, R) := if_pos h
theorem aCl_0 {T q : Nat → Int} {n p : Nat} {pl : Int} {R : gH} (h : T p ≠ 99) (h0 : q 0 = 0) : aCl T n (0, pl, p) q R = ((1, (p : Int), p), q, R) := (if_neg h).trans (if_pos h0)
theorem aCl_115 {T q : Nat → Int} {n p : Nat} {pl : Int} {R : gH} (h0 : q 0 ≠ 0) (h1 : T p = 115) : aCl T n (0, pl, p) q R = if (s5 T n (q 0) (decide (q 2 < 9)) (0, pl, p)).1 = 0 then (s5 T n (q 0) (decide (q 2 < 9)) (0, pl, p), nu q 2 (q 2 + 1), gup (gup (gup (gup R 1 (q 2).toNat (s1 T n (q 0) (decide (q 2 < 9)) (0, pl, p)).1) 2 (q 2).toNat (s2 T n (q 0) (decide (q 2 < 9)) (0, pl, p)).1) 3 (q 2).toNat (s3 T n (q 0) (decide (q 2 < 9)) (0, pl, p)).1) 4 (q 2).toNat (s4 T n (q 0) (decide (q 2 < 9)) (0, pl, p)).1) else (s5 T n (q 0) (decide (q 2 < 9)) (0, pl, p), q, R) := (if_neg (show ¬ T p = 99 by omega)).trans ((if_neg h0).trans (if_pos h1))
theorem aCl_107 {T q : Nat → Int} {n p : Nat} {pl : Int} {R : gH} (h0 : q 0 ≠ 0) (h1 : T p = 107) : aCl T n (0, pl, p) q R = if (k6 T n (q 0) (decide (q 3 < 6)) (0, pl, p)).1 = 0 then (k6 T n (q 0) (decide (q 3 < 6)) (0, pl, p), nu q 3 (q 3 + 1), gup (gup (gup (gup (gup R 5 (q 3).toNat (s1 T n (q 0) (decide (q 3 < 6)) (0, pl, p)).1) 6 (q 3).toNat (s2 T n (q 0) (decide (q 3 < 6)) (0, pl, p)).1) 7 (q 3).toNat (k3 T n (q 0) (decide (q 3 < 6)) (0, pl, p)).1) 8 (q 3).toNat (k4 T n (q 0) (decide (q 3 < 6)) (0, pl, p)).1) 9 (q 3).toNat (k5 T n (q 0) (decide (q 3 < 6)) (0, pl, p)).1) else (k6 T n (q 0) (decide (q 3 < 6)) (0, pl, p), q, R) := (if_neg (show ¬ T p = 99 by omega)).trans ((if_neg h0).trans ((if_neg (show ¬ T p = 115 by omega)).trans (if_pos h1)))
theorem aCl_x {T q : Nat → Int} {n p : Nat} {pl : Int} {R : gH} (h : T p ≠ 99) (h0 : q 0 ≠ 0) (h1 : T p ≠ 115) (h2 : T p ≠ 107) : aCl T n (0, pl, p) q R = ((1, (p : Int), p), q, R) := (if_neg h).trans ((if_neg h0).trans ((if_neg h1).trans (if_neg h2)))
theorem m_clause {h : gH} {n p : Nat} {σ T q : Nat → Int} {R : gH} {pl : Int} (hp : p < n) (hT : LT h 93 n T) (h32 : T p ≠ 32) (hu : RM σ n (0, pl, p)) (hR : mRo h σ q R) (hq : qI q) : ∃ h' σ', f_Mo_takeClause (grr h 83 σ) = some (grr h' 83 σ', (aCl T n (0, pl, p) q R).1.1) ∧ RM σ' n (aCl T n (0, pl, p) q R).1 ∧ kM h h' ∧ mT σ σ' ∧ ((aCl T n (0, pl, p) q R).1.1 = 0 → mRo h' σ' (aCl T n (0, pl, p) q R).2.1 (aCl T n (0, pl, p) q R).2.2) := by
  have hn := hT.1
  obtain ⟨hq0, hq2, hq3⟩ := hq
  obtain ⟨h0, h16, hnn, h3⟩ := hu
  obtain ⟨h17, -⟩ := h3 rfl
  have h17' : σ 17 = (p : Int) := h17
  have h16' : σ 16 = pl := h16
  obtain ⟨R0, R1, R2, R3, RS, RK⟩ := hR
  unfold f_Mo_takeClause
  rw [m_here hT h0 h17' (by omega), gb_s, sk_stop (fun z => h32 z.2), if_pos hp, ← h17', nu_self]
  have bad : ∃ h' σ', f_Mo_takeClause_J54 (grr h 83 σ) = some (grr h' 83 σ', 1) ∧ RM σ' n (1, (p : Int), p) ∧ kM h h' ∧ mT σ σ' ∧ ((1 : Int) = 0 → mRo h' σ' q R) := by
    unfold f_Mo_takeClause_J54 f_Mo_fails
    rw [gs_s, grr_at, h17', grr_up, gb_s]
    exact ⟨h, _, rfl, ⟨by rw [nu_ne (by decide)]; exact h0, nu_at _ _ _, by show (0 : Int) ≤ 1; decide, fun z => absurd (show (1 : Int) = 0 from z) (by decide)⟩, fun x hx => rfl, fun y y1 y2 y3 y4 y5 y6 => nu_ne y1, fun z => absurd z (by decide)⟩
  have full : ∀ v2 : Int, ∃ h' σ', f_Mo_takeClause_J121 v2 1 (grr h 83 σ) = some (grr h' 83 σ', 3) ∧ RM σ' n (3, (p : Int), p) ∧ kM h h' ∧ mT σ σ' ∧ ((3 : Int) = 0 → mRo h' σ' q R) := fun v2 => by
    unfold f_Mo_takeClause_J121 f_Mo_fails
    rw [if_neg (by decide), gs_s, grr_at, h17', grr_up, gb_s]
    exact ⟨h, _, rfl, ⟨by rw [nu_ne (by decide)]; exact h0, nu_at _ _ _, by show (0 : Int) ≤ 3; decide, fun z => absurd (show (3 : Int) = 0 from z) (by decide)⟩, fun x hx => rfl, fun y y1 y2 y3 y4 y5 y6 => nu_ne y1, fun z => absurd z (by decide)⟩
  have hup : RM (nu σ 17 ((p + 1 : Nat) : Int)) n (0, pl, p + 1) := ⟨by rw [nu_ne (by decide)]; exact h0, by rw [nu_ne (by decide)]; exact h16', by show (0 : Int) ≤ 0; decide, fun _ => ⟨nu_at _ _ _, by show p + 1 ≤ n; omega⟩⟩
  have g94 : grr h 83 σ 94 0 = q 0 := by rw [grr_ne (by decide)]; exact R0
  have g21 : grr h 83 σ 83 21 = q 2 := by rw [grr_at]; exact R2
  have g26 : grr h 83 σ 83 26 = q 3 := by rw [grr_at]; exact R3
  have j54 : f_Mo_takeClause_J36 (-1) (grr h 83 σ) = f_Mo_takeClause_J54 (grr h 83 σ) := rfl
  have j0 : f_Mo_takeClause_J36 0 (grr h 83 σ) = if q 0 ≤ 0 then f_Mo_takeClause_J121 0 0 (grr h 83 σ) else f_Mo_takeClause_J121 0 1 (grr h 83 σ) := by rw [← g94]; rfl
  have j1 : f_Mo_takeClause_J36 1 (grr h 83 σ) = if q 0 = 0 then f_Mo_takeClause_J54 (grr h 83 σ) else if q 2 = 9 then f_Mo_takeClause_J121 1 1 (grr h 83 σ) else f_Mo_takeClause_J121 1 0 (grr h 83 σ) := by rw [← g94, ← g21]; rfl
  have j2 : f_Mo_takeClause_J36 2 (grr h 83 σ) = if q 0 = 0 then f_Mo_takeClause_J54 (grr h 83 σ) else if q 3 = 6 then f_Mo_takeClause_J121 2 1 (grr h 83 σ) else f_Mo_takeClause_J121 2 0 (grr h 83 σ) := by rw [← g94, ← g26]; rfl
  have st : gup (grr h 83 σ) 83 17 (gadd (grr h 83 σ 83 17) 1) = grr h 83 (nu σ 17 ((p + 1 : Nat) : Int)) := by rw [grr_at, h17', ga_s (by omega), grr_up]
  have t0 : f_Mo_takeClause_J121 0 0 (grr h 83 σ) = gb (f_Mo_takeCity (grr h 83 (nu σ 17 ((p + 1 : Nat) : Int)))) (fun h28 r29 => f_Mo_takeClause_J173 r29 h28) := by rw [← st]; rfl
  have t1 : f_Mo_takeClause_J121 1 0 (grr h 83 σ) = gb (f_Mo_takeStreet (grr h 83 (nu σ 17 ((p + 1 : Nat) : Int)))) (fun h28 r29 => f_Mo_takeClause_J173 r29 h28) := by rw [← st]; rfl
  have t2 : f_Mo_takeClause_J121 2 0 (grr h 83 σ) = gb (f_Mo_takeCart (grr h 83 (nu σ 17 ((p + 1 : Nat) : Int)))) (fun h28 r29 => f_Mo_takeClause_J173 r29 h28) := by rw [← st]; rfl
  by_cases c99 : T p = 99
  · rw [if_pos c99, j0, aCl_99 c99]
    by_cases c0 : q 0 = 0
    · rw [if_pos (by omega), t0]
      obtain ⟨σ1, h1, e1, r1, m1, f1, w1⟩ := m_takeCity hT hup rfl
      rw [e1, gb_s]
      have hT1 : LT h1 93 n T := ⟨hT.1, fun i hi => by rw [f1 93 (by decide)]; exact hT.2 i hi⟩
      obtain ⟨σ2, e2, r2, m2⟩ := m_E hT1 r1
      rw [e2]
      have dd : uC T n (q 0) (0, pl, p) = (uE T n (uN T n 1 60 (uN T n 2 7 (0, pl, p + 1)).2).2, (uN T n 2 7 (0, pl, p + 1)).1, (uN T n 1 60 (uN T n 2 7 (0, pl, p + 1)).2).1) := by rw [c0]; rfl
      rw [dd]
      have mm : mT σ σ2 := fun y y1 y2 y3 y4 y5 y6 => by rw [(mS_tr m1 m2) y y1 y2 y3 y4, nu_ne y2]
      have m21 : σ2 21 = σ 21 := by rw [(mS_tr m1 m2) 21 (by decide) (by decide) (by decide) (by decide), nu_ne (by decide)]
      have m26 : σ2 26 = σ 26 := by rw [(mS_tr m1 m2) 26 (by decide) (by decide) (by decide) (by decide), nu_ne (by decide)]
      by_cases ce : (uE T n (uN T n 1 60 (uN T n 2 7 (0, pl, p + 1)).2).2).1 = 0
      · rw [if_pos ce]
        refine ⟨h1, σ2, rfl, r2, f1, mm, fun _ => ?_⟩
        have eh := w1 (uE_0 ce)
        show mRo h1 σ2 (nu (nu q 0 (uN T n 2 7 (0, pl, p + 1)).1) 1 (uN T n 1 60 (uN T n 2 7 (0, pl, p + 1)).2).1) R
        refine ⟨?_, ?_, ?_, ?_, fun s hs => ?_, fun k hk => ?_⟩
        · rw [eh, gu_o (by decide), gu_at, nu_ne (by decide), nu_at]
        · rw [eh, gu_at, nu_at]
        · rw [m21, nu_ne (by decide), nu_ne (by decide)]; exact R2
        · rw [m26, nu_ne (by decide), nu_ne (by decide)]; exact R3
        · rw [nu_ne (by decide), nu_ne (by decide)] at hs
          rw [eh]
          simp (disch := decide) only [gu_r]
          exact RS s hs
        · rw [nu_ne (by decide), nu_ne (by decide)] at hk
          rw [eh]
          simp (disch := decide) only [gu_r]
          exact RK k hk
      · rw [if_neg ce]
        exact ⟨h1, σ2, rfl, r2, f1, mm, fun z => absurd z ce⟩
    · rw [if_neg (by omega)]
      obtain ⟨h', σ', g1, g2, g3, g4, g5⟩ := full 0
      have e3 := uC_no T n c0 pl p
      rw [g1, e3, if_neg (by exact fun z => absurd (show (3 : Int) = 0 from z) (by decide))]
      exact ⟨h', σ', rfl, g2, g3, g4, g5⟩
  · rw [if_neg c99]
    by_cases c0 : q 0 = 0
    · rw [aCl_0 c99 c0, j1, j2, if_pos c0, if_pos c0, j54, ite_self, ite_self]
      exact bad
    · by_cases c115 : T p = 115
      · rw [if_pos c115, j1, if_neg c0, aCl_115 c0 c115]
        by_cases c9 : q 2 = 9
        · have ef : decide (q 2 < 9) = false := decide_eq_false (by omega)
          obtain ⟨h', σ', g1, g2, g3, g4, g5⟩ := full 1
          rw [if_pos c9, g1, ef, s5_no, if_neg (by exact fun z => absurd (show (3 : Int) = 0 from z) (by decide))]
          exact ⟨h', σ', rfl, g2, g3, g4, g5⟩
        · have ef : decide (q 2 < 9) = true := decide_eq_true (by omega)
          obtain ⟨S, hS⟩ : ∃ S : Nat, q 2 = (S : Int) := ⟨(q 2).toNat, by omega⟩
          rw [if_neg c9, t1, ef]
          obtain ⟨σ1, h1, e1, r1, m1, f1, w1⟩ := m_takeStreet (S := S) (K := q 0) hT hup (by rw [nu_ne (by decide), R2, hS]) (by omega) R0 hq0
          rw [e1, gb_s]
          have hT1 : LT h1 93 n T := ⟨hT.1, fun i hi => by rw [f1 93 (by decide)]; exact hT.2 i hi⟩
          obtain ⟨σ2, e2, r2, m2⟩ := m_E hT1 r1
          rw [e2]
          have dd : uE T n (s4 T n (q 0) true (0, pl, p)).2 = s5 T n (q 0) true (0, pl, p) := rfl
          rw [dd] at r2 ⊢
          have mm : mT σ σ2 := fun y y1 y2 y3 y4 y5 y6 => by rw [(mS_tr m1 m2) y y1 y2 y3 y4, nu_ne y5, nu_ne y2]
          have m21 : σ2 21 = ((S + 1 : Nat) : Int) := by rw [(mS_tr m1 m2) 21 (by decide) (by decide) (by decide) (by decide), nu_at]
          have m26 : σ2 26 = σ 26 := by rw [(mS_tr m1 m2) 26 (by decide) (by decide) (by decide) (by decide), nu_ne (by decide), nu_ne (by decide)]
          have kk : kM h h1 := fun x hx => f1 x (by omega)
          by_cases ce : (s5 T n (q 0) true (0, pl, p)).1 = 0
          · rw [if_pos ce]
            refine ⟨h1, σ2, rfl, r2, kk, mm, fun _ => ?_⟩
            have eh := w1 (uE_0 ce)
            show mRo h1 σ2 (nu q 2 (q 2 + 1)) (gup (gup (gup (gup R 1 (q 2).toNat (s1 T n (q 0) true (0, pl, p)).1) 2 (q 2).toNat (s2 T n (q 0) true (0, pl, p)).1) 3 (q 2).toNat (s3 T n (q 0) true (0, pl, p)).1) 4 (q 2).toNat (s4 T n (q 0) true (0, pl, p)).1)
            rw [hS, Int.toNat_natCast]
            generalize (s1 T n (q 0) true (0, pl, p)).1 = v1 at eh ⊢
            generalize (s2 T n (q 0) true (0, pl, p)).1 = v2 at eh ⊢
            generalize (s3 T n (q 0) true (0, pl, p)).1 = v3 at eh ⊢
            generalize (s4 T n (q 0) true (0, pl, p)).1 = v4 at eh ⊢
            refine ⟨?_, ?_, ?_, ?_, fun s hs => ?_, fun k hk => ?_⟩
            · rw [f1 94 (by decide), nu_ne (by decide)]; exact R0
            · rw [f1 94 (by decide), nu_ne (by decide)]; exact R1
            · rw [m21, nu_at]; omega
            · rw [m26, nu_ne (by decide)]; exact R3
            · rw [nu_at] at hs
              rw [eh]
              by_cases z : s = S
              · subst z
                simp (disch := decide) only [gu_r, gu_at]
                exact ⟨trivial, trivial, trivial, trivial⟩
              · have old := RS s (by omega)
                simp (disch := first | decide | exact z) only [gu_r, gu_o]
                exact old
            · rw [nu_ne (by decide)] at hk
              have old := RK k hk
              rw [f1 99 (by decide), f1 100 (by decide), f1 101 (by decide), f1 102 (by decide), f1 103 (by decide)]
              simp (disch := decide) only [gu_r]
              exact old
          · rw [if_neg ce]
            exact ⟨h1, σ2, rfl, r2, kk, mm, fun z => absurd z ce⟩
      · rw [if_neg c115]
        by_cases c107 : T p = 107
        · rw [if_pos c107, j2, if_neg c0, aCl_107 c0 c107]
          by_cases c9 : q 3 = 6
          · have ef : decide (q 3 < 6) = false := decide_eq_false (by omega)
            obtain ⟨h', σ', g1, g2, g3, g4, g5⟩ := full 2
            rw [if_pos c9, g1, ef, k6_no, if_neg (by exact fun z => absurd (show (3 : Int) = 0 from z) (by decide))]
            exact ⟨h', σ', rfl, g2, g3, g4, g5⟩
          · have ef : decide (q 3 < 6) = true := decide_eq_true (by omega)
            obtain ⟨S, hS⟩ : ∃ S : Nat, q 3 = (S : Int) := ⟨(q 3).toNat, by omega⟩
            rw [if_neg c9, t2, ef]
            obtain ⟨σ1, h1, e1, r1, m1, f1, w1⟩ := m_takeCart (S := S) (K := q 0) hT hup (by rw [nu_ne (by decide), R3, hS]) (by omega) R0 hq0
            rw [e1, gb_s]
            have hT1 : LT h1 93 n T := ⟨hT.1, fun i hi => by rw [f1 93 (by decide)]; exact hT.2 i hi⟩
            obtain ⟨σ2, e2, r2, m2⟩ := m_E hT1 r1
            rw [e2]
            have dd : uE T n (k5 T n (q 0) true (0, pl, p)).2 = k6 T n (q 0) true (0, pl, p) := rfl
            rw [dd] at r2 ⊢
            have mm : mT σ σ2 := fun y y1 y2 y3 y4 y5 y6 => by rw [(mS_tr m1 m2) y y1 y2 y3 y4, nu_ne y6, nu_ne y2]
            have m26 : σ2 26 = ((S + 1 : Nat) : Int) := by rw [(mS_tr m1 m2) 26 (by decide) (by decide) (by decide) (by decide), nu_at]
            have m21 : σ2 21 = σ 21 := by rw [(mS_tr m1 m2) 21 (by decide) (by decide) (by decide) (by decide), nu_ne (by decide), nu_ne (by decide)]
            have kk : kM h h1 := fun x hx => f1 x (by omega)
            by_cases ce : (k6 T n (q 0) true (0, pl, p)).1 = 0
            · rw [if_pos ce]
              refine ⟨h1, σ2, rfl, r2, kk, mm, fun _ => ?_⟩
              have eh := w1 (uE_0 ce)
              show mRo h1 σ2 (nu q 3 (q 3 + 1)) (gup (gup (gup (gup (gup R 5 (q 3).toNat (s1 T n (q 0) true (0, pl, p)).1) 6 (q 3).toNat (s2 T n (q 0) true (0, pl, p)).1) 7 (q 3).toNat (k3 T n (q 0) true (0, pl, p)).1) 8 (q 3).toNat (k4 T n (q 0) true (0, pl, p)).1) 9 (q 3).toNat (k5 T n (q 0) true (0, pl, p)).1)
              rw [hS, Int.toNat_natCast]
              generalize (s1 T n (q 0) true (0, pl, p)).1 = v1 at eh ⊢
              generalize (s2 T n (q 0) true (0, pl, p)).1 = v2 at eh ⊢
              generalize (k3 T n (q 0) true (0, pl, p)).1 = v3 at eh ⊢
              generalize (k4 T n (q 0) true (0, pl, p)).1 = v4 at eh ⊢
              generalize (k5 T n (q 0) true (0, pl, p)).1 = v5 at eh ⊢
              refine ⟨?_, ?_, ?_, ?_, fun s hs => ?_, fun k hk => ?_⟩
              · rw [f1 94 (by decide), nu_ne (by decide)]; exact R0
              · rw [f1 94 (by decide), nu_ne (by decide)]; exact R1
              · rw [m21, nu_ne (by decide)]; exact R2
              · rw [m26, nu_at]; omega
              · rw [nu_ne (by decide)] at hs
                have old := RS s hs
                rw [f1 95 (by decide), f1 96 (by decide), f1 97 (by decide), f1 98 (by decide)]
                simp (disch := decide) only [gu_r]
                exact old
              · rw [nu_at] at hk
                rw [eh]
                by_cases z : k = S
                · subst z
                  simp (disch := decide) only [gu_r, gu_at]
                  exact ⟨trivial, trivial, trivial, trivial, trivial⟩
                · have old := RK k (by omega)
                  simp (disch := first | decide | exact z) only [gu_r, gu_o]
                  exact old
            · rw [if_neg ce]
              exact ⟨h1, σ2, rfl, r2, kk, mm, fun z => absurd z ce⟩
        · rw [if_neg c107, j54, aCl_x c99 c0 c115 c107]
          exact bad
