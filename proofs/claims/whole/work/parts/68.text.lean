/- PURE: the whole text, by both -/
theorem uN_ok {T : Nat → Int} {n : Nat} {lo hi : Int} {u : Int × Int × Nat} (hp : u.2.2 ≤ n) (h : (uN T n lo hi u).2.1 = 0) : u.1 = 0 ∧ lo ≤ (uN T n lo hi u).1 ∧ (uN T n lo hi u).1 ≤ hi ∧ u.2.2 ≤ (uN T n lo hi u).2.2.2 ∧ (uN T n lo hi u).2.2.2 ≤ n := by
  have c0 := uN_0 h
  obtain ⟨s1, s2, s3⟩ := sk_spec (T := T) (n := n) (n - u.2.2) u.2.2 (Nat.le_refl _) hp
  have hr := rn_spec (T := T) (n := n) (n - sk T n u.2.2) (sk T n u.2.2) (Nat.le_refl _) s2
  unfold uN at h ⊢
  rw [if_pos c0] at h ⊢
  by_cases c1 : rn T n (sk T n u.2.2) = sk T n u.2.2
  · rw [if_pos c1] at h
    exact absurd (show (1 : Int) = 0 from h) (by decide)
  · rw [if_neg c1] at h ⊢
    by_cases c2 : 3 < rn T n (sk T n u.2.2) - sk T n u.2.2 ∨ cv T (sk T n u.2.2) (rn T n (sk T n u.2.2) - sk T n u.2.2) < lo ∨ hi < cv T (sk T n u.2.2) (rn T n (sk T n u.2.2) - sk T n u.2.2)
    · rw [if_pos c2] at h
      exact absurd (show (2 : Int) = 0 from h) (by decide)
    · rw [if_neg c2]
      refine ⟨c0, ?_, ?_, ?_, hr.2⟩
      · show lo ≤ cv T (sk T n u.2.2) (rn T n (sk T n u.2.2) - sk T n u.2.2)
        omega
      · show cv T (sk T n u.2.2) (rn T n (sk T n u.2.2) - sk T n u.2.2) ≤ hi
        omega
      · show u.2.2 ≤ rn T n (sk T n u.2.2)
        omega
theorem uE_ok {T : Nat → Int} {n : Nat} {u : Int × Int × Nat} (hp : u.2.2 ≤ n) (h : (uE T n u).1 = 0) : u.1 = 0 ∧ u.2.2 < (uE T n u).2.2 := by
  have c0 := uE_0 h
  obtain ⟨s1, s2, s3⟩ := sk_spec (T := T) (n := n) (n - u.2.2) u.2.2 (Nat.le_refl _) hp
  unfold uE at h ⊢
  rw [if_pos c0] at h ⊢
  by_cases c1 : sk T n u.2.2 < n ∧ T (sk T n u.2.2) = 59
  · rw [if_pos c1]
    refine ⟨c0, ?_⟩
    show u.2.2 < sk T n u.2.2 + 1
    omega
  · rw [if_neg c1] at h
    exact absurd (show (1 : Int) = 0 from h) (by decide)
theorem uW_ok {b : Bool} {pl : Int} {p : Nat} (h : (uW b pl p).1 = 0) : b = true ∧ (uW b pl p).2.2 = p + 1 := by
  cases b with
  | true => exact ⟨rfl, rfl⟩
  | false => exact absurd (show (3 : Int) = 0 from h) (by decide)
def pS (q : Nat → Int) (R : gH) : Prop := ∀ s : Nat, (s : Int) < q 2 → (0 ≤ R 1 s ∧ R 1 s < q 0) ∧ (0 ≤ R 2 s ∧ R 2 s < q 0) ∧ R 1 s ≠ R 2 s ∧ (1 ≤ R 3 s ∧ R 3 s ≤ 9) ∧ (0 ≤ R 4 s ∧ R 4 s ≤ 4)
def pC (q : Nat → Int) (R : gH) : Prop := ∀ k : Nat, (k : Int) < q 3 → (0 ≤ R 5 k ∧ R 5 k < q 0) ∧ (0 ≤ R 6 k ∧ R 6 k < q 0) ∧ R 5 k ≠ R 6 k ∧ (0 ≤ R 7 k ∧ R 7 k ≤ 200) ∧ (1 ≤ R 8 k ∧ R 8 k ≤ 9) ∧ (0 ≤ R 9 k ∧ R 9 k ≤ 99)
def pI (q : Nat → Int) (R : gH) : Prop := ((q 0 = 0 ∧ q 1 = 0 ∧ q 2 = 0 ∧ q 3 = 0) ∨ ((2 ≤ q 0 ∧ q 0 ≤ 7) ∧ (1 ≤ q 1 ∧ q 1 ≤ 60) ∧ (0 ≤ q 2 ∧ q 2 ≤ 9) ∧ (0 ≤ q 3 ∧ q 3 ≤ 6))) ∧ pS q R ∧ pC q R
theorem pI_q {q : Nat → Int} {R : gH} (h : pI q R) : qI q := by
  obtain ⟨h1, -, -⟩ := h
  unfold qI
  omega
theorem aCl_ok {T q : Nat → Int} {n p : Nat} {pl : Int} {R : gH} (hp : p < n) (hI : pI q R) : pI (aCl T n (0, pl, p) q R).2.1 (aCl T n (0, pl, p) q R).2.2 ∧ ((aCl T n (0, pl, p) q R).1.1 = 0 → p < (aCl T n (0, pl, p) q R).1.2.2) := by
  have hqI := pI_q hI
  obtain ⟨hI1, hI2, hI3⟩ := hI
  have keep : pI q R := ⟨hI1, hI2, hI3⟩
  have hpw : ∀ b : Bool, (uW b pl p).1 = 0 → (uW b pl p).2.2 ≤ n := fun b z => by rw [(uW_ok z).2]; omega
  by_cases c99 : T p = 99
  · rw [aCl_99 c99]
    by_cases ce : (uC T n (q 0) (0, pl, p)).1.1 = 0
    · rw [if_pos ce]
      have z3 : (uN T n 1 60 (uN T n 2 7 (uW (decide (q 0 = 0)) pl p)).2).2.1 = 0 := uE_0 ce
      have z2 : (uN T n 2 7 (uW (decide (q 0 = 0)) pl p)).2.1 = 0 := uN_0 z3
      have z1 : (uW (decide (q 0 = 0)) pl p).1 = 0 := uN_0 z2
      have g0 := (uW_ok z1)
      have g1 := uN_ok (hpw _ z1) z2
      have g2 := uN_ok g1.2.2.2.2 z3
      have g3 := uE_ok g2.2.2.2.2 (show (uE T n (uN T n 1 60 (uN T n 2 7 (uW (decide (q 0 = 0)) pl p)).2).2).1 = 0 from ce)
      have c0 : q 0 = 0 := of_decide_eq_true g0.1
      refine ⟨?_, fun _ => ?_⟩
      · show pI (nu (nu q 0 (uN T n 2 7 (uW (decide (q 0 = 0)) pl p)).1) 1 (uN T n 1 60 (uN T n 2 7 (uW (decide (q 0 = 0)) pl p)).2).1) R
        generalize (uN T n 2 7 (uW (decide (q 0 = 0)) pl p)).1 = a at g1
        generalize (uN T n 1 60 (uN T n 2 7 (uW (decide (q 0 = 0)) pl p)).2).1 = b at g2
        have e0 : nu (nu q 0 a) 1 b 0 = a := by rw [nu_ne (by decide), nu_at]
        have e1 : nu (nu q 0 a) 1 b 1 = b := nu_at _ _ _
        have e2 : nu (nu q 0 a) 1 b 2 = q 2 := by rw [nu_ne (by decide), nu_ne (by decide)]
        have e3 : nu (nu q 0 a) 1 b 3 = q 3 := by rw [nu_ne (by decide), nu_ne (by decide)]
        refine ⟨Or.inr ⟨?_, ?_, ?_, ?_⟩, fun s hs => ?_, fun k hk => ?_⟩
        · rw [e0]; exact ⟨g1.2.1, g1.2.2.1⟩
        · rw [e1]; exact ⟨g2.2.1, g2.2.2.1⟩
        · rw [e2]; exact hqI.2.1
        · rw [e3]; exact hqI.2.2
        · rw [e2] at hs; omega
        · rw [e3] at hk; omega
      · show p < (uE T n (uN T n 1 60 (uN T n 2 7 (uW (decide (q 0 = 0)) pl p)).2).2).2.2
        have h1 := g0.2
        have h2 := g1.2.2.2.1
        have h3 := g2.2.2.2.1
        have h4 := g3.2
        omega
    · rw [if_neg ce]
      exact ⟨keep, fun z => absurd z ce⟩
  · by_cases c0 : q 0 = 0
    · rw [aCl_0 c99 c0]
      exact ⟨keep, fun z => absurd (show (1 : Int) = 0 from z) (by decide)⟩
    · by_cases c115 : T p = 115
      · rw [aCl_115 c0 c115]
        by_cases ce : (s5 T n (q 0) (decide (q 2 < 9)) (0, pl, p)).1 = 0
        · rw [if_pos ce]
          have z4 : (s4 T n (q 0) (decide (q 2 < 9)) (0, pl, p)).2.1 = 0 := uE_0 ce
          have z3 : (s3 T n (q 0) (decide (q 2 < 9)) (0, pl, p)).2.1 = 0 := uN_0 z4
          have z2 : (s2 T n (q 0) (decide (q 2 < 9)) (0, pl, p)).2.1 = 0 := uN_0 z3
          have o2 := uO_0 z2
          have z1 : (s1 T n (q 0) (decide (q 2 < 9)) (0, pl, p)).2.1 = 0 := uN_0 o2.1
          have z0 : (uW (decide (q 2 < 9)) pl p).1 = 0 := uN_0 z1
          have g0 := uW_ok z0
          have g1 := uN_ok (hpw _ z0) z1
          have g2 := uN_ok g1.2.2.2.2 o2.1
          have e22 : s2 T n (q 0) (decide (q 2 < 9)) (0, pl, p) = uN T n 0 (q 0 - 1) (s1 T n (q 0) (decide (q 2 < 9)) (0, pl, p)).2 := o2.2.2
          have p2 : (s2 T n (q 0) (decide (q 2 < 9)) (0, pl, p)).2.2.2 ≤ n := by rw [e22]; exact g2.2.2.2.2
          have g3 := uN_ok p2 z3
          have g4 := uN_ok g3.2.2.2.2 z4
          have g5 := uE_ok g4.2.2.2.2 (show (uE T n (s4 T n (q 0) (decide (q 2 < 9)) (0, pl, p)).2).1 = 0 from ce)
          have c9 : q 2 < 9 := of_decide_eq_true g0.1
          have a1 : 0 ≤ (s1 T n (q 0) (decide (q 2 < 9)) (0, pl, p)).1 ∧ (s1 T n (q 0) (decide (q 2 < 9)) (0, pl, p)).1 ≤ q 0 - 1 := ⟨g1.2.1, g1.2.2.1⟩
          have a2 : (0 ≤ (s2 T n (q 0) (decide (q 2 < 9)) (0, pl, p)).1 ∧ (s2 T n (q 0) (decide (q 2 < 9)) (0, pl, p)).1 ≤ q 0 - 1) ∧ (s2 T n (q 0) (decide (q 2 < 9)) (0, pl, p)).1 ≠ (s1 T n (q 0) (decide (q 2 < 9)) (0, pl, p)).1 := by
            rw [e22]; exact ⟨⟨g2.2.1, g2.2.2.1⟩, o2.2.1⟩
          have a3 : 1 ≤ (s3 T n (q 0) (decide (q 2 < 9)) (0, pl, p)).1 ∧ (s3 T n (q 0) (decide (q 2 < 9)) (0, pl, p)).1 ≤ 9 := ⟨g3.2.1, g3.2.2.1⟩
          have a4 : 0 ≤ (s4 T n (q 0) (decide (q 2 < 9)) (0, pl, p)).1 ∧ (s4 T n (q 0) (decide (q 2 < 9)) (0, pl, p)).1 ≤ 4 := ⟨g4.2.1, g4.2.2.1⟩
          have b2 : (s1 T n (q 0) (decide (q 2 < 9)) (0, pl, p)).2.2.2 ≤ (s2 T n (q 0) (decide (q 2 < 9)) (0, pl, p)).2.2.2 := by rw [e22]; exact g2.2.2.2.1
          have b1 : p + 1 ≤ (s1 T n (q 0) (decide (q 2 < 9)) (0, pl, p)).2.2.2 := by have := g1.2.2.2.1; rw [g0.2] at this; exact this
          have b3 : (s2 T n (q 0) (decide (q 2 < 9)) (0, pl, p)).2.2.2 ≤ (s3 T n (q 0) (decide (q 2 < 9)) (0, pl, p)).2.2.2 := g3.2.2.2.1
          have b4 : (s3 T n (q 0) (decide (q 2 < 9)) (0, pl, p)).2.2.2 ≤ (s4 T n (q 0) (decide (q 2 < 9)) (0, pl, p)).2.2.2 := g4.2.2.2.1
          have b5 : (s4 T n (q 0) (decide (q 2 < 9)) (0, pl, p)).2.2.2 < (s5 T n (q 0) (decide (q 2 < 9)) (0, pl, p)).2.2 := g5.2
          refine ⟨?_, fun _ => ?_⟩
          · show pI (nu q 2 (q 2 + 1)) (gup (gup (gup (gup R 1 (q 2).toNat (s1 T n (q 0) (decide (q 2 < 9)) (0, pl, p)).1) 2 (q 2).toNat (s2 T n (q 0) (decide (q 2 < 9)) (0, pl, p)).1) 3 (q 2).toNat (s3 T n (q 0) (decide (q 2 < 9)) (0, pl, p)).1) 4 (q 2).toNat (s4 T n (q 0) (decide (q 2 < 9)) (0, pl, p)).1)
            generalize (s1 T n (q 0) (decide (q 2 < 9)) (0, pl, p)).1 = v1 at a1 a2
            generalize (s2 T n (q 0) (decide (q 2 < 9)) (0, pl, p)).1 = v2 at a2
            generalize (s3 T n (q 0) (decide (q 2 < 9)) (0, pl, p)).1 = v3 at a3
            generalize (s4 T n (q 0) (decide (q 2 < 9)) (0, pl, p)).1 = v4 at a4
            obtain ⟨S, hS⟩ : ∃ S : Nat, q 2 = (S : Int) := ⟨(q 2).toNat, by have := hqI.2.1; omega⟩
            have e0 : nu q 2 (q 2 + 1) 0 = q 0 := nu_ne (by decide)
            have e1 : nu q 2 (q 2 + 1) 1 = q 1 := nu_ne (by decide)
            have e2 : nu q 2 (q 2 + 1) 2 = q 2 + 1 := nu_at _ _ _
            have e3 : nu q 2 (q 2 + 1) 3 = q 3 := nu_ne (by decide)
            rw [show (q 2).toNat = S by omega]
            refine ⟨Or.inr ⟨?_, ?_, ?_, ?_⟩, fun s hs => ?_, fun k hk => ?_⟩
            · rw [e0]; omega
            · rw [e1]; omega
            · rw [e2]; omega
            · rw [e3]; exact hqI.2.2
            · rw [e2] at hs
              rw [e0]
              by_cases z : s = S
              · subst z
                simp (disch := decide) only [gu_r, gu_at]
                exact ⟨by omega, by omega, fun w => a2.2 w.symm, a3, a4⟩
              · have old := hI2 s (by omega)
                simp (disch := first | decide | exact z) only [gu_r, gu_o]
                exact old
            · rw [e3] at hk
              rw [e0]
              simp (disch := decide) only [gu_r]
              exact hI3 k hk
          · show p < (s5 T n (q 0) (decide (q 2 < 9)) (0, pl, p)).2.2
            omega
        · rw [if_neg ce]
          exact ⟨keep, fun z => absurd z ce⟩
      · by_cases c107 : T p = 107
        · rw [aCl_107 c0 c107]
          by_cases ce : (k6 T n (q 0) (decide (q 3 < 6)) (0, pl, p)).1 = 0
          · rw [if_pos ce]
            have z5 : (k5 T n (q 0) (decide (q 3 < 6)) (0, pl, p)).2.1 = 0 := uE_0 ce
            have z4 : (k4 T n (q 0) (decide (q 3 < 6)) (0, pl, p)).2.1 = 0 := uN_0 z5
            have z3 : (k3 T n (q 0) (decide (q 3 < 6)) (0, pl, p)).2.1 = 0 := uN_0 z4
            have z2 : (s2 T n (q 0) (decide (q 3 < 6)) (0, pl, p)).2.1 = 0 := uN_0 z3
            have o2 := uO_0 z2
            have z1 : (s1 T n (q 0) (decide (q 3 < 6)) (0, pl, p)).2.1 = 0 := uN_0 o2.1
            have z0 : (uW (decide (q 3 < 6)) pl p).1 = 0 := uN_0 z1
            have g0 := uW_ok z0
            have g1 := uN_ok (hpw _ z0) z1
            have g2 := uN_ok g1.2.2.2.2 o2.1
            have e22 : s2 T n (q 0) (decide (q 3 < 6)) (0, pl, p) = uN T n 0 (q 0 - 1) (s1 T n (q 0) (decide (q 3 < 6)) (0, pl, p)).2 := o2.2.2
            have p2 : (s2 T n (q 0) (decide (q 3 < 6)) (0, pl, p)).2.2.2 ≤ n := by rw [e22]; exact g2.2.2.2.2
            have g3 := uN_ok p2 z3
            have g4 := uN_ok g3.2.2.2.2 z4
            have g5 := uN_ok g4.2.2.2.2 z5
            have g6 := uE_ok g5.2.2.2.2 (show (uE T n (k5 T n (q 0) (decide (q 3 < 6)) (0, pl, p)).2).1 = 0 from ce)
            have c9 : q 3 < 6 := of_decide_eq_true g0.1
            have a1 : 0 ≤ (s1 T n (q 0) (decide (q 3 < 6)) (0, pl, p)).1 ∧ (s1 T n (q 0) (decide (q 3 < 6)) (0, pl, p)).1 ≤ q 0 - 1 := ⟨g1.2.1, g1.2.2.1⟩
            have a2 : (0 ≤ (s2 T n (q 0) (decide (q 3 < 6)) (0, pl, p)).1 ∧ (s2 T n (q 0) (decide (q 3 < 6)) (0, pl, p)).1 ≤ q 0 - 1) ∧ (s2 T n (q 0) (decide (q 3 < 6)) (0, pl, p)).1 ≠ (s1 T n (q 0) (decide (q 3 < 6)) (0, pl, p)).1 := by
              rw [e22]; exact ⟨⟨g2.2.1, g2.2.2.1⟩, o2.2.1⟩
            have a3 : 0 ≤ (k3 T n (q 0) (decide (q 3 < 6)) (0, pl, p)).1 ∧ (k3 T n (q 0) (decide (q 3 < 6)) (0, pl, p)).1 ≤ 200 := ⟨g3.2.1, g3.2.2.1⟩
            have a4 : 1 ≤ (k4 T n (q 0) (decide (q 3 < 6)) (0, pl, p)).1 ∧ (k4 T n (q 0) (decide (q 3 < 6)) (0, pl, p)).1 ≤ 9 := ⟨g4.2.1, g4.2.2.1⟩
            have a5 : 0 ≤ (k5 T n (q 0) (decide (q 3 < 6)) (0, pl, p)).1 ∧ (k5 T n (q 0) (decide (q 3 < 6)) (0, pl, p)).1 ≤ 99 := ⟨g5.2.1, g5.2.2.1⟩
            have b2 : (s1 T n (q 0) (decide (q 3 < 6)) (0, pl, p)).2.2.2 ≤ (s2 T n (q 0) (decide (q 3 < 6)) (0, pl, p)).2.2.2 := by rw [e22]; exact g2.2.2.2.1
            have b1 : p + 1 ≤ (s1 T n (q 0) (decide (q 3 < 6)) (0, pl, p)).2.2.2 := by have := g1.2.2.2.1; rw [g0.2] at this; exact this
            have b3 : (s2 T n (q 0) (decide (q 3 < 6)) (0, pl, p)).2.2.2 ≤ (k3 T n (q 0) (decide (q 3 < 6)) (0, pl, p)).2.2.2 := g3.2.2.2.1
            have b4 : (k3 T n (q 0) (decide (q 3 < 6)) (0, pl, p)).2.2.2 ≤ (k4 T n (q 0) (decide (q 3 < 6)) (0, pl, p)).2.2.2 := g4.2.2.2.1
            have b5 : (k4 T n (q 0) (decide (q 3 < 6)) (0, pl, p)).2.2.2 ≤ (k5 T n (q 0) (decide (q 3 < 6)) (0, pl, p)).2.2.2 := g5.2.2.2.1
            have b6 : (k5 T n (q 0) (decide (q 3 < 6)) (0, pl, p)).2.2.2 < (k6 T n (q 0) (decide (q 3 < 6)) (0, pl, p)).2.2 := g6.2
            refine ⟨?_, fun _ => ?_⟩
            · show pI (nu q 3 (q 3 + 1)) (gup (gup (gup (gup (gup R 5 (q 3).toNat (s1 T n (q 0) (decide (q 3 < 6)) (0, pl, p)).1) 6 (q 3).toNat (s2 T n (q 0) (decide (q 3 < 6)) (0, pl, p)).1) 7 (q 3).toNat (k3 T n (q 0) (decide (q 3 < 6)) (0, pl, p)).1) 8 (q 3).toNat (k4 T n (q 0) (decide (q 3 < 6)) (0, pl, p)).1) 9 (q 3).toNat (k5 T n (q 0) (decide (q 3 < 6)) (0, pl, p)).1)
              generalize (s1 T n (q 0) (decide (q 3 < 6)) (0, pl, p)).1 = v1 at a1 a2
              generalize (s2 T n (q 0) (decide (q 3 < 6)) (0, pl, p)).1 = v2 at a2
              generalize (k3 T n (q 0) (decide (q 3 < 6)) (0, pl, p)).1 = v3 at a3
              generalize (k4 T n (q 0) (decide (q 3 < 6)) (0, pl, p)).1 = v4 at a4
              generalize (k5 T n (q 0) (decide (q 3 < 6)) (0, pl, p)).1 = v5 at a5
              obtain ⟨S, hS⟩ : ∃ S : Nat, q 3 = (S : Int) := ⟨(q 3).toNat, by have := hqI.2.2; omega⟩
              have e0 : nu q 3 (q 3 + 1) 0 = q 0 := nu_ne (by decide)
              have e1 : nu q 3 (q 3 + 1) 1 = q 1 := nu_ne (by decide)
              have e2 : nu q 3 (q 3 + 1) 2 = q 2 := nu_ne (by decide)
              have e3 : nu q 3 (q 3 + 1) 3 = q 3 + 1 := nu_at _ _ _
              rw [show (q 3).toNat = S by omega]
              refine ⟨Or.inr ⟨?_, ?_, ?_, ?_⟩, fun s hs => ?_, fun k hk => ?_⟩
              · rw [e0]; omega
              · rw [e1]; omega
              · rw [e2]; exact hqI.2.1
              · rw [e3]; omega
              · rw [e2] at hs
                rw [e0]
                simp (disch := decide) only [gu_r]
                exact hI2 s hs
              · rw [e3] at hk
                rw [e0]
                by_cases z : k = S
                · subst z
                  simp (disch := decide) only [gu_r, gu_at]
                  exact ⟨by omega, by omega, fun w => a2.2 w.symm, a3, a4, a5⟩
                · have old := hI3 k (by omega)
                  simp (disch := first | decide | exact z) only [gu_r, gu_o]
                  exact old
            · show p < (k6 T n (q 0) (decide (q 3 < 6)) (0, pl, p)).2.2
              omega
          · rw [if_neg ce]
            exact ⟨keep, fun z => absurd z ce⟩
        · rw [aCl_x c99 c0 c115 c107]
          exact ⟨keep, fun z => absurd (show (1 : Int) = 0 from z) (by decide)⟩
def uS (T : Nat → Int) (n : Nat) (u : Int × Int × Nat) : Int × Int × Nat := (u.1, u.2.1, sk T n u.2.2)
def aLp (T : Nat → Int) (n : Nat) : Nat → (Int × Int × Nat) × (Nat → Int) × gH → (Int × Int × Nat) × (Nat → Int) × gH
  | 0, x => x
  | f + 1, x => if x.1.1 = 0 ∧ x.1.2.2 < n then aLp T n f (uS T n (aCl T n x.1 x.2.1 x.2.2).1, (aCl T n x.1 x.2.1 x.2.2).2) else x
theorem k_lp {T : Nat → Int} {n d : Nat} (hd : d = 1 ∨ d = 13) (K : gH → Option gO) : ∀ (r : Nat) (u : Int × Int × Nat) (q : Nat → Int) (R h : gH) (ρ : Nat → Int) (i f : Nat), (u.1 = 0 → n - u.2.2 < r) → (u.1 = 0 → i ≤ u.2.2) → r < f → i < 100000 → i + r ≤ 100000 → LT h 26 n T → RU ρ n u → RC h d q R → pI q R → ∃ h' ρ', f_Reader_readInto_L25 d K f (i : Int) (grr h 25 ρ) = K (grr h' 25 ρ') ∧ RU ρ' n (aLp T n r (u, q, R)).1 ∧ RC h' d (aLp T n r (u, q, R)).2.1 (aLp T n r (u, q, R)).2.2 ∧ pI (aLp T n r (u, q, R)).2.1 (aLp T n r (u, q, R)).2.2 ∧ kR d h h' := by
  intro r
  induction r with
  | zero =>
    intro u q R h ρ i f h1 h2 hf hi hir hT hu hR hI
    obtain ⟨f', rfl⟩ : ∃ f', f = f' + 1 := ⟨f - 1, by omega⟩
    have c0 : ¬ u.1 = 0 := fun z => by have := h1 z; omega
    refine ⟨h, ρ, ?_, hu, hR, hI, fun x hx => rfl⟩
    rw [f_Reader_readInto_L25, grr_at, hu.2.1, if_neg c0, ite_self]
  | succ r ih =>
    intro u q R h ρ i f h1 h2 hf hi hir hT hu hR hI
    have hn := hT.1
    obtain ⟨f', rfl⟩ : ∃ f', f = f' + 1 := ⟨f - 1, by omega⟩
    rw [aLp]
    by_cases c : u.1 = 0 ∧ u.2.2 < n
    · have c0 := c.1
      have c1 := c.2
      obtain ⟨fu, pl, p⟩ := u
      have c0' : fu = 0 := c0
      subst c0'
      have c1' : p < n := c1
      have e1 : f_Reader_readInto_L25 d K (f' + 1) (i : Int) (grr h 25 ρ) = gb (f_Reader_readClause d (grr h 25 ρ)) (fun h11 r12 => gb (f_Reader_skipBlanks h11) (fun h13 r14 => f_Reader_readInto_L25 d K f' (gadd (i : Int) 1) h13)) := by
        have q1 := h2 rfl
        have q3 : ρ 3 = (p : Int) := hu.2.2.2.1
        rw [f_Reader_readInto_L25, if_neg (by have : i ≤ p := q1; omega), grr_at, hu.2.1, if_pos rfl, hu.1, q3, if_neg (by omega)]
      rw [if_pos c, e1]
      obtain ⟨h', ρ', g1, g2, g3, g4⟩ := k_clause hd c1' hT hu hR (pI_q hI)
      obtain ⟨a1, a2⟩ := aCl_ok (T := T) (pl := pl) c1' hI
      show ∃ h'' ρ'', _ ∧ RU ρ'' n (aLp T n r (uS T n (aCl T n (0, pl, p) q R).1, (aCl T n (0, pl, p) q R).2)).1 ∧ RC h'' d (aLp T n r (uS T n (aCl T n (0, pl, p) q R).1, (aCl T n (0, pl, p) q R).2)).2.1 (aLp T n r (uS T n (aCl T n (0, pl, p) q R).1, (aCl T n (0, pl, p) q R).2)).2.2 ∧ pI (aLp T n r (uS T n (aCl T n (0, pl, p) q R).1, (aCl T n (0, pl, p) q R).2)).2.1 (aLp T n r (uS T n (aCl T n (0, pl, p) q R).1, (aCl T n (0, pl, p) q R).2)).2.2 ∧ kR d h h''
      generalize aCl T n (0, pl, p) q R = y at g2 g4 a1 a2 ⊢
      obtain ⟨yu, yq, yR⟩ := y
      have hT' : LT h' 26 n T := ⟨hT.1, fun i hi => by rw [g3 26 (by omega)]; exact hT.2 i hi⟩
      have g2' : RU ρ' n yu := g2
      rw [g1, gb_s, k_skipB hT' g2'.1 g2'.2.2.2.1 g2'.2.2.2.2, gb_s, ga_s hi]
      obtain ⟨s1, s2, s3⟩ := sk_spec (T := T) (n := n) (n - yu.2.2) yu.2.2 (Nat.le_refl _) g2'.2.2.2.2
      have hp2 : yu.1 = 0 → p < yu.2.2 := a2
      have hip : i ≤ p := h2 rfl
      have hnr : n - p < r + 1 := h1 rfl
      obtain ⟨h'', ρ'', e1, e2, e3, e4, e5⟩ := ih (uS T n yu) yq yR h' (nu ρ' 3 ((sk T n yu.2.2 : Nat) : Int)) (i + 1) f' (fun z => by have := hp2 z; show n - sk T n yu.2.2 < r; omega) (fun z => by have := hp2 z; show i + 1 ≤ sk T n yu.2.2; omega) (by omega) (by omega) (by omega) hT' ⟨by rw [nu_ne (by decide)]; exact g2'.1, by rw [nu_ne (by decide)]; exact g2'.2.1, by rw [nu_ne (by decide)]; exact g2'.2.2.1, nu_at _ _ _, s2⟩ g4 a1
      exact ⟨h'', ρ'', e1, e2, e3, e4, fun x hx => (e5 x hx).trans (g3 x hx)⟩
    · rw [if_neg c]
      refine ⟨h, ρ, ?_, hu, hR, hI, fun x hx => rfl⟩
      rw [f_Reader_readInto_L25, grr_at, hu.2.1]
      by_cases c0 : u.1 = 0
      · have hle : (n : Int) ≤ ((u.2.2 : Nat) : Int) := by
          have : ¬ u.2.2 < n := fun z => c ⟨c0, z⟩
          omega
        rw [if_pos c0, hu.1, hu.2.2.2.1, if_pos hle, ite_self]
      · rw [if_neg c0, ite_self]
theorem m_lp {T : Nat → Int} {n : Nat} (h0T : ∀ i : Nat, i < n → 0 ≤ T i) (K : Int → gH → Option gO) : ∀ (r : Nat) (u : Int × Int × Nat) (q : Nat → Int) (R h : gH) (σ : Nat → Int) (f : Nat), (u.1 = 0 → n - sk T n u.2.2 < r) → r < f → LT h 93 n T → RM σ n u → (u.1 = 0 → mRo h σ q R) → pI q R → ∃ h' σ', f_Mo_city_L36 K f u.1 (grr h 83 σ) = K (aLp T n r (uS T n u, q, R)).1.1 (grr h' 83 σ') ∧ RM σ' n (aLp T n r (uS T n u, q, R)).1 ∧ ((aLp T n r (uS T n u, q, R)).1.1 = 0 → mRo h' σ' (aLp T n r (uS T n u, q, R)).2.1 (aLp T n r (uS T n u, q, R)).2.2) ∧ kM h h' ∧ mT σ σ' := by
  intro r
  induction r with
  | zero =>
    intro u q R h σ f h1 hf hT hu hR hI
    obtain ⟨f', rfl⟩ : ∃ f', f = f' + 1 := ⟨f - 1, by omega⟩
    have c0 : ¬ u.1 = 0 := fun z => by have := h1 z; omega
    refine ⟨h, σ, ?_, ⟨hu.1, hu.2.1, hu.2.2.1, fun z => absurd z c0⟩, fun z => absurd z c0, fun x hx => rfl, fun y _ _ _ _ _ _ => rfl⟩
    rw [f_Mo_city_L36, if_neg c0]
    rfl
  | succ r ih =>
    intro u q R h σ f h1 hf hT hu hR hI
    have hn := hT.1
    obtain ⟨f', rfl⟩ : ∃ f', f = f' + 1 := ⟨f - 1, by omega⟩
    rw [aLp]
    by_cases c0 : u.1 = 0
    · obtain ⟨fu, pl, p0⟩ := u
      have c0' : fu = 0 := c0
      subst c0'
      obtain ⟨hu0, hu1, hu2, hu3⟩ := hu
      obtain ⟨p3, pn⟩ := hu3 rfl
      have p3' : σ 17 = (p0 : Int) := p3
      have pn' : p0 ≤ n := pn
      obtain ⟨s1, s2, s3⟩ := sk_spec (T := T) (n := n) (n - p0) p0 (Nat.le_refl _) pn'
      have hus : uS T n (0, pl, p0) = (0, pl, sk T n p0) := rfl
      have hnr : n - sk T n p0 < r + 1 := h1 rfl
      have e1 : f_Mo_city_L36 K (f' + 1) 0 (grr h 83 σ) = gb (f_Mo_here (grr h 83 σ)) (fun h8 r9 => if r9 < 0 then K 0 h8 else gb (f_Mo_takeClause h8) (fun h11 r12 => f_Mo_city_L36 K f' r12 h11)) := by
        rw [f_Mo_city_L36, if_pos rfl]
      show ∃ h' σ', f_Mo_city_L36 K (f' + 1) 0 (grr h 83 σ) = _ ∧ _
      rw [e1, m_here hT hu0 p3' pn', gb_s, hus]
      generalize sk T n p0 = p at s1 s2 s3 hnr ⊢
      have hR' : mRo h σ q R := hR rfl
      have hRp : mRo h (nu σ 17 (p : Int)) q R := by
        obtain ⟨R0, R1, R2, R3, RS, RK⟩ := hR'
        exact ⟨R0, R1, by rw [nu_ne (by decide)]; exact R2, by rw [nu_ne (by decide)]; exact R3, RS, RK⟩
      have hup : RM (nu σ 17 (p : Int)) n (0, pl, p) := ⟨by rw [nu_ne (by decide)]; exact hu0, by rw [nu_ne (by decide)]; exact hu1, hu2, fun _ => ⟨nu_at _ _ _, s2⟩⟩
      by_cases c1 : p < n
      · have hTp := h0T p c1
        rw [if_pos c1, if_neg (by omega), if_pos ⟨rfl, c1⟩]
        obtain ⟨h', σ', g1, g2, g3, g4, g5⟩ := m_clause c1 hT (fun z => s3 ⟨c1, z⟩) hup hRp (pI_q hI)
        rw [g1, gb_s]
        obtain ⟨a1, a2⟩ := aCl_ok (T := T) (pl := pl) c1 hI
        show ∃ h'' σ'', _ = K (aLp T n r (uS T n (aCl T n (0, pl, p) q R).1, (aCl T n (0, pl, p) q R).2)).1.1 (grr h'' 83 σ'') ∧ RM σ'' n (aLp T n r (uS T n (aCl T n (0, pl, p) q R).1, (aCl T n (0, pl, p) q R).2)).1 ∧ ((aLp T n r (uS T n (aCl T n (0, pl, p) q R).1, (aCl T n (0, pl, p) q R).2)).1.1 = 0 → mRo h'' σ'' (aLp T n r (uS T n (aCl T n (0, pl, p) q R).1, (aCl T n (0, pl, p) q R).2)).2.1 (aLp T n r (uS T n (aCl T n (0, pl, p) q R).1, (aCl T n (0, pl, p) q R).2)).2.2) ∧ kM h h'' ∧ mT σ σ''
        generalize aCl T n (0, pl, p) q R = y at g2 g5 a1 a2 ⊢
        obtain ⟨yu, yq, yR⟩ := y
        have hT' : LT h' 93 n T := ⟨hT.1, fun i hi => by rw [g3 93 (by decide)]; exact hT.2 i hi⟩
        have hp2 : yu.1 = 0 → p < yu.2.2 := a2
        have g2' : RM σ' n yu := g2
        obtain ⟨h'', σ'', e1, e2, e3, e4, e5⟩ := ih yu yq yR h' σ' f' (fun z => by
          have q1 := hp2 z
          have q2 := (g2'.2.2.2 z).2
          have q3 := sk_spec (T := T) (n := n) (n - yu.2.2) yu.2.2 (Nat.le_refl _) q2
          omega) (by omega) hT' g2' g5 a1
        exact ⟨h'', σ'', e1, e2, e3, fun x hx => (e4 x hx).trans (g3 x hx), fun y y1 y2 y3 y4 y5 y6 => by rw [e5 y y1 y2 y3 y4 y5 y6, g4 y y1 y2 y3 y4 y5 y6, nu_ne y2]⟩
      · rw [if_neg c1, if_pos (by decide), if_neg (fun z => c1 z.2)]
        exact ⟨h, _, rfl, hup, fun _ => hRp, fun x hx => rfl, fun y y1 y2 y3 y4 y5 y6 => nu_ne y2⟩
    · rw [if_neg (fun z => c0 z.1)]
      refine ⟨h, σ, ?_, ⟨hu.1, hu.2.1, hu.2.2.1, fun z => absurd z c0⟩, fun z => absurd z c0, fun x hx => rfl, fun y _ _ _ _ _ _ => rfl⟩
      rw [f_Mo_city_L36, if_neg c0]
      rfl
