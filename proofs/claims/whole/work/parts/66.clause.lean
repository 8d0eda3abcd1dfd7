/- PURE: a clause of the text, read by the class -/
def uW (b : Bool) (pl : Int) (p : Nat) : Int × Int × Nat := if b = true then (0, pl, p + 1) else (3, (p : Int), p)
def uC (T : Nat → Int) (n : Nat) (K : Int) (u : Int × Int × Nat) : (Int × Int × Nat) × Int × Int :=
  (uE T n (uN T n 1 60 (uN T n 2 7 (uW (decide (K = 0)) u.2.1 u.2.2)).2).2, (uN T n 2 7 (uW (decide (K = 0)) u.2.1 u.2.2)).1, (uN T n 1 60 (uN T n 2 7 (uW (decide (K = 0)) u.2.1 u.2.2)).2).1)
def s1 (T : Nat → Int) (n : Nat) (K : Int) (b : Bool) (u : Int × Int × Nat) : Int × (Int × Int × Nat) := uN T n 0 (K - 1) (uW b u.2.1 u.2.2)
def s2 (T : Nat → Int) (n : Nat) (K : Int) (b : Bool) (u : Int × Int × Nat) : Int × (Int × Int × Nat) := uO T n (s1 T n K b u).1 (K - 1) (s1 T n K b u).2
def s3 (T : Nat → Int) (n : Nat) (K : Int) (b : Bool) (u : Int × Int × Nat) : Int × (Int × Int × Nat) := uN T n 1 9 (s2 T n K b u).2
def s4 (T : Nat → Int) (n : Nat) (K : Int) (b : Bool) (u : Int × Int × Nat) : Int × (Int × Int × Nat) := uN T n 0 4 (s3 T n K b u).2
def s5 (T : Nat → Int) (n : Nat) (K : Int) (b : Bool) (u : Int × Int × Nat) : Int × Int × Nat := uE T n (s4 T n K b u).2
def k3 (T : Nat → Int) (n : Nat) (K : Int) (b : Bool) (u : Int × Int × Nat) : Int × (Int × Int × Nat) := uN T n 0 200 (s2 T n K b u).2
def k4 (T : Nat → Int) (n : Nat) (K : Int) (b : Bool) (u : Int × Int × Nat) : Int × (Int × Int × Nat) := uN T n 1 9 (k3 T n K b u).2
def k5 (T : Nat → Int) (n : Nat) (K : Int) (b : Bool) (u : Int × Int × Nat) : Int × (Int × Int × Nat) := uN T n 0 99 (k4 T n K b u).2
def k6 (T : Nat → Int) (n : Nat) (K : Int) (b : Bool) (u : Int × Int × Nat) : Int × Int × Nat := uE T n (k5 T n K b u).2
def aCl (T : Nat → Int) (n : Nat) (u : Int × Int × Nat) (q : Nat → Int) (R : gH) : (Int × Int × Nat) × (Nat → Int) × gH :=
  if T u.2.2 = 99 then (if (uC T n (q 0) u).1.1 = 0 then ((uC T n (q 0) u).1, nu (nu q 0 (uC T n (q 0) u).2.1) 1 (uC T n (q 0) u).2.2, R) else ((uC T n (q 0) u).1, q, R))
  else if q 0 = 0 then ((1, (u.2.2 : Int), u.2.2), q, R)
  else if T u.2.2 = 115 then (if (s5 T n (q 0) (decide (q 2 < 9)) u).1 = 0 then (s5 T n (q 0) (decide (q 2 < 9)) u, nu q 2 (q 2 + 1), gup (gup (gup (gup R 1 (q 2).toNat (s1 T n (q 0) (decide (q 2 < 9)) u).1) 2 (q 2).toNat (s2 T n (q 0) (decide (q 2 < 9)) u).1) 3 (q 2).toNat (s3 T n (q 0) (decide (q 2 < 9)) u).1) 4 (q 2).toNat (s4 T n (q 0) (decide (q 2 < 9)) u).1) else (s5 T n (q 0) (decide (q 2 < 9)) u, q, R))
  else if T u.2.2 = 107 then (if (k6 T n (q 0) (decide (q 3 < 6)) u).1 = 0 then (k6 T n (q 0) (decide (q 3 < 6)) u, nu q 3 (q 3 + 1), gup (gup (gup (gup (gup R 5 (q 3).toNat (s1 T n (q 0) (decide (q 3 < 6)) u).1) 6 (q 3).toNat (s2 T n (q 0) (decide (q 3 < 6)) u).1) 7 (q 3).toNat (k3 T n (q 0) (decide (q 3 < 6)) u).1) 8 (q 3).toNat (k4 T n (q 0) (decide (q 3 < 6)) u).1) 9 (q 3).toNat (k5 T n (q 0) (decide (q 3 < 6)) u).1) else (k6 T n (q 0) (decide (q 3 < 6)) u, q, R))
  else ((1, (u.2.2 : Int), u.2.2), q, R)
def RC (h : gH) (d : Nat) (q : Nat → Int) (R : gH) : Prop := (∀ y, y < 4 → h d y = q y) ∧ ∀ i, 1 ≤ i → i ≤ 9 → h (d + i) = R i
theorem RC_grr {h : gH} {d : Nat} {q : Nat → Int} {R : gH} {ρ : Nat → Int} (hd : d = 1 ∨ d = 13) : RC (grr h 25 ρ) d q R ↔ RC h d q R := by
  unfold RC
  constructor
  · intro ⟨a, b⟩
    refine ⟨fun y hy => ?_, fun i h1 h2 => ?_⟩
    · have := a y hy
      rw [grr_ne (by omega)] at this
      exact this
    · have := b i h1 h2
      rw [grr_ne (by omega)] at this
      exact this
  · intro ⟨a, b⟩
    refine ⟨fun y hy => ?_, fun i h1 h2 => ?_⟩
    · rw [grr_ne (by omega)]; exact a y hy
    · rw [grr_ne (by omega)]; exact b i h1 h2
def qI (q : Nat → Int) : Prop := (0 ≤ q 0 ∧ q 0 ≤ 7) ∧ (0 ≤ q 2 ∧ q 2 ≤ 9) ∧ (0 ≤ q 3 ∧ q 3 ≤ 6)
theorem k_word' {h : gH} {ρ : Nat → Int} {n p : Nat} {pl : Int} (hp : p < n) (hn : n ≤ 250) (hu : RU ρ n (0, pl, p)) (b : Bool) : ∃ ρ', f_Reader_takeWord (if b = true then 1 else 0) (grr h 25 ρ) = some (grr h 25 ρ', 0) ∧ RU ρ' n (uW b pl p) := by
  obtain ⟨ρ', e1, e2⟩ := k_word (h := h) hp hn hu (if b = true then 1 else 0)
  refine ⟨ρ', e1, ?_⟩
  unfold uW
  cases b with
  | true => exact e2
  | false => exact e2
def kR (d : Nat) (h h' : gH) : Prop := ∀ x, x < d ∨ d + 10 ≤ x → h' x = h x
theorem k_corners {h : gH} {d n p : Nat} {ρ T q : Nat → Int} {R : gH} {pl : Int} (hd : d = 1 ∨ d = 13) (hp : p < n) (hT : LT h 26 n T) (hu : RU ρ n (0, pl, p)) (hR : RC h d q R) : ∃ h' ρ', f_Reader_readCorners d (grr h 25 ρ) = some (grr h' 25 ρ', 0) ∧ RU ρ' n (uC T n (q 0) (0, pl, p)).1 ∧ kR d h h' ∧ ((uC T n (q 0) (0, pl, p)).1.1 = 0 → RC h' d (nu (nu q 0 (uC T n (q 0) (0, pl, p)).2.1) 1 (uC T n (q 0) (0, pl, p)).2.2) R) ∧ (¬ (uC T n (q 0) (0, pl, p)).1.1 = 0 → RC h' d q R) := by
  have hn := hT.1
  have hJ : f_Reader_readCorners d (grr h 25 ρ) = f_Reader_readCorners_J13 d (if (decide (q 0 = 0)) = true then 1 else 0) (grr h 25 ρ) := by
    unfold f_Reader_readCorners
    rw [grr_ne (by omega), hR.1 0 (by decide)]
    by_cases c : q 0 = 0
    · rw [if_pos c, if_pos (decide_eq_true c)]
    · rw [if_neg c, if_neg (by rw [decide_eq_true_eq]; exact c)]
  rw [hJ]
  unfold f_Reader_readCorners_J13 uC
  obtain ⟨ρ1, e1, r1⟩ := k_word' (h := h) hp hn hu (decide (q 0 = 0))
  rw [e1, gb_s]
  show ∃ h' ρ', _ ∧ RU ρ' n (uE T n (uN T n 1 60 (uN T n 2 7 (uW (decide (q 0 = 0)) pl p)).2).2) ∧ _ ∧ ((uE T n (uN T n 1 60 (uN T n 2 7 (uW (decide (q 0 = 0)) pl p)).2).2).1 = 0 → RC h' d (nu (nu q 0 (uN T n 2 7 (uW (decide (q 0 = 0)) pl p)).1) 1 (uN T n 1 60 (uN T n 2 7 (uW (decide (q 0 = 0)) pl p)).2).1) R) ∧ (¬ (uE T n (uN T n 1 60 (uN T n 2 7 (uW (decide (q 0 = 0)) pl p)).2).2).1 = 0 → RC h' d q R)
  generalize uW (decide (q 0 = 0)) pl p = u0 at r1
  obtain ⟨ρ2, e2, r2, -⟩ := k_num hT r1 2 7
  rw [e2, gb_s]
  generalize uN T n 2 7 u0 = a at r2
  obtain ⟨ρ3, e3, r3, -⟩ := k_num hT r2 1 60
  rw [e3, gb_s]
  generalize uN T n 1 60 a.2 = b at r3
  obtain ⟨ρ4, e4, r4⟩ := k_end hT r3
  rw [e4, gb_s]
  generalize uE T n b.2 = e at r4
  rw [grr_at, r4.2.1]
  by_cases c : e.1 = 0
  · rw [if_pos c, gs_s, gs_s, grr_gu (by omega), grr_gu (by omega)]
    refine ⟨_, _, rfl, r4, fun x hx => by rw [gu_r (by omega), gu_r (by omega)], fun _ => ⟨fun y hy => ?_, fun i h1 h2 => ?_⟩, fun z => absurd c z⟩
    · by_cases y1 : y = 1
      · subst y1; rw [gu_at, nu_at]
      · rw [gu_o y1, nu_ne y1]
        by_cases y0 : y = 0
        · subst y0; rw [gu_at, nu_at]
        · rw [gu_o y0, nu_ne y0]; exact hR.1 y hy
    · rw [gu_r (by omega), gu_r (by omega)]; exact hR.2 i h1 h2
  · rw [if_neg c]
    exact ⟨h, ρ4, rfl, r4, fun x hx => rfl, fun z => absurd z c, fun _ => hR⟩
theorem k_street {h : gH} {d n p : Nat} {ρ T q : Nat → Int} {R : gH} {pl : Int} (hd : d = 1 ∨ d = 13) (hp : p < n) (hT : LT h 26 n T) (hu : RU ρ n (0, pl, p)) (hR : RC h d q R) (hq : qI q) : ∃ h' ρ', f_Reader_readStreet d (grr h 25 ρ) = some (grr h' 25 ρ', 0) ∧ RU ρ' n (s5 T n (q 0) (decide (q 2 < 9)) (0, pl, p)) ∧ kR d h h' ∧ ((s5 T n (q 0) (decide (q 2 < 9)) (0, pl, p)).1 = 0 → q 2 < 9 → RC h' d (nu q 2 (q 2 + 1)) (gup (gup (gup (gup R 1 (q 2).toNat (s1 T n (q 0) (decide (q 2 < 9)) (0, pl, p)).1) 2 (q 2).toNat (s2 T n (q 0) (decide (q 2 < 9)) (0, pl, p)).1) 3 (q 2).toNat (s3 T n (q 0) (decide (q 2 < 9)) (0, pl, p)).1) 4 (q 2).toNat (s4 T n (q 0) (decide (q 2 < 9)) (0, pl, p)).1)) ∧ (¬ (s5 T n (q 0) (decide (q 2 < 9)) (0, pl, p)).1 = 0 → RC h' d q R) ∧ ((s5 T n (q 0) (decide (q 2 < 9)) (0, pl, p)).1 = 0 → q 2 < 9) := by
  have hn := hT.1
  have hq0 := hq.1
  have hq2 := hq.2.1
  have hJ : f_Reader_readStreet d (grr h 25 ρ) = f_Reader_readStreet_J17 d (q 2) (if (decide (q 2 < 9)) = true then 1 else 0) (grr h 25 ρ) := by
    unfold f_Reader_readStreet
    rw [grr_ne (by omega), hR.1 2 (by decide)]
    by_cases c : q 2 < 9
    · rw [if_neg (by omega), if_pos (decide_eq_true c)]
    · rw [if_pos (by omega), if_neg (by rw [decide_eq_true_eq]; exact c)]
  rw [hJ]
  have hfull : (s5 T n (q 0) (decide (q 2 < 9)) (0, pl, p)).1 = 0 → q 2 < 9 := fun z => by
    by_cases c : q 2 < 9
    · exact c
    · exfalso
      have e0 : uW (decide (q 2 < 9)) pl p = (3, (p : Int), p) := by unfold uW; rw [if_neg (by rw [decide_eq_true_eq]; exact c)]
      have e1 : s1 T n (q 0) (decide (q 2 < 9)) (0, pl, p) = (0, (3, (p : Int), p)) := by
        unfold s1
        show uN T n 0 (q 0 - 1) (uW (decide (q 2 < 9)) pl p) = _
        rw [e0]; rfl
      have e2 : s2 T n (q 0) (decide (q 2 < 9)) (0, pl, p) = (0, (3, (p : Int), p)) := by unfold s2; rw [e1]; rfl
      have e3 : s3 T n (q 0) (decide (q 2 < 9)) (0, pl, p) = (0, (3, (p : Int), p)) := by unfold s3; rw [e2]; rfl
      have e4 : s4 T n (q 0) (decide (q 2 < 9)) (0, pl, p) = (0, (3, (p : Int), p)) := by unfold s4; rw [e3]; rfl
      have e5 : s5 T n (q 0) (decide (q 2 < 9)) (0, pl, p) = (3, (p : Int), p) := by unfold s5; rw [e4]; rfl
      rw [e5] at z
      exact absurd (show (3 : Int) = 0 from z) (by decide)
  unfold f_Reader_readStreet_J17
  obtain ⟨ρ1, e1, r1⟩ := k_word' (h := h) hp hn hu (decide (q 2 < 9))
  rw [e1, gb_s]
  have hdp : ∀ ρ' : Nat → Int, grr h 25 ρ' d 0 = q 0 := fun ρ' => by rw [grr_ne (by omega)]; exact hR.1 0 (by decide)
  rw [hdp, gsub_eq (by omega) (by omega)]
  obtain ⟨ρ2, e2, r2, -⟩ := k_num hT r1 0 (q 0 - 1)
  rw [e2, gb_s, hdp]
  have d1 : uN T n 0 (q 0 - 1) (uW (decide (q 2 < 9)) pl p) = s1 T n (q 0) (decide (q 2 < 9)) (0, pl, p) := rfl
  rw [d1] at r2 ⊢
  obtain ⟨ρ3, e3, r3⟩ := k_other hT r2 (s1 T n (q 0) (decide (q 2 < 9)) (0, pl, p)).1 hq0
  rw [e3, gb_s]
  have d2 : uO T n (s1 T n (q 0) (decide (q 2 < 9)) (0, pl, p)).1 (q 0 - 1) (s1 T n (q 0) (decide (q 2 < 9)) (0, pl, p)).2 = s2 T n (q 0) (decide (q 2 < 9)) (0, pl, p) := rfl
  rw [d2] at r3 ⊢
  obtain ⟨ρ4, e4, r4, -⟩ := k_num hT r3 1 9
  rw [e4, gb_s]
  have d3 : uN T n 1 9 (s2 T n (q 0) (decide (q 2 < 9)) (0, pl, p)).2 = s3 T n (q 0) (decide (q 2 < 9)) (0, pl, p) := rfl
  rw [d3] at r4 ⊢
  obtain ⟨ρ5, e5, r5, -⟩ := k_num hT r4 0 4
  rw [e5, gb_s]
  have d4 : uN T n 0 4 (s3 T n (q 0) (decide (q 2 < 9)) (0, pl, p)).2 = s4 T n (q 0) (decide (q 2 < 9)) (0, pl, p) := rfl
  rw [d4] at r5 ⊢
  obtain ⟨ρ6, e6, r6⟩ := k_end hT r5
  rw [e6, gb_s]
  have d5 : uE T n (s4 T n (q 0) (decide (q 2 < 9)) (0, pl, p)).2 = s5 T n (q 0) (decide (q 2 < 9)) (0, pl, p) := rfl
  rw [d5] at r6
  rw [grr_at, r6.2.1]
  generalize s5 T n (q 0) (decide (q 2 < 9)) (0, pl, p) = e at r6 hfull ⊢
  generalize s1 T n (q 0) (decide (q 2 < 9)) (0, pl, p) = v1
  generalize s2 T n (q 0) (decide (q 2 < 9)) (0, pl, p) = v2
  generalize s3 T n (q 0) (decide (q 2 < 9)) (0, pl, p) = v3
  generalize s4 T n (q 0) (decide (q 2 < 9)) (0, pl, p) = v4
  by_cases c : e.1 = 0
  · have c9 := hfull c
    rw [if_pos c]
    simp (disch := omega) only [gdix, gs_s, grr_gu]
    rw [gadd_eq (by omega) (by omega)]
    refine ⟨_, _, rfl, r6, fun x hx => by simp (disch := omega) only [gu_r], fun _ _ => ⟨fun y hy => ?_, fun i h1 h2 => ?_⟩, fun z => absurd c z, hfull⟩
    · by_cases y2 : y = 2
      · subst y2; rw [gu_at, nu_at]
      · rw [gu_o y2, nu_ne y2]
        simp (disch := omega) only [gu_r]
        exact hR.1 y hy
    · rw [gu_r (by omega)]
      have hRi := hR.2 i h1 h2
      funext y
      have hRy : h (d + i) y = R i y := by rw [hRi]
      unfold gup
      by_cases i4 : i = 4
      · subst i4
        by_cases z : y = (q 2).toNat
        · simp [z]
        · simp [z, hRy]
      · by_cases i3 : i = 3
        · subst i3
          by_cases z : y = (q 2).toNat
          · simp [z]
          · simp [z, hRy]
        · by_cases i2 : i = 2
          · subst i2
            by_cases z : y = (q 2).toNat
            · simp [z]
            · simp [z, hRy]
          · by_cases i1 : i = 1
            · subst i1
              by_cases z : y = (q 2).toNat
              · simp [z]
              · simp [z, hRy]
            · simp [i1, i2, i3, i4, hRy]
  · rw [if_neg c]
    exact ⟨h, ρ6, rfl, r6, fun x hx => rfl, fun z => absurd z c, fun _ => hR, hfull⟩
theorem k_cart {h : gH} {d n p : Nat} {ρ T q : Nat → Int} {R : gH} {pl : Int} (hd : d = 1 ∨ d = 13) (hp : p < n) (hT : LT h 26 n T) (hu : RU ρ n (0, pl, p)) (hR : RC h d q R) (hq : qI q) : ∃ h' ρ', f_Reader_readCart d (grr h 25 ρ) = some (grr h' 25 ρ', 0) ∧ RU ρ' n (k6 T n (q 0) (decide (q 3 < 6)) (0, pl, p)) ∧ kR d h h' ∧ ((k6 T n (q 0) (decide (q 3 < 6)) (0, pl, p)).1 = 0 → q 3 < 6 → RC h' d (nu q 3 (q 3 + 1)) (gup (gup (gup (gup (gup R 5 (q 3).toNat (s1 T n (q 0) (decide (q 3 < 6)) (0, pl, p)).1) 6 (q 3).toNat (s2 T n (q 0) (decide (q 3 < 6)) (0, pl, p)).1) 7 (q 3).toNat (k3 T n (q 0) (decide (q 3 < 6)) (0, pl, p)).1) 8 (q 3).toNat (k4 T n (q 0) (decide (q 3 < 6)) (0, pl, p)).1) 9 (q 3).toNat (k5 T n (q 0) (decide (q 3 < 6)) (0, pl, p)).1)) ∧ (¬ (k6 T n (q 0) (decide (q 3 < 6)) (0, pl, p)).1 = 0 → RC h' d q R) ∧ ((k6 T n (q 0) (decide (q 3 < 6)) (0, pl, p)).1 = 0 → q 3 < 6) := by
  have hn := hT.1
  have hq0 := hq.1
  have hq3 := hq.2.2
  have hJ : f_Reader_readCart d (grr h 25 ρ) = f_Reader_readCart_J17 d (q 3) (if (decide (q 3 < 6)) = true then 1 else 0) (grr h 25 ρ) := by
    unfold f_Reader_readCart
    rw [grr_ne (by omega), hR.1 3 (by decide)]
    by_cases c : q 3 < 6
    · rw [if_neg (by omega), if_pos (decide_eq_true c)]
    · rw [if_pos (by omega), if_neg (by rw [decide_eq_true_eq]; exact c)]
  rw [hJ]
  have hfull : (k6 T n (q 0) (decide (q 3 < 6)) (0, pl, p)).1 = 0 → q 3 < 6 := fun z => by
    by_cases c : q 3 < 6
    · exact c
    · exfalso
      have e0 : uW (decide (q 3 < 6)) pl p = (3, (p : Int), p) := by unfold uW; rw [if_neg (by rw [decide_eq_true_eq]; exact c)]
      have e1 : s1 T n (q 0) (decide (q 3 < 6)) (0, pl, p) = (0, (3, (p : Int), p)) := by
        unfold s1
        show uN T n 0 (q 0 - 1) (uW (decide (q 3 < 6)) pl p) = _
        rw [e0]; rfl
      have e2 : s2 T n (q 0) (decide (q 3 < 6)) (0, pl, p) = (0, (3, (p : Int), p)) := by unfold s2; rw [e1]; rfl
      have e3 : k3 T n (q 0) (decide (q 3 < 6)) (0, pl, p) = (0, (3, (p : Int), p)) := by unfold k3; rw [e2]; rfl
      have e4 : k4 T n (q 0) (decide (q 3 < 6)) (0, pl, p) = (0, (3, (p : Int), p)) := by unfold k4; rw [e3]; rfl
      have e5 : k5 T n (q 0) (decide (q 3 < 6)) (0, pl, p) = (0, (3, (p : Int), p)) := by unfold k5; rw [e4]; rfl
      have e6 : k6 T n (q 0) (decide (q 3 < 6)) (0, pl, p) = (3, (p : Int), p) := by unfold k6; rw [e5]; rfl
      rw [e6] at z
      exact absurd (show (3 : Int) = 0 from z) (by decide)
  unfold f_Reader_readCart_J17
  obtain ⟨ρ1, e1, r1⟩ := k_word' (h := h) hp hn hu (decide (q 3 < 6))
  rw [e1, gb_s]
  have hdp : ∀ ρ' : Nat → Int, grr h 25 ρ' d 0 = q 0 := fun ρ' => by rw [grr_ne (by omega)]; exact hR.1 0 (by decide)
  rw [hdp, gsub_eq (by omega) (by omega)]
  obtain ⟨ρ2, e2, r2, -⟩ := k_num hT r1 0 (q 0 - 1)
  rw [e2, gb_s, hdp]
  have d1 : uN T n 0 (q 0 - 1) (uW (decide (q 3 < 6)) pl p) = s1 T n (q 0) (decide (q 3 < 6)) (0, pl, p) := rfl
  rw [d1] at r2 ⊢
  obtain ⟨ρ3, e3, r3⟩ := k_other hT r2 (s1 T n (q 0) (decide (q 3 < 6)) (0, pl, p)).1 hq0
  rw [e3, gb_s]
  have d2 : uO T n (s1 T n (q 0) (decide (q 3 < 6)) (0, pl, p)).1 (q 0 - 1) (s1 T n (q 0) (decide (q 3 < 6)) (0, pl, p)).2 = s2 T n (q 0) (decide (q 3 < 6)) (0, pl, p) := rfl
  rw [d2] at r3 ⊢
  obtain ⟨ρ4, e4, r4, -⟩ := k_num hT r3 0 200
  rw [e4, gb_s]
  have d3 : uN T n 0 200 (s2 T n (q 0) (decide (q 3 < 6)) (0, pl, p)).2 = k3 T n (q 0) (decide (q 3 < 6)) (0, pl, p) := rfl
  rw [d3] at r4 ⊢
  obtain ⟨ρ5, e5, r5, -⟩ := k_num hT r4 1 9
  rw [e5, gb_s]
  have d4 : uN T n 1 9 (k3 T n (q 0) (decide (q 3 < 6)) (0, pl, p)).2 = k4 T n (q 0) (decide (q 3 < 6)) (0, pl, p) := rfl
  rw [d4] at r5 ⊢
  obtain ⟨ρ6, e6, r6, -⟩ := k_num hT r5 0 99
  rw [e6, gb_s]
  have d5 : uN T n 0 99 (k4 T n (q 0) (decide (q 3 < 6)) (0, pl, p)).2 = k5 T n (q 0) (decide (q 3 < 6)) (0, pl, p) := rfl
  rw [d5] at r6 ⊢
  obtain ⟨ρ7, e7, r7⟩ := k_end hT r6
  rw [e7, gb_s]
  have d6 : uE T n (k5 T n (q 0) (decide (q 3 < 6)) (0, pl, p)).2 = k6 T n (q 0) (decide (q 3 < 6)) (0, pl, p) := rfl
  rw [d6] at r7
  rw [grr_at, r7.2.1]
  generalize k6 T n (q 0) (decide (q 3 < 6)) (0, pl, p) = e at r7 hfull ⊢
  generalize s1 T n (q 0) (decide (q 3 < 6)) (0, pl, p) = v1
  generalize s2 T n (q 0) (decide (q 3 < 6)) (0, pl, p) = v2
  generalize k3 T n (q 0) (decide (q 3 < 6)) (0, pl, p) = v3
  generalize k4 T n (q 0) (decide (q 3 < 6)) (0, pl, p) = v4
  generalize k5 T n (q 0) (decide (q 3 < 6)) (0, pl, p) = v5
  by_cases c : e.1 = 0
  · have c9 := hfull c
    rw [if_pos c]
    simp (disch := omega) only [gdix, gs_s, grr_gu]
    rw [gadd_eq (by omega) (by omega)]
    refine ⟨_, _, rfl, r7, fun x hx => by simp (disch := omega) only [gu_r], fun _ _ => ⟨fun y hy => ?_, fun i h1 h2 => ?_⟩, fun z => absurd c z, hfull⟩
    · by_cases y2 : y = 3
      · subst y2; rw [gu_at, nu_at]
      · rw [gu_o y2, nu_ne y2]
        simp (disch := omega) only [gu_r]
        exact hR.1 y hy
    · rw [gu_r (by omega)]
      have hRi := hR.2 i h1 h2
      funext y
      have hRy : h (d + i) y = R i y := by rw [hRi]
      unfold gup
      by_cases i5 : i = 9
      · subst i5
        by_cases z : y = (q 3).toNat
        · simp [z]
        · simp [z, hRy]
      · by_cases i4 : i = 8
        · subst i4
          by_cases z : y = (q 3).toNat
          · simp [z]
          · simp [z, hRy]
        · by_cases i3 : i = 7
          · subst i3
            by_cases z : y = (q 3).toNat
            · simp [z]
            · simp [z, hRy]
          · by_cases i2 : i = 6
            · subst i2
              by_cases z : y = (q 3).toNat
              · simp [z]
              · simp [z, hRy]
            · by_cases i1 : i = 5
              · subst i1
                by_cases z : y = (q 3).toNat
                · simp [z]
                · simp [z, hRy]
              · simp [i1, i2, i3, i4, i5, hRy]
  · rw [if_neg c]
    exact ⟨h, ρ7, rfl, r7, fun x hx => rfl, fun z => absurd z c, fun _ => hR, hfull⟩
theorem k_clause {h : gH} {d n p : Nat} {ρ T q : Nat → Int} {R : gH} {pl : Int} (hd : d = 1 ∨ d = 13) (hp : p < n) (hT : LT h 26 n T) (hu : RU ρ n (0, pl, p)) (hR : RC h d q R) (hq : qI q) : ∃ h' ρ', f_Reader_readClause d (grr h 25 ρ) = some (grr h' 25 ρ', 0) ∧ RU ρ' n (aCl T n (0, pl, p) q R).1 ∧ kR d h h' ∧ RC h' d (aCl T n (0, pl, p) q R).2.1 (aCl T n (0, pl, p) q R).2.2 := by
  have hn := hT.1
  obtain ⟨h0, h5, h1, h3⟩ := hu
  have p3 : ρ 3 = (p : Int) := h3.1
  have hbad : ∃ h' ρ', gb (f_Reader_fail 1 (grr h 25 ρ 25 3) (grr h 25 ρ)) (fun h14 r15 => some (h14, (0 : Int))) = some (grr h' 25 ρ', 0) ∧ RU ρ' n (1, (p : Int), p) ∧ kR d h h' ∧ RC h' d q R := by
    rw [grr_at, p3, k_fail h5, gb_s]
    exact ⟨h, _, rfl, ⟨by rw [nu_ne (by decide), nu_ne (by decide)]; exact h0, by rw [nu_ne (by decide), nu_at], nu_at _ _ _, by rw [nu_ne (by decide), nu_ne (by decide)]; exact p3, by show p ≤ n; omega⟩, fun x hx => rfl, hR⟩
  have hTp : grr h 25 ρ 26 (grr h 25 ρ 25 3).toNat = T p := by rw [grr_at, p3, Int.toNat_natCast, grr_ne (by decide)]; exact hT.2 p hp
  unfold f_Reader_readClause
  rw [hTp, show gix 250 (grr h 25 ρ 25 3) = gix 250 (p : Int) by rw [grr_at, p3], gdix (by omega) (by omega), show grr h 25 ρ d 0 = q 0 by rw [grr_ne (by omega)]; exact hR.1 0 (by decide)]
  unfold f_Reader_readClause_J35 aCl
  show ∃ h' ρ', _ ∧ RU ρ' n (if T p = 99 then _ else if q 0 = 0 then _ else if T p = 115 then _ else if T p = 107 then _ else _ : (Int × Int × Nat) × (Nat → Int) × gH).1 ∧ _ ∧ RC h' d (if T p = 99 then _ else if q 0 = 0 then _ else if T p = 115 then _ else if T p = 107 then _ else _ : (Int × Int × Nat) × (Nat → Int) × gH).2.1 (if T p = 99 then _ else if q 0 = 0 then _ else if T p = 115 then _ else if T p = 107 then _ else _ : (Int × Int × Nat) × (Nat → Int) × gH).2.2
  by_cases c99 : T p = 99
  · simp only [if_pos c99]
    obtain ⟨h', ρ', g1, g2, g3, g4, g5⟩ := k_corners hd hp hT ⟨h0, h5, h1, h3⟩ hR
    rw [g1, gb_s, ite_self]
    refine ⟨h', ρ', rfl, ?_, g3, ?_⟩
    · by_cases c : (uC T n (q 0) (0, pl, p)).1.1 = 0
      · rw [if_pos c]; exact g2
      · rw [if_neg c]; exact g2
    · by_cases c : (uC T n (q 0) (0, pl, p)).1.1 = 0
      · rw [if_pos c]; exact g4 c
      · rw [if_neg c]; exact g5 c
  · simp only [if_neg c99]
    by_cases c0 : q 0 = 0
    · rw [if_pos c0, if_pos c0]
      exact hbad
    · rw [if_neg c0, if_neg c0]
      by_cases c115 : T p = 115
      · rw [if_pos c115, if_pos c115]
        obtain ⟨h', ρ', g1, g2, g3, g4, g5, g6⟩ := k_street hd hp hT ⟨h0, h5, h1, h3⟩ hR hq
        rw [g1, gb_s]
        refine ⟨h', ρ', rfl, ?_, g3, ?_⟩
        · by_cases c : (s5 T n (q 0) (decide (q 2 < 9)) (0, pl, p)).1 = 0
          · rw [if_pos c]; exact g2
          · rw [if_neg c]; exact g2
        · by_cases c : (s5 T n (q 0) (decide (q 2 < 9)) (0, pl, p)).1 = 0
          · rw [if_pos c]; exact g4 c (g6 c)
          · rw [if_neg c]; exact g5 c
      · rw [if_neg c115, if_neg c115]
        by_cases c107 : T p = 107
        · rw [if_pos c107, if_pos c107]
          obtain ⟨h', ρ', g1, g2, g3, g4, g5, g6⟩ := k_cart hd hp hT ⟨h0, h5, h1, h3⟩ hR hq
          rw [g1, gb_s]
          refine ⟨h', ρ', rfl, ?_, g3, ?_⟩
          · by_cases c : (k6 T n (q 0) (decide (q 3 < 6)) (0, pl, p)).1 = 0
            · rw [if_pos c]; exact g2
            · rw [if_neg c]; exact g2
          · by_cases c : (k6 T n (q 0) (decide (q 3 < 6)) (0, pl, p)).1 = 0
            · rw [if_pos c]; exact g4 c (g6 c)
            · rw [if_neg c]; exact g5 c
        · rw [if_neg c107, if_neg c107]
          exact hbad
