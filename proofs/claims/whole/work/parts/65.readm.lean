/- PURE: the reference's reading -/
theorem m_in (a lo hi : Int) (h : gH) : f_Mo_in a lo hi h = some (h, if lo ≤ a ∧ a ≤ hi then 1 else 0) := by
  unfold f_Mo_in glcmp
  by_cases c1 : a < lo
  · have e : (if lo < a then (1 : Int) else if a = lo then 0 else -1) = -1 := by rw [if_neg (by omega), if_neg (by omega)]
    rw [e, if_pos (by decide), gdz0, if_neg (by omega)]
  · have e : ¬ (if lo < a then (1 : Int) else if a = lo then 0 else -1) < 0 := by
      by_cases c2 : lo < a
      · rw [if_pos c2]; decide
      · rw [if_neg c2, if_pos (by omega)]; decide
    rw [if_neg e]
    by_cases c3 : hi < a
    · rw [if_pos (show (0 : Int) < (if hi < a then 1 else if a = hi then 0 else -1) by rw [if_pos c3]; decide), gdz0, if_neg (by omega)]
    · have e2 : ¬ (0 : Int) < (if hi < a then 1 else if a = hi then 0 else -1) := by
        rw [if_neg c3]
        by_cases c4 : a = hi
        · rw [if_pos c4]; decide
        · rw [if_neg c4]; decide
      rw [if_neg e2, gdz1, if_pos (by omega)]
def mS (σ σ' : Nat → Int) : Prop := ∀ y, y ≠ 16 → y ≠ 17 → y ≠ 18 → y ≠ 19 → σ' y = σ y
theorem mS_id (σ : Nat → Int) : mS σ σ := fun _ _ _ _ _ => rfl
theorem mS_tr {σ τ υ : Nat → Int} (a : mS σ τ) (b : mS τ υ) : mS σ υ := fun y h1 h2 h3 h4 => (b y h1 h2 h3 h4).trans (a y h1 h2 h3 h4)
def RM (σ : Nat → Int) (n : Nat) (u : Int × Int × Nat) : Prop := σ 15 = (n : Int) ∧ σ 16 = u.2.1 ∧ 0 ≤ u.1 ∧ (u.1 = 0 → σ 17 = (u.2.2 : Int) ∧ u.2.2 ≤ n)
theorem m_hereL {h : gH} {T : Nat → Int} {n : Nat} (hT : LT h 93 n T) (K : gH → Option gO) : ∀ r p, n - p ≤ r → p ≤ n → ∀ f, r < f → ∀ σ : Nat → Int, σ 15 = (n : Int) → σ 17 = (p : Int) → f_Mo_here_L0 K f (grr h 83 σ) = K (grr h 83 (nu σ 17 ((sk T n p : Nat) : Int))) := by
  have hn := hT.1
  intro r
  induction r with
  | zero =>
    intro p h1 h2 f hf ρ q0 q3
    obtain ⟨f', rfl⟩ : ∃ f', f = f' + 1 := ⟨f - 1, by omega⟩
    rw [f_Mo_here_L0, grr_at, q0, q3, if_pos (by omega), sk_stop (by omega), ← q3, nu_self]
  | succ r ih =>
    intro p h1 h2 f hf ρ q0 q3
    obtain ⟨f', rfl⟩ : ∃ f', f = f' + 1 := ⟨f - 1, by omega⟩
    rw [f_Mo_here_L0, grr_at, q0, q3]
    by_cases c1 : (n : Int) ≤ (p : Int)
    · rw [if_pos c1, sk_stop (by omega), ← q3, nu_self]
    · rw [if_neg c1, gdix (by omega) (by omega), grr_ne (by decide), Int.toNat_natCast, hT.2 p (by omega)]
      by_cases c2 : T p = 32
      · rw [if_pos c2, gs_s, ga_s (by omega), grr_up, ih (p + 1) (by omega) (by omega) f' (by omega) (nu ρ 17 ((p + 1 : Nat) : Int)) (by rw [nu_ne (by decide)]; exact q0) (nu_at _ _ _), nu_nu, sk_go (by omega) c2]
      · rw [if_neg c2, sk_stop (fun q => c2 q.2), ← q3, nu_self]
theorem m_here {h : gH} {σ : Nat → Int} {T : Nat → Int} {n p : Nat} (hT : LT h 93 n T) (h0 : σ 15 = (n : Int)) (h3 : σ 17 = (p : Int)) (hp : p ≤ n) : f_Mo_here (grr h 83 σ) = some (grr h 83 (nu σ 17 ((sk T n p : Nat) : Int)), if sk T n p < n then T (sk T n p) else -1) := by
  have hn := hT.1
  unfold f_Mo_here
  rw [m_hereL hT _ (n - p) p (Nat.le_refl _) hp 50000 (by omega) σ h0 h3]
  unfold f_Mo_here_J38
  obtain ⟨s1, s2, s3⟩ := sk_spec (T := T) (n := n) (n - p) p (Nat.le_refl _) hp
  rw [grr_at, nu_ne (by decide), nu_at, h0]
  generalize sk T n p = q at s1 s2 s3 ⊢
  by_cases c1 : (n : Int) ≤ (q : Int)
  · rw [if_pos c1, if_neg (by omega)]
  · rw [if_neg c1, if_pos (by omega), gdix (by omega) (by omega), grr_ne (by decide), Int.toNat_natCast, hT.2 q (by omega)]
def mvF (T : Nat → Int) (q i : Nat) (v : Int) : Int := if v ≤ 10000 then 10 * v + T (q + i) - 48 else v
def mv (T : Nat → Int) (q j : Nat) : Int := gfold (mvF T q) j 0
theorem mv_in {T : Nat → Int} {n q : Nat} (hd : ∀ i, q ≤ i → i < rn T n q → 48 ≤ T i ∧ T i ≤ 57) : ∀ j, j ≤ rn T n q - q → 0 ≤ mv T q j ∧ mv T q j ≤ 100009 ∧ (j ≤ 3 → mv T q j = cv T q j) := by
  have hcv := cv_in hd
  intro j
  induction j with
  | zero => intro _; exact ⟨by show (0 : Int) ≤ 0; omega, by show (0 : Int) ≤ 100009; omega, fun _ => rfl⟩
  | succ j ih =>
    intro hj
    have ih' := ih (by omega)
    have h1 := hd (q + j) (by omega) (by omega)
    have h2 := hcv j (by omega)
    have e1 : mv T q (j + 1) = mvF T q j (mv T q j) := rfl
    have e2 : cv T q (j + 1) = cvF T q j (cv T q j) := rfl
    rw [e1, e2]
    generalize mv T q j = v at ih' ⊢
    generalize cv T q j = w at ih' h2 ⊢
    unfold mvF cvF
    by_cases c : v ≤ 10000
    · rw [if_pos c]
      refine ⟨by omega, by omega, fun z => ?_⟩
      have := ih'.2.2 (by omega)
      rw [if_pos (by omega)]; omega
    · rw [if_neg c]
      refine ⟨by omega, by omega, fun z => ?_⟩
      have := ih'.2.2 (by omega)
      omega
theorem rn_end {T : Nat → Int} {n : Nat} : ∀ r p, n - p ≤ r → p ≤ n → ¬ (rn T n p < n ∧ 48 ≤ T (rn T n p) ∧ T (rn T n p) ≤ 57) := by
  intro r
  induction r with
  | zero => intro p h1 h2; rw [rn_stop (by omega)]; omega
  | succ r ih =>
    intro p h1 h2
    by_cases c : p < n ∧ 48 ≤ T p ∧ T p ≤ 57
    · rw [rn_go c.1 c.2]; exact ih (p + 1) (by omega) (by omega)
    · rw [rn_stop c]; exact c
theorem m_numL {h : gH} {T : Nat → Int} {n q : Nat} (hT : LT h 93 n T) (hq : q ≤ n) (lo hi : Int) (K : gH → Option gO) : ∀ r j, q + j + r = rn T n q → ∀ f, r < f → ∀ σ : Nat → Int, σ 15 = (n : Int) → σ 17 = ((q + j : Nat) : Int) → σ 18 = mv T q j → f_Mo_takeNumber_L42 lo hi K f (grr h 83 σ) = K (grr h 83 (nu (nu σ 18 (mv T q (rn T n q - q))) 17 ((rn T n q : Nat) : Int))) := by
  have hn := hT.1
  have hrn := rn_spec (T := T) (n := n) (n - q) q (Nat.le_refl _) hq
  have hdg := rn_dig (T := T) (n := n) (n - q) q (Nat.le_refl _)
  have hmv := mv_in hdg
  intro r
  induction r with
  | zero =>
    intro j hj f hf σ q0 q3 q4
    obtain ⟨f', rfl⟩ : ∃ f', f = f' + 1 := ⟨f - 1, by omega⟩
    have ej : q + j = rn T n q := by omega
    have hstop := rn_end (T := T) (n - q) q (Nat.le_refl _) hq
    have e2 : nu (nu σ 18 (mv T q (rn T n q - q))) 17 ((rn T n q : Nat) : Int) = σ := by
      rw [show rn T n q - q = j by omega, ← q4, nu_self, ← ej, ← q3, nu_self]
    rw [e2, f_Mo_takeNumber_L42, grr_at, q0, q3, ej]
    by_cases c1 : (n : Int) ≤ ((rn T n q : Nat) : Int)
    · rw [if_pos c1]
    · rw [if_neg c1, gdix (by omega) (by omega), grr_ne (by decide), Int.toNat_natCast, hT.2 _ (by omega), m_in, gb_s, if_neg (fun z => hstop ⟨by omega, z⟩), if_pos rfl]
  | succ r ih =>
    intro j hj f hf σ q0 q3 q4
    obtain ⟨f', rfl⟩ : ∃ f', f = f' + 1 := ⟨f - 1, by omega⟩
    have hd := hdg (q + j) (by omega) (by omega)
    have hv := hmv j (by omega)
    rw [f_Mo_takeNumber_L42, grr_at, q0, q3, if_neg (by omega), gdix (by omega) (by omega), grr_ne (by decide), Int.toNat_natCast, hT.2 _ (by omega), m_in, gb_s, if_pos hd, if_neg (by decide), grr_at, q4, q3, gdix (by omega) (by omega), grr_ne (by decide), Int.toNat_natCast, hT.2 _ (by omega)]
    unfold f_Mo_takeNumber_J113
    have hsx : ∀ x : Int, gs (gup (grr h 83 σ) 83 18 x) (fun h13 => gs (gup h13 83 17 (gadd (h13 83 17) 1)) (fun h14 => f_Mo_takeNumber_L42 lo hi K f' h14)) = f_Mo_takeNumber_L42 lo hi K f' (grr h 83 (nu (nu σ 18 x) 17 ((q + (j + 1) : Nat) : Int))) := fun x => by
      rw [gs_s, gs_s, grr_up, grr_at, nu_ne (by decide), q3, grr_up, show gadd ((q + j : Nat) : Int) 1 = ((q + (j + 1) : Nat) : Int) by rw [ga_s (by omega)]; rfl]
    rw [hsx, hsx]
    have ih' := ih (j + 1) (by omega) f' (by omega) (nu (nu σ 18 (mv T q (j + 1))) 17 ((q + (j + 1) : Nat) : Int)) (by rw [nu_ne (by decide), nu_ne (by decide)]; exact q0) (nu_at _ _ _) (by rw [nu_ne (by decide), nu_at])
    have e3 : nu (nu (nu (nu σ 18 (mv T q (j + 1))) 17 ((q + (j + 1) : Nat) : Int)) 18 (mv T q (rn T n q - q))) 17 ((rn T n q : Nat) : Int) = nu (nu σ 18 (mv T q (rn T n q - q))) 17 ((rn T n q : Nat) : Int) := by
      rw [nu_comm (show 17 ≠ 18 by decide), nu_nu, nu_nu]
    rw [e3] at ih'
    have ec : mv T q (j + 1) = mvF T q j (mv T q j) := rfl
    rw [ec] at ih'
    unfold mvF at ih'
    by_cases c2 : mv T q j ≤ 10000
    · rw [if_pos c2]
      rw [if_pos c2] at ih'
      rw [gmul_eq (by omega) (by omega), gadd_eq (by omega) (by omega), gsub_eq (by omega) (by omega)]
      exact ih'
    · rw [if_neg c2]
      rw [if_neg c2] at ih'
      exact ih'
theorem m_num {h : gH} {σ : Nat → Int} {T : Nat → Int} {n : Nat} {u : Int × Int × Nat} (hT : LT h 93 n T) (hu : RM σ n u) (h00 : u.1 = 0) (lo hi : Int) : ∃ σ', f_Mo_takeNumber lo hi (grr h 83 σ) = some (grr h 83 σ', (uN T n lo hi u).2.1) ∧ RM σ' n (uN T n lo hi u).2 ∧ mS σ σ' ∧ ((uN T n lo hi u).2.1 = 0 → σ' 18 = (uN T n lo hi u).1 ∧ σ' 19 = ((sk T n u.2.2 : Nat) : Int)) := by
  obtain ⟨h0, h16, hnn, h3⟩ := hu
  have hn := hT.1
  obtain ⟨p3, pn⟩ := h3 h00
  unfold f_Mo_takeNumber uN
  rw [if_pos h00]
  generalize u.2.2 = p at p3 pn ⊢
  rw [m_here hT h0 p3 pn, gb_s]
  obtain ⟨s1, s2, s3⟩ := sk_spec (T := T) (n := n) (n - p) p (Nat.le_refl _) pn
  generalize sk T n p = q at s1 s2 s3 ⊢
  have hrn := rn_spec (T := T) (n := n) (n - q) q (Nat.le_refl _) s2
  have hdg := rn_dig (T := T) (n := n) (n - q) q (Nat.le_refl _)
  have hmv := mv_in hdg
  rw [m_in, gb_s]
  by_cases c1 : rn T n q = q
  · have hnd : ¬ (48 ≤ (if q < n then T q else -1) ∧ (if q < n then T q else -1) ≤ 57) := by
      have := rn_end (T := T) (n - q) q (Nat.le_refl _) s2
      rw [c1] at this
      by_cases c2 : q < n
      · rw [if_pos c2]; exact fun z => this ⟨c2, z⟩
      · rw [if_neg c2]; omega
    rw [if_neg hnd, if_pos rfl, if_pos c1]
    unfold f_Mo_fails
    rw [gs_s, grr_at, nu_at, grr_up, gb_s]
    refine ⟨_, rfl, ⟨?_, nu_at _ _ _, by show (0 : Int) ≤ 1; decide, fun z => absurd (show (1 : Int) = 0 from z) (by decide)⟩, fun y y1 y2 y3 y4 => by rw [nu_ne y1, nu_ne y2], fun z => absurd (show (1 : Int) = 0 from z) (by decide)⟩
    rw [nu_ne (by decide), nu_ne (by decide)]; exact h0
  · have hqn : q < n := by
      by_cases c2 : q < n
      · exact c2
      · exact absurd (rn_stop (fun z => c2 z.1)) c1
    have hdq := hdg q (by omega) (by omega)
    rw [if_pos hqn, if_pos hdq, if_neg (by decide), if_neg c1, gs_s, gs_s, grr_at, nu_at, grr_up, grr_up]
    have e := m_numL hT s2 lo hi (fun h15 => f_Mo_takeNumber_J129 lo hi h15) (rn T n q - q) 0 (by omega) 50000 (by omega) (nu (nu (nu σ 17 (q : Int)) 19 (q : Int)) 18 0) (by rw [nu_ne (by decide), nu_ne (by decide), nu_ne (by decide)]; exact h0) (by rw [nu_ne (by decide), nu_ne (by decide), nu_at]; rfl) (nu_at _ _ _)
    rw [e]
    generalize hτ : nu (nu (nu (nu (nu σ 17 (q : Int)) 19 (q : Int)) 18 0) 18 (mv T q (rn T n q - q))) 17 ((rn T n q : Nat) : Int) = τ
    have g15 : τ 15 = (n : Int) := by rw [← hτ]; simp (disch := decide) only [nu_ne]; exact h0
    have g16 : τ 16 = u.2.1 := by rw [← hτ]; simp (disch := decide) only [nu_ne]; exact h16
    have g17 : τ 17 = ((rn T n q : Nat) : Int) := by rw [← hτ, nu_at]
    have g18 : τ 18 = mv T q (rn T n q - q) := by rw [← hτ, nu_ne (by decide), nu_at]
    have g19 : τ 19 = (q : Int) := by rw [← hτ]; simp (disch := decide) only [nu_ne, nu_at]
    have gS : mS σ τ := fun y y1 y2 y3 y4 => by rw [← hτ, nu_ne y2, nu_ne y3, nu_ne y3, nu_ne y4, nu_ne y2]
    unfold f_Mo_takeNumber_J129 f_Mo_takeNumber_J157 f_Mo_fails
    rw [grr_at, g17, g19, g18, gsub_eq (by omega) (by omega), m_in, gb_s, gs_s, grr_at, g19, grr_up, gb_s]
    have hm3 := (hmv (rn T n q - q) (Nat.le_refl _)).2.2
    generalize mv T q (rn T n q - q) = w at hm3 g18 ⊢
    generalize cv T q (rn T n q - q) = v at hm3 ⊢
    have yes : (3 < rn T n q - q ∨ v < lo ∨ hi < v) → ∃ σ', some (grr h 83 (nu τ 16 (q : Int)), (2 : Int)) = some (grr h 83 σ', (if 3 < rn T n q - q ∨ v < lo ∨ hi < v then (v, ((2, (q : Int), rn T n q) : Int × Int × Nat)) else (v, (0, u.2.1, rn T n q))).2.1) ∧ RM σ' n (if 3 < rn T n q - q ∨ v < lo ∨ hi < v then (v, ((2, (q : Int), rn T n q) : Int × Int × Nat)) else (v, (0, u.2.1, rn T n q))).2 ∧ mS σ σ' ∧ ((if 3 < rn T n q - q ∨ v < lo ∨ hi < v then (v, ((2, (q : Int), rn T n q) : Int × Int × Nat)) else (v, (0, u.2.1, rn T n q))).2.1 = 0 → σ' 18 = (if 3 < rn T n q - q ∨ v < lo ∨ hi < v then (v, ((2, (q : Int), rn T n q) : Int × Int × Nat)) else (v, (0, u.2.1, rn T n q))).1 ∧ σ' 19 = (q : Int)) := fun z => by
      rw [if_pos z]
      refine ⟨_, rfl, ⟨?_, nu_at _ _ _, by show (0 : Int) ≤ 2; decide, fun z => absurd (show (2 : Int) = 0 from z) (by decide)⟩, fun y y1 y2 y3 y4 => by rw [nu_ne y1]; exact gS y y1 y2 y3 y4, fun z => absurd (show (2 : Int) = 0 from z) (by decide)⟩
      rw [nu_ne (by decide)]; exact g15
    by_cases c2 : 3 < ((rn T n q : Nat) : Int) - (q : Int)
    · rw [if_pos c2]
      exact yes (Or.inl (by omega))
    · have ewv := hm3 (by omega)
      rw [if_neg c2]
      by_cases c3 : lo ≤ w ∧ w ≤ hi
      · rw [if_pos c3, if_neg (by decide), if_neg (by omega)]
        exact ⟨τ, rfl, ⟨g15, g16, by show (0 : Int) ≤ 0; decide, fun _ => ⟨g17, hrn.2⟩⟩, gS, fun _ => ⟨by rw [g18, ewv], g19⟩⟩
      · rw [if_neg c3, if_pos rfl]
        exact yes (by omega)
theorem grr_gu {h : gH} {r a k : Nat} {v : Int} {σ : Nat → Int} (ha : a ≠ r) : gup (grr h r σ) a k v = grr (gup h a k v) r σ := by
  funext x y
  unfold gup grr
  by_cases e : x = a ∧ y = k
  · rw [if_pos e, if_neg (by omega)]
    exact (if_pos e).symm
  · rw [if_neg e]
    by_cases e2 : x = r
    · rw [if_pos e2, if_pos e2]
    · rw [if_neg e2, if_neg e2]
      exact (if_neg e).symm
theorem LT_gu {h : gH} {r n : Nat} {T : Nat → Int} {a k : Nat} {v : Int} (ha : r ≠ a) (hT : LT h r n T) : LT (gup h a k v) r n T := ⟨hT.1, fun i hi => by rw [gu_r ha]; exact hT.2 i hi⟩
theorem m_step {h : gH} {σ : Nat → Int} {T : Nat → Int} {n : Nat} {u : Int × Int × Nat} (hT : LT h 93 n T) (hu : RM σ n u) {r k : Nat} (hr : 94 ≤ r) (hk : k < gln r) (lo hi : Int) (K : Int → gH → Option gO) : ∃ σ' h', (if u.1 ≤ 0 then gb (f_Mo_into r (k : Int) lo hi (grr h 83 σ)) (fun h1 r1 => K r1 h1) else K u.1 (grr h 83 σ)) = K (uN T n lo hi u).2.1 (grr h' 83 σ') ∧ RM σ' n (uN T n lo hi u).2 ∧ mS σ σ' ∧ ((uN T n lo hi u).2.1 = 0 → h' = gup h r k (uN T n lo hi u).1) ∧ (∀ x, x ≠ r → h' x = h x) ∧ ((uN T n lo hi u).2.1 = 0 → σ' 19 = ((sk T n u.2.2 : Nat) : Int)) := by
  by_cases c0 : u.1 = 0
  · rw [if_pos (by omega)]
    obtain ⟨σ', e1, e2, e3, e4⟩ := m_num hT hu c0 lo hi
    unfold f_Mo_into
    rw [e1, gb_s, gdix (by omega) (by omega), gs_s, Int.toNat_natCast, grr_at, grr_gu (by omega), gb_s]
    exact ⟨σ', _, rfl, e2, e3, fun z => by rw [(e4 z).1], fun x hx => gu_r hx, fun z => (e4 z).2⟩
  · have hn := hu.2.2.1
    have eN : uN T n lo hi u = (0, u) := by unfold uN; rw [if_neg c0]
    rw [if_neg (by omega), eN]
    exact ⟨σ, h, rfl, hu, mS_id σ, fun z => absurd z c0, fun x hx => rfl, fun z => absurd z c0⟩
