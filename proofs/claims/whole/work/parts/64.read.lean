/- PURE: letters read; the class's reader -/
def skF (T : Nat → Int) (n : Nat) : Nat → Nat → Nat
  | 0, p => p
  | f + 1, p => if p < n ∧ T p = 32 then skF T n f (p + 1) else p
def sk (T : Nat → Int) (n p : Nat) : Nat := skF T n (n - p) p
theorem sk_go {T : Nat → Int} {n p : Nat} (h : p < n) (h2 : T p = 32) : sk T n p = sk T n (p + 1) := by
  unfold sk
  rw [show n - p = (n - (p + 1)) + 1 by omega, skF, if_pos ⟨h, h2⟩]
theorem sk_stop {T : Nat → Int} {n p : Nat} (h : ¬ (p < n ∧ T p = 32)) : sk T n p = p := by
  unfold sk
  generalize n - p = f
  cases f with
  | zero => rfl
  | succ f => rw [skF, if_neg h]
theorem sk_spec {T : Nat → Int} {n : Nat} : ∀ r p, n - p ≤ r → p ≤ n → p ≤ sk T n p ∧ sk T n p ≤ n ∧ ¬ (sk T n p < n ∧ T (sk T n p) = 32) := by
  intro r
  induction r with
  | zero =>
    intro p h1 h2
    rw [sk_stop (by omega)]
    exact ⟨by omega, h2, by omega⟩
  | succ r ih =>
    intro p h1 h2
    by_cases c : p < n ∧ T p = 32
    · rw [sk_go c.1 c.2]
      have := ih (p + 1) (by omega) (by omega)
      exact ⟨by omega, this.2⟩
    · rw [sk_stop c]
      exact ⟨by omega, h2, c⟩
def rnF (T : Nat → Int) (n : Nat) : Nat → Nat → Nat
  | 0, p => p
  | f + 1, p => if p < n ∧ 48 ≤ T p ∧ T p ≤ 57 then rnF T n f (p + 1) else p
def rn (T : Nat → Int) (n p : Nat) : Nat := rnF T n (n - p) p
theorem rn_go {T : Nat → Int} {n p : Nat} (h : p < n) (h2 : 48 ≤ T p ∧ T p ≤ 57) : rn T n p = rn T n (p + 1) := by
  unfold rn
  rw [show n - p = (n - (p + 1)) + 1 by omega, rnF, if_pos ⟨h, h2⟩]
theorem rn_stop {T : Nat → Int} {n p : Nat} (h : ¬ (p < n ∧ 48 ≤ T p ∧ T p ≤ 57)) : rn T n p = p := by
  unfold rn
  generalize n - p = f
  cases f with
  | zero => rfl
  | succ f => rw [rnF, if_neg h]
theorem rn_spec {T : Nat → Int} {n : Nat} : ∀ r p, n - p ≤ r → p ≤ n → p ≤ rn T n p ∧ rn T n p ≤ n := by
  intro r
  induction r with
  | zero =>
    intro p h1 h2
    rw [rn_stop (by omega)]
    exact ⟨by omega, h2⟩
  | succ r ih =>
    intro p h1 h2
    by_cases c : p < n ∧ 48 ≤ T p ∧ T p ≤ 57
    · rw [rn_go c.1 c.2]
      have := ih (p + 1) (by omega) (by omega)
      exact ⟨by omega, this.2⟩
    · rw [rn_stop c]
      exact ⟨by omega, h2⟩
def cvF (T : Nat → Int) (q i : Nat) (v : Int) : Int := if i < 3 then v * 10 + T (q + i) - 48 else v
def cv (T : Nat → Int) (q j : Nat) : Int := gfold (cvF T q) j 0
def uN (T : Nat → Int) (n : Nat) (lo hi : Int) (u : Int × Int × Nat) : Int × (Int × Int × Nat) :=
  if u.1 = 0 then
    (if rn T n (sk T n u.2.2) = sk T n u.2.2 then (cv T (sk T n u.2.2) 0, (1, ((sk T n u.2.2 : Nat) : Int), rn T n (sk T n u.2.2)))
     else if 3 < rn T n (sk T n u.2.2) - sk T n u.2.2 ∨ cv T (sk T n u.2.2) (rn T n (sk T n u.2.2) - sk T n u.2.2) < lo ∨ hi < cv T (sk T n u.2.2) (rn T n (sk T n u.2.2) - sk T n u.2.2) then (cv T (sk T n u.2.2) (rn T n (sk T n u.2.2) - sk T n u.2.2), (2, ((sk T n u.2.2 : Nat) : Int), rn T n (sk T n u.2.2)))
     else (cv T (sk T n u.2.2) (rn T n (sk T n u.2.2) - sk T n u.2.2), (0, u.2.1, rn T n (sk T n u.2.2))))
  else (0, u)
def uO (T : Nat → Int) (n : Nat) (a hi : Int) (u : Int × Int × Nat) : Int × (Int × Int × Nat) :=
  if (uN T n 0 hi u).2.1 = 0 then (if (uN T n 0 hi u).1 = a then ((uN T n 0 hi u).1, (4, ((sk T n u.2.2 : Nat) : Int), (uN T n 0 hi u).2.2.2)) else uN T n 0 hi u) else uN T n 0 hi u
def uE (T : Nat → Int) (n : Nat) (u : Int × Int × Nat) : Int × Int × Nat :=
  if u.1 = 0 then (if sk T n u.2.2 < n ∧ T (sk T n u.2.2) = 59 then (0, u.2.1, sk T n u.2.2 + 1) else (1, ((sk T n u.2.2 : Nat) : Int), sk T n u.2.2)) else u
def RU (ρ : Nat → Int) (n : Nat) (u : Int × Int × Nat) : Prop := ρ 0 = (n : Int) ∧ ρ 5 = u.1 ∧ ρ 1 = u.2.1 ∧ ρ 3 = (u.2.2 : Int) ∧ u.2.2 ≤ n
def LT (h : gH) (r n : Nat) (T : Nat → Int) : Prop := n ≤ 250 ∧ ∀ i : Nat, i < n → h r i = T i
theorem k_skipB {h : gH} {ρ : Nat → Int} {T : Nat → Int} {n p : Nat} (hT : LT h 26 n T) (h0 : ρ 0 = (n : Int)) (h3 : ρ 3 = (p : Int)) (hp : p ≤ n) : f_Reader_skipBlanks (grr h 25 ρ) = some (grr h 25 (nu ρ 3 ((sk T n p : Nat) : Int)), 0) := by
  unfold f_Reader_skipBlanks
  have key : ∀ r p, n - p ≤ r → p ≤ n → ∀ f, r < f → ∀ ρ : Nat → Int, ρ 0 = (n : Int) → ρ 3 = (p : Int) → f_Reader_skipBlanks_L0 (fun h4 => some (h4, 0)) f (grr h 25 ρ) = some (grr h 25 (nu ρ 3 ((sk T n p : Nat) : Int)), 0) := by
    intro r
    induction r with
    | zero =>
      intro p h1 h2 f hf ρ q0 q3
      obtain ⟨f', rfl⟩ : ∃ f', f = f' + 1 := ⟨f - 1, by omega⟩
      rw [f_Reader_skipBlanks_L0, grr_at, q0, q3, if_pos (by omega), sk_stop (by omega), ← q3, nu_self]
    | succ r ih =>
      intro p h1 h2 f hf ρ q0 q3
      obtain ⟨f', rfl⟩ : ∃ f', f = f' + 1 := ⟨f - 1, by omega⟩
      rw [f_Reader_skipBlanks_L0, grr_at, q0, q3]
      by_cases c1 : (n : Int) ≤ (p : Int)
      · rw [if_pos c1, sk_stop (by omega), ← q3, nu_self]
      · have hn := hT.1
        rw [if_neg c1, gdix (by omega) (by omega), grr_ne (by decide), Int.toNat_natCast, hT.2 p (by omega)]
        by_cases c2 : T p = 32
        · rw [if_pos c2, gs_s, ga_s (by omega), grr_up, ih (p + 1) (by omega) (by omega) f' (by omega) (nu ρ 3 ((p + 1 : Nat) : Int)) (by rw [nu_ne (by decide)]; exact q0) (nu_at _ _ _), nu_nu, sk_go (by omega) c2]
        · rw [if_neg c2, sk_stop (fun q => c2 q.2), ← q3, nu_self]
  have := hT.1
  exact key (n - p) p (Nat.le_refl _) hp 50000 (by omega) ρ h0 h3
theorem k_fail {h : gH} {ρ : Nat → Int} (hf : ρ 5 = 0) (w x : Int) : f_Reader_fail w x (grr h 25 ρ) = some (grr h 25 (nu (nu ρ 5 w) 1 x), 0) := by
  unfold f_Reader_fail
  rw [grr_at, if_pos hf, gs_s, gs_s, grr_up, grr_up]
theorem cv_in {T : Nat → Int} {n q : Nat} (hd : ∀ i, q ≤ i → i < rn T n q → 48 ≤ T i ∧ T i ≤ 57) : ∀ j, j ≤ rn T n q - q → 0 ≤ cv T q j ∧ cv T q j ≤ 999 ∧ (j ≤ 1 → cv T q j ≤ 9) ∧ (j ≤ 2 → cv T q j ≤ 99) ∧ (j = 0 → cv T q j = 0) := by
  intro j
  induction j with
  | zero => intro _; exact ⟨by show (0 : Int) ≤ 0; omega, by show (0 : Int) ≤ 999; omega, fun _ => by show (0 : Int) ≤ 9; omega, fun _ => by show (0 : Int) ≤ 99; omega, fun _ => rfl⟩
  | succ j ih =>
    intro hj
    have ih' := ih (by omega)
    have h1 := hd (q + j) (by omega) (by omega)
    unfold cv at ih' ⊢
    rw [gfold_succ]
    generalize gfold (cvF T q) j 0 = v at ih' ⊢
    unfold cvF
    by_cases c : j < 3
    · rw [if_pos c]
      refine ⟨by omega, ?_, fun z => ?_, fun z => ?_, fun z => by omega⟩
      · have : v ≤ 99 := ih'.2.2.2.1 (by omega)
        omega
      · have : v = 0 := ih'.2.2.2.2 (by omega)
        omega
      · have : v ≤ 9 := ih'.2.2.1 (by omega)
        omega
    · rw [if_neg c]
      exact ⟨ih'.1, ih'.2.1, fun z => by omega, fun z => by omega, fun z => by omega⟩
theorem rn_dig {T : Nat → Int} {n : Nat} : ∀ r p, n - p ≤ r → ∀ i, p ≤ i → i < rn T n p → 48 ≤ T i ∧ T i ≤ 57 := by
  intro r
  induction r with
  | zero =>
    intro p h1 i h2 h3
    rw [rn_stop (by omega)] at h3
    omega
  | succ r ih =>
    intro p h1 i h2 h3
    by_cases c : p < n ∧ 48 ≤ T p ∧ T p ≤ 57
    · by_cases e : i = p
      · rw [e]; exact c.2
      · rw [rn_go c.1 c.2] at h3
        exact ih (p + 1) (by omega) i (by omega) h3
    · rw [rn_stop c] at h3
      omega
theorem k_numL {h : gH} {T : Nat → Int} {n q : Nat} (hT : LT h 26 n T) (hq : q ≤ n) (lo hi : Int) (K : Int → gH → Option gO) : ∀ r j, q + j + r = rn T n q → ∀ f, r < f → ∀ ρ : Nat → Int, ρ 0 = (n : Int) → ρ 3 = ((q + j : Nat) : Int) → ρ 4 = (q : Int) → f_Reader_readNumber_L23 lo hi K f (cv T q j) (grr h 25 ρ) = K (cv T q (rn T n q - q)) (grr h 25 (nu ρ 3 ((rn T n q : Nat) : Int))) := by
  have hn := hT.1
  have hrn := rn_spec (T := T) (n := n) (n - q) q (Nat.le_refl _) hq
  have hdg := rn_dig (T := T) (n := n) (n - q) q (Nat.le_refl _)
  have hcv := cv_in hdg
  have hfig : ∀ (x : Int) (g : gH), f_Reader_isFigure x g = some (g, if 48 ≤ x ∧ x ≤ 57 then 1 else 0) := fun x g => by
    unfold f_Reader_isFigure
    by_cases c1 : x < 48
    · rw [if_pos c1, if_neg (by omega), gdz0]
    · rw [if_neg c1]
      by_cases c2 : 57 < x
      · rw [if_pos c2, if_neg (by omega), gdz0]
      · rw [if_neg c2, if_pos (by omega), gdz1]
  intro r
  induction r with
  | zero =>
    intro j hj f hf ρ q0 q3 q4
    obtain ⟨f', rfl⟩ : ∃ f', f = f' + 1 := ⟨f - 1, by omega⟩
    have ej : q + j = rn T n q := by omega
    have hstop : ¬ (rn T n q < n ∧ 48 ≤ T (rn T n q) ∧ T (rn T n q) ≤ 57) := by
      have : ∀ r p, n - p ≤ r → p ≤ n → ¬ (rn T n p < n ∧ 48 ≤ T (rn T n p) ∧ T (rn T n p) ≤ 57) := by
        intro r
        induction r with
        | zero => intro p h1 h2; rw [rn_stop (by omega)]; omega
        | succ r ih =>
          intro p h1 h2
          by_cases c : p < n ∧ 48 ≤ T p ∧ T p ≤ 57
          · rw [rn_go c.1 c.2]; exact ih (p + 1) (by omega) (by omega)
          · rw [rn_stop c]; exact c
      exact this (n - q) q (Nat.le_refl _) hq
    have e2 : nu ρ 3 ((rn T n q : Nat) : Int) = ρ := by rw [← ej, ← q3, nu_self]
    rw [e2, show rn T n q - q = j by omega, f_Reader_readNumber_L23, grr_at, q0, q3, ej]
    by_cases c1 : (n : Int) ≤ ((rn T n q : Nat) : Int)
    · rw [if_pos c1]
    · rw [if_neg c1, gdix (by omega) (by omega), grr_ne (by decide), Int.toNat_natCast, hT.2 _ (by omega), hfig, gb_s, if_neg (fun z => hstop ⟨by omega, z⟩), if_pos rfl]
  | succ r ih =>
    intro j hj f hf ρ q0 q3 q4
    obtain ⟨f', rfl⟩ : ∃ f', f = f' + 1 := ⟨f - 1, by omega⟩
    have hd := hdg (q + j) (by omega) (by omega)
    have hv := hcv j (by omega)
    rw [f_Reader_readNumber_L23, grr_at, q0, q3, if_neg (by omega), gdix (by omega) (by omega), grr_ne (by decide), Int.toNat_natCast, hT.2 _ (by omega), hfig, gb_s, if_pos hd, if_neg (by decide), grr_at, q3, q4, gsub_eq (by omega) (by omega)]
    unfold f_Reader_readNumber_J80
    simp only [grr_at, grr_up, gs_s, q3]
    rw [show gadd ((q + j : Nat) : Int) 1 = ((q + (j + 1) : Nat) : Int) by rw [ga_s (by omega)]; rfl]
    have ih' := ih (j + 1) (by omega) f' (by omega) (nu ρ 3 ((q + (j + 1) : Nat) : Int)) (by rw [nu_ne (by decide)]; exact q0) (nu_at _ _ _) (by rw [nu_ne (by decide)]; exact q4)
    rw [nu_nu] at ih'
    have ec : cv T q (j + 1) = cvF T q j (cv T q j) := rfl
    rw [ec] at ih'
    unfold cvF at ih'
    by_cases c2 : 3 ≤ ((q + j : Nat) : Int) - (q : Int)
    · rw [if_pos c2]
      rw [if_neg (by omega)] at ih'
      exact ih'
    · rw [if_neg c2, gdix (by omega) (by omega), grr_ne (by decide), Int.toNat_natCast, hT.2 _ (by omega)]
      rw [if_pos (by omega)] at ih'
      have h99 : cv T q j ≤ 99 := hv.2.2.2.1 (by omega)
      rw [gmul_eq (by omega) (by omega), gadd_eq (by omega) (by omega), gsub_eq (by omega) (by omega)]
      exact ih'
theorem k_num {h : gH} {ρ : Nat → Int} {T : Nat → Int} {n : Nat} {u : Int × Int × Nat} (hT : LT h 26 n T) (hu : RU ρ n u) (lo hi : Int) : ∃ ρ', f_Reader_readNumber lo hi (grr h 25 ρ) = some (grr h 25 ρ', (uN T n lo hi u).1) ∧ RU ρ' n (uN T n lo hi u).2 ∧ (u.1 = 0 → ρ' 4 = ((sk T n u.2.2 : Nat) : Int)) := by
  obtain ⟨h0, h5, h1, h3⟩ := hu
  have hn := hT.1
  unfold f_Reader_readNumber uN
  rw [grr_at, h5]
  by_cases c0 : u.1 = 0
  · rw [if_pos c0, if_pos c0]
    obtain ⟨p3, pn⟩ := h3
    generalize u.2.2 = p at p3 pn ⊢
    rw [k_skipB hT h0 p3 pn, gb_s, gs_s, grr_at, nu_at, grr_up]
    obtain ⟨s1, s2, s3⟩ := sk_spec (T := T) (n := n) (n - p) p (Nat.le_refl _) pn
    generalize sk T n p = q at s1 s2 s3 ⊢
    have hrn := rn_spec (T := T) (n := n) (n - q) q (Nat.le_refl _) s2
    have e := k_numL hT s2 lo hi (fun v11 h12 => f_Reader_readNumber_J93 lo hi v11 h12) (rn T n q - q) 0 (by omega) 50000 (by omega) (nu (nu ρ 3 (q : Int)) 4 (q : Int)) (by rw [nu_ne (by decide), nu_ne (by decide)]; exact h0) (by rw [nu_ne (by decide), nu_at]; rfl) (nu_at _ _ _)
    have ec0 : cv T q 0 = 0 := rfl
    rw [ec0] at e
    rw [e]
    generalize hσ : nu (nu (nu ρ 3 (q : Int)) 4 (q : Int)) 3 ((rn T n q : Nat) : Int) = σ
    have g0 : σ 0 = (n : Int) := by rw [← hσ, nu_ne (by decide), nu_ne (by decide), nu_ne (by decide)]; exact h0
    have g1 : σ 1 = u.2.1 := by rw [← hσ, nu_ne (by decide), nu_ne (by decide), nu_ne (by decide)]; exact h1
    have g5 : σ 5 = 0 := by rw [← hσ, nu_ne (by decide), nu_ne (by decide), nu_ne (by decide), h5]; exact c0
    have g3 : σ 3 = ((rn T n q : Nat) : Int) := by rw [← hσ, nu_at]
    have g4 : σ 4 = (q : Int) := by rw [← hσ, nu_ne (by decide), nu_at]
    have bad : ∀ (w : Int), RU (nu (nu σ 5 w) 1 (q : Int)) n (w, (q : Int), rn T n q) := fun w => by
      refine ⟨by rw [nu_ne (by decide), nu_ne (by decide)]; exact g0, by rw [nu_ne (by decide), nu_at], nu_at _ _ _, by rw [nu_ne (by decide), nu_ne (by decide)]; exact g3, hrn.2⟩
    have k4 : ∀ w : Int, nu (nu σ 5 w) 1 (q : Int) 4 = (q : Int) := fun w => by rw [nu_ne (by decide), nu_ne (by decide)]; exact g4
    unfold f_Reader_readNumber_J93 f_Reader_readNumber_J139
    rw [grr_at, g3, g4]
    by_cases c1 : rn T n q = q
    · rw [if_pos (by omega), if_pos c1, k_fail g5, gb_s]
      refine ⟨_, by rw [show rn T n q - q = 0 by omega, c1], ?_, fun _ => k4 1⟩
      exact bad 1
    · rw [if_neg (by omega), if_neg c1, gsub_eq (by omega) (by omega), k_fail g5, gb_s]
      generalize cv T q (rn T n q - q) = v
      have yes : (3 < rn T n q - q ∨ v < lo ∨ hi < v) → ∃ ρ', some (grr h 25 (nu (nu σ 5 2) 1 (q : Int)), v) = some (grr h 25 ρ', (if 3 < rn T n q - q ∨ v < lo ∨ hi < v then (v, ((2, (q : Int), rn T n q) : Int × Int × Nat)) else (v, (0, u.2.1, rn T n q))).1) ∧ RU ρ' n (if 3 < rn T n q - q ∨ v < lo ∨ hi < v then (v, ((2, (q : Int), rn T n q) : Int × Int × Nat)) else (v, (0, u.2.1, rn T n q))).2 ∧ (u.1 = 0 → ρ' 4 = (q : Int)) := fun z => by
        rw [if_pos z]
        exact ⟨_, rfl, bad 2, fun _ => k4 2⟩
      by_cases c2 : 3 < ((rn T n q : Nat) : Int) - (q : Int)
      · rw [if_pos c2]
        exact yes (Or.inl (by omega))
      · rw [if_neg c2]
        by_cases c3 : v < lo
        · rw [if_pos c3]
          exact yes (Or.inr (Or.inl c3))
        · rw [if_neg c3]
          by_cases c4 : v ≤ hi
          · rw [if_pos c4, if_neg (by omega)]
            exact ⟨σ, rfl, ⟨g0, g5, g1, g3, hrn.2⟩, fun _ => g4⟩
          · rw [if_neg c4]
            exact yes (Or.inr (Or.inr (by omega)))
  · rw [if_neg c0, if_neg c0]
    exact ⟨ρ, rfl, ⟨h0, h5, h1, h3⟩, fun z => absurd z c0⟩
theorem k_other {h : gH} {ρ : Nat → Int} {T : Nat → Int} {n : Nat} {u : Int × Int × Nat} (hT : LT h 26 n T) (hu : RU ρ n u) (a : Int) {K : Int} (hK : 0 ≤ K ∧ K ≤ 7) : ∃ ρ', f_Reader_readOther a K (grr h 25 ρ) = some (grr h 25 ρ', (uO T n a (K - 1) u).1) ∧ RU ρ' n (uO T n a (K - 1) u).2 := by
  obtain ⟨ρ', e1, e2, e3⟩ := k_num hT hu 0 (K - 1)
  have e4 : (uN T n 0 (K - 1) u).2.1 = 0 → u.1 = 0 := fun z => by
    by_cases c : u.1 = 0
    · exact c
    · unfold uN at z
      rw [if_neg c] at z
      exact z
  unfold f_Reader_readOther uO
  rw [gsub_eq (by omega) (by omega), e1, gb_s, grr_at, e2.2.1]
  by_cases c1 : (uN T n 0 (K - 1) u).2.1 = 0
  · rw [if_pos c1, if_pos c1]
    by_cases c2 : (uN T n 0 (K - 1) u).1 = a
    · rw [if_pos c2, if_pos c2, e3 (e4 c1), k_fail (by rw [e2.2.1]; exact c1), gb_s]
      refine ⟨_, rfl, ?_⟩
      refine ⟨by rw [nu_ne (by decide), nu_ne (by decide)]; exact e2.1, by rw [nu_ne (by decide), nu_at], nu_at _ _ _, by rw [nu_ne (by decide), nu_ne (by decide)]; exact e2.2.2.2.1, e2.2.2.2.2⟩
    · rw [if_neg c2, if_neg c2]
      exact ⟨ρ', rfl, e2⟩
  · rw [if_neg c1, if_neg c1]
    exact ⟨ρ', rfl, e2⟩
theorem k_end {h : gH} {ρ : Nat → Int} {T : Nat → Int} {n : Nat} {u : Int × Int × Nat} (hT : LT h 26 n T) (hu : RU ρ n u) : ∃ ρ', f_Reader_readEnd (grr h 25 ρ) = some (grr h 25 ρ', 0) ∧ RU ρ' n (uE T n u) := by
  obtain ⟨h0, h5, h1, h3⟩ := hu
  have hn := hT.1
  unfold f_Reader_readEnd uE
  rw [grr_at, h5]
  by_cases c0 : u.1 = 0
  · rw [if_pos c0, if_pos c0]
    obtain ⟨p3, pn⟩ := h3
    generalize u.2.2 = p at p3 pn ⊢
    rw [k_skipB hT h0 p3 pn, gb_s, grr_at, nu_ne (by decide), nu_at, h0]
    obtain ⟨s1, s2, s3⟩ := sk_spec (T := T) (n := n) (n - p) p (Nat.le_refl _) pn
    generalize sk T n p = q at s1 s2 s3 ⊢
    have bad : ∃ ρ', f_Reader_readEnd_J50 (grr h 25 (nu ρ 3 (q : Int))) = some (grr h 25 ρ', 0) ∧ RU ρ' n (1, (q : Int), q) := by
      unfold f_Reader_readEnd_J50
      rw [grr_at, nu_at, k_fail (by rw [nu_ne (by decide), h5]; exact c0), gb_s]
      exact ⟨_, rfl, by rw [nu_ne (by decide), nu_ne (by decide), nu_ne (by decide)]; exact h0, by rw [nu_ne (by decide), nu_at], nu_at _ _ _, by rw [nu_ne (by decide), nu_ne (by decide), nu_at], s2⟩
    by_cases c1 : (n : Int) ≤ (q : Int)
    · rw [if_pos c1, if_neg (by omega)]
      exact bad
    · rw [if_neg c1, gdix (by omega) (by omega), grr_ne (by decide), Int.toNat_natCast, hT.2 q (by omega)]
      by_cases c2 : T q = 59
      · rw [if_pos c2, if_pos ⟨by omega, c2⟩, gs_s, ga_s (by omega), grr_up, nu_nu]
        exact ⟨_, rfl, by rw [nu_ne (by decide)]; exact h0, by rw [nu_ne (by decide), h5]; exact c0, by rw [nu_ne (by decide)]; exact h1, nu_at _ _ _, by show q + 1 ≤ n; omega⟩
      · rw [if_neg c2, if_neg (fun z => c2 z.2)]
        exact bad
  · rw [if_neg c0, if_neg c0]
    exact ⟨ρ, rfl, h0, h5, h1, h3⟩
theorem k_word {h : gH} {ρ : Nat → Int} {n p : Nat} {pl : Int} (hp : p < n) (hn : n ≤ 250) (hu : RU ρ n (0, pl, p)) (w : Int) : ∃ ρ', f_Reader_takeWord w (grr h 25 ρ) = some (grr h 25 ρ', 0) ∧ RU ρ' n (if w = 0 then (3, (p : Int), p) else (0, pl, p + 1)) := by
  obtain ⟨h0, h5, h1, h3⟩ := hu
  obtain ⟨p3, pn⟩ := h3
  have p3' : ρ 3 = (p : Int) := p3
  unfold f_Reader_takeWord
  by_cases c : w = 0
  · rw [if_pos c, if_pos c, grr_at, p3', k_fail h5, gb_s]
    exact ⟨_, rfl, by rw [nu_ne (by decide), nu_ne (by decide)]; exact h0, by rw [nu_ne (by decide), nu_at], nu_at _ _ _, by rw [nu_ne (by decide), nu_ne (by decide)]; exact p3', pn⟩
  · rw [if_neg c, if_neg c, gs_s, grr_at, p3', ga_s (by omega), grr_up]
    exact ⟨_, rfl, by rw [nu_ne (by decide)]; exact h0, by rw [nu_ne (by decide)]; exact h5, by rw [nu_ne (by decide)]; exact h1, nu_at _ _ _, by show p + 1 ≤ n; omega⟩
