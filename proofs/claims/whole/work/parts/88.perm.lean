/- PURE: orders of ranks -/
theorem cnt_congr {v : Int} {p q : Nat → Int} : ∀ n, (∀ k, k < n → p k = q k) → cnt v p n = cnt v q n := by
  intro n
  induction n with
  | zero => intro _; rfl
  | succ n ih => intro h; rw [cnt, cnt, ih (fun k hk => h k (by omega)), h n (by omega)]
theorem cnt_mono {v : Int} {p : Nat → Int} (j : Nat) : ∀ d, cnt v p j ≤ cnt v p (j + d) := by
  intro d
  induction d with
  | zero => exact Nat.le_refl _
  | succ d ih =>
    show cnt v p j ≤ cnt v p (j + d) + _
    omega
theorem cnt_gt {v : Int} {p : Nat → Int} {j : Nat} : ∀ C, j ≤ C → cnt v p j < cnt v p C → ∃ k, j ≤ k ∧ k < C ∧ p k = v := by
  intro C
  induction C with
  | zero => intro h1 h2; have : j = 0 := by omega
            subst this; omega
  | succ C ih =>
    intro h1 h2
    by_cases e : j = C + 1
    · subst e; omega
    · by_cases c : p C = v
      · exact ⟨C, by omega, by omega, c⟩
      · rw [cnt, if_neg c] at h2
        obtain ⟨k, k1, k2, k3⟩ := ih (by omega) h2
        exact ⟨k, k1, by omega, k3⟩
theorem cnt_pos {v : Int} {p : Nat → Int} {k n : Nat} (hk : k < n) (h : p k = v) : 0 < cnt v p n := by
  obtain ⟨d, rfl⟩ : ∃ d, n = k + 1 + d := ⟨n - (k + 1), by omega⟩
  have := cnt_mono (v := v) (p := p) (k + 1) d
  rw [cnt, if_pos h] at this
  omega
theorem cnt_nu {v x : Int} {p : Nat → Int} {i : Nat} : ∀ n, i < n → cnt v (nu p i x) n + (if p i = v then 1 else 0) = cnt v p n + (if x = v then 1 else 0) := by
  intro n
  induction n with
  | zero => intro h; omega
  | succ n ih =>
    intro h
    rw [cnt, cnt]
    by_cases e : i = n
    · subst e
      rw [nu_at, cnt_congr (p := nu p i x) (q := p) i (fun k hk => nu_ne (by omega))]
      omega
    · have := ih (by omega)
      rw [nu_ne (by omega)]
      omega
def sw (p : Nat → Int) (i j : Nat) : Nat → Int := nu (nu p i (p j)) j (p i)
theorem sw_i {p : Nat → Int} {i j : Nat} (h : i ≠ j) : sw p i j i = p j := by unfold sw; rw [nu_ne h, nu_at]
theorem sw_j {p : Nat → Int} {i j : Nat} : sw p i j j = p i := nu_at _ _ _
theorem sw_o {p : Nat → Int} {i j k : Nat} (h1 : k ≠ i) (h2 : k ≠ j) : sw p i j k = p k := by unfold sw; rw [nu_ne h2, nu_ne h1]
theorem cnt_sw {v : Int} {p : Nat → Int} {i j n : Nat} (hi : i < n) (hj : j < n) (h : i ≠ j) : cnt v (sw p i j) n = cnt v p n := by
  have h1 := cnt_nu (v := v) (x := p j) (p := p) n hi
  have h2 := cnt_nu (v := v) (x := p i) (p := nu p i (p j)) n hj
  rw [nu_ne (Ne.symm h)] at h2
  unfold sw
  omega
/- how many are less -/
def ltc (x : Int) (p : Nat → Int) : Nat → Nat
  | 0 => 0
  | n + 1 => ltc x p n + (if p n < x then 1 else 0)
theorem ltc_congr {x : Int} {p q : Nat → Int} : ∀ n, (∀ k, k < n → p k = q k) → ltc x p n = ltc x q n := by
  intro n
  induction n with
  | zero => intro _; rfl
  | succ n ih => intro h; rw [ltc, ltc, ih (fun k hk => h k (by omega)), h n (by omega)]
theorem ltc_nu {v x : Int} {p : Nat → Int} {i : Nat} : ∀ n, i < n → ltc v (nu p i x) n + (if p i < v then 1 else 0) = ltc v p n + (if x < v then 1 else 0) := by
  intro n
  induction n with
  | zero => intro h; omega
  | succ n ih =>
    intro h
    rw [ltc, ltc]
    by_cases e : i = n
    · subst e
      rw [nu_at, ltc_congr (p := nu p i x) (q := p) i (fun k hk => nu_ne (by omega))]
      omega
    · have := ih (by omega)
      rw [nu_ne (by omega)]
      omega
theorem ltc_sw {v : Int} {p : Nat → Int} {i j n : Nat} (hi : i < n) (hj : j < n) (h : i ≠ j) : ltc v (sw p i j) n = ltc v p n := by
  have h1 := ltc_nu (v := v) (x := p j) (p := p) n hi
  have h2 := ltc_nu (v := v) (x := p i) (p := nu p i (p j)) n hj
  rw [nu_ne (Ne.symm h)] at h2
  unfold sw
  omega
theorem ltc_rg {x : Int} {p : Nat → Int} (j : Nat) : ∀ d, ltc x p j ≤ ltc x p (j + d) ∧ ltc x p (j + d) ≤ ltc x p j + d := by
  intro d
  induction d with
  | zero => exact ⟨Nat.le_refl _, Nat.le_refl _⟩
  | succ d ih =>
    show ltc x p j ≤ ltc x p (j + d) + _ ∧ ltc x p (j + d) + _ ≤ _
    split <;> omega
theorem ltc_xy {x y : Int} {p : Nat → Int} (h : x ≤ y) (j : Nat) : ∀ d, ltc x p (j + d) - ltc x p j ≤ ltc y p (j + d) - ltc y p j := by
  intro d
  induction d with
  | zero => rw [Nat.add_zero]; omega
  | succ d ih =>
    have h1 := (ltc_rg (x := x) (p := p) j d).1
    have h2 := (ltc_rg (x := y) (p := p) j d).1
    show ltc x p (j + d) + (if p (j + d) < x then 1 else 0) - ltc x p j ≤ ltc y p (j + d) + (if p (j + d) < y then 1 else 0) - ltc y p j
    by_cases c : p (j + d) < x
    · rw [if_pos c, if_pos (by omega)]; omega
    · rw [if_neg c]; omega
/- the number of an order -/
def fc : Nat → Nat
  | 0 => 1
  | n + 1 => (n + 1) * fc n
def dg (p : Nat → Int) (C k : Nat) : Nat := ltc (p k) p C - ltc (p k) p (k + 1)
def LL (p : Nat → Int) (C : Nat) : Nat → Nat
  | 0 => 0
  | n + 1 => dg p C (C - 1 - n) * fc n + LL p C n
theorem LL_lt (p : Nat → Int) (C : Nat) : ∀ n, n ≤ C → LL p C n + 1 ≤ fc n := by
  intro n
  induction n with
  | zero => intro _; exact Nat.le_refl _
  | succ n ih =>
    intro h
    have h1 := ih (by omega)
    have h2 : dg p C (C - 1 - n) ≤ n := by
      have := (ltc_rg (x := p (C - 1 - n)) (p := p) (C - 1 - n + 1) n).2
      rw [show C - 1 - n + 1 + n = C by omega] at this
      unfold dg
      omega
    have h3 : dg p C (C - 1 - n) * fc n ≤ n * fc n := Nat.mul_le_mul_right _ h2
    have h4 : (n + 1) * fc n = n * fc n + fc n := by rw [Nat.add_mul, Nat.one_mul]
    show dg p C (C - 1 - n) * fc n + LL p C n + 1 ≤ (n + 1) * fc n
    omega
theorem fc_6 : ∀ n, n ≤ 6 → fc n ≤ 720 := by decide
theorem LL_step {p q : Nat → Int} {C l : Nat} (hl : l < C) (hpre : ∀ k, k < l → q k = p k) (hlt : p l < q l) (hc : ∀ x, ltc x q C = ltc x p C) : LL p C C + 1 ≤ LL q C C := by
  have base : LL p C (C - 1 - l + 1) + 1 ≤ LL q C (C - 1 - l + 1) := by
    have h1 := LL_lt p C (C - 1 - l) (by omega)
    have e : C - 1 - (C - 1 - l) = l := by omega
    show dg p C (C - 1 - (C - 1 - l)) * fc (C - 1 - l) + LL p C (C - 1 - l) + 1 ≤ dg q C (C - 1 - (C - 1 - l)) * fc (C - 1 - l) + LL q C (C - 1 - l)
    rw [e]
    have h2 : dg p C l + 1 ≤ dg q C l := by
      unfold dg
      rw [hc, ltc, ltc, if_neg (by omega), if_neg (by omega), ltc_congr (p := q) (q := p) l hpre]
      have h3 := ltc_xy (p := p) (show p l ≤ q l by omega) (l + 1) (C - (l + 1))
      rw [show l + 1 + (C - (l + 1)) = C by omega] at h3
      have h4 : ltc (q l) p (l + 1) = ltc (q l) p l + 1 := by rw [ltc, if_pos hlt]
      have h5 : ltc (p l) p (l + 1) = ltc (p l) p l + 0 := by rw [ltc, if_neg (by omega)]
      have h6 := (ltc_rg (x := q l) (p := p) (l + 1) (C - (l + 1))).1
      rw [show l + 1 + (C - (l + 1)) = C by omega] at h6
      omega
    have h3 : (dg p C l + 1) * fc (C - 1 - l) ≤ dg q C l * fc (C - 1 - l) := Nat.mul_le_mul_right _ h2
    rw [Nat.add_mul, Nat.one_mul] at h3
    omega
  have up : ∀ d, C - 1 - l + 1 + d ≤ C → LL p C (C - 1 - l + 1 + d) + 1 ≤ LL q C (C - 1 - l + 1 + d) := by
    intro d
    induction d with
    | zero => intro _; exact base
    | succ d ih =>
      intro h
      have h1 := ih (by omega)
      have hk : C - 1 - (C - 1 - l + 1 + d) < l := by omega
      have h2 : dg q C (C - 1 - (C - 1 - l + 1 + d)) = dg p C (C - 1 - (C - 1 - l + 1 + d)) := by
        generalize C - 1 - (C - 1 - l + 1 + d) = k at hk
        unfold dg
        rw [hpre k hk, hc, ltc_congr (p := q) (q := p) (k + 1) (fun i hi => hpre i (by omega))]
      show dg p C (C - 1 - (C - 1 - l + 1 + d)) * fc (C - 1 - l + 1 + d) + LL p C (C - 1 - l + 1 + d) + 1 ≤ dg q C (C - 1 - (C - 1 - l + 1 + d)) * fc (C - 1 - l + 1 + d) + LL q C (C - 1 - l + 1 + d)
      rw [h2]
      omega
  have := up l (by omega)
  rw [show C - 1 - l + 1 + l = C by omega] at this
  exact this
/- by the letters -/
theorem lx_tr {C : Nat} {a b c : Nat → Int} (h1 : lxE C a b) (h2 : lxT C b c) : lxT C a c := by
  obtain ⟨j, j1, j2, j3⟩ := h2
  rcases h1 with ⟨i, i1, i2, i3⟩ | h1
  · by_cases e : i < j
    · exact ⟨i, i1, fun k hk => (i2 k hk).trans (j2 k (by omega)), by rw [← j2 i e]; exact i3⟩
    · by_cases e2 : i = j
      · subst e2
        exact ⟨i, i1, fun k hk => (i2 k hk).trans (j2 k hk), by omega⟩
      · exact ⟨j, j1, fun k hk => (i2 k (by omega)).trans (j2 k hk), by rw [i2 j (by omega)]; exact j3⟩
  · exact ⟨j, j1, fun k hk => (h1 k (by omega)).trans (j2 k hk), by rw [h1 j j1]; exact j3⟩
theorem lx_irr {C : Nat} {a b : Nat → Int} (h1 : lxT C a b) (h2 : ∀ k, k < C → a k = b k) : False := by
  obtain ⟨j, j1, j2, j3⟩ := h1
  rw [h2 j j1] at j3
  omega
theorem lx_eq {C : Nat} {a b : Nat → Int} (h1 : lxE C a b) (h2 : lxE C b a) : ∀ k, k < C → a k = b k := by
  rcases h2 with h2 | h2
  · exact absurd (fun k _ => rfl) (fun z => lx_irr (lx_tr h1 h2) z)
  · exact fun k hk => (h2 k hk).symm
theorem lx_cg {C : Nat} {a b c : Nat → Int} (h : lxE C a b) (e : ∀ k, k < C → b k = c k) : lxE C a c := by
  rcases h with ⟨j, j1, j2, j3⟩ | h
  · exact Or.inl ⟨j, j1, fun k hk => (j2 k hk).trans (e k (by omega)), by rw [← e j j1]; exact j3⟩
  · exact Or.inr (fun k hk => (h k hk).trans (e k hk))
theorem isP_sfx {C j : Nat} {a p q : Nat → Int} (hp : isP C a p) (hq : isP C a q) (hj : j < C) (h : ∀ k, k < j → q k = p k) : ∃ k, j ≤ k ∧ k < C ∧ p k = q j := by
  refine cnt_gt C (by omega) ?_
  rw [hp, ← hq (q j), ← cnt_congr (p := q) (q := p) j h]
  obtain ⟨d, rfl⟩ : ∃ d, C = j + 1 + d := ⟨C - (j + 1), by omega⟩
  have := cnt_mono (v := q j) (p := q) (j + 1) d
  rw [cnt, if_pos rfl] at this
  omega
theorem isP_mem {C : Nat} {a p : Nat → Int} (hp : isP C a p) {k : Nat} (hk : k < C) : ∃ j, j < C ∧ a j = p k := by
  have h1 := cnt_pos (p := p) hk rfl
  rw [hp] at h1
  obtain ⟨j, -, j2, j3⟩ := cnt_gt (j := 0) (p := a) C (by omega) h1
  exact ⟨j, j2, j3⟩
theorem p_diff (C : Nat) (p q : Nat → Int) : (∀ k, k < C → p k = q k) ∨ ∃ j, j < C ∧ (∀ k, k < j → p k = q k) ∧ p j ≠ q j := by
  by_cases c : ∃ j, j < C ∧ p j ≠ q j
  · obtain ⟨j, j1, j2⟩ := c
    obtain ⟨i, i1, i2, i3⟩ := n_least (fun j => p j ≠ q j) j j2
    refine Or.inr ⟨i, by omega, fun k hk => ?_, i2⟩
    by_cases e : p k = q k
    · exact e
    · exact absurd e (i3 k hk)
  · refine Or.inl (fun k hk => ?_)
    by_cases e : p k = q k
    · exact e
    · exact absurd ⟨k, hk, e⟩ c
theorem asc_min {C : Nat} {a p q : Nat → Int} (hp : isP C a p) (hq : isP C a q) (hs : ∀ i j, i < j → j < C → p i ≤ p j) : lxE C p q := by
  rcases p_diff C p q with h | ⟨j, j1, j2, j3⟩
  · exact Or.inr h
  · obtain ⟨k, k1, k2, k3⟩ := isP_sfx hp hq j1 (fun k hk => (j2 k hk).symm)
    refine Or.inl ⟨j, j1, j2, ?_⟩
    by_cases e : k = j
    · subst e; exact absurd k3 j3
    · have := hs j k (by omega) k2
      omega
theorem desc_max {C l : Nat} {a p q : Nat → Int} (hp : isP C a p) (hq : isP C a q) (hpre : ∀ k, k < l → q k = p k) (hs : ∀ i j, l ≤ i → i < j → j < C → p j ≤ p i) : lxE C q p := by
  rcases p_diff C q p with h | ⟨j, j1, j2, j3⟩
  · exact Or.inr h
  · have hl : l ≤ j := by
      by_cases z : l ≤ j
      · exact z
      · exact absurd (hpre j (by omega)) j3
    obtain ⟨k, k1, k2, k3⟩ := isP_sfx hp hq j1 j2
    refine Or.inl ⟨j, j1, j2, ?_⟩
    by_cases e : k = j
    · subst e; exact absurd k3.symm j3
    · have := hs j k hl (by omega) k2
      omega
/- the next order -/
def nxP (C : Nat) (p q : Nat → Int) (l hi : Nat) : Prop := l < hi ∧ hi < C ∧ p l < p hi ∧ (∀ i j, l < i → i < j → j < C → p j ≤ p i) ∧ (∀ k, hi < k → k < C → p k ≤ p l) ∧ (∀ k, k < l → q k = p k) ∧ q l = p hi ∧ (∀ i j, l < i → i < j → j < C → q i ≤ q j)
theorem nx_lt {C l hi : Nat} {p q : Nat → Int} (h : nxP C p q l hi) : lxT C p q := by
  obtain ⟨h1, h2, h3, h4, h5, h6, h7, h8⟩ := h
  exact ⟨l, by omega, fun k hk => (h6 k hk).symm, by rw [h7]; exact h3⟩
theorem nx_gap {C l hi : Nat} {a p q r : Nat → Int} (hp : isP C a p) (hq : isP C a q) (hr : isP C a r) (h : nxP C p q l hi) (hl : lxT C r q) : lxE C r p := by
  obtain ⟨h1, h2, h3, h4, h5, h6, h7, h8⟩ := h
  obtain ⟨j, j1, j2, j3⟩ := hl
  by_cases c1 : j < l
  · exact Or.inl ⟨j, j1, fun k hk => (j2 k hk).trans (h6 k (by omega)), by rw [← h6 j c1]; exact j3⟩
  · by_cases c2 : j = l
    · subst c2
      have pre : ∀ k, k < j → r k = p k := fun k hk => (j2 k hk).trans (h6 k hk)
      obtain ⟨k, k1, k2, k3⟩ := isP_sfx hp hr j1 pre
      rw [h7] at j3
      have hle : r j ≤ p j := by
        by_cases e : k = j
        · subst e; omega
        · by_cases e2 : hi < k
          · have := h5 k e2 k2; omega
          · by_cases e3 : k = hi
            · subst e3; omega
            · have := h4 k hi (by omega) (by omega) h2
              omega
      by_cases e : r j = p j
      · refine desc_max (l := j + 1) hp hr (fun k hk => ?_) (fun x y hx hxy hy => h4 x y (by omega) hxy hy)
        by_cases e2 : k = j
        · subst e2; exact e
        · exact pre k (by omega)
      · exact Or.inl ⟨j, j1, pre, by omega⟩
    · exfalso
      obtain ⟨k, k1, k2, k3⟩ := isP_sfx hq hr j1 j2
      by_cases e : k = j
      · subst e; omega
      · have := h8 j k (by omega) (by omega) k2
        omega
/- all that was seen so far -/
def snB (D : gH) (N : Nat → Int) (n : Nat) (l : Int) (b p : Nat → Int) : Prop := (∀ q, isP (D 83 6).toNat (fun k => N (20 + k)) q → lxT (D 83 6).toNat q p → l ≤ rkV D N n q ∧ (l = rkV D N n q → lxE (D 83 6).toNat b q)) ∧ (l = 1000000000 ∨ (isP (D 83 6).toNat (fun k => N (20 + k)) b ∧ l = rkV D N n b ∧ lxT (D 83 6).toNat b p))
def snE (D : gH) (N : Nat → Int) (n : Nat) (l : Int) (b p : Nat → Int) : Prop := (∀ q, isP (D 83 6).toNat (fun k => N (20 + k)) q → lxE (D 83 6).toNat q p → l ≤ rkV D N n q ∧ (l = rkV D N n q → lxE (D 83 6).toNat b q)) ∧ (isP (D 83 6).toNat (fun k => N (20 + k)) b ∧ l = rkV D N n b ∧ lxE (D 83 6).toNat b p)
theorem rkN_cg {C : Nat} {N p q : Nat → Int} (h : ∀ k, k < C → p k = q k) : rkN C N p = rkN C N q := by
  funext y
  unfold rkN
  by_cases c : 20 ≤ y ∧ y < 20 + C
  · rw [if_pos c, if_pos c]; exact h _ (by omega)
  · rw [if_neg c, if_neg c]
theorem rkV_cg {D : gH} {N : Nat → Int} {n : Nat} {p q : Nat → Int} (h : ∀ k, k < (D 83 6).toNat → p k = q k) : rkV D N n p = rkV D N n q := by
  unfold rkV
  rw [rkN_cg h]
theorem sn_keep {D : gH} {N : Nat → Int} {n : Nat} {l : Int} {b p : Nat → Int} (hv : rkV D N n p ≤ 600000) (h : snB D N n l b p) (hl : l ≤ rkV D N n p) : snE D N n l b p := by
  obtain ⟨h1, h2⟩ := h
  rcases h2 with z | ⟨z1, z2, z3⟩
  · omega
  · refine ⟨fun q hq hx => ?_, z1, z2, Or.inl z3⟩
    rcases hx with hx | hx
    · exact h1 q hq hx
    · rw [rkV_cg hx]
      exact ⟨hl, fun _ => lx_cg (Or.inl z3) (fun k hk => (hx k hk).symm)⟩
theorem sn_new {D : gH} {N : Nat → Int} {n : Nat} {l : Int} {b p c : Nat → Int} (hp : isP (D 83 6).toNat (fun k => N (20 + k)) p) (h : snB D N n l b p) (hl : rkV D N n p < l) (hc : ∀ k, k < (D 83 6).toNat → c k = p k) : snE D N n (rkV D N n p) c p := by
  obtain ⟨h1, h2⟩ := h
  refine ⟨fun q hq hx => ?_, fun v => by rw [cnt_congr (p := c) (q := p) _ hc]; exact hp v, (rkV_cg hc).symm, Or.inr hc⟩
  rcases hx with hx | hx
  · have := (h1 q hq hx).1
    exact ⟨by omega, fun z => by omega⟩
  · rw [rkV_cg hx]
    exact ⟨Int.le_refl _, fun _ => Or.inr (fun k hk => (hc k hk).trans (hx k hk).symm)⟩
theorem sn_next {D : gH} {N : Nat → Int} {n : Nat} {l : Int} {b p p' : Nat → Int} {lo hi : Nat} (hp : isP (D 83 6).toNat (fun k => N (20 + k)) p) (hp' : isP (D 83 6).toNat (fun k => N (20 + k)) p') (h : snE D N n l b p) (hx : nxP (D 83 6).toNat p p' lo hi) : snB D N n l b p' := by
  obtain ⟨h1, z1, z2, z3⟩ := h
  exact ⟨fun q hq hl => h1 q hq (nx_gap hp hp' hq hx hl), Or.inr ⟨z1, z2, lx_tr z3 (nx_lt hx)⟩⟩
theorem sn_last {D : gH} {N : Nat → Int} {n : Nat} {l : Int} {b p : Nat → Int} (hp : isP (D 83 6).toNat (fun k => N (20 + k)) p) (h : snE D N n l b p) (hs : ∀ i j, i < j → j < (D 83 6).toNat → p j ≤ p i) : rkS D N n l b := by
  obtain ⟨h1, z1, z2, z3⟩ := h
  exact ⟨z1, z2, fun q hq => h1 q hq (desc_max (l := 0) hp hq (fun k hk => by omega) (fun i j _ h1 h2 => hs i j h1 h2))⟩
theorem sn_first {D : gH} {N : Nat → Int} {n : Nat} {b p : Nat → Int} (hp : isP (D 83 6).toNat (fun k => N (20 + k)) p) (hs : ∀ i j, i < j → j < (D 83 6).toNat → p i ≤ p j) : snB D N n 1000000000 b p := by
  refine ⟨fun q hq hl => ?_, Or.inl rfl⟩
  exact absurd (fun k _ => rfl) (fun z => lx_irr (lx_tr (asc_min hp hq hs) hl) z)
theorem rkS_one {D : gH} {N : Nat → Int} {n : Nat} {l l' : Int} {b b' : Nat → Int} (h : rkS D N n l b) (h' : rkS D N n l' b') : l = l' ∧ ∀ k, k < (D 83 6).toNat → b k = b' k := by
  obtain ⟨a1, a2, a3⟩ := h
  obtain ⟨c1, c2, c3⟩ := h'
  have e1 := (a3 b' c1).1
  have e2 := (c3 b a1).1
  have e : l = l' := by omega
  exact ⟨e, lx_eq ((a3 b' c1).2 (by omega)) ((c3 b a1).2 (by omega))⟩
