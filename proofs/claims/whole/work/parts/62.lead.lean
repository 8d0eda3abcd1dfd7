/- PURE: the class's leading streets; the reference's table -/
theorem c_dist2 {h : gH} {t : Nat} {a b : Nat} (ha : a < 7) (hb : b < 7) : f_City_distance t (a : Int) (b : Int) h = some (h, h (t + 10) (7 * a + b)) := by
  unfold f_City_distance
  rw [g7 ha hb, gdix (by omega) (by omega), Int.toNat_natCast]
def aoth (A B : Nat → Int) (s : Nat) (a : Int) : Int := if A s = a then B s else if B s = a then A s else -1
theorem c_other {h : gH} {t s : Nat} (hs : s < 9) (a : Int) : f_City_otherEnd t (s : Int) a h = some (h, aoth (h (t + 1)) (h (t + 2)) s a) := by
  unfold f_City_otherEnd aoth
  simp (disch := omega) only [gdix, Int.toNat_natCast]
  by_cases c1 : h (t + 1) s = a
  · rw [if_pos c1, if_pos c1]
  · rw [if_neg c1, if_neg c1]
    by_cases c2 : h (t + 2) s = a
    · rw [if_pos c2, if_pos c2]
    · rw [if_neg c2, if_neg c2]
theorem aoth_in {A B W : Nat → Int} {K S s : Nat} (hg : eGr A B W K S) (hs : s < S) (a : Int) : aoth A B s a = -1 ∨ (0 ≤ aoth A B s a ∧ aoth A B s a < (K : Int)) := by
  have := hg.2.2 s hs
  unfold aoth
  split
  · omega
  · split
    · omega
    · exact Or.inl rfl
def ldP (A B W e : Nat → Int) (a b s : Nat) : Prop := e (7 * a + b) < 1000 ∧ 0 ≤ aoth A B s (a : Int) ∧ W s + e (7 * (aoth A B s (a : Int)).toNat + b) = e (7 * a + b)
def ldS (A B W e : Nat → Int) (S a b : Nat) (r : Int) : Prop := (r = -1 ∧ ∀ s : Nat, s < S → ¬ ldP A B W e a b s) ∨ ∃ s : Nat, s < S ∧ r = (s : Int) ∧ ldP A B W e a b s ∧ ∀ s' : Nat, s' < s → ¬ ldP A B W e a b s'
theorem c_near {h : gH} {t K S a b : Nat} (hg : eGr (h (t + 1)) (h (t + 2)) (h (t + 3)) K S) (h2 : h t 2 = (S : Int)) (hj : eJ (h (t + 1)) (h (t + 2)) (h (t + 3)) K S (h (t + 10))) (ha : a < K) (hb : b < K) : ∃ r, f_City_leastNearer t (a : Int) (b : Int) h = some (h, r) ∧ ldS (h (t + 1)) (h (t + 2)) (h (t + 3)) (h (t + 10)) S a b r ∧ -1 ≤ r ∧ r ≤ 9 := by
  have hK := hg.1
  have hS := hg.2.1
  unfold f_City_leastNearer
  rw [c_dist2 (by omega) (by omega), gb_s]
  by_cases c0 : h (t + 10) (7 * a + b) < 1000
  · rw [if_pos c0]
    have key : ∀ r j, j + r = S → ∀ n, r < n → (∀ s' : Nat, s' < j → ¬ ldP (h (t + 1)) (h (t + 2)) (h (t + 3)) (h (t + 10)) a b s') → ∃ v, f_City_leastNearer_L19 t (a : Int) (b : Int) (h (t + 10) (7 * a + b)) (fun h11 => some (h11, (-1))) n (j : Int) h = some (h, v) ∧ ldS (h (t + 1)) (h (t + 2)) (h (t + 3)) (h (t + 10)) S a b v ∧ -1 ≤ v ∧ v ≤ 9 := by
      intro r
      induction r with
      | zero =>
        intro j hjS n hn hno
        obtain ⟨n', rfl⟩ : ∃ n', n = n' + 1 := ⟨n - 1, by omega⟩
        rw [f_City_leastNearer_L19, h2, if_pos (by omega)]
        exact ⟨-1, rfl, Or.inl ⟨rfl, fun s hs => hno s (by omega)⟩, by omega, by omega⟩
      | succ r ih =>
        intro j hjS n hn hno
        obtain ⟨n', rfl⟩ : ∃ n', n = n' + 1 := ⟨n - 1, by omega⟩
        rw [f_City_leastNearer_L19, h2, if_neg (by omega), c_other (by omega), gb_s]
        unfold f_City_leastNearer_J65
        rw [ga_s (by omega)]
        have hin := aoth_in hg (show j < S by omega) (a : Int)
        have go : ¬ ldP (h (t + 1)) (h (t + 2)) (h (t + 3)) (h (t + 10)) a b j → ∃ v, f_City_leastNearer_L19 t (a : Int) (b : Int) (h (t + 10) (7 * a + b)) (fun h11 => some (h11, (-1))) n' ((j + 1 : Nat) : Int) h = some (h, v) ∧ ldS (h (t + 1)) (h (t + 2)) (h (t + 3)) (h (t + 10)) S a b v ∧ -1 ≤ v ∧ v ≤ 9 := fun hq => ih (j + 1) (by omega) n' (by omega) (fun s' hs' => by
          by_cases q : s' = j
          · rw [q]; exact hq
          · exact hno s' (by omega))
        have hPd : ldP (h (t + 1)) (h (t + 2)) (h (t + 3)) (h (t + 10)) a b j ↔ h (t + 10) (7 * a + b) < 1000 ∧ 0 ≤ aoth (h (t + 1)) (h (t + 2)) j (a : Int) ∧ h (t + 3) j + h (t + 10) (7 * (aoth (h (t + 1)) (h (t + 2)) j (a : Int)).toNat + b) = h (t + 10) (7 * a + b) := Iff.rfl
        generalize aoth (h (t + 1)) (h (t + 2)) j (a : Int) = o at hin hPd ⊢
        by_cases c1 : o = -1
        · rw [if_pos c1]
          exact go (fun q => by have := (hPd.mp q).2.1; omega)
        · rw [if_neg c1]
          obtain ⟨v, rfl⟩ : ∃ v : Nat, o = (v : Int) := ⟨o.toNat, by omega⟩
          have hv : v < K := by omega
          have hw := (hg.2.2 j (by omega)).2.2.2
          have hd := (hj v b hv hb).1
          rw [Int.toNat_natCast] at hPd
          rw [gdix (by omega) (by omega), c_dist2 (by omega) (by omega), gb_s, Int.toNat_natCast, gadd_eq (by omega) (by omega)]
          by_cases c2 : h (t + 3) j + h (t + 10) (7 * v + b) = h (t + 10) (7 * a + b)
          · rw [if_pos c2]
            exact ⟨(j : Int), rfl, Or.inr ⟨j, by omega, rfl, hPd.mpr ⟨c0, by omega, c2⟩, hno⟩, by omega, by omega⟩
          · rw [if_neg c2]
            exact go (fun q => c2 (hPd.mp q).2.2)
    exact key S 0 (by omega) 50000 (by omega) (fun s' hs' => by omega)
  · rw [if_neg c0]
    exact ⟨-1, rfl, Or.inl ⟨rfl, fun s hs q => c0 q.1⟩, by omega, by omega⟩
theorem c_ldi {h : gH} {t K S a : Nat} (hg : eGr (h (t + 1)) (h (t + 2)) (h (t + 3)) K S) (h0 : h t 0 = (K : Int)) (h2 : h t 2 = (S : Int)) (hj : eJ (h (t + 1)) (h (t + 2)) (h (t + 3)) K S (h (t + 10))) (ha : a < K) (k : gH → Option gO) (l : Nat → Int) : ∃ l', f_City_lead_L12 t (a : Int) k 50000 0 (grr h (t + 11) l) = k (grr h (t + 11) l') ∧ (∀ y, y < 7 * a ∨ 7 * a + 7 ≤ y → l' y = l y) ∧ ∀ b : Nat, b < K → ldS (h (t + 1)) (h (t + 2)) (h (t + 3)) (h (t + 10)) S a b (l' (7 * a + b)) := by
  have hK := hg.1
  have key := gloopI (S := Int × gH) (F := fun n x => f_City_lead_L12 t (a : Int) k n x.1 x.2) (K := fun x => k x.2) K (fun j x => x.1 = (j : Int) ∧ ∃ l', x.2 = grr h (t + 11) l' ∧ (∀ y, y < 7 * a ∨ 7 * a + 7 ≤ y → l' y = l y) ∧ ∀ b : Nat, b < j → ldS (h (t + 1)) (h (t + 2)) (h (t + 3)) (h (t + 10)) S a b (l' (7 * a + b))) ?_ ?_ 50000 (0, grr h (t + 11) l) ⟨rfl, l, rfl, fun _ _ => rfl, fun b hb => by omega⟩ (by omega)
  · obtain ⟨s', ⟨-, l', q1, q2, q3⟩, hs2⟩ := key
    rw [q1] at hs2
    exact ⟨l', hs2, q2, q3⟩
  · intro n j x hjK hx
    obtain ⟨xi, xh⟩ := x
    obtain ⟨i1, l', i2, i3, i4⟩ := hx
    have i1' : xi = (j : Int) := i1
    have i2' : xh = grr h (t + 11) l' := i2
    subst i1' i2'
    show ∃ s', _ ∧ f_City_lead_L12 t (a : Int) k (n + 1) (j : Int) (grr h (t + 11) l') = _
    have r1 : grr h (t + 11) l' (t + 1) = h (t + 1) := grr_ne (by omega)
    have r2 : grr h (t + 11) l' (t + 2) = h (t + 2) := grr_ne (by omega)
    have r3 : grr h (t + 11) l' (t + 3) = h (t + 3) := grr_ne (by omega)
    have r10 : grr h (t + 11) l' (t + 10) = h (t + 10) := grr_ne (by omega)
    have rt : grr h (t + 11) l' t = h t := grr_ne (by omega)
    obtain ⟨r, z1, z2, z3, z4⟩ := c_near (h := grr h (t + 11) l') (t := t) (K := K) (S := S) (a := a) (b := j) (by rw [r1, r2, r3]; exact hg) (by rw [rt]; exact h2) (by rw [r1, r2, r3, r10]; exact hj) ha hjK
    rw [r1, r2, r3, r10] at z2
    rw [f_City_lead_L12, rt, h0, if_neg (by omega), z1, gb_s, g7 (by omega) (by omega), gdix (by omega) (by omega), gs_s, Int.toNat_natCast, grr_up, ga_s (by omega)]
    refine ⟨(((j + 1 : Nat) : Int), _), ⟨rfl, _, rfl, fun y hy => ?_, fun b hb => ?_⟩, rfl⟩
    · rw [nu_ne (by omega)]; exact i3 y hy
    · by_cases q : b = j
      · subst q; rw [nu_at]; exact z2
      · rw [nu_ne (by omega)]; exact i4 b (by omega)
  · intro n x hx
    obtain ⟨xi, xh⟩ := x
    obtain ⟨i1, l', i2, i3⟩ := hx
    have i1' : xi = (K : Int) := i1
    have i2' : xh = grr h (t + 11) l' := i2
    subst i1' i2'
    show f_City_lead_L12 t (a : Int) k (n + 1) (K : Int) (grr h (t + 11) l') = k (grr h (t + 11) l')
    rw [f_City_lead_L12, grr_ne (show t ≠ t + 11 by omega), h0, if_pos (by omega)]
theorem c_lead {h : gH} {t K S : Nat} (hg : eGr (h (t + 1)) (h (t + 2)) (h (t + 3)) K S) (h0 : h t 0 = (K : Int)) (h2 : h t 2 = (S : Int)) (hj : eJ (h (t + 1)) (h (t + 2)) (h (t + 3)) K S (h (t + 10))) : ∃ l', f_City_lead t h = some (grr h (t + 11) l', 0) ∧ ∀ a b : Nat, a < K → b < K → ldS (h (t + 1)) (h (t + 2)) (h (t + 3)) (h (t + 10)) S a b (l' (7 * a + b)) := by
  have hK := hg.1
  have hself : h = grr h (t + 11) (h (t + 11)) := (grr_self h (t + 11)).symm
  unfold f_City_lead
  have key := gloopI (S := Int × gH) (F := fun n x => f_City_lead_L2 t (fun h7 => some (h7, 0)) n x.1 x.2) (K := fun x => some (x.2, 0)) K (fun j x => x.1 = (j : Int) ∧ ∃ l', x.2 = grr h (t + 11) l' ∧ ∀ a b : Nat, a < j → b < K → ldS (h (t + 1)) (h (t + 2)) (h (t + 3)) (h (t + 10)) S a b (l' (7 * a + b))) ?_ ?_ 50000 (0, h) ⟨rfl, h (t + 11), hself, fun a b ha hb => by omega⟩ (by omega)
  · obtain ⟨s', ⟨-, l', q1, q2⟩, hs2⟩ := key
    rw [q1] at hs2
    exact ⟨l', hs2, q2⟩
  · intro n j x hjK hx
    obtain ⟨xi, xh⟩ := x
    obtain ⟨i1, l', i2, i3⟩ := hx
    have i1' : xi = (j : Int) := i1
    have i2' : xh = grr h (t + 11) l' := i2
    subst i1' i2'
    show ∃ s', _ ∧ f_City_lead_L2 t (fun h7 => some (h7, 0)) (n + 1) (j : Int) (grr h (t + 11) l') = _
    obtain ⟨l2, z1, z2, z3⟩ := c_ldi (a := j) hg h0 h2 hj hjK (fun h6 => f_City_lead_L2 t (fun h7 => some (h7, 0)) n (gadd (j : Int) 1) h6) l'
    rw [f_City_lead_L2, grr_ne (show t ≠ t + 11 by omega), h0, if_neg (by omega), z1, ga_s (by omega)]
    refine ⟨(((j + 1 : Nat) : Int), _), ⟨rfl, _, rfl, fun a b ha hb => ?_⟩, rfl⟩
    by_cases q : a = j
    · subst q; exact z3 b hb
    · rw [z2 _ (by omega)]; exact i3 a b (by omega) hb
  · intro n x hx
    obtain ⟨xi, xh⟩ := x
    obtain ⟨i1, l', i2, i3⟩ := hx
    have i1' : xi = (K : Int) := i1
    have i2' : xh = grr h (t + 11) l' := i2
    subst i1' i2'
    show f_City_lead_L2 t (fun h7 => some (h7, 0)) (n + 1) (K : Int) (grr h (t + 11) l') = _
    rw [f_City_lead_L2, grr_ne (show t ≠ t + 11 by omega), h0, if_pos (by omega)]
theorem c_measure {h : gH} {t K S : Nat} (hg : eGr (h (t + 1)) (h (t + 2)) (h (t + 3)) K S) (h0 : h t 0 = (K : Int)) (h2 : h t 2 = (S : Int)) : ∃ e l, f_City_measure t h = some (grr (grr h (t + 10) e) (t + 11) l, 0) ∧ eJ (h (t + 1)) (h (t + 2)) (h (t + 3)) K S e ∧ eC (h (t + 1)) (h (t + 2)) (h (t + 3)) K S e ∧ ∀ a b : Nat, a < K → b < K → ldS (h (t + 1)) (h (t + 2)) (h (t + 3)) e S a b (l (7 * a + b)) := by
  have hK := hg.1
  unfold f_City_measure
  obtain ⟨e1, z1, y1⟩ := c_m1 hK h0 (fun h6 => f_City_measure_L57 t (fun h12 => f_City_measure_L117 t (fun h24 => gb (f_City_lead t h24) (fun h25 r26 => some (h25, 0))) 50000 0 h12) 50000 0 h6) (h (t + 10))
  rw [grr_self] at z1
  rw [z1]
  have j1 : eJ (h (t + 1)) (h (t + 2)) (h (t + 3)) K S e1 := fun a b ha hb => by
    rw [y1 a b ha hb, y1 a a ha ha]
    refine ⟨by split <;> omega, if_pos rfl, fun q => ?_⟩
    by_cases c : a = b
    · rw [if_pos c]; exact ⟨0, c, rfl⟩
    · rw [if_neg c] at q; omega
  obtain ⟨e2, z2, j2, s2⟩ := c_m2 hg h2 (fun h12 => f_City_measure_L117 t (fun h24 => gb (f_City_lead t h24) (fun h25 r26 => some (h25, 0))) 50000 0 h12) e1 j1
  rw [z2]
  obtain ⟨e3, z3, r3⟩ := c_m3 (t := t) (h := h) hg h0 (e := e2) ⟨j2, s2, fun x a b hx => by omega⟩ (fun h24 => gb (f_City_lead t h24) (fun h25 r26 => some (h25, 0)))
  rw [z3]
  have q1 : grr h (t + 10) e3 (t + 1) = h (t + 1) := grr_ne (by omega)
  have q2 : grr h (t + 10) e3 (t + 2) = h (t + 2) := grr_ne (by omega)
  have q3 : grr h (t + 10) e3 (t + 3) = h (t + 3) := grr_ne (by omega)
  have qt : grr h (t + 10) e3 t = h t := grr_ne (by omega)
  have q10 : grr h (t + 10) e3 (t + 10) = e3 := grr_at _ _ _
  obtain ⟨l, z4, y4⟩ := c_lead (h := grr h (t + 10) e3) (t := t) (K := K) (S := S) (by rw [q1, q2, q3]; exact hg) (by rw [qt]; exact h0) (by rw [qt]; exact h2) (by rw [q1, q2, q3, q10]; exact r3.1)
  rw [q1, q2, q3, q10] at y4
  rw [z4, gb_s]
  exact ⟨e3, l, rfl, r3.1, Rd_eC hg r3, y4⟩
/- the reference's table -/
theorem m_far0 {h : gH} (k : gH → Option gO) : ∃ f, f_Mo_findFar_L2 k 50000 0 h = k (grr h 91 f) ∧ ∀ a b : Nat, a < 7 → b < 7 → f (7 * a + b) = if a = b then 0 else 1000000 := by
  have key := gloopI (S := Int × gH) (F := fun n x => f_Mo_findFar_L2 k n x.1 x.2) (K := fun x => k x.2) 49 (fun j x => x.1 = (j : Int) ∧ ∃ f, x.2 = grr h 91 f ∧ ∀ a b : Nat, a < 7 → b < 7 → 7 * a + b < j → f (7 * a + b) = if a = b then 0 else 1000000) ?_ ?_ 50000 (0, h) ⟨rfl, h 91, (grr_self h 91).symm, fun a b _ _ q => by omega⟩ (by omega)
  · obtain ⟨s', ⟨-, f, q1, q2⟩, hs2⟩ := key
    rw [q1] at hs2
    exact ⟨f, hs2, fun a b ha hb => q2 a b ha hb (by omega)⟩
  · intro n j x hj hx
    obtain ⟨xi, xh⟩ := x
    obtain ⟨i1, f, i2, i3⟩ := hx
    have i1' : xi = (j : Int) := i1
    have i2' : xh = grr h 91 f := i2
    subst i1' i2'
    show ∃ s', _ ∧ f_Mo_findFar_L2 k (n + 1) (j : Int) (grr h 91 f) = _
    rw [f_Mo_findFar_L2, if_neg (by omega), gdnz (by decide), gdnz (by decide), gdiv_eq (by omega) (by omega) (by omega) (by omega), grem_eq (by omega) (by omega) (by omega) (by omega)]
    unfold f_Mo_findFar_J30
    rw [gdix (by omega) (by omega), gs_s, gs_s, Int.toNat_natCast, grr_up, grr_up, ga_s (by omega)]
    have fin : ∀ v : Int, v = (if j / 7 = j % 7 then 0 else 1000000) → ∃ s' : Int × gH, (s'.1 = ((j + 1 : Nat) : Int) ∧ ∃ f, s'.2 = grr h 91 f ∧ ∀ a b : Nat, a < 7 → b < 7 → 7 * a + b < j + 1 → f (7 * a + b) = if a = b then 0 else 1000000) ∧ f_Mo_findFar_L2 k n ((j + 1 : Nat) : Int) (grr h 91 (nu f j v)) = f_Mo_findFar_L2 k n s'.1 s'.2 := fun v hv => by
      refine ⟨(((j + 1 : Nat) : Int), _), ⟨rfl, _, rfl, fun a b ha hb hab => ?_⟩, rfl⟩
      by_cases q : 7 * a + b = j
      · rw [q, nu_at, hv]
        have e1 : j / 7 = a := by omega
        have e2 : j % 7 = b := by omega
        rw [e1, e2]
      · rw [nu_ne q]; exact i3 a b ha hb (by omega)
    by_cases c1 : (j : Int) / 7 = (j : Int) % 7
    · rw [if_pos c1]
      exact fin 0 (by rw [if_pos (by omega)])
    · rw [if_neg c1, gdix (by omega) (by omega)]
      exact fin 1000000 (by rw [if_neg (by omega)])
  · intro n x hx
    obtain ⟨xi, xh⟩ := x
    obtain ⟨i1, f, i2, i3⟩ := hx
    have i1' : xi = ((49 : Nat) : Int) := i1
    have i2' : xh = grr h 91 f := i2
    subst i1' i2'
    show f_Mo_findFar_L2 k (n + 1) ((49 : Nat) : Int) (grr h 91 f) = k (grr h 91 f)
    rw [f_Mo_findFar_L2, if_pos (by omega)]
