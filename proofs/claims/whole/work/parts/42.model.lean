/- PURE: the reference's methods as functions of the 50 numbers -/
theorem gfold_succ {α : Type} (f : Nat → α → α) (n : Nat) (a : α) : gfold f (n + 1) a = f n (gfold f n a) := rfl
theorem m_other {h : gH} {s : Nat} {a : Int} (hs : s < 9) : f_Mo_other (s : Int) a h = some (h, aOther (ct h) s a) := by
  have e : aOther (ct h) s a = (if h 84 s = a then h 85 s else if h 85 s = a then h 84 s else -1) := rfl
  rw [e]
  unfold f_Mo_other
  simp (disch := omega) only [gdix, Int.toNat_natCast]
  by_cases c1 : h 84 s = a
  · rw [if_pos c1, if_pos c1]
  · rw [if_neg c1, if_neg c1]
    by_cases c2 : h 85 s = a
    · rw [if_pos c2, if_pos c2]
    · rw [if_neg c2, if_neg c2]
theorem aOther_in {c : gH} (hc : cW c) {s : Nat} (hs : (s : Int) < c 83 2) (a : Int) : -1 ≤ aOther c s a ∧ aOther c s a < 7 := by
  obtain ⟨h1, h2, h3, h4, h5, h6, h7, h8⟩ := hc
  have := h6 s hs
  unfold aOther
  split
  · omega
  · split <;> omega
theorem aIs_iff {c : gH} {a b : Int} {s : Nat} : aIs c a b s = true ↔ 0 ≤ aOther c s a ∧ aDist c a b < 1000000 ∧ c 86 s + aDist c (aOther c s a) b = aDist c a b := by
  unfold aIs
  rw [Bool.and_eq_true, Bool.and_eq_true, decide_eq_true_eq, decide_eq_true_eq, decide_eq_true_eq]
theorem m_nx_step {h : gH} (hc : cW (ct h)) {a b : Int} (ha : 0 ≤ a ∧ a < 7) (hb : 0 ≤ b ∧ b < 7) {s : Nat} (hs : (s : Int) < h 83 2) (k : Int → gH → Option gO) (n : Nat) (best : Int) : f_Mo_nextFrom_L10 a b k (n + 1) best (s : Int) h = f_Mo_nextFrom_L10 a b k n (if aIs (ct h) a b s = true then (s : Int) else best) ((s : Int) - 1) h := by
  have hS : h 83 2 ≤ 9 := hc.2.1.2
  have hoth := aOther_in hc (s := s) hs a
  have hw : 1 ≤ h 86 s ∧ h 86 s ≤ 9 := (hc.2.2.2.2.2.1 _ hs).2.2.2
  have e1 : gmul 7 a = 7 * a := gmul_eq (by omega) (by omega)
  have e2 : gadd (7 * a) b = 7 * a + b := gadd_eq (by omega) (by omega)
  have e3 : gadd (s : Int) (-1) = (s : Int) - 1 := gadd_eq (by omega) (by omega)
  rw [f_Mo_nextFrom_L10, if_neg (by omega), m_other (by omega), gb_s, e1, e2]
  unfold f_Mo_nextFrom_J83 f_Mo_nextFrom_J84 f_Mo_nextFrom_J97
  rw [e3, if_pos rfl]
  have hiff := @aIs_iff (ct h) a b s
  unfold aDist at hiff
  simp only [ct_86, ct_91] at hiff
  generalize aOther (ct h) s a = oth at hoth hiff ⊢
  by_cases c1 : oth < 0
  · rw [if_pos c1, if_neg (fun q => by have := (hiff.mp q).1; omega)]
  · have e4 : gmul 7 oth = 7 * oth := gmul_eq (by omega) (by omega)
    have e5 : gadd (7 * oth) b = 7 * oth + b := gadd_eq (by omega) (by omega)
    rw [if_neg c1, gdix (by omega) (by omega), e4, e5]
    by_cases c2 : 1000000 ≤ h 91 (7 * a + b).toNat
    · rw [if_pos c2, if_neg (fun q => by have := (hiff.mp q).2.1; omega)]
    · have hb1 : 0 ≤ h 91 (7 * oth + b).toNat ∧ h 91 (7 * oth + b).toNat ≤ 1000000 := hc.2.2.2.2.2.2.2 _ (by omega)
      rw [if_neg c2, gdix (by omega) (by omega), gdix (by omega) (by omega), gdix (by omega) (by omega), Int.toNat_natCast, gadd_eq (by omega) (by omega)]
      by_cases c3 : h 86 s + h 91 (7 * oth + b).toNat = h 91 (7 * a + b).toNat
      · rw [if_pos c3, if_pos (hiff.mpr ⟨by omega, by omega, c3⟩), if_neg (by decide)]
      · rw [if_neg c3, if_neg (fun q => c3 (hiff.mp q).2.2)]
theorem m_nextFrom {h : gH} (hc : cW (ct h)) {a b : Int} (ha : 0 ≤ a ∧ a < 7) (hb : 0 ≤ b ∧ b < 7) : f_Mo_nextFrom a b h = some (h, aNx (ct h) a b) := by
  have hS : 0 ≤ h 83 2 ∧ h 83 2 ≤ 9 := hc.2.1
  have hS' : ct h 83 2 = h 83 2 := rfl
  unfold f_Mo_nextFrom
  obtain ⟨S, hSe⟩ : ∃ S : Nat, h 83 2 = (S : Int) := ⟨(h 83 2).toNat, by omega⟩
  have key := gloop (S := Int × Int × gH) (F := fun n s => f_Mo_nextFrom_L10 a b (fun v8 h9 => some (h9, v8)) n s.1 s.2.1 s.2.2) (K := fun s => some (s.2.2, s.1)) S (fun j => (gfold (aNxF (ct h) a b S) j (-1), (S : Int) - 1 - (j : Int), h)) ?_ ?_ 50000 (by omega)
  · rw [gsub_eq (by omega) (by omega), hSe]
    have e : (S : Int) - 1 = (S : Int) - 1 - ((0 : Nat) : Int) := by omega
    rw [e]
    refine Eq.trans key ?_
    unfold aNx
    rw [hS', hSe, Int.toNat_natCast]
  · intro n j hj
    have hsj : (S : Int) - 1 - (j : Int) = ((S - 1 - j : Nat) : Int) := by omega
    have hsj2 : ((S - 1 - j : Nat) : Int) - 1 = (S : Int) - 1 - ((j + 1 : Nat) : Int) := by omega
    show f_Mo_nextFrom_L10 a b _ (n + 1) (gfold (aNxF (ct h) a b S) j (-1)) ((S : Int) - 1 - (j : Int)) h = f_Mo_nextFrom_L10 a b _ n (gfold (aNxF (ct h) a b S) (j + 1) (-1)) ((S : Int) - 1 - ((j + 1 : Nat) : Int)) h
    rw [hsj, m_nx_step hc ha hb (by omega), hsj2]
    rfl
  · intro n
    show f_Mo_nextFrom_L10 a b _ (n + 1) _ _ h = _
    rw [f_Mo_nextFrom_L10, if_pos (by show (S : Int) - 1 - (S : Int) < 0; omega)]
theorem ga_1 {k : Nat} (hk : k < 100) : gadd 1 (k : Int) = ((1 + k : Nat) : Int) := by rw [gadd_eq (by omega) (by omega)]; omega
theorem ga_2 {k : Nat} (hk : k < 100) : gadd 2 (k : Int) = ((2 + k : Nat) : Int) := by rw [gadd_eq (by omega) (by omega)]; omega
theorem ga_11 {k : Nat} (hk : k < 100) : gadd 11 (k : Int) = ((11 + k : Nat) : Int) := by rw [gadd_eq (by omega) (by omega)]; omega
theorem ga_20 {k : Nat} (hk : k < 100) : gadd 20 (k : Int) = ((20 + k : Nat) : Int) := by rw [gadd_eq (by omega) (by omega)]; omega
theorem ga_26 {k : Nat} (hk : k < 100) : gadd 26 (k : Int) = ((26 + k : Nat) : Int) := by rw [gadd_eq (by omega) (by omega)]; omega
theorem ga_32 {k : Nat} (hk : k < 100) : gadd 32 (k : Int) = ((32 + k : Nat) : Int) := by rw [gadd_eq (by omega) (by omega)]; omega
theorem ga_38 {k : Nat} (hk : k < 100) : gadd 38 (k : Int) = ((38 + k : Nat) : Int) := by rw [gadd_eq (by omega) (by omega)]; omega
theorem ga_44 {k : Nat} (hk : k < 100) : gadd 44 (k : Int) = ((44 + k : Nat) : Int) := by rw [gadd_eq (by omega) (by omega)]; omega
theorem aNx_in (c : gH) (hc : cW c) (a b : Int) : -1 ≤ aNx c a b ∧ aNx c a b < c 83 2 := by
  have hS : 0 ≤ c 83 2 := hc.2.1.1
  unfold aNx
  have key : ∀ j, j ≤ (c 83 2).toNat → -1 ≤ gfold (aNxF c a b (c 83 2).toNat) j (-1) ∧ gfold (aNxF c a b (c 83 2).toNat) j (-1) < c 83 2 := by
    intro j
    induction j with
    | zero => intro _; exact ⟨by show (-1 : Int) ≤ -1; omega, by show (-1 : Int) < _; omega⟩
    | succ j ih =>
      intro hj
      have := ih (by omega)
      rw [gfold_succ]
      generalize gfold (aNxF c a b (c 83 2).toNat) j (-1) = best at this ⊢
      unfold aNxF
      split <;> omega
  exact key _ (Nat.le_refl _)
theorem m_nextOf {h : gH} (hc : cW (ct h)) {w : Int} (hn : nW (ct h) w (h 92)) {k : Nat} (hk : (k : Int) < h 83 6) : f_Mo_nextOf (k : Int) h = some (h, aNk (ct h) (h 92) k) := by
  have hC : h 83 6 ≤ 6 := hc.2.2.1.2
  have hk2 := hn.2.2.2 k hk
  have hck := hc.2.2.2.2.2.2.1 k hk
  have hK : h 83 0 ≤ 7 := hc.1.2
  unfold f_Mo_nextOf aNk
  simp (disch := omega) only [ga_26, ga_32, gdix, Int.toNat_natCast]
  by_cases c1 : h 92 (26 + k) = 1
  · rw [if_pos c1, if_pos c1]
    have h1 := (hk2.2.2.2.2.2.1 c1).1
    have h2 : 0 ≤ h 88 k ∧ h 88 k < h 83 0 := hck.2.1
    have h1' : h 92 (32 + k) < h 83 0 := h1.2
    rw [m_nextFrom hc (by omega) (by omega)]
    rfl
  · rw [if_neg c1, if_neg c1]
theorem m_isWaiting {h : gH} (hc : cW (ct h)) {w : Int} (hn : nW (ct h) w (h 92)) {k s : Nat} (hk : (k : Int) < h 83 6) (hs : (s : Int) < h 83 2) (side : Int) : f_Mo_isWaiting (k : Int) (s : Int) side h = some (h, if aW (ct h) (h 92) s side k = true then 1 else 0) := by
  have hC : h 83 6 ≤ 6 := hc.2.2.1.2
  have hS : h 83 2 ≤ 9 := hc.2.1.2
  unfold f_Mo_isWaiting f_Mo_isWaiting_J37
  rw [m_nextOf hc hn hk, gb_s]
  have hiff : aW (ct h) (h 92) s side k = true ↔ aNk (ct h) (h 92) k = (s : Int) ∧ h 92 (32 + k) = (if side = 0 then h 84 s else h 85 s) := by
    unfold aW
    rw [Bool.and_eq_true, decide_eq_true_eq, decide_eq_true_eq]
    rfl
  simp (disch := omega) only [ga_32, gdix, Int.toNat_natCast, gdz0, gdz1]
  by_cases c1 : aNk (ct h) (h 92) k = (s : Int)
  · rw [if_pos c1]
    by_cases c2 : side = 0
    · rw [if_pos c2] at hiff ⊢
      by_cases c3 : h 92 (32 + k) = h 84 s
      · rw [if_pos c3, if_pos (hiff.mpr ⟨c1, c3⟩)]
      · rw [if_neg c3, if_neg (fun q => c3 (hiff.mp q).2)]
    · rw [if_neg c2] at hiff ⊢
      by_cases c3 : h 92 (32 + k) = h 85 s
      · rw [if_pos c3, if_pos (hiff.mpr ⟨c1, c3⟩)]
      · rw [if_neg c3, if_neg (fun q => c3 (hiff.mp q).2)]
  · rw [if_neg c1, if_neg (fun q => c1 (hiff.mp q).1)]
theorem m_isAhead {h : gH} {k q : Nat} (hk : k < 6) (hq : q < 6) : f_Mo_isAhead (k : Int) (q : Int) h = some (h, if aAh (h 92) k q = true then 1 else 0) := by
  unfold f_Mo_isAhead aAh
  simp (disch := omega) only [ga_20, ga_38, gdix, Int.toNat_natCast, gdz0, gdz1]
  by_cases c1 : h 92 (20 + k) = h 92 (20 + q)
  · rw [if_pos c1, if_pos c1]
    by_cases c2 : h 92 (38 + k) = h 92 (38 + q)
    · rw [if_pos c2, if_pos c2]
      by_cases c3 : (q : Int) ≤ (k : Int)
      · rw [if_pos c3, if_neg (by rw [decide_eq_true_eq]; omega)]
      · rw [if_neg c3, if_pos (by rw [decide_eq_true_eq]; omega)]
    · rw [if_neg c2, if_neg c2]
      by_cases c3 : h 92 (38 + q) ≤ h 92 (38 + k)
      · rw [if_pos c3, if_neg (by rw [decide_eq_true_eq]; omega)]
      · rw [if_neg c3, if_pos (by rw [decide_eq_true_eq]; omega)]
  · rw [if_neg c1, if_neg c1]
    by_cases c3 : h 92 (20 + k) ≤ h 92 (20 + q)
    · rw [if_pos c3, if_neg (by rw [decide_eq_true_eq]; omega)]
    · rw [if_neg c3, if_pos (by rw [decide_eq_true_eq]; omega)]
theorem ga_s {k : Nat} (hk : k < 100000) : gadd (k : Int) 1 = ((k + 1 : Nat) : Int) := by rw [gadd_eq (by omega) (by omega)]; omega
theorem aFore_in (c : gH) (N : Nat → Int) (s : Nat) (side : Int) : ∀ j : Nat, -1 ≤ gfold (aForeF c N s side) j (-1) ∧ gfold (aForeF c N s side) j (-1) < (j : Int) := by
  intro j
  induction j with
  | zero => exact ⟨by show (-1 : Int) ≤ -1; omega, by show (-1 : Int) < _; omega⟩
  | succ j ih =>
    rw [gfold_succ]
    generalize gfold (aForeF c N s side) j (-1) = best at ih ⊢
    unfold aForeF
    split <;> omega
theorem m_foremostOf {h : gH} (hc : cW (ct h)) {w : Int} (hn : nW (ct h) w (h 92)) {s : Nat} (hs : (s : Int) < h 83 2) (side : Int) : f_Mo_foremostOf (s : Int) side h = some (h, aFore (ct h) (h 92) s side) := by
  have hC : 0 ≤ h 83 6 ∧ h 83 6 ≤ 6 := hc.2.2.1
  obtain ⟨C, hCe⟩ : ∃ C : Nat, h 83 6 = (C : Int) := ⟨(h 83 6).toNat, by omega⟩
  unfold f_Mo_foremostOf
  have key := gloop (S := Int × Int × gH) (F := fun n x => f_Mo_foremostOf_L5 (s : Int) side (fun v9 h10 => some (h10, v9)) n x.1 x.2.1 x.2.2) (K := fun x => some (x.2.2, x.1)) C (fun j => (gfold (aForeF (ct h) (h 92) s side) j (-1), (j : Int), h)) ?_ ?_ 50000 (by omega)
  · refine Eq.trans key ?_
    unfold aFore
    rw [ct_83_6, hCe, Int.toNat_natCast]
  · intro n j hj
    show f_Mo_foremostOf_L5 (s : Int) side _ (n + 1) (gfold (aForeF (ct h) (h 92) s side) j (-1)) (j : Int) h = f_Mo_foremostOf_L5 (s : Int) side _ n (gfold (aForeF (ct h) (h 92) s side) (j + 1) (-1)) ((j + 1 : Nat) : Int) h
    have hb := aFore_in (ct h) (h 92) s side j
    rw [gfold_succ]
    generalize gfold (aForeF (ct h) (h 92) s side) j (-1) = best at hb ⊢
    rw [f_Mo_foremostOf_L5, if_neg (by omega), m_isWaiting hc hn (by omega) hs, gb_s]
    unfold f_Mo_foremostOf_J44 f_Mo_foremostOf_J39 f_Mo_foremostOf_J45 aForeF
    rw [ga_s (by omega)]
    by_cases c1 : aW (ct h) (h 92) s side j = true
    · rw [if_pos c1, c1, Bool.true_and, if_neg (by decide)]
      by_cases c2 : best < 0
      · rw [if_pos c2, decide_eq_true c2, Bool.true_or, if_pos rfl]
      · obtain ⟨q, hq⟩ : ∃ q : Nat, best = (q : Int) := ⟨best.toNat, by omega⟩
        subst hq
        rw [if_neg c2, decide_eq_false c2, Bool.false_or, Int.toNat_natCast, m_isAhead (by omega) (by omega), gb_s]
        by_cases c3 : aAh (h 92) j q = true
        · rw [if_pos c3, if_pos c3, if_neg (by decide)]
        · rw [if_neg c3, if_neg c3, if_pos rfl]
    · rw [if_neg c1, if_pos rfl]
      have : aW (ct h) (h 92) s side j = false := by simpa using c1
      rw [this, Bool.false_and, if_neg (by decide)]
  · intro n
    show f_Mo_foremostOf_L5 (s : Int) side _ (n + 1) _ (C : Int) h = _
    rw [f_Mo_foremostOf_L5, if_pos (by omega)]
theorem m_longest {h : gH} (hc : cW (ct h)) {w : Int} (hn : nW (ct h) w (h 92)) {s : Nat} (hs : (s : Int) < h 83 2) (side : Int) : f_Mo_longest (s : Int) side h = some (h, aLong (ct h) (h 92) s side) := by
  have hC : 0 ≤ h 83 6 ∧ h 83 6 ≤ 6 := hc.2.2.1
  obtain ⟨C, hCe⟩ : ∃ C : Nat, h 83 6 = (C : Int) := ⟨(h 83 6).toNat, by omega⟩
  unfold f_Mo_longest
  have key := gloop (S := Int × Int × gH) (F := fun n x => f_Mo_longest_L6 (s : Int) side (fun v6 h7 => some (h7, v6)) n x.1 x.2.1 x.2.2) (K := fun x => some (x.2.2, x.1)) C (fun j => (gfold (aLongF (ct h) (h 92) s side) j 1000000, (j : Int), h)) ?_ ?_ 50000 (by omega)
  · refine Eq.trans key ?_
    unfold aLong
    rw [ct_83_6, hCe, Int.toNat_natCast]
  · intro n j hj
    show f_Mo_longest_L6 (s : Int) side _ (n + 1) (gfold (aLongF (ct h) (h 92) s side) j 1000000) (j : Int) h = f_Mo_longest_L6 (s : Int) side _ n (gfold (aLongF (ct h) (h 92) s side) (j + 1) 1000000) ((j + 1 : Nat) : Int) h
    rw [gfold_succ]
    generalize gfold (aLongF (ct h) (h 92) s side) j 1000000 = best
    rw [f_Mo_longest_L6, if_neg (by omega), m_isWaiting hc hn (by omega) hs, gb_s]
    unfold f_Mo_longest_J53 f_Mo_longest_J54 aLongF
    rw [ga_s (by omega), ga_38 (by omega), gdix (by omega) (by omega), gdix (by omega) (by omega), Int.toNat_natCast]
    by_cases c1 : aW (ct h) (h 92) s side j = true
    · rw [if_pos c1, c1, Bool.true_and, if_neg (by decide)]
      by_cases c2 : best ≤ h 92 (38 + j)
      · rw [if_pos c2, if_neg (by rw [decide_eq_true_eq]; omega)]
      · rw [if_neg c2, if_pos (by rw [decide_eq_true_eq]; omega)]
    · rw [if_neg c1, if_pos rfl]
      have : aW (ct h) (h 92) s side j = false := by simpa using c1
      rw [this, Bool.false_and, if_neg (by decide)]
  · intro n
    show f_Mo_longest_L6 (s : Int) side _ (n + 1) _ (C : Int) h = _
    rw [f_Mo_longest_L6, if_pos (by omega)]
theorem aCnt_in (c : gH) (N : Nat → Int) (s : Nat) (side : Int) : ∀ j : Nat, 0 ≤ gfold (aCntF c N s side) j 0 ∧ gfold (aCntF c N s side) j 0 ≤ (j : Int) := by
  intro j
  induction j with
  | zero => exact ⟨by show (0 : Int) ≤ 0; omega, by show (0 : Int) ≤ _; omega⟩
  | succ j ih =>
    rw [gfold_succ]
    generalize gfold (aCntF c N s side) j 0 = best at ih ⊢
    unfold aCntF
    split <;> omega
theorem m_waiting {h : gH} (hc : cW (ct h)) {w : Int} (hn : nW (ct h) w (h 92)) {s : Nat} (hs : (s : Int) < h 83 2) (side : Int) : f_Mo_waiting (s : Int) side h = some (h, aCnt (ct h) (h 92) s side) := by
  have hC : 0 ≤ h 83 6 ∧ h 83 6 ≤ 6 := hc.2.2.1
  obtain ⟨C, hCe⟩ : ∃ C : Nat, h 83 6 = (C : Int) := ⟨(h 83 6).toNat, by omega⟩
  unfold f_Mo_waiting
  have key := gloop (S := Int × Int × gH) (F := fun n x => f_Mo_waiting_L5 (s : Int) side (fun v5 h6 => some (h6, v5)) n x.1 x.2.1 x.2.2) (K := fun x => some (x.2.2, x.1)) C (fun j => (gfold (aCntF (ct h) (h 92) s side) j 0, (j : Int), h)) ?_ ?_ 50000 (by omega)
  · refine Eq.trans key ?_
    unfold aCnt
    rw [ct_83_6, hCe, Int.toNat_natCast]
  · intro n j hj
    show f_Mo_waiting_L5 (s : Int) side _ (n + 1) (gfold (aCntF (ct h) (h 92) s side) j 0) (j : Int) h = f_Mo_waiting_L5 (s : Int) side _ n (gfold (aCntF (ct h) (h 92) s side) (j + 1) 0) ((j + 1 : Nat) : Int) h
    have hb := aCnt_in (ct h) (h 92) s side j
    rw [gfold_succ]
    generalize gfold (aCntF (ct h) (h 92) s side) j 0 = best at hb ⊢
    rw [f_Mo_waiting_L5, if_neg (by omega), m_isWaiting hc hn (by omega) hs, gb_s]
    unfold f_Mo_waiting_J31 aCntF
    rw [ga_s (by omega), gadd_eq (by omega) (by omega), gadd_eq (by omega) (by omega)]
    by_cases c1 : aW (ct h) (h 92) s side j = true
    · rw [if_pos c1, if_pos c1, if_neg (by decide)]
    · rw [if_neg c1, if_neg c1, if_pos rfl, Int.add_zero]
  · intro n
    show f_Mo_waiting_L5 (s : Int) side _ (n + 1) _ (C : Int) h = _
    rw [f_Mo_waiting_L5, if_pos (by omega)]
/- sets -/
theorem aMsk_step {P : Nat → Bool} {j : Nat} {m : Nat} (hm : m < 64) (hj : j < 6) (hb : ∀ i : Nat, i < 6 → gbit (m : Int) i = (decide (i < j) && P i)) : ∃ m' : Nat, m' < 64 ∧ aMskF P j (m : Int) = (m' : Int) ∧ ∀ i : Nat, i < 6 → gbit (m' : Int) i = (decide (i < j + 1) && P i) := by
  unfold aMskF
  cases hP : P j with
  | true =>
    rw [if_pos rfl]
    obtain ⟨⟨h1, h2⟩, h3⟩ := gb_or m hm j hj
    obtain ⟨m', hm'⟩ : ∃ m' : Nat, gor (m : Int) (gshl 1 (j : Int)) = (m' : Int) := ⟨_, (Int.toNat_of_nonneg h1).symm⟩
    refine ⟨m', by omega, hm', fun i hi => ?_⟩
    rw [← hm', h3 i hi, hb i hi]
    by_cases e : i = j
    · subst e; simp [hP]
    · by_cases e2 : i < j
      · simp [e, e2, show i < j + 1 by omega]
      · simp [e, e2, show ¬ i < j + 1 by omega]
  | false =>
    rw [if_neg (by decide)]
    obtain ⟨⟨h1, h2⟩, h3⟩ := gb_orm m hm 0 (by decide)
    obtain ⟨m', hm'⟩ : ∃ m' : Nat, gor (m : Int) 0 = (m' : Int) := ⟨_, (Int.toNat_of_nonneg h1).symm⟩
    have h2' : gor (m : Int) 0 < 64 := h2
    refine ⟨m', by omega, hm', fun i hi => ?_⟩
    rw [← hm']
    have h3' : gbit (gor (m : Int) 0) i = (gbit (m : Int) i || gbit 0 i) := h3 i hi
    rw [h3', hb i hi, gb_zero, Bool.or_false]
    by_cases e : i = j
    · subst e; simp [hP]
    · by_cases e2 : i < j
      · simp [e2, show i < j + 1 by omega]
      · simp [e2, show ¬ i < j + 1 by omega]
theorem aMsk_val (P : Nat → Bool) : ∀ j : Nat, j ≤ 6 → ∃ m : Nat, m < 64 ∧ gfold (aMskF P) j 0 = (m : Int) ∧ ∀ i : Nat, i < 6 → gbit (m : Int) i = (decide (i < j) && P i) := by
  intro j
  induction j with
  | zero => intro _; exact ⟨0, by decide, rfl, fun i _ => by rw [show ((0 : Nat) : Int) = 0 from rfl, gb_zero]; simp⟩
  | succ j ih =>
    intro hj
    obtain ⟨m, h1, h2, h3⟩ := ih (by omega)
    rw [gfold_succ, h2]
    exact aMsk_step h1 (by omega) h3
theorem aMsk_bits {C : Nat} (hC : C ≤ 6) (P : Nat → Bool) : gset6 (aMsk C P) ∧ ∀ i : Nat, i < 6 → gbit (aMsk C P) i = (decide (i < C) && P i) := by
  obtain ⟨m, h1, h2, h3⟩ := aMsk_val P C hC
  unfold aMsk
  rw [h2]
  exact ⟨⟨by omega, by omega⟩, h3⟩
theorem m_onStreet {h : gH} (hc : cW (ct h)) {s : Nat} : f_Mo_onStreet (s : Int) h = some (h, aOn (ct h) (h 92) s) := by
  have hC : 0 ≤ h 83 6 ∧ h 83 6 ≤ 6 := hc.2.2.1
  obtain ⟨C, hCe⟩ : ∃ C : Nat, h 83 6 = (C : Int) := ⟨(h 83 6).toNat, by omega⟩
  unfold f_Mo_onStreet
  have key := gloop (S := Int × Int × gH) (F := fun n x => f_Mo_onStreet_L4 (s : Int) (fun v4 h5 => some (h5, v4)) n x.1 x.2.1 x.2.2) (K := fun x => some (x.2.2, x.1)) C (fun j => (gfold (aMskF (aOnB (h 92) s)) j 0, (j : Int), h)) ?_ ?_ 50000 (by omega)
  · refine Eq.trans key ?_
    unfold aOn aMsk
    rw [ct_83_6, hCe, Int.toNat_natCast]
  · intro n j hj
    show f_Mo_onStreet_L4 (s : Int) _ (n + 1) (gfold (aMskF (aOnB (h 92) s)) j 0) (j : Int) h = f_Mo_onStreet_L4 (s : Int) _ n (gfold (aMskF (aOnB (h 92) s)) (j + 1) 0) ((j + 1 : Nat) : Int) h
    rw [gfold_succ]
    generalize gfold (aMskF (aOnB (h 92) s)) j 0 = best
    rw [f_Mo_onStreet_L4, if_neg (by omega), ga_26 (by omega), ga_32 (by omega), gdix (by omega) (by omega), gdix (by omega) (by omega), Int.toNat_natCast, Int.toNat_natCast]
    unfold f_Mo_onStreet_J45 f_Mo_onStreet_J46 aMskF
    rw [ga_s (by omega)]
    by_cases c1 : h 92 (26 + j) = 2
    · rw [if_pos c1]
      by_cases c2 : h 92 (32 + j) = (s : Int)
      · rw [if_pos c2, if_pos (by unfold aOnB; rw [decide_eq_true c1, decide_eq_true c2]; rfl)]
      · rw [if_neg c2, if_neg (by unfold aOnB; rw [decide_eq_false c2, Bool.and_false]; decide)]
    · rw [if_neg c1, if_neg (by unfold aOnB; rw [decide_eq_false c1, Bool.false_and]; decide)]
  · intro n
    show f_Mo_onStreet_L4 (s : Int) _ (n + 1) _ (C : Int) h = _
    rw [f_Mo_onStreet_L4, if_pos (by omega)]
theorem m_cartsThat {h : gH} (hc : cW (ct h)) (how : Int) : f_Mo_cartsThat how h = some (h, aThat (ct h) (h 92) how) := by
  have hC : 0 ≤ h 83 6 ∧ h 83 6 ≤ 6 := hc.2.2.1
  obtain ⟨C, hCe⟩ : ∃ C : Nat, h 83 6 = (C : Int) := ⟨(h 83 6).toNat, by omega⟩
  unfold f_Mo_cartsThat
  have key := gloop (S := Int × Int × gH) (F := fun n x => f_Mo_cartsThat_L4 how (fun v3 h4 => some (h4, v3)) n x.1 x.2.1 x.2.2) (K := fun x => some (x.2.2, x.1)) C (fun j => (gfold (aMskF (fun k => decide (h 92 (26 + k) = how))) j 0, (j : Int), h)) ?_ ?_ 50000 (by omega)
  · refine Eq.trans key ?_
    unfold aThat aMsk
    rw [ct_83_6, hCe, Int.toNat_natCast]
  · intro n j hj
    show f_Mo_cartsThat_L4 how _ (n + 1) (gfold (aMskF (fun k => decide (h 92 (26 + k) = how))) j 0) (j : Int) h = f_Mo_cartsThat_L4 how _ n (gfold (aMskF (fun k => decide (h 92 (26 + k) = how))) (j + 1) 0) ((j + 1 : Nat) : Int) h
    rw [gfold_succ]
    generalize gfold (aMskF (fun k => decide (h 92 (26 + k) = how))) j 0 = best
    rw [f_Mo_cartsThat_L4, if_neg (by omega), ga_26 (by omega), gdix (by omega) (by omega), Int.toNat_natCast]
    unfold f_Mo_cartsThat_J33 aMskF
    rw [ga_s (by omega)]
    by_cases c1 : h 92 (26 + j) = how
    · rw [if_pos c1, if_pos (decide_eq_true c1)]
    · rw [if_neg c1, if_neg (fun q => c1 (of_decide_eq_true q))]
  · intro n
    show f_Mo_cartsThat_L4 how _ (n + 1) _ (C : Int) h = _
    rw [f_Mo_cartsThat_L4, if_pos (by omega)]
theorem m_sideBy {h : gH} {a b g : Int} : f_Mo_sideBy a b g h = some (h, aSide a b g) := by
  unfold f_Mo_sideBy aSide
  by_cases c1 : a ≤ b
  · rw [if_pos c1, if_pos c1]
    by_cases c2 : b ≤ a
    · rw [if_pos c2, if_pos c2]
    · rw [if_neg c2, if_neg c2]
  · rw [if_neg c1, if_neg c1]
theorem m_rankOf {h : gH} {k : Int} (hk : k < 6) : f_Mo_rankOf k h = some (h, aRk (h 92) k) := by
  unfold f_Mo_rankOf aRk
  by_cases c1 : 0 ≤ k
  · obtain ⟨q, rfl⟩ : ∃ q : Nat, k = (q : Int) := ⟨k.toNat, by omega⟩
    rw [if_pos c1, if_pos c1, ga_20 (by omega), gdix (by omega) (by omega), Int.toNat_natCast, Int.toNat_natCast]
  · rw [if_neg c1, if_neg c1]
theorem m_goesBy {h : gH} (hc : cW (ct h)) {w : Int} (hn : nW (ct h) w (h 92)) {s : Nat} (hs : (s : Int) < h 83 2) : f_Mo_goesBy (s : Int) h = some (h, aGoes (ct h) (h 92) s) := by
  have hC : 0 ≤ h 83 6 ∧ h 83 6 ≤ 6 := hc.2.2.1
  have hS : h 83 2 ≤ 9 := hc.2.1.2
  have hH : 0 < h 83 1 := hc.2.2.2.2.1 (show 0 < h 83 2 by omega)
  have hH2 : h 83 1 ≤ 60 := hc.2.2.2.1.2
  have hN0 := hn.1
  have hf : ∀ side, aFore (ct h) (h 92) s side < 6 := fun side => by
    have := (aFore_in (ct h) (h 92) s side (ct h 83 6).toNat).2
    unfold aFore
    have e : ct h 83 6 = h 83 6 := rfl
    omega
  unfold f_Mo_goesBy aGoes
  simp (disch := omega) only [ga_2, ga_11, gdix, Int.toNat_natCast]
  by_cases c0 : h 92 (2 + s) = 0
  · rw [if_pos c0, if_pos c0, m_longest hc hn hs, gb_s, m_longest hc hn hs, gb_s]
    unfold f_Mo_goesBy_J57
    by_cases d1 : aLong (ct h) (h 92) s 0 = 1000000
    · by_cases d2 : aLong (ct h) (h 92) s 1 = 1000000
      · rw [if_pos d1, if_pos d2, if_pos ⟨d1, d2⟩]
      · rw [if_pos d1, if_neg d2, if_neg (show ¬ (aLong (ct h) (h 92) s 0 = 1000000 ∧ aLong (ct h) (h 92) s 1 = 1000000) from fun q => d2 q.2)]
        by_cases d3 : aLong (ct h) (h 92) s 1 < aLong (ct h) (h 92) s 0
        · rw [if_pos d3, if_pos d3]
        · rw [if_neg d3, if_neg d3]
    · rw [if_neg d1, if_neg (show ¬ (aLong (ct h) (h 92) s 0 = 1000000 ∧ aLong (ct h) (h 92) s 1 = 1000000) from fun q => d1 q.1)]
      by_cases d3 : aLong (ct h) (h 92) s 1 < aLong (ct h) (h 92) s 0
      · rw [if_pos d3, if_pos d3]
      · rw [if_neg d3, if_neg d3]
  · rw [if_neg c0, if_neg c0]
    by_cases c1 : h 92 (2 + s) = 1
    · rw [if_pos c1, if_pos c1, gdnz (by omega), gdnz (by omega), gdiv_eq (by omega) (by omega) (by omega) (by omega), grem_eq (Int.ediv_nonneg (by omega) (by omega)) (by have := Int.ediv_le_self (h 83 1) hN0.1; omega) (by omega) (by omega)]
      rfl
    · rw [if_neg c1, if_neg c1]
      by_cases c2 : h 92 (2 + s) = 2
      · rw [if_pos c2, if_pos c2, m_waiting hc hn hs, gb_s, m_waiting hc hn hs, gb_s, m_sideBy, gb_s]
      · rw [if_neg c2, if_neg c2]
        by_cases c3 : h 92 (2 + s) = 3
        · rw [if_pos c3, if_pos c3, m_foremostOf hc hn hs, gb_s, m_rankOf (hf 0), gb_s, m_foremostOf hc hn hs, gb_s, m_rankOf (hf 1), gb_s, m_sideBy, gb_s]
        · rw [if_neg c3, if_neg c3]
