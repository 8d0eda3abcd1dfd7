/- PURE: the class's city and traffic, and the numbers that they stand for -/
def sI (C : Int) (m : Int) (P : Nat → Bool) : Prop := gset6 m ∧ ∀ i : Nat, i < 6 → gbit m i = (decide ((i : Int) < C) && P i)
def CR (D h : gH) (c : Nat) : Prop := (c = 1 ∨ c = 13) ∧ h c 0 = D 83 0 ∧ h c 1 = D 83 1 ∧ h c 2 = D 83 2 ∧ h c 3 = D 83 6 ∧
  (∀ s : Nat, (s : Int) < D 83 2 → h (c + 1) s = D 84 s ∧ h (c + 2) s = D 85 s ∧ h (c + 3) s = D 86 s) ∧
  (∀ k : Nat, (k : Int) < D 83 6 → h (c + 5) k = D 87 k ∧ h (c + 6) k = D 88 k ∧ h (c + 7) k = D 89 k ∧ h (c + 9) k = D 90 k) ∧
  (∀ a b : Nat, (a : Int) < D 83 0 → (b : Int) < D 83 0 → h (c + 11) (7 * a + b) = aNx D (a : Int) (b : Int) ∧ h (c + 10) (7 * a + b) = (if aDist D (a : Int) (b : Int) < 1000000 then aDist D (a : Int) (b : Int) else 1000))
def TR (D h : gH) (c t : Nat) (N : Nat → Int) : Prop := h t 0 = (c : Int) ∧ h t 1 = N 0 ∧
  (∀ s : Nat, (s : Int) < D 83 2 → h (t + 1) s = N (2 + s) ∧ h (t + 2) s = N (11 + s) ∧ sI (D 83 6) (h (t + 3) s) (aOnB N s) ∧ sI (D 83 6) (h (t + 4) (2 * s)) (aW D N s 0) ∧ sI (D 83 6) (h (t + 4) (2 * s + 1)) (aW D N s 1)) ∧
  (∀ k : Nat, (k : Int) < D 83 6 → h (t + 5) k = N (20 + k) ∧ h (t + 6) k = N (26 + k) ∧ h (t + 7) k = N (32 + k) ∧ h (t + 8) k = N (38 + k) ∧ h (t + 9) k = N (44 + k))
theorem gsh_c {c : Nat} (h : c = 1 ∨ c = 13) : gsh c = .inr 0 := by rcases h with rfl | rfl <;> decide +kernel
theorem sI_nat {C m : Int} {P : Nat → Bool} (h : sI C m P) : ∃ q : Nat, m = (q : Int) ∧ q < 64 := by
  obtain ⟨⟨h1, h2⟩, -⟩ := h
  exact ⟨m.toNat, (Int.toNat_of_nonneg h1).symm, by omega⟩
theorem sI_ins {C m : Int} {P P' : Nat → Bool} {k : Nat} (h : sI C m P) (hk : k < 6) (hkC : (k : Int) < C) (h1 : P' k = true) (h2 : ∀ i : Nat, i ≠ k → (i : Int) < C → P' i = P i) : sI C (gor m (gshl 1 (k : Int))) P' := by
  obtain ⟨q, rfl, hq⟩ := sI_nat h
  obtain ⟨s1, s2⟩ := gb_or q hq k hk
  refine ⟨s1, fun i hi => ?_⟩
  rw [s2 i hi, h.2 i hi]
  by_cases e : i = k
  · subst e; simp [h1, hkC]
  · by_cases e2 : (i : Int) < C
    · simp [e, e2, h2 i e e2]
    · simp [e, e2]
theorem sI_del {C m : Int} {P P' : Nat → Bool} {k : Nat} (h : sI C m P) (hk : k < 6) (h1 : P' k = false) (h2 : ∀ i : Nat, i ≠ k → (i : Int) < C → P' i = P i) : sI C (gand m (gxor (gshl 1 (k : Int)) (-1))) P' := by
  obtain ⟨q, rfl, hq⟩ := sI_nat h
  obtain ⟨s1, s2⟩ := gb_clr q hq k hk
  refine ⟨s1, fun i hi => ?_⟩
  rw [s2 i hi, h.2 i hi]
  by_cases e : i = k
  · subst e; simp [h1]
  · by_cases e2 : (i : Int) < C
    · simp [e, e2, h2 i e e2]
    · simp [e2]
theorem sI_same {C m : Int} {P P' : Nat → Bool} (h : sI C m P) (h2 : ∀ i : Nat, (i : Int) < C → P' i = P i) : sI C m P' := by
  refine ⟨h.1, fun i hi => ?_⟩
  rw [h.2 i hi]
  by_cases e2 : (i : Int) < C
  · simp [e2, h2 i e2]
  · simp [e2]
theorem sI_eq {C m m' : Int} {P : Nat → Bool} (h : sI C m P) (h' : sI C m' P) : m = m' := by
  obtain ⟨q, rfl, hq⟩ := sI_nat h
  obtain ⟨q', rfl, hq'⟩ := sI_nat h'
  have := gb_ext q hq q' hq' (fun j hj => by rw [h.2 j hj, h'.2 j hj])
  omega
theorem sI_msk {C : Int} (h0 : 0 ≤ C) (h6 : C ≤ 6) (P : Nat → Bool) : sI C (aMsk C.toNat P) P := by
  obtain ⟨b1, b2⟩ := aMsk_bits (C := C.toNat) (by omega) P
  refine ⟨b1, fun i hi => ?_⟩
  rw [b2 i hi]
  by_cases e : (i : Int) < C
  · simp [e, show i < C.toNat by omega]
  · simp [e, show ¬ i < C.toNat by omega]
theorem sI_0 {C m : Int} (h6 : C ≤ 6) {P : Nat → Bool} (h : sI C m P) : m = 0 ↔ ∀ k : Nat, (k : Int) < C → P k = false := by
  obtain ⟨q, rfl, hq⟩ := sI_nat h
  constructor
  · intro e k hk
    have h1 := h.2 k (by omega)
    rw [e, gb_zero, decide_eq_true hk, Bool.true_and] at h1
    exact h1.symm
  · intro hh
    have := gb_ext q hq 0 (by decide) (fun j hj => by
      rw [h.2 j hj, show ((0 : Nat) : Int) = 0 from rfl, gb_zero]
      by_cases e2 : (j : Int) < C
      · simp [hh j e2]
      · simp [e2])
    omega
/- the readers -/
theorem k_next {D h : gH} (hc : cW D) {c : Nat} (hr : CR D h c) {a b : Nat} (ha : (a : Int) < D 83 0) (hb : (b : Int) < D 83 0) : f_City_nextStreet c (a : Int) (b : Int) h = some (h, aNx D (a : Int) (b : Int)) := by
  have hK : D 83 0 ≤ 7 := hc.1.2
  have h1 := (hr.2.2.2.2.2.2.2 a b ha hb).1
  unfold f_City_nextStreet
  have e1 : gmul (a : Int) 7 = (a : Int) * 7 := gmul_eq (by omega) (by omega)
  have e2 : gadd ((a : Int) * 7) (b : Int) = ((7 * a + b : Nat) : Int) := by rw [gadd_eq (by omega) (by omega)]; omega
  rw [e1, e2, gdix (by omega) (by omega), Int.toNat_natCast, h1]
theorem k_sideOf {D h : gH} {c : Nat} (hr : CR D h c) {s : Nat} (hs : (s : Int) < D 83 2) (hS : D 83 2 ≤ 9) (a : Int) : f_City_sideOf c (s : Int) a h = some (h, if D 84 s = a then 0 else 1) := by
  have h1 := (hr.2.2.2.2.2.1 s hs).1
  unfold f_City_sideOf
  rw [gdix (by omega) (by omega), Int.toNat_natCast, h1]
  by_cases c1 : D 84 s = a
  · rw [if_pos c1, if_pos c1]
  · rw [if_neg c1, if_neg c1]
theorem k_ahead {D h : gH} {c t : Nat} {N : Nat → Int} (ht : TR D h c t N) (hC : D 83 6 ≤ 6) {k q : Nat} (hk : (k : Int) < D 83 6) (hq : (q : Int) < D 83 6) (hqk : q < k) : f_Traffic_isAheadOf t (k : Int) (q : Int) h = some (h, if aAh N k q = true then 1 else 0) := by
  have h1 := ht.2.2.2 k hk
  have h2 := ht.2.2.2 q hq
  unfold f_Traffic_isAheadOf
  simp (disch := omega) only [gdix, Int.toNat_natCast, gdz0, gdz1]
  simp only [h1.1, h2.1, h1.2.2.2.1, h2.2.2.2.1]
  unfold aAh
  by_cases c1 : N (20 + k) = N (20 + q)
  · rw [if_pos c1, if_pos c1]
    by_cases c2 : N (38 + q) ≤ N (38 + k)
    · rw [if_pos c2]
      by_cases c3 : N (38 + k) = N (38 + q)
      · rw [if_pos c3, if_neg (by rw [decide_eq_true_eq]; omega)]
      · rw [if_neg c3, if_neg (by rw [decide_eq_true_eq]; omega)]
    · rw [if_neg c2, if_neg (show ¬ N (38 + k) = N (38 + q) by omega), if_pos (by rw [decide_eq_true_eq]; omega)]
  · rw [if_neg c1, if_neg c1]
    by_cases c2 : N (20 + k) ≤ N (20 + q)
    · rw [if_pos c2, if_neg (by rw [decide_eq_true_eq]; omega)]
    · rw [if_neg c2, if_pos (by rw [decide_eq_true_eq]; omega)]
def aFoF (N : Nat → Int) (P : Nat → Bool) (k : Nat) (best : Int) : Int := if (P k && (decide (best < 0) || aAh N k best.toNat)) = true then (k : Int) else best
def aFo (C : Nat) (N : Nat → Int) (P : Nat → Bool) : Int := gfold (aFoF N P) C (-1)
theorem aFo_in (N : Nat → Int) (P : Nat → Bool) : ∀ j : Nat, -1 ≤ gfold (aFoF N P) j (-1) ∧ gfold (aFoF N P) j (-1) < (j : Int) := by
  intro j
  induction j with
  | zero => exact ⟨by show (-1 : Int) ≤ -1; omega, by show (-1 : Int) < _; omega⟩
  | succ j ih =>
    rw [gfold_succ]
    generalize gfold (aFoF N P) j (-1) = best at ih ⊢
    unfold aFoF
    split <;> omega
theorem gfold_stop {α : Type} {f : Nat → α → α} {a : α} {j C : Nat} (hj : j ≤ C) (h : ∀ i x, j ≤ i → i < C → f i x = x) : gfold f C a = gfold f j a := by
  obtain ⟨d, rfl⟩ : ∃ d, C = j + d := ⟨C - j, by omega⟩
  induction d with
  | zero => rfl
  | succ d ih =>
    rw [show j + (d + 1) = (j + d) + 1 by omega, gfold_succ, h _ _ (by omega) (by omega)]
    exact ih (by omega) (fun i x h1 h2 => h i x h1 (by omega))
theorem k_firstOf {D h : gH} (hc : cW D) {c t : Nat} (hr : CR D h c) {N : Nat → Int} (ht : TR D h c t N) {m : Int} {P : Nat → Bool} (hm : sI (D 83 6) m P) : f_Traffic_firstOf t m h = some (h, aFo (D 83 6).toNat N P) := by
  have hC : 0 ≤ D 83 6 ∧ D 83 6 ≤ 6 := hc.2.2.1
  obtain ⟨C, hCe⟩ : ∃ C : Nat, D 83 6 = (C : Int) := ⟨(D 83 6).toNat, by omega⟩
  obtain ⟨q, hq, hq64⟩ := sI_nat hm
  have h0 : (h t 0).toNat = c := by rw [ht.1, Int.toNat_natCast]
  have h3 : h c 3 = (C : Int) := by rw [hr.2.2.2.2.1, hCe]
  unfold f_Traffic_firstOf aFo
  rw [hCe, Int.toNat_natCast]
  have key : ∀ r j, j + r = C → ∀ n, r < n → f_Traffic_firstOf_L4 t m (fun v9 h10 => some (h10, v9)) n (gfold (aFoF N P) j (-1)) (j : Int) h = some (h, gfold (aFoF N P) C (-1)) := by
    intro r
    induction r with
    | zero =>
      intro j hj n hn
      obtain ⟨n', rfl⟩ : ∃ n', n = n' + 1 := ⟨n - 1, by omega⟩
      have : j = C := by omega
      subst this
      rw [f_Traffic_firstOf_L4, h0, gdcl (gsh_c hr.1), h3, if_pos (by omega)]
    | succ r ih =>
      intro j hj n hn
      obtain ⟨n', rfl⟩ : ∃ n', n = n' + 1 := ⟨n - 1, by omega⟩
      have hj6 : j < 6 := by omega
      have hbit := hm.2 j hj6
      rw [decide_eq_true (show (j : Int) < D 83 6 by omega), Bool.true_and] at hbit
      have hstep : ∀ best : Int, best = gfold (aFoF N P) j (-1) → f_Traffic_firstOf_L4 t m (fun v9 h10 => some (h10, v9)) n' (aFoF N P j best) ((j + 1 : Nat) : Int) h = some (h, gfold (aFoF N P) C (-1)) := by
        intro best e
        have := ih (j + 1) (by omega) n' (by omega)
        rw [gfold_succ] at this
        rw [e]
        exact this
      have hb := aFo_in N P j
      generalize hbest : gfold (aFoF N P) j (-1) = best at hb hstep ⊢
      rw [f_Traffic_firstOf_L4, h0, gdcl (gsh_c hr.1), h3, if_neg (by omega)]
      have hs := hstep best rfl
      rw [hq]
      by_cases c0 : gshr (q : Int) (j : Int) = 0
      · rw [if_pos c0]
        have hz := (gb_sh0 q hq64 j (by omega)).mp c0
        have e : gfold (aFoF N P) C (-1) = gfold (aFoF N P) j (-1) := gfold_stop (by omega) (fun i x h1 h2 => by
          have hbi := hm.2 i (by omega)
          rw [hq, hz i (by omega) h1, decide_eq_true (show (i : Int) < D 83 6 by omega), Bool.true_and] at hbi
          unfold aFoF
          rw [← hbi, Bool.false_and, if_neg (by decide)])
        rw [e, hbest]
      · rw [if_neg c0]
        unfold f_Traffic_firstOf_J44 f_Traffic_firstOf_J46
        rw [ga_s (by omega)]
        have hat := gb_at q hq64 j hj6
        rw [hq] at hbit hs
        by_cases c1 : gand (gshr (q : Int) (j : Int)) 1 = 1
        · have hP : P j = true := by rw [← hbit]; exact hat.mp c1
          rw [if_pos c1]
          unfold aFoF at hs
          rw [hP, Bool.true_and] at hs
          by_cases c2 : best = -1
          · rw [if_pos c2]
            rw [decide_eq_true (show best < 0 by omega), Bool.true_or, if_pos rfl] at hs
            exact hs
          · rw [if_neg c2]
            obtain ⟨b, hbb⟩ : ∃ b : Nat, best = (b : Int) := ⟨best.toNat, by omega⟩
            subst hbb
            rw [decide_eq_false (show ¬ ((b : Int) < 0) by omega), Bool.false_or, Int.toNat_natCast] at hs
            rw [k_ahead ht hC.2 (by omega) (by omega) (by omega), gb_s]
            by_cases c3 : aAh N j b = true
            · rw [if_pos c3, if_neg (by decide)]
              rw [if_pos c3] at hs
              exact hs
            · rw [if_neg c3, if_pos rfl]
              rw [if_neg c3] at hs
              exact hs
        · have hP : P j = false := by
            cases hPj : P j with
            | false => rfl
            | true => rw [hPj] at hbit; exact absurd (hat.mpr hbit) c1
          rw [if_neg c1]
          unfold aFoF at hs
          rw [hP, Bool.false_and, if_neg (by decide)] at hs
          exact hs
  exact key C 0 (by omega) 50000 (by omega)
theorem aFo_fore {c : gH} {N : Nat → Int} {s : Nat} {side : Int} : aFo (c 83 6).toNat N (aW c N s side) = aFore c N s side := rfl
def aLoF (N : Nat → Int) (P : Nat → Bool) (k : Nat) (x : Int) : Int := if (P k && decide (N (38 + k) < x)) = true then N (38 + k) else x
theorem k_longest {D h : gH} (hc : cW D) {c t : Nat} (hr : CR D h c) {N : Nat → Int} (ht : TR D h c t N) {m : Int} {P : Nat → Bool} (hm : sI (D 83 6) m P) : f_Traffic_longest t m h = some (h, gfold (aLoF N P) (D 83 6).toNat 1000000000) := by
  have hC : 0 ≤ D 83 6 ∧ D 83 6 ≤ 6 := hc.2.2.1
  obtain ⟨C, hCe⟩ : ∃ C : Nat, D 83 6 = (C : Int) := ⟨(D 83 6).toNat, by omega⟩
  obtain ⟨q, hq, hq64⟩ := sI_nat hm
  have h0 : (h t 0).toNat = c := by rw [ht.1, Int.toNat_natCast]
  have h3 : h c 3 = (C : Int) := by rw [hr.2.2.2.2.1, hCe]
  unfold f_Traffic_longest
  have key := gloop (S := Int × Int × gH) (F := fun n x => f_Traffic_longest_L5 t m (fun v4 h5 => some (h5, v4)) n x.1 x.2.1 x.2.2) (K := fun x => some (x.2.2, x.1)) C (fun j => (gfold (aLoF N P) j 1000000000, (j : Int), h)) ?_ ?_ 50000 (by omega)
  · refine Eq.trans key ?_
    rw [hCe, Int.toNat_natCast]
  · intro n j hj
    show f_Traffic_longest_L5 t m _ (n + 1) (gfold (aLoF N P) j 1000000000) (j : Int) h = f_Traffic_longest_L5 t m _ n (gfold (aLoF N P) (j + 1) 1000000000) ((j + 1 : Nat) : Int) h
    rw [gfold_succ]
    generalize gfold (aLoF N P) j 1000000000 = best
    have hj6 : j < 6 := by omega
    have hbit := hm.2 j hj6
    rw [decide_eq_true (show (j : Int) < D 83 6 by omega), Bool.true_and] at hbit
    have hat := gb_at q hq64 j hj6
    have h8 := (ht.2.2.2 j (by omega)).2.2.2.1
    rw [f_Traffic_longest_L5, h0, gdcl (gsh_c hr.1), h3, if_neg (by omega), hq]
    rw [hq] at hbit
    unfold f_Traffic_longest_J42 aLoF
    rw [ga_s (by omega), gdix (by omega) (by omega), gdix (by omega) (by omega), Int.toNat_natCast, h8]
    by_cases c1 : gand (gshr (q : Int) (j : Int)) 1 = 1
    · have hP : P j = true := by rw [← hbit]; exact hat.mp c1
      rw [if_pos c1, hP, Bool.true_and]
      by_cases c2 : N (38 + j) < best
      · rw [if_neg (by omega), if_pos (decide_eq_true c2)]
      · rw [if_pos (by omega), if_neg (by rw [decide_eq_true_eq]; exact c2)]
    · have hP : P j = false := by
        cases hPj : P j with
        | false => rfl
        | true => rw [hPj] at hbit; exact absurd (hat.mpr hbit) c1
      rw [if_neg c1, hP, Bool.false_and, if_neg (by decide)]
  · intro n
    show f_Traffic_longest_L5 t m _ (n + 1) _ (C : Int) h = _
    rw [f_Traffic_longest_L5, h0, gdcl (gsh_c hr.1), h3, if_pos (by omega)]
def aGrF (N : Nat → Int) (P : Nat → Bool) (k : Nat) (x : Int) : Int := if (P k && decide (x < N (20 + k))) = true then N (20 + k) else x
theorem k_great {D h : gH} (hc : cW D) {c t : Nat} (hr : CR D h c) {N : Nat → Int} (ht : TR D h c t N) {m : Int} {P : Nat → Bool} (hm : sI (D 83 6) m P) : f_Traffic_greatestRank t m h = some (h, gfold (aGrF N P) (D 83 6).toNat 0) := by
  have hC : 0 ≤ D 83 6 ∧ D 83 6 ≤ 6 := hc.2.2.1
  obtain ⟨C, hCe⟩ : ∃ C : Nat, D 83 6 = (C : Int) := ⟨(D 83 6).toNat, by omega⟩
  obtain ⟨q, hq, hq64⟩ := sI_nat hm
  have h0 : (h t 0).toNat = c := by rw [ht.1, Int.toNat_natCast]
  have h3 : h c 3 = (C : Int) := by rw [hr.2.2.2.2.1, hCe]
  unfold f_Traffic_greatestRank
  have key := gloop (S := Int × Int × gH) (F := fun n x => f_Traffic_greatestRank_L4 t m (fun v4 h5 => some (h5, v4)) n x.1 x.2.1 x.2.2) (K := fun x => some (x.2.2, x.1)) C (fun j => (gfold (aGrF N P) j 0, (j : Int), h)) ?_ ?_ 50000 (by omega)
  · refine Eq.trans key ?_
    rw [hCe, Int.toNat_natCast]
  · intro n j hj
    show f_Traffic_greatestRank_L4 t m _ (n + 1) (gfold (aGrF N P) j 0) (j : Int) h = f_Traffic_greatestRank_L4 t m _ n (gfold (aGrF N P) (j + 1) 0) ((j + 1 : Nat) : Int) h
    rw [gfold_succ]
    generalize gfold (aGrF N P) j 0 = best
    have hj6 : j < 6 := by omega
    have hbit := hm.2 j hj6
    rw [decide_eq_true (show (j : Int) < D 83 6 by omega), Bool.true_and] at hbit
    have hat := gb_at q hq64 j hj6
    have h8 := (ht.2.2.2 j (by omega)).1
    rw [f_Traffic_greatestRank_L4, h0, gdcl (gsh_c hr.1), h3, if_neg (by omega), hq]
    rw [hq] at hbit
    unfold f_Traffic_greatestRank_J41 aGrF
    rw [ga_s (by omega), gdix (by omega) (by omega), gdix (by omega) (by omega), Int.toNat_natCast, h8]
    by_cases c1 : gand (gshr (q : Int) (j : Int)) 1 = 1
    · have hP : P j = true := by rw [← hbit]; exact hat.mp c1
      rw [if_pos c1, hP, Bool.true_and]
      by_cases c2 : best < N (20 + j)
      · rw [if_neg (by omega), if_pos (decide_eq_true c2)]
      · rw [if_pos (by omega), if_neg (by rw [decide_eq_true_eq]; exact c2)]
    · have hP : P j = false := by
        cases hPj : P j with
        | false => rfl
        | true => rw [hPj] at hbit; exact absurd (hat.mpr hbit) c1
      rw [if_neg c1, hP, Bool.false_and, if_neg (by decide)]
  · intro n
    show f_Traffic_greatestRank_L4 t m _ (n + 1) _ (C : Int) h = _
    rw [f_Traffic_greatestRank_L4, h0, gdcl (gsh_c hr.1), h3, if_pos (by omega)]
theorem aGr_fo {N : Nat → Int} {P : Nat → Bool} : ∀ C : Nat, (∀ k : Nat, k < C → 0 ≤ N (20 + k)) → gfold (aGrF N P) C 0 = aRk N (gfold (aFoF N P) C (-1)) := by
  intro C
  induction C with
  | zero => intro _; rfl
  | succ C ih =>
    intro hN
    have ih' := ih (fun k hk => hN k (by omega))
    have hn := hN C (by omega)
    rw [gfold_succ, gfold_succ, ih']
    generalize gfold (aFoF N P) C (-1) = best
    unfold aGrF aFoF
    cases hP : P C with
    | false => rw [Bool.false_and, Bool.false_and, if_neg (by decide), if_neg (by decide)]
    | true =>
      rw [Bool.true_and, Bool.true_and]
      have ej : aRk N (C : Int) = N (20 + C) := by unfold aRk; rw [if_pos (by omega), Int.toNat_natCast]
      by_cases c1 : best < 0
      · have eb : aRk N best = 0 := by unfold aRk; rw [if_neg (by omega)]
        rw [decide_eq_true c1, Bool.true_or, if_pos rfl, ej, eb]
        by_cases c2 : 0 < N (20 + C)
        · rw [if_pos (decide_eq_true c2)]
        · rw [if_neg (by rw [decide_eq_true_eq]; exact c2)]
          omega
      · obtain ⟨b, rfl⟩ : ∃ b : Nat, best = (b : Int) := ⟨best.toNat, by omega⟩
        have eb : aRk N (b : Int) = N (20 + b) := by unfold aRk; rw [if_pos (by omega), Int.toNat_natCast]
        rw [decide_eq_false c1, Bool.false_or, Int.toNat_natCast, eb]
        unfold aAh
        by_cases c3 : N (20 + C) = N (20 + b)
        · rw [if_pos c3, if_neg (by rw [decide_eq_true_eq]; omega)]
          have hite : ∀ v : Bool, N (20 + b) = aRk N (if v = true then (C : Int) else (b : Int)) := fun v => by
            cases v with
            | true => rw [if_pos rfl, ej]; exact c3.symm
            | false => rw [if_neg (by decide), eb]
          exact hite _
        · rw [if_neg c3]
          by_cases c4 : N (20 + b) < N (20 + C)
          · rw [if_pos (decide_eq_true c4), if_pos (decide_eq_true c4), ej]
          · rw [if_neg (by rw [decide_eq_true_eq]; exact c4), if_neg (by rw [decide_eq_true_eq]; exact c4), eb]
theorem aLo_two {N : Nat → Int} {P : Nat → Bool} {C : Nat} (hN : ∀ k : Nat, k < C → N (38 + k) ≤ 100000) : (gfold (aLoF N P) C 1000000000 = 1000000000 ∧ gfold (aLoF N P) C 1000000 = 1000000 ∧ ∀ k, k < C → P k = false) ∨ (gfold (aLoF N P) C 1000000000 = gfold (aLoF N P) C 1000000 ∧ gfold (aLoF N P) C 1000000 ≤ 100000 ∧ ∃ k, k < C ∧ P k = true) := by
  induction C with
  | zero => exact Or.inl ⟨rfl, rfl, fun k hk => by omega⟩
  | succ C ih =>
    have ih' := ih (fun k hk => hN k (by omega))
    have hn := hN C (by omega)
    rw [gfold_succ, gfold_succ]
    generalize gfold (aLoF N P) C 1000000000 = x at ih' ⊢
    generalize gfold (aLoF N P) C 1000000 = y at ih' ⊢
    unfold aLoF
    cases hP : P C with
    | false =>
      simp only [Bool.false_and]
      rw [if_neg (by decide), if_neg (by decide)]
      rcases ih' with ⟨e1, e2, e3⟩ | ⟨e1, e2, k, e3, e4⟩
      · refine Or.inl ⟨e1, e2, fun k hk => ?_⟩
        by_cases e : k = C
        · rw [e]; exact hP
        · exact e3 k (by omega)
      · exact Or.inr ⟨e1, e2, k, by omega, e4⟩
    | true =>
      simp only [Bool.true_and]
      rcases ih' with ⟨e1, e2, e3⟩ | ⟨e1, e2, k, e3, e4⟩
      · rw [e1, e2, if_pos (by rw [decide_eq_true_eq]; omega), if_pos (by rw [decide_eq_true_eq]; omega)]
        exact Or.inr ⟨rfl, hn, C, by omega, hP⟩
      · rw [e1]
        refine Or.inr ⟨rfl, ?_, C, by omega, hP⟩
        split <;> omega
theorem gcnt_fold {C m : Int} {P : Nat → Bool} (h0 : 0 ≤ C) (h6 : C ≤ 6) (h : sI C m P) : gcnt m = gfold (fun k n => if P k = true then n + 1 else n) C.toNat 0 := by
  obtain ⟨Cn, rfl⟩ : ∃ Cn : Nat, C = (Cn : Int) := ⟨C.toNat, by omega⟩
  rw [Int.toNat_natCast]
  unfold gcnt
  have b0 := h.2 0 (by decide)
  have b1 := h.2 1 (by decide)
  have b2 := h.2 2 (by decide)
  have b3 := h.2 3 (by decide)
  have b4 := h.2 4 (by decide)
  have b5 := h.2 5 (by decide)
  rw [b0, b1, b2, b3, b4, b5]
  clear h b0 b1 b2 b3 b4 b5
  have hh : Cn = 0 ∨ Cn = 1 ∨ Cn = 2 ∨ Cn = 3 ∨ Cn = 4 ∨ Cn = 5 ∨ Cn = 6 := by omega
  rcases hh with rfl | rfl | rfl | rfl | rfl | rfl | rfl
  · simp only [gfold]
    generalize P 0 = p0
    generalize P 1 = p1
    generalize P 2 = p2
    generalize P 3 = p3
    generalize P 4 = p4
    generalize P 5 = p5
    cases p0 <;> cases p1 <;> cases p2 <;> cases p3 <;> cases p4 <;> cases p5 <;> rfl
  · simp only [gfold]
    generalize P 0 = p0
    generalize P 1 = p1
    generalize P 2 = p2
    generalize P 3 = p3
    generalize P 4 = p4
    generalize P 5 = p5
    cases p0 <;> cases p1 <;> cases p2 <;> cases p3 <;> cases p4 <;> cases p5 <;> rfl
  · simp only [gfold]
    generalize P 0 = p0
    generalize P 1 = p1
    generalize P 2 = p2
    generalize P 3 = p3
    generalize P 4 = p4
    generalize P 5 = p5
    cases p0 <;> cases p1 <;> cases p2 <;> cases p3 <;> cases p4 <;> cases p5 <;> rfl
  · simp only [gfold]
    generalize P 0 = p0
    generalize P 1 = p1
    generalize P 2 = p2
    generalize P 3 = p3
    generalize P 4 = p4
    generalize P 5 = p5
    cases p0 <;> cases p1 <;> cases p2 <;> cases p3 <;> cases p4 <;> cases p5 <;> rfl
  · simp only [gfold]
    generalize P 0 = p0
    generalize P 1 = p1
    generalize P 2 = p2
    generalize P 3 = p3
    generalize P 4 = p4
    generalize P 5 = p5
    cases p0 <;> cases p1 <;> cases p2 <;> cases p3 <;> cases p4 <;> cases p5 <;> rfl
  · simp only [gfold]
    generalize P 0 = p0
    generalize P 1 = p1
    generalize P 2 = p2
    generalize P 3 = p3
    generalize P 4 = p4
    generalize P 5 = p5
    cases p0 <;> cases p1 <;> cases p2 <;> cases p3 <;> cases p4 <;> cases p5 <;> rfl
  · simp only [gfold]
    generalize P 0 = p0
    generalize P 1 = p1
    generalize P 2 = p2
    generalize P 3 = p3
    generalize P 4 = p4
    generalize P 5 = p5
    cases p0 <;> cases p1 <;> cases p2 <;> cases p3 <;> cases p4 <;> cases p5 <;> rfl
theorem k_bits {h : gH} {C m : Int} {P : Nat → Bool} (h0 : 0 ≤ C) (h6 : C ≤ 6) (hm : sI C m P) : f_JI_bitCount m h = some (h, gfold (fun k n => if P k = true then n + 1 else n) C.toNat 0) := by
  obtain ⟨q, hq, hq64⟩ := sI_nat hm
  have e : f_JI_bitCount m h = some (h, gbc m) := rfl
  rw [e, hq, gbc_val q hq64, ← hq, gcnt_fold h0 h6 hm]
