/- PURE: what is known of the numbers stays known over a minute -/
def kW (c : gH) (w : Int) (N : Nat → Int) (k : Nat) : Prop := (1 ≤ N (20 + k) ∧ N (20 + k) ≤ 9) ∧ (0 ≤ N (26 + k) ∧ N (26 + k) ≤ 4) ∧ (-1 ≤ N (38 + k) ∧ N (38 + k) ≤ N 0) ∧ (0 ≤ N (44 + k) ∧ N (44 + k) ≤ 100) ∧
    (N (26 + k) = 0 → N (32 + k) = c 87 k ∧ N (44 + k) ≤ c 90 k) ∧
    (N (26 + k) = 1 → (0 ≤ N (32 + k) ∧ N (32 + k) < c 83 0) ∧ N (44 + k) ≤ c 90 k ∧ 0 ≤ aNx c (N (32 + k)) (c 88 k)) ∧
    (N (26 + k) = 2 → (0 ≤ N (32 + k) ∧ N (32 + k) < c 83 2) ∧ N 0 - N (38 + k) + w ≤ c 86 (N (32 + k)).toNat ∧ (aEnd c N (N (32 + k)).toNat = c 88 k ∨ 0 ≤ aNx c (aEnd c N (N (32 + k)).toNat) (c 88 k)) ∧ N (44 + k) ≤ c 90 k)
theorem nW_kW {c : gH} {w : Int} {N : Nat → Int} : nW c w N ↔ (0 ≤ N 0 ∧ N 0 ≤ 100000) ∧ (0 ≤ N 1 ∧ N 1 ≤ 1000000) ∧ (∀ s : Nat, (s : Int) < c 83 2 → (0 ≤ N (2 + s) ∧ N (2 + s) ≤ 4) ∧ (N (11 + s) = 0 ∨ N (11 + s) = 1)) ∧ (∀ k : Nat, (k : Int) < c 83 6 → kW c w N k) := Iff.rfl
theorem kW_congr {c : gH} {w : Int} {N N' : Nat → Int} {k : Nat} (hs : N (26 + k) = 2 → N' (11 + (N (32 + k)).toNat) = N (11 + (N (32 + k)).toNat)) (h0 : N' 0 = N 0) (h20 : N' (20 + k) = N (20 + k)) (h26 : N' (26 + k) = N (26 + k)) (h32 : N' (32 + k) = N (32 + k)) (h38 : N' (38 + k) = N (38 + k)) (h44 : N' (44 + k) = N (44 + k)) (h : kW c w N k) : kW c w N' k := by
  obtain ⟨a1, a2, a3, a4, a5, a6, a7⟩ := h
  unfold kW
  rw [h0, h20, h26, h32, h38, h44]
  refine ⟨a1, a2, a3, a4, a5, a6, fun e => ?_⟩
  have ee : aEnd c N' (N (32 + k)).toNat = aEnd c N (N (32 + k)).toNat := by
    unfold aEnd
    rw [hs e]
  rw [ee]
  exact a7 e
theorem nW_cart {c : gH} (hc : cW c) {w : Int} {N N' : Nat → Int} {k : Nat} (hk : (k : Int) < c 83 6) (hn : nW c w N) (he : ∀ j, j ≠ 26 + k → j ≠ 32 + k → j ≠ 38 + k → j ≠ 44 + k → j ≠ 1 → N' j = N j) (h1 : 0 ≤ N' 1 ∧ N' 1 ≤ 1000000) (hkk : kW c w N' k) : nW c w N' := by
  have hC : c 83 6 ≤ 6 := hc.2.2.1.2
  have hS : c 83 2 ≤ 9 := hc.2.1.2
  rw [nW_kW] at hn ⊢
  obtain ⟨b1, b2, b3, b4⟩ := hn
  have e0 : N' 0 = N 0 := he 0 (by omega) (by omega) (by omega) (by omega) (by omega)
  refine ⟨by rw [e0]; exact b1, h1, fun s hs => ?_, fun k' hk' => ?_⟩
  · rw [he (2 + s) (by omega) (by omega) (by omega) (by omega) (by omega), he (11 + s) (by omega) (by omega) (by omega) (by omega) (by omega)]
    exact b3 s hs
  · by_cases e : k' = k
    · rw [e]; exact hkk
    · have hkw := b4 k' hk'
      refine kW_congr (fun hh => ?_) e0 (he _ (by omega) (by omega) (by omega) (by omega) (by omega)) (he _ (by omega) (by omega) (by omega) (by omega) (by omega)) (he _ (by omega) (by omega) (by omega) (by omega) (by omega)) (he _ (by omega) (by omega) (by omega) (by omega) (by omega)) (he _ (by omega) (by omega) (by omega) (by omega) (by omega)) hkw
      have hpl := (hkw.2.2.2.2.2.2 hh).1
      exact he _ (by omega) (by omega) (by omega) (by omega) (by omega)
theorem aEnd_in {c : gH} (hc : cW c) {N : Nat → Int} {s : Nat} (hs : (s : Int) < c 83 2) : 0 ≤ aEnd c N s ∧ aEnd c N s < c 83 0 := by
  have := hc.2.2.2.2.2.1 s hs
  unfold aEnd
  split <;> omega
theorem nW_arr {c : gH} (hc : cW c) {N : Nat → Int} (hn : nW c 0 N) {k : Nat} (hk : (k : Int) < c 83 6) : nW c 0 (aArr c k N) := by
  have hC : c 83 6 ≤ 6 := hc.2.2.1.2
  have hS : c 83 2 ≤ 9 := hc.2.1.2
  have hkw := (nW_kW.mp hn).2.2.2 k hk
  have h1 := hn.2.1
  have h0 := hn.1
  unfold aArr
  by_cases c1 : N (26 + k) = 2 ∧ N 0 - N (38 + k) = c 86 (N (32 + k)).toNat
  · rw [if_pos c1]
    obtain ⟨a1, a2, a3, a4, a5, a6, a7⟩ := hkw
    obtain ⟨d1, d2, d3, d4⟩ := a7 c1.1
    have hpt : (((N (32 + k)).toNat : Nat) : Int) < c 83 2 := by omega
    have he := aEnd_in hc (N := N) hpt
    generalize aEnd c N (N (32 + k)).toNat = e at d3 he ⊢
    refine nW_cart hc hk hn (fun j j1 j2 j3 j4 j5 => by simp (disch := omega) only [nu_at, nu_ne]) (by simp (disch := omega) only [nu_at, nu_ne]; exact h1) ?_
    unfold kW
    simp (disch := omega) only [nu_at, nu_ne]
    refine ⟨a1, ?_, ⟨by omega, by omega⟩, a4, fun q => ?_, fun q => ?_, fun q => ?_⟩
    · split <;> omega
    · split at q <;> omega
    · refine ⟨he, ?_, ?_⟩
      · exact d4
      · rcases d3 with d3 | d3
        · rw [if_pos d3] at q; omega
        · exact d3
    · split at q <;> omega
  · rw [if_neg c1]; exact hn
theorem gfold_inv {α : Type} (f : Nat → α → α) (P : Nat → α → Prop) (a : α) (h0 : P 0 a) (B : Nat) (hs : ∀ j x, j < B → P j x → P (j + 1) (f j x)) : ∀ j, j ≤ B → P j (gfold f j a) := by
  intro j
  induction j with
  | zero => intro _; exact h0
  | succ j ih =>
    intro hj
    rw [gfold_succ]
    exact hs j _ (by omega) (ih (by omega))
def sW (c : gH) (N : Nat → Int) (k : Nat) : Prop := N (26 + k) = 2 → N 0 - N (38 + k) + 1 ≤ c 86 (N (32 + k)).toNat
theorem nW_strict {c : gH} {N : Nat → Int} (hn : nW c 0 N) (hs : ∀ k : Nat, (k : Int) < c 83 6 → sW c N k) : nW c 1 N := by
  rw [nW_kW] at hn ⊢
  refine ⟨hn.1, hn.2.1, hn.2.2.1, fun k hk => ?_⟩
  obtain ⟨a1, a2, a3, a4, a5, a6, a7⟩ := hn.2.2.2 k hk
  exact ⟨a1, a2, a3, a4, a5, a6, fun e => ⟨(a7 e).1, hs k hk e, (a7 e).2.2⟩⟩
theorem nW_weak {c : gH} {N : Nat → Int} {w : Int} (hw : 0 ≤ w) (hn : nW c w N) : nW c 0 N := by
  rw [nW_kW] at hn ⊢
  refine ⟨hn.1, hn.2.1, hn.2.2.1, fun k hk => ?_⟩
  obtain ⟨a1, a2, a3, a4, a5, a6, a7⟩ := hn.2.2.2 k hk
  exact ⟨a1, a2, a3, a4, a5, a6, fun e => ⟨(a7 e).1, by have := (a7 e).2.1; omega, (a7 e).2.2⟩⟩
theorem aArr_off {c : gH} {N : Nat → Int} {k j : Nat} (h1 : j ≠ 26 + k) (h2 : j ≠ 32 + k) (h3 : j ≠ 38 + k) : aArr c k N j = N j := by
  unfold aArr
  split
  · simp (disch := omega) only [nu_at, nu_ne]
  · rfl
theorem nW_ph1 {c : gH} (hc : cW c) {N : Nat → Int} (hn : nW c 0 N) : nW c 1 (aPh1 c N) := by
  have hC : 0 ≤ c 83 6 ∧ c 83 6 ≤ 6 := hc.2.2.1
  have key := gfold_inv (aArr c) (fun j x => nW c 0 x ∧ ∀ k : Nat, k < j → sW c x k) N ⟨hn, fun k hk => by omega⟩ (c 83 6).toNat (fun j x hj hx => by
    refine ⟨nW_arr hc hx.1 (by omega), fun k hk => ?_⟩
    by_cases e : k = j
    · subst e
      unfold sW aArr
      have hkw := (nW_kW.mp hx.1).2.2.2 k (by omega)
      by_cases c1 : x (26 + k) = 2 ∧ x 0 - x (38 + k) = c 86 (x (32 + k)).toNat
      · rw [if_pos c1]
        simp (disch := omega) only [nu_at, nu_ne]
        intro q
        split at q <;> omega
      · rw [if_neg c1]
        intro q
        have h2 := (hkw.2.2.2.2.2.2 q).2.1
        have h3 : ¬ x 0 - x (38 + k) = c 86 (x (32 + k)).toNat := fun z => c1 ⟨q, z⟩
        omega
    · have h1 := hx.2 k (by omega)
      unfold sW at h1 ⊢
      rw [aArr_off (by omega) (by omega) (by omega), aArr_off (by omega) (by omega) (by omega), aArr_off (by omega) (by omega) (by omega), aArr_off (by omega) (by omega) (by omega)]
      exact h1) (c 83 6).toNat (Nat.le_refl _)
  exact nW_strict key.1 (fun k hk => key.2 k (by omega))
theorem nW_sta {c : gH} (hc : cW c) {w : Int} {N : Nat → Int} (ab : Int) (hn : nW c w N) {k : Nat} (hk : (k : Int) < c 83 6) : nW c w (aSta c ab k N) := by
  have hC : c 83 6 ≤ 6 := hc.2.2.1.2
  have hkw := (nW_kW.mp hn).2.2.2 k hk
  have h1 := hn.2.1
  have h0 := hn.1
  have hck := hc.2.2.2.2.2.2.1 k hk
  unfold aSta
  split
  · rename_i c1
    obtain ⟨a1, a2, a3, a4, a5, a6, a7⟩ := hkw
    obtain ⟨d1, d2⟩ := a5 c1.1
    refine nW_cart hc hk hn (fun j j1 j2 j3 j4 j5 => by simp (disch := omega) only [nu_at, nu_ne]) (by simp (disch := omega) only [nu_at, nu_ne]; exact h1) ?_
    unfold kW
    simp (disch := omega) only [nu_at, nu_ne]
    refine ⟨a1, ?_, ⟨by omega, by omega⟩, a4, fun q => ?_, fun q => ?_, fun q => ?_⟩
    · split <;> omega
    · split at q <;> omega
    · rw [d1]
      refine ⟨hck.1, d2, ?_⟩
      by_cases c4 : 0 ≤ aNx c (c 87 k) (c 88 k)
      · exact c4
      · rw [if_neg c4] at q; omega
    · split at q <;> omega
  · exact hn
theorem nW_ph2 {c : gH} (hc : cW c) (ab : Int) {N : Nat → Int} (hn : nW c 0 N) : ∀ j, j ≤ (c 83 6).toNat → nW c 1 (gfold (aSta c ab) j (aPh1 c N)) := by
  have hC : 0 ≤ c 83 6 := hc.2.2.1.1
  exact gfold_inv (aSta c ab) (fun _ x => nW c 1 x) _ (nW_ph1 hc hn) (c 83 6).toNat (fun j x hj hx => nW_sta hc ab hx (by omega))
theorem aOn_zero {c : gH} (hc : cW c) {N : Nat → Int} {s : Nat} : aOn c N s = 0 ↔ ∀ k : Nat, (k : Int) < c 83 6 → ¬ (N (26 + k) = 2 ∧ N (32 + k) = (s : Int)) := by
  have hC : 0 ≤ c 83 6 ∧ c 83 6 ≤ 6 := hc.2.2.1
  obtain ⟨⟨b1, b2⟩, b3⟩ := aMsk_bits (C := (c 83 6).toNat) (by omega) (aOnB N s)
  have hb : ∀ k, aOnB N s k = true ↔ N (26 + k) = 2 ∧ N (32 + k) = (s : Int) := fun k => by
    unfold aOnB
    rw [Bool.and_eq_true, decide_eq_true_eq, decide_eq_true_eq]
  constructor
  · intro h0 k hk hh
    have := b3 k (by omega)
    unfold aOn at h0
    rw [h0, gb_zero, (hb k).mpr hh, decide_eq_true (show k < (c 83 6).toNat by omega)] at this
    cases this
  · intro hh
    unfold aOn
    obtain ⟨m, hm⟩ : ∃ m : Nat, aMsk (c 83 6).toNat (aOnB N s) = (m : Int) := ⟨_, (Int.toNat_of_nonneg b1).symm⟩
    rw [hm]
    rw [hm] at b2 b3
    have := gb_ext m (by omega) 0 (by decide) (fun j hj => by
      rw [b3 j hj, show ((0 : Nat) : Int) = 0 from rfl, gb_zero]
      by_cases hl : j < (c 83 6).toNat
      · have hz : aOnB N s j = false := by
          cases hq : aOnB N s j with
          | false => rfl
          | true => exact absurd ((hb j).mp hq) (hh j (by omega))
        rw [hz, Bool.and_false]
      · rw [decide_eq_false hl, Bool.false_and])
    omega
theorem aSide_in {a b g : Int} (hg : g = 0 ∨ g = 1) : aSide a b g = 0 ∨ aSide a b g = 1 := by
  unfold aSide
  split
  · split
    · exact hg
    · exact Or.inr rfl
  · exact Or.inl rfl
theorem aGoes_in {c : gH} {N : Nat → Int} {s : Nat} (hg : N (11 + s) = 0 ∨ N (11 + s) = 1) : aGoes c N s = 0 ∨ aGoes c N s = 1 := by
  unfold aGoes
  split
  · split
    · exact hg
    · split
      · exact Or.inr rfl
      · exact Or.inl rfl
  · split
    · omega
    · split
      · exact aSide_in hg
      · split
        · exact aSide_in hg
        · exact Or.inl rfl
theorem nW_trn {c : gH} (hc : cW c) {w : Int} {N : Nat → Int} (hn : nW c w N) {s : Nat} (hs : (s : Int) < c 83 2) : nW c w (aTrn c N s) := by
  have hC : c 83 6 ≤ 6 := hc.2.2.1.2
  have hS : c 83 2 ≤ 9 := hc.2.1.2
  have hz := @aOn_zero c hc N s
  rw [nW_kW] at hn ⊢
  obtain ⟨b1, b2, b3, b4⟩ := hn
  have hg := (b3 s hs).2
  unfold aTrn
  refine ⟨by simp (disch := omega) only [nu_at, nu_ne]; exact b1, by simp (disch := omega) only [nu_at, nu_ne]; exact b2, fun s' hs' => ?_, fun k hk => ?_⟩
  · rw [nu_ne (show 2 + s' ≠ 11 + s by omega)]
    refine ⟨(b3 s' hs').1, ?_⟩
    by_cases e : s' = s
    · subst e
      rw [nu_at]
      split
      · exact aGoes_in hg
      · exact hg
    · rw [nu_ne (by omega)]
      exact (b3 s' hs').2
  · have hkw := b4 k hk
    refine kW_congr (fun hh => ?_) (nu_ne (by omega)) (nu_ne (by omega)) (nu_ne (by omega)) (nu_ne (by omega)) (nu_ne (by omega)) (nu_ne (by omega)) hkw
    have hpl := (hkw.2.2.2.2.2.2 hh).1
    by_cases e : (N (32 + k)).toNat = s
    · rw [e, nu_at, if_neg (fun q => (hz.mp q) k hk ⟨hh, by omega⟩)]
    · exact nu_ne (by omega)
/- the next street: the first that is nearer -/
theorem aNx_spec {c : gH} (hc : cW c) (a b : Int) : (aNx c a b = -1 ∧ ∀ s : Nat, (s : Int) < c 83 2 → aIs c a b s = false) ∨ ∃ s : Nat, aNx c a b = (s : Int) ∧ (s : Int) < c 83 2 ∧ aIs c a b s = true ∧ ∀ s' : Nat, s' < s → aIs c a b s' = false := by
  have hS : 0 ≤ c 83 2 := hc.2.1.1
  obtain ⟨S, hSe⟩ : ∃ S : Nat, c 83 2 = (S : Int) := ⟨(c 83 2).toNat, by omega⟩
  unfold aNx
  rw [hSe, Int.toNat_natCast]
  have key := gfold_inv (aNxF c a b S) (fun j x => (x = -1 ∧ ∀ s : Nat, S - j ≤ s → s < S → aIs c a b s = false) ∨ ∃ s : Nat, x = (s : Int) ∧ S - j ≤ s ∧ s < S ∧ aIs c a b s = true ∧ ∀ s' : Nat, S - j ≤ s' → s' < s → aIs c a b s' = false) (-1) (Or.inl ⟨rfl, fun s h1 h2 => by omega⟩) S (fun j x hj hx => by
    unfold aNxF
    cases hq : aIs c a b (S - 1 - j) with
    | true =>
      rw [if_pos rfl]
      exact Or.inr ⟨S - 1 - j, rfl, by omega, by omega, hq, fun s' h1 h2 => by omega⟩
    | false =>
      rw [if_neg (by decide)]
      rcases hx with ⟨e, h1⟩ | ⟨s, e, h1, h2, h3, h4⟩
      · refine Or.inl ⟨e, fun s h5 h6 => ?_⟩
        by_cases e2 : s = S - 1 - j
        · rw [e2]; exact hq
        · exact h1 s (by omega) h6
      · refine Or.inr ⟨s, e, by omega, h2, h3, fun s' h5 h6 => ?_⟩
        by_cases e2 : s' = S - 1 - j
        · rw [e2]; exact hq
        · exact h4 s' (by omega) h6) S (Nat.le_refl _)
  rcases key with ⟨e, h1⟩ | ⟨s, e, h1, h2, h3, h4⟩
  · exact Or.inl ⟨e, fun s hs => h1 s (by omega) (by omega)⟩
  · exact Or.inr ⟨s, e, by omega, h3, fun s' hs' => h4 s' (by omega) hs'⟩
theorem aNx_nn {c : gH} (hc : cW c) {a b : Int} {s : Nat} (hs : (s : Int) < c 83 2) (h : aIs c a b s = true) : 0 ≤ aNx c a b := by
  rcases aNx_spec hc a b with ⟨-, h1⟩ | ⟨s', e, -⟩
  · rw [h1 s hs] at h; cases h
  · rw [e]; omega
def dW (c : gH) : Prop := ∀ a b : Int, 0 ≤ a → a < c 83 0 → 0 ≤ b → b < c 83 0 → aDist c a a = 0 ∧ (a ≠ b → aDist c a b < 1000000 → ∃ s : Nat, (s : Int) < c 83 2 ∧ aIs c a b s = true)
