/- PURE: entering, tiring, the whole minute of the reference -/
theorem aW_iff {c : gH} {N : Nat → Int} {s : Nat} {side : Int} {k : Nat} : aW c N s side k = true ↔ N (26 + k) = 1 ∧ aNx c (N (32 + k)) (c 88 k) = (s : Int) ∧ N (32 + k) = (if side = 0 then c 84 s else c 85 s) := by
  unfold aW aNk
  rw [Bool.and_eq_true, decide_eq_true_eq, decide_eq_true_eq]
  by_cases c1 : N (26 + k) = 1
  · rw [if_pos c1]
    exact ⟨fun q => ⟨c1, q.1, q.2⟩, fun q => ⟨q.2.1, q.2.2⟩⟩
  · rw [if_neg c1]
    exact ⟨fun q => by have := q.1; omega, fun q => absurd q.1 c1⟩
theorem aFore_w {c : gH} (hc : cW c) {N : Nat → Int} {s : Nat} {side : Int} (h : ¬ aFore c N s side < 0) : ∃ q : Nat, aFore c N s side = (q : Int) ∧ (q : Int) < c 83 6 ∧ aW c N s side q = true := by
  have hC := hc.2.2.1.1
  have key := gfold_inv (aForeF c N s side) (fun j x => x = -1 ∨ ∃ q : Nat, x = (q : Int) ∧ q < j ∧ aW c N s side q = true) (-1) (Or.inl rfl) (c 83 6).toNat (fun j x hj hx => by
    unfold aForeF
    by_cases c1 : (aW c N s side j && (decide (x < 0) || aAh N j x.toNat)) = true
    · rw [if_pos c1]
      rw [Bool.and_eq_true] at c1
      exact Or.inr ⟨j, rfl, by omega, c1.1⟩
    · rw [if_neg c1]
      rcases hx with e | ⟨q, e, h1, h2⟩
      · exact Or.inl e
      · exact Or.inr ⟨q, e, by omega, h2⟩) (c 83 6).toNat (Nat.le_refl _)
  unfold aFore at h ⊢
  rcases key with e | ⟨q, e, h1, h2⟩
  · exfalso; omega
  · exact ⟨q, e, by omega, h2⟩
theorem aIs_end {c : gH} (hc : cW c) {N : Nat → Int} {s : Nat} (hs : (s : Int) < c 83 2) (hg : N (11 + s) = 0 ∨ N (11 + s) = 1) : aOther c s (if N (11 + s) = 0 then c 84 s else c 85 s) = aEnd c N s := by
  have h1 := hc.2.2.2.2.2.1 s hs
  unfold aOther aEnd
  by_cases c0 : N (11 + s) = 0
  · rw [if_pos c0, if_pos c0, if_pos rfl]
  · rw [if_neg c0, if_neg c0, if_neg h1.2.2.1, if_pos rfl]
theorem nW_let {c : gH} (hc : cW c) (hd : dW c) {w : Int} (hw : w ≤ 1) {N : Nat → Int} (hn : nW c w N) {s : Nat} (hs : (s : Int) < c 83 2) : nW c w (aLet c N s) := by
  have hC : c 83 6 ≤ 6 := hc.2.2.1.2
  have hS : c 83 2 ≤ 9 := hc.2.1.2
  have hg := (hn.2.2.1 s hs).2
  have h1 := hn.2.1
  have h0 := hn.1
  unfold aLet
  by_cases c0 : aFore c N s (N (11 + s)) < 0
  · rw [if_pos c0]; exact hn
  · rw [if_neg c0]
    obtain ⟨q, e, hq, hwq⟩ := aFore_w hc c0
    rw [e, Int.toNat_natCast]
    obtain ⟨v1, v2, v3⟩ := aW_iff.mp hwq
    have hkw := (nW_kW.mp hn).2.2.2 q hq
    obtain ⟨a1, a2, a3, a4, a5, a6, a7⟩ := hkw
    obtain ⟨d1, d2, d3⟩ := a6 v1
    have hst := hc.2.2.2.2.2.1 s hs
    have hck := hc.2.2.2.2.2.2.1 q hq
    have hend := aEnd_in hc (N := N) hs
    refine nW_cart hc hq hn (fun j j1 j2 j3 j4 j5 => by simp (disch := omega) only [nu_at, nu_ne]) (by simp (disch := omega) only [nu_at, nu_ne]; exact h1) ?_
    have ee : ∀ (x y z : Int), aEnd c (nu (nu (nu N (26 + q) x) (32 + q) y) (38 + q) z) s = aEnd c N s := fun x y z => by
      unfold aEnd
      simp (disch := omega) only [nu_at, nu_ne]
    unfold kW
    simp (disch := omega) only [nu_at, nu_ne]
    rw [Int.toNat_natCast, ee]
    refine ⟨a1, ⟨by omega, by omega⟩, ⟨by omega, by omega⟩, a4, fun z => by omega, fun z => by omega, fun _ => ⟨⟨by omega, hs⟩, by omega, ?_, d2⟩⟩
    rcases aNx_spec hc (N (32 + q)) (c 88 q) with ⟨z1, -⟩ | ⟨s', z1, z2, z3, -⟩
    · omega
    · have es : s' = s := by omega
      subst es
      obtain ⟨y1, y2, y3⟩ := aIs_iff.mp z3
      rw [v3, aIs_end hc hs hg] at y3
      by_cases hb : aEnd c N s' = c 88 q
      · exact Or.inl hb
      · refine Or.inr ?_
        rw [v3] at y2
        obtain ⟨s2, hs2, hi2⟩ := (hd (aEnd c N s') (c 88 q) hend.1 hend.2 hck.2.1.1 hck.2.1.2).2 hb (by omega)
        exact aNx_nn hc hs2 hi2
def aTolF (N : Nat → Int) (k : Nat) (x : Int) : Int := x + N (44 + k)
def aTol (c : gH) (N : Nat → Int) : Int := gfold (aTolF N) (c 83 6).toNat 0
theorem gfold_congr {α : Type} {f g : Nat → α → α} {a : α} : ∀ n, (∀ j x, j < n → f j x = g j x) → gfold f n a = gfold g n a := by
  intro n
  induction n with
  | zero => intro _; rfl
  | succ n ih =>
    intro h
    rw [gfold_succ, gfold_succ, ih (fun j x hj => h j x (by omega)), h n _ (by omega)]
theorem aTol_congr {c : gH} {N N' : Nat → Int} (h : ∀ k : Nat, (k : Int) < c 83 6 → N' (44 + k) = N (44 + k)) : aTol c N' = aTol c N := by
  unfold aTol
  refine gfold_congr _ (fun j x hj => ?_)
  unfold aTolF
  rw [h j (by omega)]
theorem aTol_inc {c : gH} {N N' : Nat → Int} {k : Nat} (hk : (k : Int) < c 83 6) (hkk : N' (44 + k) = N (44 + k) + 1) (h : ∀ j : Nat, j ≠ k → N' (44 + j) = N (44 + j)) : aTol c N' = aTol c N + 1 := by
  unfold aTol
  have key : ∀ n, gfold (aTolF N') n 0 = gfold (aTolF N) n 0 + (if k < n then 1 else 0) := by
    intro n
    induction n with
    | zero => rfl
    | succ n ih =>
      rw [gfold_succ, gfold_succ, ih]
      unfold aTolF
      by_cases e : n = k
      · subst e
        rw [hkk, if_neg (by omega), if_pos (by omega)]; omega
      · rw [h n e]
        by_cases e2 : k < n
        · rw [if_pos e2, if_pos (by omega)]; omega
        · rw [if_neg e2, if_neg (by omega)]; omega
  rw [key, if_pos (by omega)]
theorem aTol_in {c : gH} (hc : cW c) {w : Int} {N : Nat → Int} (hn : nW c w N) : 0 ≤ aTol c N ∧ aTol c N ≤ 600 := by
  have hC : 0 ≤ c 83 6 ∧ c 83 6 ≤ 6 := hc.2.2.1
  have key := gfold_inv (aTolF N) (fun j x => 0 ≤ x ∧ x ≤ 100 * (j : Int)) 0 ⟨by omega, by omega⟩ (c 83 6).toNat (fun j x hj hx => by
    have := (hn.2.2.2 j (by omega)).2.2.2.1
    unfold aTolF
    omega) (c 83 6).toNat (Nat.le_refl _)
  unfold aTol
  omega
def tW (c : gH) (N : Nat → Int) : Prop := N 1 = aTol c N
theorem nW_tir {c : gH} (hc : cW c) {w : Int} {N : Nat → Int} (hn : nW c w N) (ht : tW c N) {k : Nat} (hk : (k : Int) < c 83 6) : nW c w (aTir c k N) ∧ tW c (aTir c k N) := by
  have hC : c 83 6 ≤ 6 := hc.2.2.1.2
  have hkw := (nW_kW.mp hn).2.2.2 k hk
  have h1 := hn.2.1
  have h0 := hn.1
  have htl := aTol_in hc hn
  have hck := hc.2.2.2.2.2.2.1 k hk
  unfold tW at ht
  obtain ⟨a1, a2, a3, a4, a5, a6, a7⟩ := hkw
  unfold aTir
  by_cases c1 : N (26 + k) = 1
  · obtain ⟨d1, d2, d3⟩ := a6 c1
    rw [if_pos c1]
    by_cases c2 : N (44 + k) + 1 ≤ c 90 k
    · rw [if_pos c2]
      refine ⟨nW_cart hc hk hn (fun j j1 j2 j3 j4 j5 => by simp (disch := omega) only [nu_at, nu_ne]) (by simp (disch := omega) only [nu_at, nu_ne]; omega) ?_, ?_⟩
      · unfold kW
        simp (disch := omega) only [nu_at, nu_ne]
        refine ⟨a1, a2, a3, ⟨by omega, by omega⟩, fun z => by omega, fun z => ⟨d1, c2, d3⟩, fun z => by omega⟩
      · unfold tW
        rw [aTol_inc (N := N) hk (by simp (disch := omega) only [nu_at, nu_ne]) (fun j hj => by simp (disch := omega) only [nu_at, nu_ne]), nu_at, ht]
    · rw [if_neg c2]
      refine ⟨nW_cart hc hk hn (fun j j1 j2 j3 j4 j5 => by simp (disch := omega) only [nu_at, nu_ne]) (by simp (disch := omega) only [nu_at, nu_ne]; omega) ?_, ?_⟩
      · unfold kW
        simp (disch := omega) only [nu_at, nu_ne]
        refine ⟨a1, ⟨by omega, by omega⟩, ⟨by omega, by omega⟩, ⟨by omega, by omega⟩, fun z => by omega, fun z => by omega, fun z => by omega⟩
      · unfold tW
        rw [aTol_inc (N := N) hk (by simp (disch := omega) only [nu_at, nu_ne]) (fun j hj => by simp (disch := omega) only [nu_at, nu_ne])]
        simp (disch := omega) only [nu_at, nu_ne]
        rw [ht]
  · rw [if_neg c1]; exact ⟨hn, ht⟩
theorem aSta_off {c : gH} {ab : Int} {N : Nat → Int} {k j : Nat} (h1 : j ≠ 26 + k) (h3 : j ≠ 38 + k) : aSta c ab k N j = N j := by
  unfold aSta
  split
  · simp (disch := omega) only [nu_at, nu_ne]
  · rfl
theorem tW_arr {c : gH} (hc : cW c) {N : Nat → Int} (ht : tW c N) {k : Nat} (hk : (k : Int) < c 83 6) : tW c (aArr c k N) := by
  have hC : c 83 6 ≤ 6 := hc.2.2.1.2
  unfold tW
  rw [aTol_congr (N := N) (fun j hj => aArr_off (by omega) (by omega) (by omega)), aArr_off (by omega) (by omega) (by omega)]
  exact ht
theorem tW_sta {c : gH} (hc : cW c) {ab : Int} {N : Nat → Int} (ht : tW c N) {k : Nat} (hk : (k : Int) < c 83 6) : tW c (aSta c ab k N) := by
  have hC : c 83 6 ≤ 6 := hc.2.2.1.2
  unfold tW
  rw [aTol_congr (N := N) (fun j hj => aSta_off (by omega) (by omega)), aSta_off (by omega) (by omega)]
  exact ht
theorem tW_trn {c : gH} (hc : cW c) {N : Nat → Int} (ht : tW c N) {s : Nat} (hs : (s : Int) < c 83 2) : tW c (aTrn c N s) := by
  have hS : c 83 2 ≤ 9 := hc.2.1.2
  unfold tW aTrn
  rw [aTol_congr (N := N) (fun j hj => nu_ne (by omega)), nu_ne (by omega)]
  exact ht
theorem tW_let {c : gH} (hc : cW c) {N : Nat → Int} (ht : tW c N) {s : Nat} : tW c (aLet c N s) := by
  have hC : c 83 6 ≤ 6 := hc.2.2.1.2
  have hf := aFore_lt hc N s (N (11 + s))
  unfold tW aLet
  by_cases c0 : aFore c N s (N (11 + s)) < 0
  · rw [if_pos c0]; exact ht
  · rw [if_neg c0]
    rw [aTol_congr (N := N) (fun j hj => by simp (disch := omega) only [nu_at, nu_ne])]
    simp (disch := omega) only [nu_at, nu_ne]
    exact ht
theorem pW_ph3 {c : gH} (hc : cW c) (hd : dW c) (ab : Int) {N : Nat → Int} (hn : nW c 0 N) (ht : tW c N) : ∀ j, j ≤ (c 83 2).toNat → nW c 1 (gfold (aEnt c) j (aPh2 c ab N)) ∧ tW c (gfold (aEnt c) j (aPh2 c ab N)) := by
  have hS : 0 ≤ c 83 2 := hc.2.1.1
  have hC : 0 ≤ c 83 6 := hc.2.2.1.1
  have t1 : tW c (aPh1 c N) := (gfold_inv (aArr c) (fun _ x => tW c x) N ht (c 83 6).toNat (fun j x hj hx => tW_arr hc hx (by omega))) _ (Nat.le_refl _)
  have t2 : tW c (aPh2 c ab N) := (gfold_inv (aSta c ab) (fun _ x => tW c x) _ t1 (c 83 6).toNat (fun j x hj hx => tW_sta hc hx (by omega))) _ (Nat.le_refl _)
  exact gfold_inv (aEnt c) (fun _ x => nW c 1 x ∧ tW c x) _ ⟨nW_ph2 hc ab hn _ (Nat.le_refl _), t2⟩ (c 83 2).toNat (fun j x hj hx => ⟨nW_let hc hd (by omega) (nW_trn hc hx.1 (by omega)) (by omega), tW_let hc (tW_trn hc hx.2 (by omega))⟩)
theorem pW_ph4 {c : gH} (hc : cW c) (hd : dW c) (ab : Int) {N : Nat → Int} (hn : nW c 0 N) (ht : tW c N) : ∀ j, j ≤ (c 83 6).toNat → nW c 1 (gfold (aTir c) j (aPh3 c ab N)) ∧ tW c (gfold (aTir c) j (aPh3 c ab N)) := by
  have hC : 0 ≤ c 83 6 := hc.2.2.1.1
  exact gfold_inv (aTir c) (fun _ x => nW c 1 x ∧ tW c x) _ (pW_ph3 hc hd ab hn ht _ (Nat.le_refl _)) (c 83 6).toNat (fun j x hj hx => nW_tir hc hx.1 hx.2 (by omega))
theorem aTir_0 {c : gH} {N : Nat → Int} {k : Nat} : aTir c k N 0 = N 0 := by
  unfold aTir
  split
  · split <;> simp (disch := omega) only [nu_at, nu_ne]
  · rfl
theorem aEnt_0 {c : gH} {N : Nat → Int} {s : Nat} : aEnt c s N 0 = N 0 := by
  unfold aEnt aLet
  split
  · unfold aTrn; exact nu_ne (by omega)
  · simp (disch := omega) only [nu_at, nu_ne]
    unfold aTrn; exact nu_ne (by omega)
theorem aPh4_0 {c : gH} {ab : Int} {N : Nat → Int} : aPh4 c ab N 0 = N 0 := by
  have t1 : aPh1 c N 0 = N 0 := (gfold_inv (aArr c) (fun _ x => x 0 = N 0) N rfl (c 83 6).toNat (fun j x hj hx => by rw [aArr_off (by omega) (by omega) (by omega)]; exact hx)) _ (Nat.le_refl _)
  have t2 : aPh2 c ab N 0 = N 0 := (gfold_inv (aSta c ab) (fun _ x => x 0 = N 0) _ t1 (c 83 6).toNat (fun j x hj hx => by rw [aSta_off (by omega) (by omega)]; exact hx)) _ (Nat.le_refl _)
  have t3 : aPh3 c ab N 0 = N 0 := (gfold_inv (aEnt c) (fun _ x => x 0 = N 0) _ t2 (c 83 2).toNat (fun j x hj hx => by rw [aEnt_0]; exact hx)) _ (Nat.le_refl _)
  exact (gfold_inv (aTir c) (fun _ x => x 0 = N 0) _ t3 (c 83 6).toNat (fun j x hj hx => by rw [aTir_0]; exact hx)) _ (Nat.le_refl _)
theorem pW_pass {c : gH} (hc : cW c) (hd : dW c) (ab : Int) {N : Nat → Int} (hn : nW c 0 N) (ht : tW c N) (h0 : N 0 < 100000) : nW c 0 (aPass c ab N) ∧ tW c (aPass c ab N) ∧ aPass c ab N 0 = N 0 + 1 := by
  have hC : 0 ≤ c 83 6 ∧ c 83 6 ≤ 6 := hc.2.2.1
  have hS : 0 ≤ c 83 2 ∧ c 83 2 ≤ 9 := hc.2.1
  have h4 : nW c 1 (aPh4 c ab N) ∧ tW c (aPh4 c ab N) := pW_ph4 hc hd ab hn ht _ (Nat.le_refl _)
  have e0 := @aPh4_0 c ab N
  have hN0 := hn.1.1
  unfold aPass
  generalize aPh4 c ab N = M at h4 e0 ⊢
  obtain ⟨hm, htm⟩ := h4
  rw [nW_kW] at hm
  obtain ⟨b1, b2, b3, b4⟩ := hm
  refine ⟨?_, ?_, ?_⟩
  · rw [nW_kW]
    refine ⟨?_, ?_, fun s hs => ?_, fun k hk => ?_⟩
    · rw [nu_at]; omega
    · rw [nu_ne (by omega)]; exact b2
    · rw [nu_ne (by omega), nu_ne (by omega)]; exact b3 s hs
    · obtain ⟨a1, a2, a3, a4, a5, a6, a7⟩ := b4 k hk
      have ee : ∀ (s : Nat) (z : Int), aEnd c (nu M 0 z) s = aEnd c M s := fun s z => by
        unfold aEnd
        rw [nu_ne (by omega)]
      unfold kW
      simp (disch := omega) only [nu_at, nu_ne]
      rw [ee]
      exact ⟨a1, a2, ⟨a3.1, by omega⟩, a4, a5, a6, fun z => ⟨(a7 z).1, by have := (a7 z).2.1; omega, (a7 z).2.2⟩⟩
  · unfold tW at htm ⊢
    rw [aTol_congr (N := M) (fun j hj => nu_ne (by omega)), nu_ne (by omega)]
    exact htm
  · rw [nu_at, e0]
