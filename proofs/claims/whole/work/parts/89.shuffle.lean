/- PURE: the class's orders of ranks -/
theorem gln_32 : gln 32 = 6 := by decide +kernel
theorem gs_p {k : Nat} (hk : k < 1000) : gsub ((k + 1 : Nat) : Int) 1 = (k : Int) := by rw [gsub_eq (by omega) (by omega)]; omega
theorem ga_m {k : Nat} (hk : k < 1000) : gadd ((k + 1 : Nat) : Int) (-1) = (k : Int) := by rw [gadd_eq (by omega) (by omega)]; omega
/- sorting -/
def srI (a p : Nat → Int) (k at' : Nat) : Prop := (∀ i j, i < j → j ≤ k → i ≠ at' → j ≠ at' → p i ≤ p j) ∧ (∀ j, at' < j → j ≤ k → a k ≤ p j) ∧ ∀ v, cnt v (nu p at' (a k)) (k + 1) = cnt v a (k + 1)
theorem k_sortI {B : gH} {k : Nat} (hk : k < 6) (v2 : Int) (K : Int → gH → Option gO) : ∀ (t f : Nat) (p : Nat → Int), t ≤ k → t < f → srI (B 32) p k t → ∃ (t' : Nat) (p' : Nat → Int), f_Shuffle_sortRanks_L10 32 v2 (k : Int) K f (t : Int) (grr B 74 p) = K (t' : Int) (grr B 74 p') ∧ t' ≤ k ∧ srI (B 32) p' k t' ∧ (t' = 0 ∨ p' (t' - 1) ≤ B 32 k) := by
  intro t
  induction t with
  | zero =>
    intro f p ht hf hI
    obtain ⟨f, rfl⟩ : ∃ f', f = f' + 1 := ⟨f - 1, by omega⟩
    exact ⟨0, p, by rw [f_Shuffle_sortRanks_L10, if_pos (by omega)], by omega, hI, Or.inl rfl⟩
  | succ t ih =>
    intro f p ht hf hI
    obtain ⟨f, rfl⟩ : ∃ f', f = f' + 1 := ⟨f - 1, by omega⟩
    rw [f_Shuffle_sortRanks_L10, if_neg (by omega), gs_p (by omega), gln_32, gdix (by omega) (by omega), gdix (by omega) (by omega), Int.toNat_natCast, Int.toNat_natCast, grr_at, grr_ne (show 32 ≠ 74 by decide)]
    by_cases c : p t ≤ B 32 k
    · exact ⟨t + 1, p, by rw [if_pos c], ht, hI, Or.inr c⟩
    · obtain ⟨i1, i2, i3⟩ := hI
      rw [if_neg c, gdix (by omega) (by omega), gdix (by omega) (by omega), gs_s, Int.toNat_natCast, grr_up, ga_m (by omega)]
      refine ih f (nu p (t + 1) (p t)) (by omega) (by omega) ⟨fun i j h1 h2 h3 h4 => ?_, fun j h1 h2 => ?_, fun v => ?_⟩
      · by_cases e1 : i = t + 1
        · rw [e1, nu_at, nu_ne (by omega)]
          exact i1 t j (by omega) h2 (by omega) (by omega)
        · by_cases e2 : j = t + 1
          · rw [e2, nu_at, nu_ne (by omega)]
            exact i1 i t (by omega) (by omega) (by omega) (by omega)
          · rw [nu_ne e1, nu_ne e2]
            exact i1 i j h1 h2 e1 e2
      · by_cases e1 : j = t + 1
        · rw [e1, nu_at]; omega
        · rw [nu_ne e1]; exact i2 j (by omega) h2
      · rw [← i3 v, ← cnt_sw (v := v) (p := nu p (t + 1) (B 32 k)) (i := t) (j := t + 1) (n := k + 1) (by omega) (by omega) (by omega)]
        refine cnt_congr _ (fun y hy => ?_)
        by_cases e1 : y = t
        · rw [e1, nu_at, sw_i (by omega), nu_at]
        · by_cases e2 : y = t + 1
          · rw [e2, nu_ne (by omega), nu_at, sw_j, nu_ne (by omega)]
          · rw [nu_ne e1, nu_ne e2, sw_o e1 e2, nu_ne e2]
theorem k_sortO {B : gH} {C : Nat} (hC : C ≤ 6) : ∀ (d k f : Nat) (p : Nat → Int), k + d = C → d < f → (∀ i j, i < j → j < k → p i ≤ p j) → (∀ v, cnt v p k = cnt v (B 32) k) → ∃ p', f_Shuffle_sortRanks_L2 32 (C : Int) (fun h8 => some (h8, 0)) f (k : Int) (grr B 74 p) = some (grr B 74 p', 0) ∧ (∀ i j, i < j → j < C → p' i ≤ p' j) ∧ isP C (B 32) p' := by
  intro d
  induction d with
  | zero =>
    intro k f p hk hf hs hc
    obtain ⟨f, rfl⟩ : ∃ f', f = f' + 1 := ⟨f - 1, by omega⟩
    have e : k = C := by omega
    subst e
    exact ⟨p, by rw [f_Shuffle_sortRanks_L2, if_pos (by omega)], hs, hc⟩
  | succ d ih =>
    intro k f p hk hf hs hc
    obtain ⟨f, rfl⟩ : ∃ f', f = f' + 1 := ⟨f - 1, by omega⟩
    obtain ⟨t, q, q1, q2, ⟨i1, i2, i3⟩, q4⟩ := k_sortI (B := B) (k := k) (by omega) (C : Int) (fun v5 h6 => f_Shuffle_sortRanks_J52 32 (f_Shuffle_sortRanks_L2 32 (C : Int) (fun h8 => some (h8, 0)) f) (C : Int) (k : Int) v5 h6) k 50000 p (Nat.le_refl _) (by omega) ⟨fun i j h1 h2 h3 h4 => hs i j h1 (by omega), fun j h1 h2 => by omega, fun v => by rw [cnt, cnt, nu_at, cnt_congr (p := nu p k (B 32 k)) (q := p) k (fun y hy => nu_ne (by omega)), hc]⟩
    obtain ⟨p', r1, r2, r3⟩ := ih (k + 1) f (nu q t (B 32 k)) (by omega) (by omega) (fun i j h1 h2 => by
      by_cases e1 : i = t
      · rw [e1, nu_at, nu_ne (by omega)]; exact i2 j (by omega) (by omega)
      · by_cases e2 : j = t
        · rw [e2, nu_at, nu_ne e1]
          rcases q4 with z | z
          · omega
          · by_cases e3 : i = t - 1
            · rw [e3]; exact z
            · exact Int.le_trans (i1 i (t - 1) (by omega) (by omega) e1 (by omega)) z
        · rw [nu_ne e1, nu_ne e2]; exact i1 i j h1 (by omega) e1 e2) i3
    refine ⟨p', ?_, r2, r3⟩
    rw [f_Shuffle_sortRanks_L2, if_neg (by omega)]
    refine (show _ = _ from q1).trans ?_
    show f_Shuffle_sortRanks_J52 32 (f_Shuffle_sortRanks_L2 32 (C : Int) (fun h8 => some (h8, 0)) f) (C : Int) (k : Int) (t : Int) (grr B 74 q) = _
    unfold f_Shuffle_sortRanks_J52
    rw [gln_32, gdix (by omega) (by omega), gdix (by omega) (by omega), gs_s, Int.toNat_natCast, Int.toNat_natCast, grr_ne (show 32 ≠ 74 by decide), grr_up, ga_s (by omega)]
    exact r1
/- the next order -/
theorem k_swap {B : gH} {p : Nat → Int} {i j : Nat} (hi : i < 6) (hj : j < 6) : f_Shuffle_swap (i : Int) (j : Int) (grr B 74 p) = some (grr B 74 (sw p i j), 0) := by
  unfold f_Shuffle_swap
  rw [gdix (by omega) (by omega), gdix (by omega) (by omega), gdix (by omega) (by omega), gs_s, gdix (by omega) (by omega), gs_s, Int.toNat_natCast, Int.toNat_natCast, grr_at, grr_up, grr_up]
  rfl
theorem k_goL4 {B : gH} {C : Nat} (hC : C ≤ 6) {p : Nat → Int} (v1 : Int) (K : Int → gH → Option gO) : ∀ (t f : Nat), t < C → t < f → (∀ i j, t ≤ i → i < j → j < C → p j ≤ p i) → (f_Shuffle_goOn_L4 v1 K f ((t : Int) - 1) (grr B 74 p) = K (-1) (grr B 74 p) ∧ ∀ i j, i < j → j < C → p j ≤ p i) ∨ ∃ l : Nat, f_Shuffle_goOn_L4 v1 K f ((t : Int) - 1) (grr B 74 p) = K (l : Int) (grr B 74 p) ∧ l + 1 < C ∧ p l < p (l + 1) ∧ ∀ i j, l < i → i < j → j < C → p j ≤ p i := by
  intro t
  induction t with
  | zero =>
    intro f ht hf hs
    obtain ⟨f, rfl⟩ : ∃ f', f = f' + 1 := ⟨f - 1, by omega⟩
    refine Or.inl ⟨?_, fun i j h1 h2 => hs i j (by omega) h1 h2⟩
    rw [f_Shuffle_goOn_L4, if_pos (by omega)]
    rfl
  | succ t ih =>
    intro f ht hf hs
    obtain ⟨f, rfl⟩ : ∃ f', f = f' + 1 := ⟨f - 1, by omega⟩
    rw [show ((t + 1 : Nat) : Int) - 1 = (t : Int) by omega, f_Shuffle_goOn_L4, if_neg (by omega), ga_s (by omega), gdix (by omega) (by omega), gdix (by omega) (by omega), Int.toNat_natCast, Int.toNat_natCast, grr_at]
    by_cases c : p t < p (t + 1)
    · exact Or.inr ⟨t, by rw [if_pos c], ht, c, fun i j h1 h2 h3 => hs i j (by omega) h2 h3⟩
    · rw [if_neg c, show gadd (t : Int) (-1) = (t : Int) - 1 by rw [gadd_eq (by omega) (by omega)]; omega]
      refine ih f (by omega) (by omega) (fun i j h1 h2 h3 => ?_)
      by_cases e : i = t
      · subst e
        by_cases e2 : j = i + 1
        · subst e2; omega
        · have := hs (i + 1) j (by omega) (by omega) h3
          omega
      · exact hs i j (by omega) h2 h3
theorem k_goL41 {B : gH} {C l : Nat} (hC : C ≤ 6) {p : Nat → Int} (hl : p l < p (l + 1)) (v1 : Int) (K : Int → gH → Option gO) : ∀ (t f : Nat), l < t → t < C → t < f → (∀ k, t < k → k < C → p k ≤ p l) → ∃ hi : Nat, f_Shuffle_goOn_L41 v1 (l : Int) K f (t : Int) (grr B 74 p) = K (hi : Int) (grr B 74 p) ∧ l < hi ∧ hi < C ∧ p l < p hi ∧ ∀ k, hi < k → k < C → p k ≤ p l := by
  intro t
  induction t with
  | zero => intro f h1; omega
  | succ t ih =>
    intro f h1 h2 h3 h4
    obtain ⟨f, rfl⟩ : ∃ f', f = f' + 1 := ⟨f - 1, by omega⟩
    rw [f_Shuffle_goOn_L41, if_neg (by omega), gdix (by omega) (by omega), gdix (by omega) (by omega), Int.toNat_natCast, Int.toNat_natCast, grr_at]
    by_cases c : p l < p (t + 1)
    · exact ⟨t + 1, by rw [if_pos c], h1, h2, c, h4⟩
    · rw [if_neg c, ga_m (by omega)]
      have hne : l ≠ t := fun e => by subst e; exact c hl
      refine ih f (by omega) (by omega) (by omega) (fun k k1 k2 => ?_)
      by_cases e : k = t + 1
      · subst e; omega
      · exact h4 k (by omega) k2
def rvP (C l : Nat) (s q : Nat → Int) (i j : Nat) : Prop := (∀ k, l < k → k < i → q k = s (l + C - k)) ∧ (∀ k, j < k → k < C → q k = s (l + C - k)) ∧ (∀ k, i ≤ k → k ≤ j → q k = s k) ∧ (∀ k, k ≤ l → q k = s k) ∧ (∀ v, cnt v q C = cnt v s C) ∧ ∀ x, ltc x q C = ltc x s C
theorem k_goL83 {B : gH} {C l : Nat} (hC : C ≤ 6) {s : Nat → Int} (K : gH → Option gO) : ∀ (f i j : Nat) (q : Nat → Int), i + j = l + C → l < i → j < C → j < i + f → rvP C l s q i j → ∃ q', f_Shuffle_goOn_L83 K (f + 1) (i : Int) (j : Int) (grr B 74 q) = K (grr B 74 q') ∧ (∀ k, l < k → k < C → q' k = s (l + C - k)) ∧ (∀ k, k ≤ l → q' k = s k) ∧ (∀ v, cnt v q' C = cnt v s C) ∧ ∀ x, ltc x q' C = ltc x s C := by
  intro f
  induction f with
  | zero =>
    intro i j q h1 h2 h3 h4 ⟨r1, r2, r3, r4, r5, r6⟩
    refine ⟨q, by rw [f_Shuffle_goOn_L83, if_pos (by omega)], fun k k1 k2 => ?_, r4, r5, r6⟩
    by_cases c1 : k < i
    · exact r1 k k1 c1
    · exact r2 k (by omega) k2
  | succ f ih =>
    intro i j q h1 h2 h3 h4 ⟨r1, r2, r3, r4, r5, r6⟩
    by_cases c : j ≤ i
    · refine ⟨q, by rw [f_Shuffle_goOn_L83, if_pos (by omega)], fun k k1 k2 => ?_, r4, r5, r6⟩
      by_cases c1 : k < i
      · exact r1 k k1 c1
      · by_cases c2 : j < k
        · exact r2 k c2 k2
        · have e : l + C - k = k := by omega
          rw [e]; exact r3 k (by omega) (by omega)
    · obtain ⟨j, rfl⟩ : ∃ j', j = j' + 1 := ⟨j - 1, by omega⟩
      rw [f_Shuffle_goOn_L83, if_neg (by omega), k_swap (by omega) (by omega), gb_s, ga_s (by omega), ga_m (by omega)]
      refine ih (i + 1) j (sw q i (j + 1)) (by omega) (by omega) (by omega) (by omega) ⟨fun k k1 k2 => ?_, fun k k1 k2 => ?_, fun k k1 k2 => ?_, fun k k1 => ?_, fun v => ?_, fun x => ?_⟩
      · by_cases e : k = i
        · subst e
          rw [sw_i (by omega), r3 (j + 1) (by omega) (by omega), show l + C - k = j + 1 by omega]
        · rw [sw_o e (by omega)]; exact r1 k k1 (by omega)
      · by_cases e : k = j + 1
        · subst e
          rw [sw_j, r3 i (by omega) (by omega), show l + C - (j + 1) = i by omega]
        · rw [sw_o (by omega) e]; exact r2 k (by omega) k2
      · rw [sw_o (by omega) (by omega)]; exact r3 k (by omega) (by omega)
      · rw [sw_o (by omega) (by omega)]; exact r4 k k1
      · rw [cnt_sw (by omega) (by omega) (by omega)]; exact r5 v
      · rw [ltc_sw (by omega) (by omega) (by omega)]; exact r6 x
theorem k_goOn {B : gH} {C : Nat} (hC : C ≤ 6) (p : Nat → Int) : ∃ p' r, f_Shuffle_goOn (C : Int) (grr B 74 p) = some (grr B 74 p', r) ∧ ((r = 0 ∧ p' = p ∧ ∀ i j, i < j → j < C → p j ≤ p i) ∨ (r = 1 ∧ (∃ l hi, nxP C p p' l hi) ∧ (∀ v, cnt v p' C = cnt v p C) ∧ ∀ x, ltc x p' C = ltc x p C)) := by
  by_cases c0 : C = 0
  · subst c0
    refine ⟨p, 0, ?_, Or.inl ⟨rfl, rfl, fun i j h1 h2 => by omega⟩⟩
    unfold f_Shuffle_goOn
    rw [show gsub ((0 : Nat) : Int) 2 = -2 from rfl, f_Shuffle_goOn_L4, if_pos (by decide)]
    unfold f_Shuffle_goOn_J31
    rw [if_neg (by decide), gdz0]
  · have e2 : gsub (C : Int) 2 = ((C - 1 : Nat) : Int) - 1 := by rw [gsub_eq (by omega) (by omega)]; omega
    unfold f_Shuffle_goOn
    rw [e2]
    rcases k_goL4 (B := B) hC (p := p) (C : Int) (fun v3 h4 => f_Shuffle_goOn_J31 (C : Int) v3 h4) (C - 1) 50000 (by omega) (by omega) (fun i j h1 h2 h3 => by omega) with ⟨q1, q2⟩ | ⟨l, q1, q2, q3, q4⟩
    · refine ⟨p, 0, ?_, Or.inl ⟨rfl, rfl, q2⟩⟩
      rw [q1]
      unfold f_Shuffle_goOn_J31
      rw [if_neg (by decide), gdz0]
    · obtain ⟨hi, u1, u2, u3, u4, u5⟩ := k_goL41 (B := B) hC q3 (C : Int) (fun v8 h9 => f_Shuffle_goOn_J67 (C : Int) (l : Int) v8 h9) (C - 1) 50000 (by omega) (by omega) (by omega) (fun k k1 k2 => by omega)
      have hs : ∀ i j, l < i → i < j → j < C → sw p l hi j ≤ sw p l hi i := by
        intro i j h1 h2 h3
        by_cases e1 : i = hi
        · subst e1
          rw [sw_j, sw_o (by omega) (by omega)]
          exact u5 j h2 h3
        · by_cases e3 : j = hi
          · subst e3
            rw [sw_j, sw_o (by omega) e1]
            have := q4 i j h1 h2 h3
            omega
          · rw [sw_o (by omega) e1, sw_o (by omega) e3]
            exact q4 i j h1 h2 h3
      obtain ⟨q', w1, w2, w3, w4, w5⟩ := k_goL83 (B := B) (l := l) hC (s := sw p l hi) (fun h15 => gd (gz 1) (some (h15, 1))) 49999 (l + 1) (C - 1) (sw p l hi) (by omega) (by omega) (by omega) (by omega) ⟨fun k k1 k2 => by omega, fun k k1 k2 => by omega, fun _ _ _ => rfl, fun _ _ => rfl, fun _ => rfl, fun _ => rfl⟩
      refine ⟨q', 1, ?_, Or.inr ⟨rfl, ⟨l, hi, u2, u3, u4, q4, u5, fun k hk => ?_, ?_, fun i j h1 h2 h3 => ?_⟩, fun v => ?_, fun x => ?_⟩⟩
      · rw [q1]
        unfold f_Shuffle_goOn_J31
        rw [if_pos (by omega), show gsub (C : Int) 1 = ((C - 1 : Nat) : Int) by rw [gsub_eq (by omega) (by omega)]; omega, u1]
        unfold f_Shuffle_goOn_J67
        rw [k_swap (by omega) (by omega), gb_s, show gsub (C : Int) 1 = ((C - 1 : Nat) : Int) by rw [gsub_eq (by omega) (by omega)]; omega, ga_s (by omega), w1, gdz1]
      · rw [w3 k (by omega), sw_o (by omega) (by omega)]
      · rw [w3 l (Nat.le_refl _), sw_i (by omega)]
      · rw [w2 i h1 (by omega), w2 j (by omega) h3]
        exact hs _ _ (by omega) (by omega) (by omega)
      · rw [w4, cnt_sw (by omega) (by omega) (by omega)]
      · rw [w5, ltc_sw (by omega) (by omega) (by omega)]
/- ranks given -/
theorem rkN_succ (C : Nat) (N p : Nat → Int) : rkN (C + 1) N p = nu (rkN C N p) (20 + C) (p C) := by
  funext y
  unfold rkN
  by_cases e : y = 20 + C
  · subst e
    rw [nu_at, if_pos (by omega), show 20 + C - 20 = C by omega]
  · rw [nu_ne e]
    by_cases c : 20 ≤ y ∧ y < 20 + C
    · rw [if_pos c, if_pos (by omega)]
    · rw [if_neg c, if_neg (by omega)]
theorem rkN_off {C : Nat} {N p : Nat → Int} (hC : C ≤ 6) {y : Nat} (hy : y < 20 ∨ 26 ≤ y) : rkN C N p y = N y := if_neg (by omega)
theorem rk_ok {D : gH} (hc : cW D) {N : Nat → Int} (hn : nW D 0 N) (ht : tW D N) (hv : vW D N) {p : Nat → Int} (hp : ∀ k, k < (D 83 6).toNat → 1 ≤ p k ∧ p k ≤ 9) : nW D 0 (rkN (D 83 6).toNat N p) ∧ tW D (rkN (D 83 6).toNat N p) ∧ vW D (rkN (D 83 6).toNat N p) ∧ rkN (D 83 6).toNat N p 0 = N 0 ∧ ∀ y, 50 ≤ y → rkN (D 83 6).toNat N p y = N y := by
  have hC := hc.2.2.1
  have key : ∀ j, j ≤ (D 83 6).toNat → nW D 0 (rkN j N p) ∧ tW D (rkN j N p) := by
    intro j
    induction j with
    | zero =>
      intro _
      have e : rkN 0 N p = N := by funext y; unfold rkN; rw [if_neg (by omega)]
      rw [e]; exact ⟨hn, ht⟩
    | succ j ih =>
      intro h
      obtain ⟨i1, i2⟩ := ih (by omega)
      rw [rkN_succ]
      exact nW_rankset hc i1 i2 (by omega) (hp j (by omega))
  obtain ⟨k1, k2⟩ := key _ (Nat.le_refl _)
  refine ⟨k1, k2, fun k hk h3 => ?_, rkN_off (by omega) (by omega), fun y hy => rkN_off (by omega) (by omega)⟩
  rw [rkN_off (by omega) (by omega)] at h3 ⊢
  exact hv k hk h3
theorem rkV_in {D : gH} (hc : cW D) (hd : dW D) {N : Nat → Int} (hw : gw D N) {p : Nat → Int} (hp : ∀ k, k < (D 83 6).toNat → 1 ≤ p k ∧ p k ≤ 9) {n : Nat} (hn : n ≤ 300) : 0 ≤ rkV D N n p ∧ rkV D N n p ≤ 600000 := by
  obtain ⟨w1, w2, w3, w4⟩ := hw
  obtain ⟨p1, p2, p3, p4, p5⟩ := rk_ok hc w1 w2 w3 hp
  obtain ⟨r1, r2, r3⟩ := pW_it hc hd (-1) p1 p2 n (by rw [p4]; omega)
  exact ⟨aSum_nn r1.1.1 (vQ_it hc (-1) (N0 := rkN (D 83 6).toNat N p) ⟨p1.1.1, p3, fun _ _ => rfl⟩ n).2.1 _, aSum_le hc r1 _⟩
theorem isP_19 {D : gH} {N : Nat → Int} (hn : nW D 0 N) {p : Nat → Int} (hp : isP (D 83 6).toNat (fun k => N (20 + k)) p) : ∀ k, k < (D 83 6).toNat → 1 ≤ p k ∧ p k ≤ 9 := by
  intro k hk
  obtain ⟨j, j1, j2⟩ := isP_mem hp hk
  have := (hn.2.2.2 j (by omega)).1
  have j2' : N (20 + j) = p k := j2
  rw [j2'] at this
  exact this
theorem TR_rk {D h : gH} (hc : cW D) {c : Nat} {N : Nat → Int} (hT : TR D h c 37 N) : TR D (gcp h 74 0 42 0 6) c 37 (rkN (D 83 6).toNat N (h 74)) := by
  have hC := hc.2.2.1
  have hS := hc.2.1
  obtain ⟨t0, t1, ts, tc⟩ := hT
  have hn : ∀ y, y < 20 ∨ 26 ≤ y → rkN (D 83 6).toNat N (h 74) y = N y := fun y hy => rkN_off (by omega) hy
  have hr : ∀ x, x ≠ 42 → gcp h 74 0 42 0 6 x = h x := fun x hx => gcp_r hx
  refine ⟨by rw [hr 37 (by decide)]; exact t0, by rw [hr 37 (by decide), hn 0 (by omega)]; exact t1, fun s hs => ?_, fun k hk => ?_⟩
  · obtain ⟨a1, a2, a3, a4, a5⟩ := ts s hs
    have hw : ∀ (e : Int) (i : Nat), (i : Int) < D 83 6 → aW D (rkN (D 83 6).toNat N (h 74)) s e i = aW D N s e i := by
      intro e i hi
      unfold aW aNk
      rw [hn (26 + i) (by omega), hn (32 + i) (by omega)]
    have ho : ∀ i : Nat, (i : Int) < D 83 6 → aOnB (rkN (D 83 6).toNat N (h 74)) s i = aOnB N s i := by
      intro i hi
      unfold aOnB
      rw [hn (26 + i) (by omega), hn (32 + i) (by omega)]
    rw [hr (37 + 1) (by decide), hr (37 + 2) (by decide), hr (37 + 3) (by decide), hr (37 + 4) (by decide), hn (2 + s) (by omega), hn (11 + s) (by omega)]
    exact ⟨a1, a2, sI_same a3 ho, sI_same a4 (hw 0), sI_same a5 (hw 1)⟩
  · obtain ⟨a1, a2, a3, a4, a5⟩ := tc k hk
    have e20 : rkN (D 83 6).toNat N (h 74) (20 + k) = h 74 k := by
      unfold rkN
      rw [if_pos (by omega), show 20 + k - 20 = k by omega]
    rw [hr (37 + 6) (by decide), hr (37 + 7) (by decide), hr (37 + 8) (by decide), hr (37 + 9) (by decide), e20, hn (26 + k) (by omega), hn (32 + k) (by omega), hn (38 + k) (by omega), hn (44 + k) (by omega)]
    exact ⟨gcp_in (by omega), a2, a3, a4, a5⟩
/- all orders -/
def rS (h hh : gH) : Prop := ∀ x, x < 37 ∨ 47 ≤ x → x < 72 ∨ 74 < x → hh x = h x
theorem k_fiL {h : gH} {c : Nat} (g : GK h c) {n : Nat} (hn : n ≤ 300) (K : gH → Option gO) : ∀ (d i f : Nat) (v3 : Int) (hh : gH), i + d = 720 → d < f → rS h hh → ((v3 = 0 ∧ rkS (ct h) (h 92) n (hh 72 0) (hh 73)) ∨ (v3 = 1 ∧ isP (h 83 6).toNat (fun k => h 92 (20 + k)) (hh 74) ∧ snB (ct h) (h 92) n (hh 72 0) (hh 73) (hh 74) ∧ i ≤ LL (hh 74) (h 83 6).toNat (h 83 6).toNat)) → ∃ h', f_Shuffle_find_L43 (n : Int) (h 83 6) K f v3 (i : Int) hh = K h' ∧ rS h h' ∧ rkS (ct h) (h 92) n (h' 72 0) (h' 73) := by
  obtain ⟨w1, w2, w3, w4⟩ := g.2.2.2.1.2.2.1
  have hC : 0 ≤ h 83 6 ∧ h 83 6 ≤ 6 := g.1.2.2.1
  obtain ⟨C, hCe⟩ : ∃ C : Nat, h 83 6 = (C : Int) := ⟨(h 83 6).toNat, by omega⟩
  have hDC : (ct h 83 6).toNat = C := by rw [ct_83_6, hCe, Int.toNat_natCast]
  have hC6 : C ≤ 6 := by omega
  rw [hCe, Int.toNat_natCast]
  intro d
  induction d with
  | zero =>
    intro i f v3 hh hi hf hS hv
    obtain ⟨f, rfl⟩ : ∃ f', f = f' + 1 := ⟨f - 1, by omega⟩
    rcases hv with ⟨v1, v2⟩ | ⟨v1, v2, v3', v4⟩
    · exact ⟨hh, by rw [f_Shuffle_find_L43, if_pos (by omega)], hS, v2⟩
    · exfalso
      have h1 := LL_lt (hh 74) C C (Nat.le_refl _)
      have h2 := fc_6 C hC6
      omega
  | succ d ih =>
    intro i f v3 hh hi hf hS hv
    obtain ⟨f, rfl⟩ : ∃ f', f = f' + 1 := ⟨f - 1, by omega⟩
    rcases hv with ⟨v1, v2⟩ | ⟨v1, v2, v4, v5⟩
    · exact ⟨hh, by rw [f_Shuffle_find_L43, if_neg (by omega), if_pos v1], hS, v2⟩
    · have g3 := g.2.2.1.1
      have hr : CR (ct h) hh c := CR_c (fun x _ _ => hS x (by omega) (by omega)) g.2.2.1.2.2.2.1
      have hT27 : TR (ct h) hh c 27 (h 92) := TR_c (fun x _ _ => hS x (by omega) (by omega)) g.2.2.2.1.1
      obtain ⟨h8, z1, z2, z3, z4⟩ := k_copy g.1 (p := 27) (t := 37) (Or.inl rfl) (Or.inr (Or.inl rfl)) (by decide) hr hT27
      have hT := TR_rk g.1 z2
      have e74 : h8 74 = hh 74 := z4 74 (by omega)
      rw [e74] at hT
      have h19 := isP_19 w1 (p := hh 74) (by rw [hDC]; exact v2)
      obtain ⟨p1, p2, p3, p4, p5⟩ := rk_ok g.1 w1 w2 w3 h19
      have hr10 : CR (ct h) (gcp h8 74 0 42 0 6) c := CR_c (fun x _ _ => by rw [gcp_r (by omega), z4 x (by omega)]) hr
      obtain ⟨h11, y1, y2, y3⟩ := k_pass g.1 g.2.1 (by decide) p1 p2 hr10 hT (n := n) (by omega) (by rw [p4]; omega)
      have x11 : ∀ x, x < 37 ∨ 47 ≤ x → h11 x = hh x := fun x hx => by rw [y3.1 x (by omega), gcp_r (by omega), z4 x (by omega)]
      have hr11 : CR (ct h) h11 c := CR_c (fun x _ _ => x11 x (by omega)) hr
      have hn11 := (pW_it g.1 g.2.1 (-1) p1 p2 n (by rw [p4]; omega)).1
      have kt := k_together g.1 hn11 hr11 y2 (-1)
      have hV : aSum (ct h) (aIt (ct h) (-1) n (rkN (ct h 83 6).toNat (h 92) (hh 74))) (-1) = rkV (ct h) (h 92) n (hh 74) := rfl
      rw [hV] at kt
      obtain ⟨b1, b2⟩ := rkV_in g.1 g.2.1 ⟨w1, w2, w3, w4⟩ h19 hn
      have fin : ∀ H : gH, rS h H → H 74 = hh 74 → snE (ct h) (h 92) n (H 72 0) (H 73) (hh 74) → ∃ h', f_Shuffle_find_J132 (f_Shuffle_find_L43 (n : Int) (C : Int) K f) (n : Int) (C : Int) (i : Int) H = K h' ∧ rS h h' ∧ rkS (ct h) (h 92) n (h' 72 0) (h' 73) := by
        intro H hSH h74 hE
        obtain ⟨p', r, q1, q2⟩ := k_goOn (B := H) hC6 (H 74)
        rw [grr_self] at q1
        unfold f_Shuffle_find_J132
        rw [q1, gb_s, ga_s (by omega)]
        refine ih (i + 1) f r (grr H 74 p') (by omega) (by omega) (fun x h1 h2 => by rw [grr_ne (by omega)]; exact hSH x h1 h2) ?_
        rw [grr_ne (show 72 ≠ 74 by decide), grr_ne (show 73 ≠ 74 by decide), grr_at]
        rcases q2 with ⟨r0, e, hs⟩ | ⟨r1, ⟨l, hi, hx⟩, hc1, hc2⟩
        · rw [h74] at hs
          exact Or.inl ⟨r0, sn_last (by rw [hDC]; exact v2) hE (by rw [hDC]; exact hs)⟩
        · rw [h74] at hx hc1 hc2
          have hp' : isP C (fun k => h 92 (20 + k)) p' := fun v => (hc1 v).trans (v2 v)
          refine Or.inr ⟨r1, hp', sn_next (p := hh 74) (lo := l) (hi := hi) (by rw [hDC]; exact v2) (by rw [hDC]; exact hp') hE (by rw [hDC]; exact hx), ?_⟩
          have := LL_step (p := hh 74) (q := p') (C := C) (l := l) (by have := hx.1; have := hx.2.1; omega) hx.2.2.2.2.2.1 (by rw [hx.2.2.2.2.2.2.1]; exact hx.2.2.1) hc2
          omega
      rw [f_Shuffle_find_L43, if_neg (by omega), if_neg (by omega), z1, gb_s, gd_t (by decide +kernel), gs_s, y1, gb_s, kt, gb_s]
      have e72 : h11 72 = hh 72 := x11 72 (by omega)
      have e73 : h11 73 = hh 73 := x11 73 (by omega)
      rw [e72]
      by_cases cl : hh 72 0 ≤ rkV (ct h) (h 92) n (hh 74)
      · rw [if_pos cl]
        refine fin h11 (fun x h1 h2 => by rw [x11 x h1]; exact hS x h1 h2) (x11 74 (by omega)) ?_
        rw [e72, e73]
        exact sn_keep b2 v4 cl
      · rw [if_neg cl, gs_s, gd_t (by decide +kernel), gs_s]
        refine fin _ (fun x h1 h2 => by rw [gcp_r (by omega), gu_r (by omega), x11 x h1]; exact hS x h1 h2) (by rw [gcp_r (by decide), gu_r (by decide)]; exact x11 74 (by omega)) ?_
        rw [gcp_r (show 72 ≠ 73 by decide), gu_at]
        refine sn_new (by rw [hDC]; exact v2) v4 (by omega) (fun k hk => ?_)
        rw [gcp_in (by omega), gu_r (by decide), x11 74 (by omega)]
theorem k_find {h : gH} {c : Nat} (g : GK h c) {n : Nat} (hn : 1 ≤ n ∧ n ≤ 300) : ∃ H, f_Shuffle_find (n : Int) h = some (H, 0) ∧ rS h H ∧ H 72 5 = (n : Int) ∧ rkS (ct h) (h 92) n (H 72 0) (H 73) := by
  have hC : 0 ≤ h 83 6 ∧ h 83 6 ≤ 6 := g.1.2.2.1
  obtain ⟨C, hCe⟩ : ∃ C : Nat, h 83 6 = (C : Int) := ⟨(h 83 6).toNat, by omega⟩
  have hDC : (ct h 83 6).toNat = C := by rw [ct_83_6, hCe, Int.toNat_natCast]
  have g3 := g.2.2.1.1
  have r27 : h 27 0 = (c : Int) := g.2.2.2.1.1.1
  have rc3 : h c 3 = h 83 6 := g.2.2.1.2.2.2.1.2.2.2.2.1
  have hTC := g.2.2.2.1.1.2.2.2
  by_cases cf : h 72 5 = (n : Int)
  · refine ⟨h, by unfold f_Shuffle_find; rw [if_pos cf], fun _ _ _ => rfl, cf, ?_⟩
    rcases g.2.2.2.2.2.2.2.2.2 with z | ⟨n', z1, z2, z3⟩
    · omega
    · have : n' = n := by omega
      subst this
      exact z3
  · obtain ⟨p, q1, q2, q3⟩ := k_sortO (B := h) (C := C) (by omega) C 0 50000 (h 74) (by omega) (by omega) (fun i j h1 h2 => by omega) (fun v => rfl)
    rw [grr_self] at q1
    have q1' : f_Shuffle_sortRanks 32 (C : Int) h = some (grr h 74 p, 0) := q1
    have hp : isP C (fun k => h 92 (20 + k)) p := fun v => (q3 v).trans (cnt_congr _ (fun k hk => (hTC k (by rw [ct_83_6]; omega)).1))
    obtain ⟨h', y1, y2, y3⟩ := k_fiL g hn.2 (fun h20 => f_Shuffle_find_J144 (n : Int) h20) 720 0 50000 1 (gup (grr h 74 p) 72 0 1000000000) (by omega) (by omega) (fun x h1 h2 => by rw [gu_r (by omega), grr_ne (by omega)]) (Or.inr ⟨rfl, by
      rw [gu_r (by decide), grr_at, hCe, Int.toNat_natCast]; exact hp, by
      rw [gu_at, gu_r (show 74 ≠ 72 by decide), grr_at]
      exact sn_first (by rw [hDC]; exact hp) (by rw [hDC]; exact q2), Nat.zero_le _⟩)
    refine ⟨gup h' 72 5 (n : Int), ?_, fun x h1 h2 => by rw [gu_r (by omega)]; exact y2 x h1 h2, gu_at, by rw [gu_o (by decide), gu_r (by decide)]; exact y3⟩
    unfold f_Shuffle_find
    rw [if_neg cf, r27, Int.toNat_natCast, gdcl (gsh_c g3), rc3, hCe, q1', gb_s, gs_s, ← hCe]
    refine (show _ = _ from y1).trans ?_
    show f_Shuffle_find_J144 (n : Int) h' = _
    unfold f_Shuffle_find_J144
    rw [gs_s]
