/- PURE: what a cart costs the others -/
def aQ (q : Nat) (M : Nat → Int) : Nat → Int := nu M (26 + q) 4
theorem aQ_ne {q : Nat} {M : Nat → Int} {j : Nat} (h : j ≠ 26 + q) : aQ q M j = M j := nu_ne h
theorem aQ_at {q : Nat} {M : Nat → Int} : aQ q M (26 + q) = 4 := nu_at _ _ _
theorem aQ_nu {q j : Nat} {M : Nat → Int} {v : Int} (h : j ≠ 26 + q) : nu (aQ q M) j v = aQ q (nu M j v) := nu_comm (fun e => h e.symm)
theorem w_Q {D : gH} {M : Nat → Int} {q : Nat} (hq : q < 6) (h0 : M (26 + q) = 0) (s : Nat) (e : Int) {k : Nat} (hk : k < 6) : aW D (aQ q M) s e k = aW D M s e k := by
  by_cases c : k = q
  · subst c
    rw [aW_no (N := aQ k M) (by rw [aQ_at]; decide), aW_no (N := M) (by rw [h0]; decide)]
  · unfold aW aNk
    rw [aQ_ne (by omega), aQ_ne (by omega)]
theorem fore_Q {D : gH} (hc : cW D) {M : Nat → Int} {q : Nat} (hq : q < 6) (h0 : M (26 + q) = 0) (s : Nat) (e : Int) : aFore D (aQ q M) s e = aFore D M s e := by
  have hC := hc.2.2.1
  have key : ∀ j : Nat, j ≤ (D 83 6).toNat → gfold (aForeF D (aQ q M) s e) j (-1) = gfold (aForeF D M s e) j (-1) := by
    intro j
    induction j with
    | zero => intro _; rfl
    | succ j ih =>
      intro hj
      rw [gfold_succ, gfold_succ, ih (by omega)]
      have hb := aFore_in D M s e j
      generalize gfold (aForeF D M s e) j (-1) = x at hb ⊢
      unfold aForeF aAh
      rw [w_Q hq h0 s e (by omega)]
      simp (disch := omega) only [aQ_ne]
  exact key _ (Nat.le_refl _)
theorem long_Q {D : gH} (hc : cW D) {M : Nat → Int} {q : Nat} (hq : q < 6) (h0 : M (26 + q) = 0) (s : Nat) (e : Int) : aLong D (aQ q M) s e = aLong D M s e := by
  have hC := hc.2.2.1
  unfold aLong
  refine gfold_congr _ (fun j x hj => ?_)
  unfold aLongF
  rw [w_Q hq h0 s e (by omega)]
  simp (disch := omega) only [aQ_ne]
theorem cnt_Q {D : gH} (hc : cW D) {M : Nat → Int} {q : Nat} (hq : q < 6) (h0 : M (26 + q) = 0) (s : Nat) (e : Int) : aCnt D (aQ q M) s e = aCnt D M s e := by
  have hC := hc.2.2.1
  unfold aCnt
  refine gfold_congr _ (fun j x hj => ?_)
  unfold aCntF
  rw [w_Q hq h0 s e (by omega)]
theorem on_Q {D : gH} (hc : cW D) {M : Nat → Int} {q : Nat} (hq : q < 6) (h0 : M (26 + q) = 0) (s : Nat) : aOn D (aQ q M) s = aOn D M s := by
  have hC := hc.2.2.1
  unfold aOn aMsk
  refine gfold_congr _ (fun j x hj => ?_)
  unfold aMskF
  have e : aOnB (aQ q M) s j = aOnB M s j := by
    by_cases c : j = q
    · subst c
      rw [aOnB_no (N := aQ j M) (by rw [aQ_at]; decide), aOnB_no (N := M) (by rw [h0]; decide)]
    · unfold aOnB
      rw [aQ_ne (by omega), aQ_ne (by omega)]
  rw [e]
theorem goes_Q {D : gH} (hc : cW D) {M : Nat → Int} {q : Nat} (hq : q < 6) (h0 : M (26 + q) = 0) {s : Nat} (hs : s < 9) : aGoes D (aQ q M) s = aGoes D M s := by
  have hC := hc.2.2.1
  have f0 := aFore_lt hc M s 0
  have f1 := aFore_lt hc M s 1
  unfold aGoes aRk
  rw [fore_Q hc hq h0, fore_Q hc hq h0, long_Q hc hq h0, long_Q hc hq h0, cnt_Q hc hq h0, cnt_Q hc hq h0]
  simp (disch := omega) only [aQ_ne]
theorem ent_Q {D : gH} (hc : cW D) {M : Nat → Int} {q : Nat} (hq : q < 6) (h0 : M (26 + q) = 0) {s : Nat} (hs : s < 9) : aEnt D s (aQ q M) = aQ q (aEnt D s M) ∧ aEnt D s M (26 + q) = 0 := by
  have hC := hc.2.2.1
  have e1 : aTrn D (aQ q M) s = aQ q (aTrn D M s) := by
    unfold aTrn
    rw [on_Q hc hq h0, goes_Q hc hq h0 hs, aQ_ne (show 11 + s ≠ 26 + q by omega), aQ_nu (by omega)]
  have h1 : aTrn D M s (26 + q) = 0 := by unfold aTrn; rw [nu_ne (by omega)]; exact h0
  unfold aEnt
  rw [e1]
  generalize aTrn D M s = X at h1 ⊢
  unfold aLet
  rw [fore_Q hc hq h1, aQ_ne (show 11 + s ≠ 26 + q by omega), aQ_ne (show 0 ≠ 26 + q by omega)]
  by_cases c : aFore D X s (X (11 + s)) < 0
  · rw [if_pos c, if_pos c]; exact ⟨rfl, h1⟩
  · obtain ⟨p, p1, p2, p3⟩ := aFore_w hc c
    have hp : p ≠ q := by
      intro e
      rw [aW_iff] at p3
      rw [e, h1] at p3
      exact absurd p3.1 (by decide)
    rw [if_neg c, if_neg c, p1, Int.toNat_natCast, aQ_nu (by omega), aQ_nu (by omega), aQ_nu (by omega)]
    exact ⟨rfl, by rw [nu_ne (by omega), nu_ne (by omega), nu_ne (by omega)]; exact h1⟩
theorem tir_Q {D : gH} {M : Nat → Int} {q : Nat} (hq : q < 6) (h0 : M (26 + q) = 0) {k : Nat} (hk : k < 6) : aTir D k (aQ q M) = aQ q (aTir D k M) ∧ aTir D k M (26 + q) = 0 := by
  by_cases c : k = q
  · subst c
    have e1 : aTir D k (aQ k M) = aQ k M := by unfold aTir; rw [aQ_at, if_neg (by decide)]
    have e2 : aTir D k M = M := by unfold aTir; rw [h0, if_neg (by decide)]
    rw [e1, e2]; exact ⟨rfl, h0⟩
  · unfold aTir
    rw [aQ_ne (show 26 + k ≠ 26 + q by omega), aQ_ne (show 44 + k ≠ 26 + q by omega), aQ_ne (show 1 ≠ 26 + q by omega), aQ_ne (show 0 ≠ 26 + q by omega)]
    by_cases c1 : M (26 + k) = 1
    · rw [if_pos c1, if_pos c1]
      by_cases c2 : M (44 + k) + 1 ≤ D 90 k
      · rw [if_pos c2, if_pos c2, aQ_nu (by omega), aQ_nu (by omega)]
        exact ⟨rfl, by rw [nu_ne (by omega), nu_ne (by omega)]; exact h0⟩
      · rw [if_neg c2, if_neg c2, aQ_nu (by omega), aQ_nu (by omega), aQ_nu (by omega), aQ_nu (by omega)]
        exact ⟨rfl, by rw [nu_ne (by omega), nu_ne (by omega), nu_ne (by omega), nu_ne (by omega)]; exact h0⟩
    · rw [if_neg c1, if_neg c1]; exact ⟨rfl, h0⟩
theorem arr_Q {D : gH} (hc : cW D) {M : Nat → Int} (hn : nW D 0 M) {q : Nat} (hq : q < 6) (h0 : M (26 + q) = 0) {k : Nat} (hk : (k : Int) < D 83 6) : aArr D k (aQ q M) = aQ q (aArr D k M) ∧ aArr D k M (26 + q) = 0 := by
  have hC := hc.2.2.1
  have hS := hc.2.1
  by_cases c : k = q
  · subst c
    have e1 : aArr D k (aQ k M) = aQ k M := aArr_no (by rw [aQ_at]; intro z; exact absurd z.1 (by decide))
    have e2 : aArr D k M = M := aArr_no (by rw [h0]; intro z; exact absurd z.1 (by decide))
    rw [e1, e2]; exact ⟨rfl, h0⟩
  · by_cases c1 : M (26 + k) = 2 ∧ M 0 - M (38 + k) = D 86 (M (32 + k)).toNat
    · have hp := ((hn.2.2.2 k hk).2.2.2.2.2.2 c1.1).1
      have ee : aEnd D (aQ q M) (M (32 + k)).toNat = aEnd D M (M (32 + k)).toNat := by
        unfold aEnd
        rw [aQ_ne (by omega)]
      unfold aArr
      rw [aQ_ne (show 26 + k ≠ 26 + q by omega), aQ_ne (show 0 ≠ 26 + q by omega), aQ_ne (show 38 + k ≠ 26 + q by omega), aQ_ne (show 32 + k ≠ 26 + q by omega), ee, if_pos c1, if_pos c1, aQ_nu (by omega), aQ_nu (by omega), aQ_nu (by omega)]
      exact ⟨rfl, by rw [nu_ne (by omega), nu_ne (by omega), nu_ne (by omega)]; exact h0⟩
    · have e1 : aArr D k (aQ q M) = aQ q M := aArr_no (by rw [aQ_ne (show 26 + k ≠ 26 + q by omega), aQ_ne (show 0 ≠ 26 + q by omega), aQ_ne (show 38 + k ≠ 26 + q by omega), aQ_ne (show 32 + k ≠ 26 + q by omega)]; exact c1)
      rw [e1, aArr_no c1]; exact ⟨rfl, h0⟩
theorem sta_Q {D : gH} {M : Nat → Int} {q : Nat} (hq : q < 6) (h0 : M (26 + q) = 0) {k : Nat} (hk : k < 6) : aSta D (-1) k (aQ q M) = aQ q (aSta D (q : Int) k M) ∧ aSta D (q : Int) k M (26 + q) = 0 := by
  by_cases c : k = q
  · subst c
    have e1 : aSta D (-1) k (aQ k M) = aQ k M := by unfold aSta; rw [aQ_at, if_neg (by intro z; exact absurd z.1 (by decide))]
    have e2 : aSta D (k : Int) k M = M := by unfold aSta; rw [if_neg (by intro z; exact z.2.2 rfl)]
    rw [e1, e2]; exact ⟨rfl, h0⟩
  · unfold aSta
    rw [aQ_ne (show 26 + k ≠ 26 + q by omega), aQ_ne (show 0 ≠ 26 + q by omega)]
    by_cases c1 : M (26 + k) = 0 ∧ D 89 k = M 0
    · rw [if_pos (show M (26 + k) = 0 ∧ D 89 k = M 0 ∧ ¬ (k : Int) = -1 from ⟨c1.1, c1.2, by omega⟩), if_pos (show M (26 + k) = 0 ∧ D 89 k = M 0 ∧ ¬ (k : Int) = (q : Int) from ⟨c1.1, c1.2, by omega⟩), aQ_nu (by omega), aQ_nu (by omega)]
      exact ⟨rfl, by rw [nu_ne (by omega), nu_ne (by omega)]; exact h0⟩
    · rw [if_neg (by intro z; exact c1 ⟨z.1, z.2.1⟩), if_neg (by intro z; exact c1 ⟨z.1, z.2.1⟩)]; exact ⟨rfl, h0⟩
theorem pass_Q {D : gH} (hc : cW D) {M : Nat → Int} (hn : nW D 0 M) {q : Nat} (hq : (q : Int) < D 83 6) (h0 : M (26 + q) = 0) : aPass D (-1) (aQ q M) = aQ q (aPass D (q : Int) M) ∧ aPass D (q : Int) M (26 + q) = 0 := by
  have hC := hc.2.2.1
  have hS := hc.2.1
  have p1 : nW D 0 (aPh1 D M) ∧ aPh1 D (aQ q M) = aQ q (aPh1 D M) ∧ aPh1 D M (26 + q) = 0 := by
    unfold aPh1
    refine gfold_inv (aArr D) (fun j x => nW D 0 x ∧ gfold (aArr D) j (aQ q M) = aQ q x ∧ x (26 + q) = 0) M ⟨hn, rfl, h0⟩ (D 83 6).toNat (fun j x hj hx => ?_) _ (Nat.le_refl _)
    obtain ⟨x1, x2, x3⟩ := hx
    have := arr_Q hc x1 (q := q) (by omega) x3 (k := j) (by omega)
    exact ⟨nW_arr hc x1 (by omega), by rw [gfold_succ, x2]; exact this.1, this.2⟩
  have p2 : aPh2 D (-1) (aQ q M) = aQ q (aPh2 D (q : Int) M) ∧ aPh2 D (q : Int) M (26 + q) = 0 := by
    unfold aPh2
    rw [p1.2.1]
    refine gfold_inv (aSta D (q : Int)) (fun j x => gfold (aSta D (-1)) j (aQ q (aPh1 D M)) = aQ q x ∧ x (26 + q) = 0) (aPh1 D M) ⟨rfl, p1.2.2⟩ (D 83 6).toNat (fun j x hj hx => ?_) _ (Nat.le_refl _)
    have := sta_Q (D := D) (q := q) (by omega) hx.2 (k := j) (by omega)
    exact ⟨by rw [gfold_succ, hx.1]; exact this.1, this.2⟩
  have p3 : aPh3 D (-1) (aQ q M) = aQ q (aPh3 D (q : Int) M) ∧ aPh3 D (q : Int) M (26 + q) = 0 := by
    unfold aPh3
    rw [p2.1]
    refine gfold_inv (aEnt D) (fun j x => gfold (aEnt D) j (aQ q (aPh2 D (q : Int) M)) = aQ q x ∧ x (26 + q) = 0) (aPh2 D (q : Int) M) ⟨rfl, p2.2⟩ (D 83 2).toNat (fun j x hj hx => ?_) _ (Nat.le_refl _)
    have := ent_Q hc (q := q) (by omega) hx.2 (s := j) (by omega)
    exact ⟨by rw [gfold_succ, hx.1]; exact this.1, this.2⟩
  have p4 : aPh4 D (-1) (aQ q M) = aQ q (aPh4 D (q : Int) M) ∧ aPh4 D (q : Int) M (26 + q) = 0 := by
    unfold aPh4
    rw [p3.1]
    refine gfold_inv (aTir D) (fun j x => gfold (aTir D) j (aQ q (aPh3 D (q : Int) M)) = aQ q x ∧ x (26 + q) = 0) (aPh3 D (q : Int) M) ⟨rfl, p3.2⟩ (D 83 6).toNat (fun j x hj hx => ?_) _ (Nat.le_refl _)
    have := tir_Q (D := D) (q := q) (by omega) hx.2 (k := j) (by omega)
    exact ⟨by rw [gfold_succ, hx.1]; exact this.1, this.2⟩
  unfold aPass
  rw [p4.1, aQ_ne (show 0 ≠ 26 + q by omega), aQ_nu (by omega)]
  exact ⟨rfl, by rw [nu_ne (by omega)]; exact p4.2⟩
theorem it_Q {D : gH} (hc : cW D) (hd : dW D) {M : Nat → Int} (hn : nW D 0 M) (ht : tW D M) {q : Nat} (hq : (q : Int) < D 83 6) (h0 : M (26 + q) = 0) : ∀ n : Nat, M 0 + (n : Int) ≤ 100000 → aIt D (-1) n (aQ q M) = aQ q (aIt D (q : Int) n M) ∧ aIt D (q : Int) n M (26 + q) = 0 := by
  intro n
  induction n with
  | zero => intro _; exact ⟨rfl, h0⟩
  | succ n ih =>
    intro h1
    obtain ⟨i1, i2⟩ := ih (by omega)
    rw [aIt_succ, aIt_succ, i1]
    exact pass_Q hc (pW_it hc hd (q : Int) hn ht n (by omega)).1 hq i2
theorem sum_Q {D : gH} {q : Nat} (hq : q < 6) (X : Nat → Int) : aSum D (aQ q X) (q : Int) = aSum D X (q : Int) := by
  unfold aSum
  refine gfold_congr _ (fun j x hj => ?_)
  unfold aSumF
  by_cases c : (j : Int) = (q : Int)
  · rw [if_pos c, if_pos c]
  · rw [if_neg c, if_neg c, aQ_ne (show 26 + j ≠ 26 + q by omega), aQ_ne (show 38 + j ≠ 26 + q by omega), aQ_ne (show 0 ≠ 26 + q by omega)]
theorem nW_Q {D : gH} (hc : cW D) {M : Nat → Int} {w : Int} (hn : nW D w M) {q : Nat} (hq : (q : Int) < D 83 6) : nW D w (aQ q M) := by
  have hC := hc.2.2.1
  obtain ⟨k1, k2, k3, k4, k5, k6, k7⟩ := hn.2.2.2 q hq
  refine nW_cart hc hq hn (fun j h1 h2 h3 h4 h5 => aQ_ne h1) (by rw [aQ_ne (by omega)]; exact hn.2.1) ?_
  unfold kW
  rw [aQ_at, aQ_ne (show 20 + q ≠ 26 + q by omega), aQ_ne (show 38 + q ≠ 26 + q by omega), aQ_ne (show 44 + q ≠ 26 + q by omega), aQ_ne (show 0 ≠ 26 + q by omega), aQ_ne (show 32 + q ≠ 26 + q by omega)]
  exact ⟨k1, by decide, k3, k4, fun z => absurd z (by decide), fun z => absurd z (by decide), fun z => absurd z (by decide)⟩
theorem tW_Q {D : gH} (hc : cW D) {M : Nat → Int} (ht : tW D M) {q : Nat} (hq : (q : Int) < D 83 6) : tW D (aQ q M) := by
  have hC := hc.2.2.1
  unfold tW at ht ⊢
  rw [aQ_ne (by omega), aTol_congr (N := M) (fun k hk => aQ_ne (by omega))]
  exact ht
theorem bk_up (H : gH) (y : Nat) (v : Int) : gup (bk H) 83 y v = bk (gup H 83 y v) := by
  funext x z
  unfold bk grw gup
  by_cases hx : x = 104
  · subst hx
    simp
  · simp [hx]
theorem up_back {H : gH} {y : Nat} (v : Int) : gup (gup H 83 y v) 83 y (H 83 y) = H := by
  funext x z
  unfold gup
  by_cases hx : x = 83 ∧ z = y
  · rw [if_pos hx, hx.1, hx.2]
  · rw [if_neg hx, if_neg hx]
theorem op_costs {h : gH} (g : GI h) (a b : Int) : gok (f_DS_costs a b) (f_Mo_costs a b) h := by
  obtain ⟨c, g⟩ := g
  have hgi : GI h := ⟨c, g⟩
  have hC : 0 ≤ h 83 6 ∧ h 83 6 ≤ 6 := g.1.2.2.1
  have ka := k_noCart g a
  have ma := m_isCart hC a
  by_cases ca : 0 ≤ a ∧ a < h 83 6
  · by_cases cb : 1 ≤ b ∧ b ≤ 300
    · obtain ⟨k, rfl⟩ : ∃ k : Nat, a = (k : Int) := ⟨a.toNat, by omega⟩
      obtain ⟨n, rfl⟩ : ∃ n : Nat, b = (n : Int) := ⟨b.toNat, by omega⟩
      have hkD : (k : Int) < ct h 83 6 := by rw [ct_83_6]; omega
      have e33 : h 33 k = h 92 (26 + k) := (g.2.2.2.1.1.2.2.2 k hkD).2.1
      by_cases c0 : h 92 (26 + k) = 0
      · obtain ⟨w1, w2, w3, w4⟩ := g.2.2.2.1.2.2.1
        have g8 := g.2.2.2.2.1
        obtain ⟨hA, z1, z2, z3⟩ := k_copy37 g (tS_id h)
        obtain ⟨hB, y1, y2, y3, y4, y5⟩ := k_pass37 g z3 z2 w1 w2 (n := n) (by omega) (by omega)
        obtain ⟨hE, x1, x2, x3⟩ := k_copy37 g y3
        have hT := TR_inn g.1 x2 hkD (by rw [c0]; decide) (by rw [c0]; decide)
        have q1 := nW_Q g.1 w1 hkD
        have q2 := tW_Q g.1 w2 hkD
        have q0 : aQ k (h 92) 0 = h 92 0 := aQ_ne (by omega)
        obtain ⟨H, u1, u2, u3, u4, u5⟩ := k_pass37 g (tS_u (a := 43) (k := k) (v := 4) x3 (by omega)) hT q1 q2 (n := n) (by omega) (by rw [show nu (h 92) (26 + k) 4 0 = h 92 0 from q0]; omega)
        have hq := (it_Q g.1 g.2.1 w1 w2 hkD c0 n (by omega)).1
        have hq2 : aIt (ct h) (-1) n (nu (h 92) (26 + k) 4) = aQ k (aIt (ct h) (k : Int) n (h 92)) := hq
        have e0 := m_goT g u3 w1 w2 (n := n) (by omega) (by omega)
        rw [← bk_selfT u3] at e0
        have hoff : ∀ y, 50 ≤ y → aIt (ct h) (-1) n (h 92) y = h 92 y := off_it g.1 (-1) w1.1.1 w3 (fun _ _ => rfl) n
        have hoff2 : ∀ y, 50 ≤ y → aIt (ct h) (k : Int) n (h 92) y = h 92 y := off_it g.1 (k : Int) w1.1.1 w3 (fun _ _ => rfl) n
        have r1 : gup H 83 32 (k : Int) 92 = h 92 := by rw [gu_r (by decide), u3 92 (by omega)]
        have r2 : ct (gup H 83 32 (k : Int)) = ct h := by
          rw [← tS_ct u3]
          exact ct_eq (fun x _ _ => gu_r (by omega)) (gu_o (by decide)) (gu_o (by decide)) (gu_o (by decide)) (gu_o (by decide))
        have hnk := (pW_it g.1 g.2.1 (k : Int) w1 w2 n (by omega)).1
        have e1 : f_Mo_go (n : Int) (bk (gup H 83 32 (k : Int))) = some (gnow (bk (gup H 83 32 (k : Int))) (aIt (ct h) (k : Int) n (h 92)), 0) := by
          have := m_goB (H := gup H 83 32 (k : Int)) (M := gup H 83 32 (k : Int) 92) (by rw [r2]; exact g.1) (by rw [r2]; exact g.2.1) (by rw [r2, r1]; exact w1) (by rw [r2, r1]; exact w2) (n := n) (by omega) (by rw [r1]; omega)
          rw [bk_self, r2, gu_at, r1] at this
          exact this
        have e2 : f_Mo_minutes (k : Int) (gnow (bk (gup H 83 32 (k : Int))) (aIt (ct h) (k : Int) n (h 92))) = some (gnow (bk (gup H 83 32 (k : Int))) (aIt (ct h) (k : Int) n (h 92)), aSum (ct h) (aIt (ct h) (k : Int) n (h 92)) (k : Int)) := by
          rw [m_minB (w := 0) (by rw [r2]; exact g.1) (by rw [r2]; exact hnk), r2]
        have e3 : f_Mo_putBack (gnow (bk (gup H 83 32 (k : Int))) (aIt (ct h) (k : Int) n (h 92))) = some (bk (gup H 83 32 (k : Int)), 0) := m_backB (by rw [r1]; exact hoff2)
        have e4 : gup (bk (gup H 83 32 (k : Int))) 83 32 (-1) = bk H := by
          have hm : H 83 32 = -1 := by rw [u3 83 (by omega)]; exact g8
          rw [bk_up, ← hm, up_back]
        refine ⟨H, gsub (aSum (ct h) (aIt (ct h) (-1) n (h 92)) (k : Int)) (aSum (ct h) (aIt (ct h) (k : Int) n (h 92)) (k : Int)), bk H, ?_, ?_, GI_try g u3⟩
        · unfold f_DS_costs
          rw [ka, gb_s, if_pos ca, if_pos rfl, k_out, gb_s, if_pos cb, if_pos rfl, gdix (by omega) (by omega), Int.toNat_natCast, e33, if_pos c0, z1, gb_s, y1, gb_s, k_together g.1 y5 y4 y2, gb_s, x1, gb_s, gdix (by omega) (by omega), gs_s, u1, gb_s, k_together g.1 u5 u4 u2, gb_s, hq2, sum_Q (by omega)]
        · have b26 : bk H 92 (26 + k) = 0 := by rw [bk_ne (by decide), u3 92 (by omega)]; exact c0
          have s92 : H 92 (26 + k) = 0 := by rw [u3 92 (by omega)]; exact c0
          unfold f_Mo_costs
          rw [m_isCart (by rw [u3 83 (by omega)]; exact hC), gb_s, u3 83 (by omega), if_pos ca, if_neg (by decide), m_in, gb_s, if_pos cb, if_neg (by decide), ga_26 (by omega), gdix (by omega) (by omega), Int.toNat_natCast, s92, if_pos rfl, m_saveB, gb_s, e0, gb_s, m_minT g u3 y5, gb_s, m_backT u3 hoff, gb_s, gs_s, bk_up, e1, gb_s, e2, gb_s, e3, gb_s, gs_s, e4]
      · refine gok_id (r := -1000000003) hgi ?_ ?_
        · unfold f_DS_costs
          rw [ka, gb_s, if_pos ca, if_pos rfl, k_out, gb_s, if_pos cb, if_pos rfl, gdix (by omega) (by omega), Int.toNat_natCast, e33, if_neg c0]
        · unfold f_Mo_costs
          rw [ma, gb_s, if_pos ca, if_neg (by decide), m_in, gb_s, if_pos cb, if_neg (by decide), ga_26 (by omega), gdix (by omega) (by omega), Int.toNat_natCast, if_neg c0]
    · exact gok_id (r := -1000000002) hgi (by unfold f_DS_costs; rw [ka, gb_s, if_pos ca, if_pos rfl, k_out, gb_s, if_neg cb, if_neg (by decide)]) (by unfold f_Mo_costs; rw [ma, gb_s, if_pos ca, if_neg (by decide), m_in, gb_s, if_neg cb, if_pos rfl])
  · exact gok_id (r := -1000000001) hgi (by unfold f_DS_costs; rw [ka, gb_s, if_neg ca, if_neg (by decide)]) (by unfold f_Mo_costs; rw [ma, gb_s, if_neg ca, if_pos rfl])
