/- PURE: minutes in which nothing happens, left out -/
theorem aFore_none {D : gH} {N : Nat → Int} {s : Nat} {e : Int} (h : ∀ k : Nat, (k : Int) < D 83 6 → N (26 + k) ≠ 1) : aFore D N s e = -1 := by
  unfold aFore
  exact gfold_inv (aForeF D N s e) (fun _ x => x = -1) (-1) rfl (D 83 6).toNat (fun j x hj hx => by
    unfold aForeF
    rw [aW_no (h j (by omega)), Bool.false_and, if_neg (by decide)]
    exact hx) _ (Nat.le_refl _)
theorem aLong_none {D : gH} {N : Nat → Int} {s : Nat} {e : Int} (h : ∀ k : Nat, (k : Int) < D 83 6 → N (26 + k) ≠ 1) : aLong D N s e = 1000000 := by
  unfold aLong
  exact gfold_inv (aLongF D N s e) (fun _ x => x = 1000000) 1000000 rfl (D 83 6).toNat (fun j x hj hx => by
    unfold aLongF
    rw [aW_no (h j (by omega)), Bool.false_and, if_neg (by decide)]
    exact hx) _ (Nat.le_refl _)
theorem aCnt_none {D : gH} {N : Nat → Int} {s : Nat} {e : Int} (h : ∀ k : Nat, (k : Int) < D 83 6 → N (26 + k) ≠ 1) : aCnt D N s e = 0 := by
  unfold aCnt
  exact gfold_inv (aCntF D N s e) (fun _ x => x = 0) 0 rfl (D 83 6).toNat (fun j x hj hx => by
    unfold aCntF
    rw [aW_no (h j (by omega)), if_neg (by decide)]
    exact hx) _ (Nat.le_refl _)
def lk (N : Nat → Int) (s : Nat) : Prop := N (2 + s) ≠ 0 ∧ N (2 + s) ≠ 2 ∧ N (2 + s) ≠ 3
theorem aGoes_calm {D : gH} {N : Nat → Int} {s : Nat} (h : ∀ k : Nat, (k : Int) < D 83 6 → N (26 + k) ≠ 1) (hl : ¬ lk N s) : aGoes D N s = N (11 + s) := by
  unfold aGoes
  rw [aFore_none h, aFore_none h, aLong_none h, aLong_none h, aCnt_none h, aCnt_none h]
  unfold lk at hl
  by_cases l0 : N (2 + s) = 0
  · rw [if_pos l0, if_pos ⟨rfl, rfl⟩]
  · rw [if_neg l0, if_neg (fun q => hl ⟨by omega, by omega, by omega⟩)]
    by_cases l2 : N (2 + s) = 2
    · rw [if_pos l2]; rfl
    · rw [if_neg l2]
      by_cases l3 : N (2 + s) = 3
      · rw [if_pos l3]; rfl
      · exact absurd ⟨l0, l2, l3⟩ hl
/- what a street's way does not touch -/
theorem w_nu11 {D : gH} (hc : cW D) {N : Nat → Int} {s0 : Nat} (h0 : s0 < 9) (v : Int) (s : Nat) (e : Int) {k : Nat} : aW D (nu N (11 + s0) v) s e k = aW D N s e k := by
  unfold aW aNk
  rw [nu_ne (by omega), nu_ne (by omega)]
theorem fore_nu11 {D : gH} (hc : cW D) {N : Nat → Int} {s0 : Nat} (h0 : s0 < 9) (v : Int) (s : Nat) (e : Int) : aFore D (nu N (11 + s0) v) s e = aFore D N s e := by
  unfold aFore
  refine gfold_congr _ (fun j x hj => ?_)
  unfold aForeF aAh
  rw [w_nu11 hc h0]
  simp (disch := omega) only [nu_ne]
theorem long_nu11 {D : gH} (hc : cW D) {N : Nat → Int} {s0 : Nat} (h0 : s0 < 9) (v : Int) (s : Nat) (e : Int) : aLong D (nu N (11 + s0) v) s e = aLong D N s e := by
  unfold aLong
  refine gfold_congr _ (fun j x hj => ?_)
  unfold aLongF
  rw [w_nu11 hc h0]
  simp (disch := omega) only [nu_ne]
theorem cnt_nu11 {D : gH} (hc : cW D) {N : Nat → Int} {s0 : Nat} (h0 : s0 < 9) (v : Int) (s : Nat) (e : Int) : aCnt D (nu N (11 + s0) v) s e = aCnt D N s e := by
  unfold aCnt
  refine gfold_congr _ (fun j x hj => ?_)
  unfold aCntF
  rw [w_nu11 hc h0]
theorem on_nu11 {D : gH} {N : Nat → Int} {s0 : Nat} (h0 : s0 < 9) (v : Int) (s : Nat) : aOn D (nu N (11 + s0) v) s = aOn D N s := by
  unfold aOn aMsk
  refine gfold_congr _ (fun j x hj => ?_)
  unfold aMskF aOnB
  rw [nu_ne (by omega), nu_ne (by omega)]
theorem goes_nu11 {D : gH} (hc : cW D) {N : Nat → Int} {s0 : Nat} (h0 : s0 < 9) (v : Int) {s : Nat} (hs9 : s < 9) (h : s = s0 → lk N s) : aGoes D (nu N (11 + s0) v) s = aGoes D N s := by
  unfold aGoes aRk
  rw [fore_nu11 hc h0, fore_nu11 hc h0, long_nu11 hc h0, long_nu11 hc h0, cnt_nu11 hc h0, cnt_nu11 hc h0, nu_ne (show 2 + s ≠ 11 + s0 by omega), nu_ne (show 0 ≠ 11 + s0 by omega), nu_ne (show 20 + _ ≠ 11 + s0 by omega), nu_ne (show 20 + _ ≠ 11 + s0 by omega)]
  by_cases e : s = s0
  · obtain ⟨l0, l2, l3⟩ := h e
    rw [if_neg l0, if_neg l0]
    by_cases l1 : N (2 + s) = 1
    · rw [if_pos l1, if_pos l1]
    · rw [if_neg l1, if_neg l1, if_neg l2, if_neg l2, if_neg l3, if_neg l3]
  · rw [nu_ne (show 11 + s ≠ 11 + s0 by omega)]
theorem arr_nu11 {D : gH} (hc : cW D) {N : Nat → Int} (hn : nW D 0 N) {s0 : Nat} (h0 : s0 < 9) (v : Int) (hon : aOn D N s0 = 0) {k : Nat} (hk : (k : Int) < D 83 6) : aArr D k (nu N (11 + s0) v) = nu (aArr D k N) (11 + s0) v ∧ aOn D (aArr D k N) s0 = 0 ∧ aArr D k N (2 + s0) = N (2 + s0) := by
  have hC : D 83 6 ≤ 6 := hc.2.2.1.2
  have hS : D 83 2 ≤ 9 := hc.2.1.2
  have hz := (aOn_zero hc).mp hon
  refine ⟨?_, (aOn_zero hc).mpr (fun i hi q => ?_), aArr_off (by omega) (by omega) (by omega)⟩
  · unfold aArr
    rw [nu_ne (show 26 + k ≠ 11 + s0 by omega), nu_ne (show 0 ≠ 11 + s0 by omega), nu_ne (show 38 + k ≠ 11 + s0 by omega), nu_ne (show 32 + k ≠ 11 + s0 by omega)]
    by_cases c1 : N (26 + k) = 2 ∧ N 0 - N (38 + k) = D 86 (N (32 + k)).toNat
    · have hp := ((hn.2.2.2 k hk).2.2.2.2.2.2 c1.1).1
      have hne : (N (32 + k)).toNat ≠ s0 := fun q => hz k hk ⟨c1.1, by omega⟩
      have ee : aEnd D (nu N (11 + s0) v) (N (32 + k)).toNat = aEnd D N (N (32 + k)).toNat := by
        unfold aEnd
        rw [nu_ne (by omega)]
      rw [if_pos c1, if_pos c1, ee, nu_comm (show 11 + s0 ≠ 32 + k by omega), nu_comm (show 11 + s0 ≠ 38 + k by omega), nu_comm (show 11 + s0 ≠ 26 + k by omega)]
    · rw [if_neg c1, if_neg c1]
  · by_cases e : i = k
    · subst e
      obtain ⟨q1, q2⟩ := q
      by_cases c1 : N (26 + i) = 2 ∧ N 0 - N (38 + i) = D 86 (N (32 + i)).toNat
      · have : aArr D i N (26 + i) ≠ 2 := by
          unfold aArr
          rw [if_pos c1, nu_at]
          split <;> omega
        exact this q1
      · rw [aArr_no c1] at q1 q2
        exact hz i hi ⟨q1, q2⟩
    · rw [aArr_off (by omega) (by omega) (by omega), aArr_off (by omega) (by omega) (by omega)] at q
      exact hz i hi q
theorem sta_nu11 {D : gH} (hc : cW D) {N : Nat → Int} {s0 : Nat} (h0 : s0 < 9) (v : Int) (hon : aOn D N s0 = 0) {k : Nat} (hk : (k : Int) < D 83 6) (ab : Int) : aSta D ab k (nu N (11 + s0) v) = nu (aSta D ab k N) (11 + s0) v ∧ aOn D (aSta D ab k N) s0 = 0 ∧ aSta D ab k N (2 + s0) = N (2 + s0) := by
  have hC : D 83 6 ≤ 6 := hc.2.2.1.2
  have hz := (aOn_zero hc).mp hon
  refine ⟨?_, (aOn_zero hc).mpr (fun i hi q => ?_), aSta_off (by omega) (by omega)⟩
  · unfold aSta
    rw [nu_ne (show 26 + k ≠ 11 + s0 by omega), nu_ne (show 0 ≠ 11 + s0 by omega)]
    by_cases c1 : N (26 + k) = 0 ∧ D 89 k = N 0 ∧ ¬ (k : Int) = ab
    · rw [if_pos c1, if_pos c1, nu_comm (show 11 + s0 ≠ 38 + k by omega), nu_comm (show 11 + s0 ≠ 26 + k by omega)]
    · rw [if_neg c1, if_neg c1]
  · by_cases e : i = k
    · subst e
      obtain ⟨q1, q2⟩ := q
      by_cases c1 : N (26 + i) = 0 ∧ D 89 i = N 0 ∧ ¬ (i : Int) = ab
      · have : aSta D ab i N (26 + i) ≠ 2 := by
          unfold aSta
          rw [if_pos c1, nu_at]
          split <;> omega
        exact this q1
      · have e : aSta D ab i N = N := by unfold aSta; rw [if_neg c1]
        rw [e] at q1 q2
        exact hz i hi ⟨q1, q2⟩
    · rw [aSta_off (by omega) (by omega), aSta_off (by omega) (by omega)] at q
      exact hz i hi q
theorem let_nu11 {D : gH} (hc : cW D) {N : Nat → Int} {s0 s : Nat} (h0 : s0 < 9) (v : Int) (hs : s ≠ s0) : aLet D (nu N (11 + s0) v) s = nu (aLet D N s) (11 + s0) v := by
  have hC : D 83 6 ≤ 6 := hc.2.2.1.2
  unfold aLet
  rw [nu_ne (show 11 + s ≠ 11 + s0 by omega), nu_ne (show 0 ≠ 11 + s0 by omega), fore_nu11 hc h0]
  have hf := aFore_lt hc N s (N (11 + s))
  generalize aFore D N s (N (11 + s)) = q at hf ⊢
  by_cases c1 : q < 0
  · rw [if_pos c1, if_pos c1]
  · rw [if_neg c1, if_neg c1, nu_comm (show 11 + s0 ≠ 26 + q.toNat by omega), nu_comm (show 11 + s0 ≠ 32 + q.toNat by omega), nu_comm (show 11 + s0 ≠ 38 + q.toNat by omega)]
theorem ent_nu11 {D : gH} (hc : cW D) {N : Nat → Int} {s0 s : Nat} (h0 : s0 < 9) (hs9 : s < 9) (v : Int) (hs : s ≠ s0) (hon : aOn D N s0 = 0) : aEnt D s (nu N (11 + s0) v) = nu (aEnt D s N) (11 + s0) v ∧ aOn D (aEnt D s N) s0 = 0 ∧ aEnt D s N (2 + s0) = N (2 + s0) := by
  have hC : D 83 6 ≤ 6 := hc.2.2.1.2
  have hz := (aOn_zero hc).mp hon
  have eT : aTrn D (nu N (11 + s0) v) s = nu (aTrn D N s) (11 + s0) v := by
    unfold aTrn
    rw [on_nu11 h0, goes_nu11 hc h0 v hs9 (fun q => absurd q hs), nu_ne (show 11 + s ≠ 11 + s0 by omega), nu_comm (show 11 + s0 ≠ 11 + s by omega)]
  have hT : ∀ j, j ≠ 11 + s → aTrn D N s j = N j := fun j hj => nu_ne hj
  refine ⟨?_, (aOn_zero hc).mpr (fun i hi q => ?_), ?_⟩
  · unfold aEnt
    rw [eT, let_nu11 hc h0 v hs]
  · unfold aEnt aLet at q
    have hf := aFore_lt hc (aTrn D N s) s (aTrn D N s (11 + s))
    generalize aFore D (aTrn D N s) s (aTrn D N s (11 + s)) = g at hf q
    by_cases c1 : g < 0
    · rw [if_pos c1, hT _ (by omega), hT _ (by omega)] at q
      exact hz i hi q
    · rw [if_neg c1] at q
      by_cases e : i = g.toNat
      · have q2 := q.2
        rw [nu_ne (by omega), e, nu_at] at q2
        omega
      · rw [nu_ne (by omega), nu_ne (by omega), nu_ne (by omega), nu_ne (by omega), nu_ne (by omega), nu_ne (by omega), hT _ (by omega), hT _ (by omega)] at q
        exact hz i hi q
  · unfold aEnt aLet
    have hf := aFore_lt hc (aTrn D N s) s (aTrn D N s (11 + s))
    generalize aFore D (aTrn D N s) s (aTrn D N s (11 + s)) = g at hf
    by_cases c1 : g < 0
    · rw [if_pos c1, hT _ (by omega)]
    · rw [if_neg c1, nu_ne (by omega), nu_ne (by omega), nu_ne (by omega), hT _ (by omega)]
theorem nu_nu {N : Nat → Int} {k : Nat} {x y : Int} : nu (nu N k x) k y = nu N k y := by
  funext j
  unfold nu
  by_cases e : j = k
  · rw [if_pos e, if_pos e]
  · rw [if_neg e, if_neg e, if_neg e]
theorem ent_self {D : gH} (hc : cW D) {N : Nat → Int} {s0 : Nat} (h0 : s0 < 9) (v : Int) (hon : aOn D N s0 = 0) (hl : lk N s0) : aEnt D s0 (nu N (11 + s0) v) = aEnt D s0 N := by
  have eT : aTrn D (nu N (11 + s0) v) s0 = aTrn D N s0 := by
    unfold aTrn
    rw [on_nu11 h0, goes_nu11 hc h0 v h0 (fun _ => hl), if_pos hon, if_pos hon, nu_nu]
  unfold aEnt
  rw [eT]
theorem pass_nu11 {D : gH} (hc : cW D) {N : Nat → Int} (hn : nW D 0 N) {s0 : Nat} (hs0 : (s0 : Int) < D 83 2) (v : Int) (hon : aOn D N s0 = 0) (hl : lk N s0) (ab : Int) : aPass D ab (nu N (11 + s0) v) = aPass D ab N := by
  have hC : 0 ≤ D 83 6 ∧ D 83 6 ≤ 6 := hc.2.2.1
  have hS : 0 ≤ D 83 2 ∧ D 83 2 ≤ 9 := hc.2.1
  have h0 : s0 < 9 := by omega
  have p1 := gfold_inv (aArr D) (fun j x => nW D 0 x ∧ aOn D x s0 = 0 ∧ x (2 + s0) = N (2 + s0) ∧ ∀ y, y = gfold (aArr D) j (nu N (11 + s0) v) → y = nu x (11 + s0) v) N ⟨hn, hon, rfl, fun y hy => hy⟩ (D 83 6).toNat (fun j x hj hx => by
    obtain ⟨i1, i2, i3, i4⟩ := hx
    obtain ⟨q1, q2, q3⟩ := arr_nu11 hc i1 h0 v i2 (show (j : Int) < D 83 6 by omega)
    refine ⟨nW_arr hc i1 (by omega), q2, by rw [q3, i3], fun y hy => ?_⟩
    rw [hy, gfold_succ, i4 _ rfl, q1]) (D 83 6).toNat (Nat.le_refl _)
  obtain ⟨a1, a2, a3, a4⟩ := p1
  have a4' := a4 _ rfl
  have p2 := gfold_inv (aSta D ab) (fun j x => aOn D x s0 = 0 ∧ x (2 + s0) = N (2 + s0) ∧ ∀ y, y = gfold (aSta D ab) j (nu (gfold (aArr D) (D 83 6).toNat N) (11 + s0) v) → y = nu x (11 + s0) v) (gfold (aArr D) (D 83 6).toNat N) ⟨a2, a3, fun y hy => hy⟩ (D 83 6).toNat (fun j x hj hx => by
    obtain ⟨i2, i3, i4⟩ := hx
    obtain ⟨q1, q2, q3⟩ := sta_nu11 hc h0 v i2 (show (j : Int) < D 83 6 by omega) ab
    refine ⟨q2, by rw [q3, i3], fun y hy => ?_⟩
    rw [hy, gfold_succ, i4 _ rfl, q1]) (D 83 6).toNat (Nat.le_refl _)
  obtain ⟨b2, b3, b4⟩ := p2
  have b4' := b4 _ rfl
  have e2 : aPh2 D ab (nu N (11 + s0) v) = nu (aPh2 D ab N) (11 + s0) v := by
    unfold aPh2 aPh1
    rw [a4', b4']
  have b2' : aOn D (aPh2 D ab N) s0 = 0 := b2
  have b3' : aPh2 D ab N (2 + s0) = N (2 + s0) := b3
  have e3 : aPh3 D ab (nu N (11 + s0) v) = aPh3 D ab N := by
    unfold aPh3
    rw [e2]
    generalize aPh2 D ab N = M at b2' b3'
    have p3 := gfold_inv (aEnt D) (fun j x => (j ≤ s0 → aOn D x s0 = 0 ∧ x (2 + s0) = N (2 + s0)) ∧ ∀ y, y = gfold (aEnt D) j (nu M (11 + s0) v) → y = if j ≤ s0 then nu x (11 + s0) v else x) M ⟨fun _ => ⟨b2', b3'⟩, fun y hy => by rw [if_pos (by omega)]; exact hy⟩ (D 83 2).toNat (fun j x hj hx => by
      obtain ⟨i1, i2⟩ := hx
      have i2' := i2 _ rfl
      refine ⟨fun hle => ?_, fun y hy => ?_⟩
      · obtain ⟨q1, q2, q3⟩ := ent_nu11 hc (N := x) h0 (show j < 9 by omega) v (show j ≠ s0 by omega) (i1 (by omega)).1
        exact ⟨q2, by rw [q3]; exact (i1 (by omega)).2⟩
      · rw [hy, gfold_succ, i2']
        by_cases c1 : j < s0
        · rw [if_pos (by omega), if_pos (by omega)]
          exact (ent_nu11 hc h0 (show j < 9 by omega) v (show j ≠ s0 by omega) (i1 (by omega)).1).1
        · by_cases c2 : j = s0
          · subst c2
            rw [if_pos (by omega), if_neg (by omega)]
            refine ent_self hc h0 v (i1 (by omega)).1 ?_
            unfold lk
            rw [(i1 (by omega)).2]
            exact hl
          · rw [if_neg (by omega), if_neg (by omega)]) (D 83 2).toNat (Nat.le_refl _)
    rw [p3.2 _ rfl, if_neg (by omega)]
  unfold aPass aPh4
  rw [e3]
/- an idle minute -/
def idl (D : gH) (N : Nat → Int) (m : Int) : Prop := ∀ k : Nat, (k : Int) < D 83 6 → N (26 + k) ≠ 1 ∧ (N (26 + k) = 0 → m < D 89 k) ∧ (N (26 + k) = 2 → m < N (38 + k) + D 86 (N (32 + k)).toNat)
theorem pass_idle {D : gH} (hc : cW D) {N : Nat → Int} (hn : nW D 0 N) (hi : idl D N (N 0)) (hnx : nW D 0 (nu N 0 (N 0 + 1))) : aPass D (-1) (aPass D (-1) N) = aPass D (-1) (nu N 0 (N 0 + 1)) := by
  have hC : 0 ≤ D 83 6 ∧ D 83 6 ≤ 6 := hc.2.2.1
  have hS : 0 ≤ D 83 2 ∧ D 83 2 ≤ 9 := hc.2.1
  have e1 : aPh1 D N = N := (gfold_inv (aArr D) (fun _ x => x = N) N rfl (D 83 6).toNat (fun j x hj hx => by
    rw [hx]
    exact aArr_no (fun q => by have := (hi j (by omega)).2.2 q.1; omega))) _ (Nat.le_refl _)
  have e2 : aPh2 D (-1) N = N := by
    unfold aPh2
    rw [e1]
    exact (gfold_inv (aSta D (-1)) (fun _ x => x = N) N rfl (D 83 6).toNat (fun j x hj hx => by
      rw [hx]
      exact aSta_no (fun q => by have := (hi j (by omega)).2.1 q.1; omega))) _ (Nat.le_refl _)
  have p3 := gfold_inv (aEnt D) (fun j x => (∀ i, i < 11 ∨ 20 ≤ i → x i = N i) ∧ nW D 0 (nu x 0 (N 0 + 1)) ∧ aPass D (-1) (nu x 0 (N 0 + 1)) = aPass D (-1) (nu N 0 (N 0 + 1))) N ⟨fun i hi => rfl, hnx, rfl⟩ (D 83 2).toNat (fun j x hj hx => by
    obtain ⟨i1, i2, i3⟩ := hx
    have hw : ∀ k : Nat, (k : Int) < D 83 6 → x (26 + k) ≠ 1 := fun k hk => by rw [i1 _ (by omega)]; exact (hi k hk).1
    have eE : aEnt D j x = aTrn D x j := by
      unfold aEnt aLet
      rw [aFore_none (fun k hk => by unfold aTrn; rw [nu_ne (by omega)]; exact hw k hk), if_pos (by omega)]
    rw [eE]
    unfold aTrn
    by_cases c1 : aOn D x j = 0
    · rw [if_pos c1]
      by_cases c2 : lk x j
      · have hg : aGoes D x j = 0 ∨ aGoes D x j = 1 := aGoes_in (by
          have := (i2.2.2.1 j (by omega)).2
          rw [nu_ne (by omega)] at this
          exact this)
        have hon' : aOn D (nu x 0 (N 0 + 1)) j = 0 := by
          rw [aOn_zero hc] at c1 ⊢
          intro k hk
          rw [nu_ne (by omega), nu_ne (by omega)]
          exact c1 k hk
        have hcm : nu (nu x (11 + j) (aGoes D x j)) 0 (N 0 + 1) = nu (nu x 0 (N 0 + 1)) (11 + j) (aGoes D x j) := nu_comm (by omega)
        refine ⟨fun i hh => by rw [nu_ne (by omega)]; exact i1 i hh, ?_, ?_⟩
        · rw [hcm]
          rw [nW_kW] at i2 ⊢
          obtain ⟨b1, b2, b3, b4⟩ := i2
          refine ⟨by rw [nu_ne (by omega)]; exact b1, by rw [nu_ne (by omega)]; exact b2, fun s' hs' => ?_, fun k hk => ?_⟩
          · rw [nu_ne (show 2 + s' ≠ 11 + j by omega)]
            refine ⟨(b3 s' hs').1, ?_⟩
            by_cases e : s' = j
            · subst e; rw [nu_at]; exact hg
            · rw [nu_ne (by omega)]; exact (b3 s' hs').2
          · have hkw := b4 k hk
            refine kW_congr (fun hh => ?_) (nu_ne (by omega)) (nu_ne (by omega)) (nu_ne (by omega)) (nu_ne (by omega)) (nu_ne (by omega)) (nu_ne (by omega)) hkw
            have hpl := (hkw.2.2.2.2.2.2 hh).1
            rw [nu_ne (by omega)] at hpl
            refine nu_ne (fun q => ?_)
            rw [nu_ne (by omega)] at q
            refine (aOn_zero hc).mp c1 k hk ⟨?_, by omega⟩
            rw [nu_ne (by omega)] at hh
            exact hh
        · rw [hcm, pass_nu11 hc i2 (by omega) _ hon' (by unfold lk; rw [nu_ne (by omega)]; exact c2), i3]
      · rw [aGoes_calm hw c2, nu_self]
        exact ⟨i1, i2, i3⟩
    · rw [if_neg c1, nu_self]
      exact ⟨i1, i2, i3⟩) (D 83 2).toNat (Nat.le_refl _)
  obtain ⟨i1, i2, i3⟩ := p3
  have e3 : aPh3 D (-1) N = gfold (aEnt D) (D 83 2).toNat N := by
    unfold aPh3
    rw [e2]
  have e4 : aPh4 D (-1) N = gfold (aEnt D) (D 83 2).toNat N := by
    unfold aPh4
    rw [e3]
    exact (gfold_inv (aTir D) (fun _ x => x = gfold (aEnt D) (D 83 2).toNat N) _ rfl (D 83 6).toNat (fun j x hj hx => by
      rw [hx]
      unfold aTir
      rw [if_neg (by rw [i1 _ (by omega)]; exact (hi j (by omega)).1)])) _ (Nat.le_refl _)
  have e5 : aPass D (-1) N = nu (gfold (aEnt D) (D 83 2).toNat N) 0 (N 0 + 1) := by
    have := @aPh4_0 D (-1) N
    unfold aPass
    rw [this, e4]
  rw [e5, i3]
theorem nW_skip {D : gH} (hc : cW D) {N : Nat → Int} (hn : nW D 0 N) {m : Int} (h0 : N 0 ≤ m) (h1 : m ≤ 100000) (hi : ∀ i, N 0 ≤ i → i < m → idl D N i) : nW D 0 (nu N 0 m) := by
  have hC : 0 ≤ D 83 6 ∧ D 83 6 ≤ 6 := hc.2.2.1
  have hS : 0 ≤ D 83 2 ∧ D 83 2 ≤ 9 := hc.2.1
  rw [nW_kW] at hn ⊢
  obtain ⟨b1, b2, b3, b4⟩ := hn
  refine ⟨by rw [nu_at]; omega, by rw [nu_ne (by omega)]; exact b2, fun s hs => ?_, fun k hk => ?_⟩
  · rw [nu_ne (by omega), nu_ne (by omega)]; exact b3 s hs
  · obtain ⟨a1, a2, a3, a4, a5, a6, a7⟩ := b4 k hk
    have ee : ∀ s : Nat, aEnd D (nu N 0 m) s = aEnd D N s := fun s => by
      unfold aEnd
      rw [nu_ne (by omega)]
    unfold kW
    rw [nu_at, nu_ne (show 20 + k ≠ 0 by omega), nu_ne (show 26 + k ≠ 0 by omega), nu_ne (show 32 + k ≠ 0 by omega), nu_ne (show 38 + k ≠ 0 by omega), nu_ne (show 44 + k ≠ 0 by omega), ee]
    refine ⟨a1, a2, ⟨a3.1, by omega⟩, a4, a5, a6, fun q => ?_⟩
    obtain ⟨d1, d2, d3, d4⟩ := a7 q
    refine ⟨d1, ?_, d3, d4⟩
    by_cases e : N 0 = m
    · omega
    · have := ((hi (m - 1) (by omega) (by omega)) k hk).2.2 q
      omega
theorem pass_skip {D : gH} (hc : cW D) {N : Nat → Int} (hn : nW D 0 N) : ∀ d : Nat, N 0 + (d : Int) ≤ 100000 → (∀ i, N 0 ≤ i → i < N 0 + (d : Int) → idl D N i) → aPass D (-1) (aIt D (-1) d N) = aPass D (-1) (nu N 0 (N 0 + (d : Int))) := by
  have hC : 0 ≤ D 83 6 ∧ D 83 6 ≤ 6 := hc.2.2.1
  intro d
  induction d with
  | zero =>
    intro _ _
    have : nu N 0 (N 0 + ((0 : Nat) : Int)) = N := by
      rw [show N 0 + ((0 : Nat) : Int) = N 0 by omega, nu_self]
    rw [this]
    rfl
  | succ d ih =>
    intro h0 hi
    rw [aIt_succ, ih (by omega) (fun i h1 h2 => hi i h1 (by omega))]
    have hw := nW_skip hc hn (m := N 0 + (d : Int)) (by omega) (by omega) (fun i h1 h2 => hi i h1 (by omega))
    have hw2 := nW_skip hc hn (m := N 0 + ((d + 1 : Nat) : Int)) (by omega) (by omega) (fun i h1 h2 => hi i h1 (by omega))
    have hid : idl D (nu N 0 (N 0 + (d : Int))) (nu N 0 (N 0 + (d : Int)) 0) := by
      have := hi (N 0 + (d : Int)) (by omega) (by omega)
      intro k hk
      rw [nu_at, nu_ne (by omega), nu_ne (by omega), nu_ne (by omega)]
      exact this k hk
    have e : nu (nu N 0 (N 0 + (d : Int))) 0 (nu N 0 (N 0 + (d : Int)) 0 + 1) = nu N 0 (N 0 + ((d + 1 : Nat) : Int)) := by
      rw [nu_nu, nu_at]
      congr 1
      omega
    have := pass_idle hc hw hid (by rw [e]; exact hw2)
    rw [e] at this
    exact this
