/- PURE: a new city, by both -/
theorem new_cW {h' R : gH} {q e : Nat → Int} (hI : pI q R) (hA : mrA h' R q e) : cW (ct h') := by
  obtain ⟨a0, a1, a2, a6, aS, aC, aZ, aF, aB⟩ := hA
  obtain ⟨h1, h2, h3⟩ := hI
  unfold cW
  rw [ct_83_0, ct_83_1, ct_83_2, ct_83_6, a0, a1, a2, a6]
  have hq : (0 ≤ q 0 ∧ q 0 ≤ 7) ∧ (0 ≤ q 2 ∧ q 2 ≤ 9) ∧ (0 ≤ q 3 ∧ q 3 ≤ 6) ∧ (0 ≤ q 1 ∧ q 1 ≤ 60) ∧ (0 < q 2 → 0 < q 1) := by
    rcases h1 with h1 | h1 <;> omega
  refine ⟨hq.1, hq.2.1, hq.2.2.1, hq.2.2.2.1, hq.2.2.2.2, fun s hs => ?_, fun k hk => ?_, fun y hy => ?_⟩
  · rw [ct_84, ct_85, ct_86]
    obtain ⟨e1, e2, e3, e4⟩ := aS s hs
    obtain ⟨p1, p2, p3, p4, p5⟩ := h2 s hs
    rw [e1, e2, e3]
    exact ⟨p1, p2, p3, p4⟩
  · rw [ct_87, ct_88, ct_89, ct_90]
    obtain ⟨e1, e2, e3, e4, e5, e6, e7⟩ := aC k hk
    obtain ⟨p1, p2, p3, p4, p5, p6⟩ := h3 k hk
    rw [e1, e2, e3, e4]
    exact ⟨p1, p2, p3, p4, p6⟩
  · rw [ct_91]; exact aB y hy
theorem new_st {h' R : gH} {q e : Nat → Int} (hI : pI q R) (hA : mrA h' R q e) : ∀ s : Nat, s < (q 2).toNat → R 1 s = ct h' 84 s ∧ R 2 s = ct h' 85 s ∧ R 3 s = ct h' 86 s := fun s hs => by
  obtain ⟨hg, hK, hS⟩ := pI_g hI
  obtain ⟨e1, e2, e3, e4⟩ := hA.2.2.2.2.1 s (by omega)
  rw [ct_84, ct_85, ct_86]
  exact ⟨e1.symm, e2.symm, e3.symm⟩
theorem new_dist {h' R : gH} {q e : Nat → Int} (hA : mrA h' R q e) {a b : Nat} (ha : a < (q 0).toNat) (hb : b < (q 0).toNat) : aDist (ct h') (a : Int) (b : Int) = eD e (7 * a + b) := by
  unfold aDist
  rw [ct_91, show (7 * (a : Int) + (b : Int)).toNat = 7 * a + b by omega]
  exact hA.2.2.2.2.2.2.2.1 a b ha hb
theorem new_dW {h' R : gH} {q e : Nat → Int} (hI : pI q R) (hA : mrA h' R q e) (hj : eJ (R 1) (R 2) (R 3) (q 0).toNat (q 2).toNat e) (hc : eC (R 1) (R 2) (R 3) (q 0).toNat (q 2).toNat e) : dW (ct h') := by
  obtain ⟨hg, hK, hS⟩ := pI_g hI
  have hd := fun {a b : Nat} ha hb => new_dist (a := a) (b := b) hA ha hb
  have hst := new_st hI hA
  intro a b ha0 ha hb0 hb
  rw [ct_83_0, hA.1] at ha hb
  obtain ⟨a', rfl⟩ : ∃ a' : Nat, a = (a' : Int) := ⟨a.toNat, by omega⟩
  obtain ⟨b', rfl⟩ : ∃ b' : Nat, b = (b' : Int) := ⟨b.toNat, by omega⟩
  have ha' : a' < (q 0).toNat := by omega
  have hb' : b' < (q 0).toNat := by omega
  have jb := (hj a' b' ha' hb').1
  refine ⟨?_, fun hab hlt => ?_⟩
  · rw [hd ha' ha']
    have := (hj a' a' ha' ha').2.1
    unfold eD
    rw [if_pos (by omega)]; exact this
  · rw [hd ha' hb'] at hlt
    have h1 : e (7 * a' + b') < 1000 := by
      unfold eD at hlt
      by_cases c : e (7 * a' + b') < 1000
      · exact c
      · rw [if_neg c] at hlt; omega
    obtain ⟨v, w, g1, g2⟩ := eC_edge hg hj hc ha' hb' (by omega) h1
    obtain ⟨r1, r2, r3, r4, r5⟩ := eG_in hg g1
    obtain ⟨s, s1, s2, s3⟩ := g1
    obtain ⟨t1, t2, t3⟩ := hst s s1
    have hne := (hg.2.2 s s1).2.2.1
    refine ⟨s, by rw [ct_83_2, hA.2.2.1]; omega, ?_⟩
    rw [aIs_iff]
    have ho : aOther (ct h') s (a' : Int) = (v : Int) := by
      unfold aOther
      rw [← t1, ← t2]
      rcases s3 with ⟨u1, u2⟩ | ⟨u1, u2⟩
      · rw [if_pos u1, u2]
      · rw [if_neg (by rw [u2]; omega), if_pos u1, u2]
    have jv := (hj v b' r2 hb').1
    rw [ho, hd r2 hb', hd ha' hb', ← t3, s2]
    unfold eD
    rw [if_pos h1, if_pos (by omega)]
    exact ⟨by omega, by omega, by omega⟩
theorem aTol_0 {c : gH} {N : Nat → Int} (hz : ∀ k : Nat, (k : Int) < c 83 6 → N (44 + k) = 0) : aTol c N = 0 := by
  unfold aTol
  refine gfold_inv (aTolF N) (fun _ x => x = 0) 0 rfl (c 83 6).toNat (fun j x hj hx => ?_) _ (Nat.le_refl _)
  unfold aTolF
  rw [hx, hz j (by omega)]; rfl
theorem new_nW {h' R : gH} {q e : Nat → Int} (hI : pI q R) (hA : mrA h' R q e) : nW (ct h') 0 (h' 92) ∧ tW (ct h') (h' 92) := by
  obtain ⟨a0, a1, a2, a6, aS, aC, ⟨z0, z1, z2, z3⟩, aF, aB⟩ := hA
  have hq : (0 ≤ q 2 ∧ q 2 ≤ 9) ∧ (0 ≤ q 3 ∧ q 3 ≤ 6) := (pI_q hI).2
  obtain ⟨h1, h2, h3⟩ := hI
  refine ⟨⟨by rw [z0]; omega, by rw [z1]; omega, fun s hs => ?_, fun k hk => ?_⟩, ?_⟩
  · rw [ct_83_2, a2] at hs
    obtain ⟨e1, e2, e3, e4⟩ := aS s hs
    rw [e4, z2 s (by omega)]
    exact ⟨(h2 s hs).2.2.2.2, Or.inl rfl⟩
  · rw [ct_83_6, a6] at hk
    obtain ⟨e1, e2, e3, e4, e5, e6, e7⟩ := aC k hk
    obtain ⟨p1, p2, p3, p4, p5, p6⟩ := h3 k hk
    obtain ⟨y1, y2⟩ := z3 k (by omega)
    rw [e5, e6, e7, y1, y2, z0, ct_87, ct_90, e1, e4]
    exact ⟨p5, by omega, by omega, by omega, fun _ => ⟨rfl, by omega⟩, fun z => absurd z (by decide), fun z => absurd z (by decide)⟩
  · unfold tW
    rw [z1, aTol_0 (fun k hk => (z3 k (by rw [ct_83_6, a6] at hk; omega)).2)]
theorem new_CR {h' R hk : gH} {q e : Nat → Int} {d : Nat} (hd : d = 1 ∨ d = 13) (hI : pI q R) (hA : mrA h' R q e) (hj : eJ (R 1) (R 2) (R 3) (q 0).toNat (q 2).toNat e) (hR : RC hk d q R) (h10 : hk (d + 10) = e) (hl : ∀ a b : Nat, a < (q 0).toNat → b < (q 0).toNat → ldS (R 1) (R 2) (R 3) e (q 2).toNat a b (hk (d + 11) (7 * a + b))) : CR (ct h') hk d := by
  have hcw := new_cW hI hA
  obtain ⟨hg, hK, hS⟩ := pI_g hI
  have hst := new_st hI hA
  have hd2 := fun {a b : Nat} ha hb => new_dist (a := a) (b := b) hA ha hb
  have hF := hA.2.2.2.2.2.2.2.1
  obtain ⟨a0, a1, a2, a6, aS, aC, aZ, aF, aB⟩ := hA
  refine ⟨hd, ?_, ?_, ?_, ?_, fun s hs => ?_, fun k hk' => ?_, fun a b ha hb => ?_⟩
  · rw [ct_83_0, a0]; exact hR.1 0 (by decide)
  · rw [ct_83_1, a1]; exact hR.1 1 (by decide)
  · rw [ct_83_2, a2]; exact hR.1 2 (by decide)
  · rw [ct_83_6, a6]; exact hR.1 3 (by decide)
  · rw [ct_83_2, a2] at hs
    obtain ⟨t1, t2, t3⟩ := hst s (by omega)
    rw [hR.2 1 (by decide) (by decide), hR.2 2 (by decide) (by decide), hR.2 3 (by decide) (by decide)]
    exact ⟨t1, t2, t3⟩
  · rw [ct_83_6, a6] at hk'
    obtain ⟨e1, e2, e3, e4, e5, e6, e7⟩ := aC k hk'
    rw [hR.2 5 (by decide) (by decide), hR.2 6 (by decide) (by decide), hR.2 7 (by decide) (by decide), hR.2 9 (by decide) (by decide), ct_87, ct_88, ct_89, ct_90]
    exact ⟨e1.symm, e2.symm, e3.symm, e4.symm⟩
  · rw [ct_83_0, a0] at ha hb
    have ha' : a < (q 0).toNat := by omega
    have hb' : b < (q 0).toNat := by omega
    refine ⟨ld_nx hcw (by rw [ct_83_0, a0]; exact hK) (by rw [ct_83_2, a2]; exact hS) hst hg hj (fun a c h1 h2 => by rw [ct_91]; exact hF a c h1 h2) ha' hb' (hl a b ha' hb'), ?_⟩
    have jb := (hj a b ha' hb').1
    rw [h10, hd2 ha' hb']
    unfold eD
    by_cases c : e (7 * a + b) < 1000
    · rw [if_pos c, if_pos (by omega)]
    · rw [if_neg c, if_neg (by omega)]; omega
theorem sI_none {C : Int} {P : Nat → Bool} (h : ∀ i : Nat, (i : Int) < C → P i = false) : sI C 0 P := by
  refine ⟨⟨by decide, by decide⟩, fun i hi => ?_⟩
  rw [gb_zero]
  by_cases c : (i : Int) < C
  · rw [h i c, Bool.and_false]
  · rw [decide_eq_false c, Bool.false_and]
theorem new_TR {h' R hk hk' : gH} {q e : Nat → Int} {d t : Nat} (hI : pI q R) (hA : mrA h' R q e) (hR : RC hk d q R) (hT : bgT hk hk' d t) (hS : ∀ s : Nat, s < 9 → bgS hk hk' d t s) (hC : ∀ k : Nat, k < 6 → bgC hk hk' d t k) : TR (ct h') hk' d t (h' 92) := by
  have hq : (0 ≤ q 2 ∧ q 2 ≤ 9) ∧ (0 ≤ q 3 ∧ q 3 ≤ 6) := (pI_q hI).2
  obtain ⟨a0, a1, a2, a6, aS, aC, ⟨z0, z1, z2, z3⟩, aF, aB⟩ := hA
  have hn : ∀ k : Nat, (k : Int) < ct h' 83 6 → h' 92 (26 + k) = 0 := fun k hk => (z3 k (by rw [ct_83_6, a6] at hk; omega)).1
  rw [TR_iff]
  refine ⟨hT.2.1, by rw [hT.2.2.1, z0], fun s hs => ?_, fun k hk => ?_⟩
  · rw [ct_83_2, a2] at hs
    obtain ⟨e1, e2, e3, e4⟩ := aS s hs
    obtain ⟨b1, b2, b3, b4, b5⟩ := hS s (by omega)
    rw [b1, b2, b3, b4, b5, e4, z2 s (by omega), hR.2 4 (by decide) (by decide)]
    exact ⟨rfl, rfl, sI_none (fun i hi => aOnB_no (by rw [hn i hi]; decide)), sI_none (fun i hi => aW_no (by rw [hn i hi]; decide)), sI_none (fun i hi => aW_no (by rw [hn i hi]; decide))⟩
  · rw [ct_83_6, a6] at hk
    obtain ⟨e1, e2, e3, e4, e5, e6, e7⟩ := aC k hk
    obtain ⟨b1, b2, b3, b4, b5⟩ := hC k (by omega)
    obtain ⟨y1, y2⟩ := z3 k (by omega)
    rw [b1, b2, b3, b4, b5, e5, e6, e7, y1, y2, hR.2 8 (by decide) (by decide), hR.2 5 (by decide) (by decide)]
    exact ⟨rfl, rfl, rfl, rfl, rfl⟩
