/- PURE: the class's many minutes -/
theorem k_skip {D h : gH} (hc : cW D) {c t : Nat} (ht : 27 ≤ t) {N : Nat → Int} (hn : nW D 0 N) (hr : CR D h c) (hT : TR D h c t N) (last : Int) : ∃ h' m', f_Traffic_skipIdle t last h = some (h', 0) ∧ TR D h' c t (nu N 0 m') ∧ kG t h h' ∧ N 0 ≤ m' ∧ (m' = N 0 ∨ m' ≤ last) ∧ ∀ i, N 0 ≤ i → i < m' → idl D N i := by
  have hC : 0 ≤ D 83 6 ∧ D 83 6 ≤ 6 := hc.2.2.1
  have hS : D 83 2 ≤ 9 := hc.2.1.2
  obtain ⟨C, hCe⟩ : ∃ C : Nat, D 83 6 = (C : Int) := ⟨(D 83 6).toNat, by omega⟩
  obtain ⟨x0, x1, xS, xC⟩ := TR_iff.mp hT
  have hc3 : h c 3 = (C : Int) := by rw [hr.2.2.2.2.1, hCe]
  have stay : ∃ h' m', some (h, (0 : Int)) = some (h', 0) ∧ TR D h' c t (nu N 0 m') ∧ kG t h h' ∧ N 0 ≤ m' ∧ (m' = N 0 ∨ m' ≤ last) ∧ ∀ i, N 0 ≤ i → i < m' → idl D N i :=
    ⟨h, N 0, rfl, by rw [nu_self]; exact hT, kG_id t h, by omega, Or.inl rfl, fun i h1 h2 => by omega⟩
  unfold f_Traffic_skipIdle
  have key : ∀ (K : Int → gH → Option gO) r j, j + r = C → ∀ n, r < n → ∀ v, f_Traffic_skipIdle_L4 t K n v (j : Int) h = some (h, 0) ∨ ∃ v', f_Traffic_skipIdle_L4 t K n v (j : Int) h = K v' h ∧ v' ≤ v ∧ ∀ k : Nat, j ≤ k → k < C → N (26 + k) ≠ 1 ∧ (N (26 + k) = 0 → v' ≤ D 89 k) ∧ (N (26 + k) = 2 → v' ≤ N (38 + k) + D 86 (N (32 + k)).toNat) := by
    intro K r
    induction r with
    | zero =>
      intro j hj n hn v
      obtain ⟨n', rfl⟩ : ∃ n', n = n' + 1 := ⟨n - 1, by omega⟩
      rw [f_Traffic_skipIdle_L4, x0, Int.toNat_natCast, gdcl (gsh_c hr.1), hc3, if_pos (by omega)]
      exact Or.inr ⟨v, rfl, by omega, fun k h1 h2 => by omega⟩
    | succ r ih =>
      intro j hj n hn' v
      obtain ⟨n', rfl⟩ : ∃ n', n = n' + 1 := ⟨n - 1, by omega⟩
      have hk : (j : Int) < D 83 6 := by omega
      obtain ⟨z1, z2, z3, z4, z5⟩ := xC j hk
      obtain ⟨a1, a2, a3, a4, a5, a6, a7⟩ := (nW_kW.mp hn).2.2.2 j hk
      have hct := hr.2.2.2.2.2.2.1 j hk
      have hN0 := hn.1
      rw [f_Traffic_skipIdle_L4, x0, Int.toNat_natCast, gdcl (gsh_c hr.1), hc3, if_neg (by omega), gdix (by omega) (by omega), Int.toNat_natCast, z2]
      by_cases c1 : N (26 + j) = 1
      · rw [if_pos c1]; exact Or.inl rfl
      · rw [if_neg c1, gdix (by omega) (by omega)]
        unfold f_Traffic_skipIdle_J88
        by_cases c0 : N (26 + j) = 0
        · rw [if_pos c0, gdcl (gsh_c hr.1), gdix (by omega) (by omega), ga_s (by omega), hct.2.2.1]
          rcases ih (j + 1) (by omega) n' (by omega) (gmin v (D 89 j)) with q | ⟨v', q1, q2, q3⟩
          · exact Or.inl q
          · have hm : gmin v (D 89 j) ≤ v ∧ gmin v (D 89 j) ≤ D 89 j := by unfold gmin; split <;> omega
            refine Or.inr ⟨v', q1, by omega, fun k h1 h2 => ?_⟩
            by_cases e : k = j
            · subst e
              exact ⟨c1, fun _ => by omega, fun q => by omega⟩
            · exact q3 k (by omega) h2
        · rw [if_neg c0, gdix (by omega) (by omega)]
          by_cases c2 : N (26 + j) = 2
          · obtain ⟨d1, d2, d3, d4⟩ := a7 c2
            obtain ⟨s, hs⟩ : ∃ s : Nat, N (32 + j) = (s : Int) := ⟨(N (32 + j)).toNat, by omega⟩
            have hst := hr.2.2.2.2.2.1 s (by omega)
            have hlen := (hc.2.2.2.2.2.1 s (by omega)).2.2.2
            rw [if_pos c2, gdix (by omega) (by omega), gdcl (gsh_c hr.1), gdix (by omega) (by omega), z3, hs, gdix (by omega) (by omega), ga_s (by omega), z4, Int.toNat_natCast, hst.2.2, gadd_eq (by omega) (by omega)]
            rcases ih (j + 1) (by omega) n' (by omega) (gmin v (N (38 + j) + D 86 s)) with q | ⟨v', q1, q2, q3⟩
            · exact Or.inl q
            · have hm : gmin v (N (38 + j) + D 86 s) ≤ v ∧ gmin v (N (38 + j) + D 86 s) ≤ N (38 + j) + D 86 s := by unfold gmin; split <;> omega
              refine Or.inr ⟨v', q1, by omega, fun k h1 h2 => ?_⟩
              by_cases e : k = j
              · subst e
                refine ⟨c1, fun q => by omega, fun _ => ?_⟩
                rw [hs, Int.toNat_natCast]
                omega
              · exact q3 k (by omega) h2
          · rw [if_neg c2, ga_s (by omega)]
            rcases ih (j + 1) (by omega) n' (by omega) v with q | ⟨v', q1, q2, q3⟩
            · exact Or.inl q
            · refine Or.inr ⟨v', q1, q2, fun k h1 h2 => ?_⟩
              by_cases e : k = j
              · subst e
                exact ⟨c1, fun q => by omega, fun q => by omega⟩
              · exact q3 k (by omega) h2
  rcases key (fun v8 h9 => gs (gup h9 t 1 (gmax (h9 t 1) v8)) (fun h10 => some (h10, 0))) C 0 (by omega) 50000 (by omega) last with q | ⟨v', q1, q2, q3⟩
  · have q' : f_Traffic_skipIdle_L4 t (fun v8 h9 => gs (gup h9 t 1 (gmax (h9 t 1) v8)) (fun h10 => some (h10, 0))) 50000 last 0 h = some (h, 0) := q
    rw [q']
    exact stay
  · have q' : f_Traffic_skipIdle_L4 t (fun v8 h9 => gs (gup h9 t 1 (gmax (h9 t 1) v8)) (fun h10 => some (h10, 0))) 50000 last 0 h = _ := q1
    rw [q', gs_s, x1]
    refine ⟨_, gmax (N 0) v', rfl, TR_min hc hT, ⟨fun x hx => gu_r (by omega), fun y hy => gu_o hy⟩, ?_, ?_, fun i h1 h2 => ?_⟩
    · unfold gmax; split <;> omega
    · unfold gmax
      split
      · exact Or.inr q2
      · exact Or.inl rfl
    · have h3 : i < v' := by
        unfold gmax at h2
        split at h2 <;> omega
      intro k hk
      obtain ⟨p1, p2, p3⟩ := q3 k (by omega) (by omega)
      exact ⟨p1, fun q => by have := p2 q; omega, fun q => by have := p3 q; omega⟩
theorem k_pass {D h : gH} (hc : cW D) (hd : dW D) {c t : Nat} (ht : 27 ≤ t) {N : Nat → Int} (hn : nW D 0 N) (htw : tW D N) (hr : CR D h c) (hT : TR D h c t N) {n : Nat} (hn1 : n ≤ 1000) (h0 : N 0 + (n : Int) ≤ 100000) : ∃ h', f_Traffic_pass t (n : Int) h = some (h', 0) ∧ TR D h' c t (aIt D (-1) n N) ∧ kG t h h' := by
  have hN0 := hn.1
  unfold f_Traffic_pass
  rw [hT.2.1, gadd_eq (by omega) (by omega)]
  have key : ∀ r i, i + r = n → ∀ f, r < f → ∀ j hx, i ≤ j → j ≤ n → TR D hx c t (aIt D (-1) j N) → kG t h hx → ∃ h', f_Traffic_pass_L9 t (n : Int) (N 0 + (n : Int)) (fun h7 => some (h7, 0)) f (i : Int) hx = some (h', 0) ∧ TR D h' c t (aIt D (-1) n N) ∧ kG t h h' := by
    intro r
    induction r with
    | zero =>
      intro i hi f hf j hx h1 h2 hTx hG
      obtain ⟨f', rfl⟩ : ∃ f', f = f' + 1 := ⟨f - 1, by omega⟩
      rw [f_Traffic_pass_L9, if_pos (by omega)]
      have : j = n := by omega
      subst this
      exact ⟨hx, rfl, hTx, hG⟩
    | succ r ih =>
      intro i hi f hf j hx h1 h2 hTx hG
      obtain ⟨f', rfl⟩ : ∃ f', f = f' + 1 := ⟨f - 1, by omega⟩
      obtain ⟨w1, w2, w3⟩ := pW_it hc hd (-1) hn htw j (by omega)
      rw [f_Traffic_pass_L9, if_neg (by omega), hTx.2.1, w3]
      by_cases c1 : j = n
      · subst c1
        rw [if_pos (by omega)]
        exact ⟨hx, rfl, hTx, hG⟩
      · rw [if_neg (by omega), gsub_eq (by omega) (by omega)]
        have hrx := CR_G ht hr hG
        obtain ⟨h1', m', e1, t1, g1, b1, b2, b3⟩ := k_skip hc ht w1 hrx hTx (N 0 + (n : Int) - 1)
        rw [e1, gb_s]
        have hr1 := CR_G ht hrx g1
        have b4 : m' ≤ N 0 + (n : Int) - 1 := by omega
        have hw := nW_skip hc w1 b1 (by omega) b3
        have htw' : tW D (nu (aIt D (-1) j N) 0 m') := by
          unfold tW at w2 ⊢
          rw [aTol_congr (N := aIt D (-1) j N) (fun i hi => nu_ne (by omega)), nu_ne (by omega)]
          exact w2
        obtain ⟨h2', e2, t2, g2⟩ := k_passOne hc hd ht hw htw' hr1 t1
        rw [e2, gb_s, ga_s (by omega)]
        obtain ⟨d, hdd⟩ : ∃ d : Nat, m' = N 0 + (j : Int) + (d : Int) := ⟨(m' - (N 0 + (j : Int))).toNat, by omega⟩
        have hsk := pass_skip hc w1 d (by omega) (fun i q1 q2 => b3 i q1 (by omega))
        have hadd : ∀ d : Nat, aIt D (-1) d (aIt D (-1) j N) = aIt D (-1) (j + d) N := by
          intro d
          induction d with
          | zero => rfl
          | succ d ihd =>
            rw [aIt_succ, ihd]
            rfl
        have e3 : aPass D (-1) (nu (aIt D (-1) j N) 0 m') = aIt D (-1) (j + d + 1) N := by
          rw [aIt_succ, ← hadd, hsk, w3, hdd]
        rw [e3] at t2
        exact ih (i + 1) (by omega) f' (by omega) (j + d + 1) h2' (by omega) (by omega) t2 (kG_tr hG (kG_tr g1 g2))
  exact key n 0 (by omega) 50000 (by omega) 0 h (by omega) (by omega) hT (kG_id t h)
/- sets, sums -/
theorem k_those {D h : gH} (hc : cW D) {c t : Nat} {N : Nat → Int} (hr : CR D h c) (hT : TR D h c t N) (how : Int) : f_Traffic_those t how h = some (h, aThat D N how) ∧ sI (D 83 6) (aThat D N how) (fun k => decide (N (26 + k) = how)) := by
  have hC : 0 ≤ D 83 6 ∧ D 83 6 ≤ 6 := hc.2.2.1
  obtain ⟨C, hCe⟩ : ∃ C : Nat, D 83 6 = (C : Int) := ⟨(D 83 6).toNat, by omega⟩
  have hms := sI_msk hC.1 hC.2 (fun k => decide (N (26 + k) = how))
  refine ⟨?_, hms⟩
  unfold aThat
  have hc3 : h c 3 = (C : Int) := by rw [hr.2.2.2.2.1, hCe]
  obtain ⟨x0, x1, xS, xC⟩ := TR_iff.mp hT
  unfold f_Traffic_those
  have hpre : ∀ j : Nat, j ≤ C → ∃ q : Nat, q < 64 ∧ gfold (aMskF (fun k => decide (N (26 + k) = how))) j 0 = (q : Int) := fun j hj => by
    obtain ⟨⟨b1, b2⟩, -⟩ := aMsk_bits (C := j) (by omega) (fun k => decide (N (26 + k) = how))
    unfold aMsk at b1 b2
    exact ⟨(gfold (aMskF (fun k => decide (N (26 + k) = how))) j 0).toNat, by omega, by omega⟩
  have hor0 : ∀ q : Nat, q < 64 → gor (q : Int) 0 = (q : Int) := by decide +kernel
  have key := gloop (S := Int × Int × gH) (F := fun n x => f_Traffic_those_L4 t how (fun v4 h5 => some (h5, v4)) n x.1 x.2.1 x.2.2) (K := fun x => some (x.2.2, x.1)) C (fun j => (gfold (aMskF (fun k => decide (N (26 + k) = how))) j 0, (j : Int), h)) ?_ ?_ 50000 (by omega)
  · refine Eq.trans key ?_
    unfold aMsk
    rw [hCe, Int.toNat_natCast]
  · intro n j hj
    show f_Traffic_those_L4 t how _ (n + 1) (gfold (aMskF (fun k => decide (N (26 + k) = how))) j 0) (j : Int) h = f_Traffic_those_L4 t how _ n (gfold (aMskF (fun k => decide (N (26 + k) = how))) (j + 1) 0) ((j + 1 : Nat) : Int) h
    obtain ⟨q, hq, he⟩ := hpre j (by omega)
    rw [gfold_succ, he]
    unfold aMskF
    rw [hor0 q hq, f_Traffic_those_L4, x0, Int.toNat_natCast, gdcl (gsh_c hr.1), hc3, if_neg (by omega), gdix (by omega) (by omega), Int.toNat_natCast, (xC j (by omega)).2.1]
    unfold f_Traffic_those_J31
    rw [ga_s (by omega)]
    by_cases c1 : N (26 + j) = how
    · rw [if_pos c1, if_pos (decide_eq_true c1)]
    · rw [if_neg c1, if_neg (by rw [decide_eq_true_eq]; exact c1)]
  · intro n
    show f_Traffic_those_L4 t how _ (n + 1) _ (C : Int) h = _
    rw [f_Traffic_those_L4, x0, Int.toNat_natCast, gdcl (gsh_c hr.1), hc3, if_pos (by omega)]
theorem k_countHome {D h : gH} (hc : cW D) {c t : Nat} {N : Nat → Int} (hr : CR D h c) (hT : TR D h c t N) : f_Traffic_countHome t h = some (h, aHome D N) := by
  have hC : 0 ≤ D 83 6 ∧ D 83 6 ≤ 6 := hc.2.2.1
  obtain ⟨e1, e2⟩ := k_those hc hr hT 3
  unfold f_Traffic_countHome
  rw [e1, gb_s, k_bits hC.1 hC.2 e2, gb_s]
  unfold aHome
  congr 2
  refine gfold_congr _ (fun j x hj => ?_)
  unfold aHomeF
  by_cases c1 : N (26 + j) = 3
  · rw [if_pos (decide_eq_true c1), if_pos c1]
  · rw [if_neg (by rw [decide_eq_true_eq]; exact c1), if_neg c1]; omega
theorem k_toll {D h : gH} (hc : cW D) {c t : Nat} {N : Nat → Int} {w : Int} (hn : nW D w N) (hr : CR D h c) (hT : TR D h c t N) : f_Traffic_toll t h = some (h, aTol D N) := by
  have hC : 0 ≤ D 83 6 ∧ D 83 6 ≤ 6 := hc.2.2.1
  obtain ⟨C, hCe⟩ : ∃ C : Nat, D 83 6 = (C : Int) := ⟨(D 83 6).toNat, by omega⟩
  have hc3 : h c 3 = (C : Int) := by rw [hr.2.2.2.2.1, hCe]
  obtain ⟨x0, x1, xS, xC⟩ := TR_iff.mp hT
  unfold f_Traffic_toll
  have hb := gfold_inv (aTolF N) (fun j x => 0 ≤ x ∧ x ≤ 100 * (j : Int)) 0 ⟨by omega, by omega⟩ C (fun j x hj hx => by
    have := (hn.2.2.2 j (by omega)).2.2.2.1
    unfold aTolF
    omega)
  have key := gloop (S := Int × Int × gH) (F := fun n x => f_Traffic_toll_L4 t (fun v3 h4 => some (h4, v3)) n x.1 x.2.1 x.2.2) (K := fun x => some (x.2.2, x.1)) C (fun j => (gfold (aTolF N) j 0, (j : Int), h)) ?_ ?_ 50000 (by omega)
  · refine Eq.trans key ?_
    unfold aTol
    rw [hCe, Int.toNat_natCast]
  · intro n j hj
    show f_Traffic_toll_L4 t _ (n + 1) (gfold (aTolF N) j 0) (j : Int) h = f_Traffic_toll_L4 t _ n (gfold (aTolF N) (j + 1) 0) ((j + 1 : Nat) : Int) h
    have hbj := hb j (by omega)
    have hkj := (hn.2.2.2 j (by omega)).2.2.2.1
    rw [gfold_succ]
    generalize gfold (aTolF N) j 0 = x at hbj ⊢
    unfold aTolF
    rw [f_Traffic_toll_L4, x0, Int.toNat_natCast, gdcl (gsh_c hr.1), hc3, if_neg (by omega), gdix (by omega) (by omega), Int.toNat_natCast, (xC j (by omega)).2.2.2.2, ga_s (by omega), gadd_eq (by omega) (by omega)]
  · intro n
    show f_Traffic_toll_L4 t _ (n + 1) _ (C : Int) h = _
    rw [f_Traffic_toll_L4, x0, Int.toNat_natCast, gdcl (gsh_c hr.1), hc3, if_pos (by omega)]
theorem k_together {D h : gH} (hc : cW D) {c t : Nat} {N : Nat → Int} {w : Int} (hn : nW D w N) (hr : CR D h c) (hT : TR D h c t N) (but : Int) : f_Traffic_together t but h = some (h, aSum D N but) := by
  have hC : 0 ≤ D 83 6 ∧ D 83 6 ≤ 6 := hc.2.2.1
  obtain ⟨C, hCe⟩ : ∃ C : Nat, D 83 6 = (C : Int) := ⟨(D 83 6).toNat, by omega⟩
  have hc3 : h c 3 = (C : Int) := by rw [hr.2.2.2.2.1, hCe]
  obtain ⟨x0, x1, xS, xC⟩ := TR_iff.mp hT
  have hN0 := hn.1
  unfold f_Traffic_together
  have key := gloop (S := Int × Int × gH) (F := fun n x => f_Traffic_together_L4 t but (fun v5 h6 => some (h6, v5)) n x.1 x.2.1 x.2.2) (K := fun x => some (x.2.2, x.1)) C (fun j => (gfold (aSumF N but) j 0, (j : Int), h)) ?_ ?_ 50000 (by omega)
  · refine Eq.trans key ?_
    unfold aSum
    rw [hCe, Int.toNat_natCast]
  · intro n j hj
    show f_Traffic_together_L4 t but _ (n + 1) (gfold (aSumF N but) j 0) (j : Int) h = f_Traffic_together_L4 t but _ n (gfold (aSumF N but) (j + 1) 0) ((j + 1 : Nat) : Int) h
    have hbj := aSum_in hn but j (by omega)
    have hkj := (hn.2.2.2 j (by omega)).2.2.1
    rw [gfold_succ]
    generalize gfold (aSumF N but) j 0 = x at hbj ⊢
    unfold aSumF
    obtain ⟨z1, z2, z3, z4, z5⟩ := xC j (by omega)
    rw [f_Traffic_together_L4, x0, Int.toNat_natCast, gdcl (gsh_c hr.1), hc3, if_neg (by omega)]
    unfold f_Traffic_together_J44 f_Traffic_together_J46
    rw [ga_s (by omega)]
    by_cases c0 : (j : Int) = but
    · rw [if_pos c0, if_pos c0, show x + 0 = x by omega]
    · rw [if_neg c0, if_neg c0, gdix (by omega) (by omega), Int.toNat_natCast, z2]
      by_cases c1 : N (26 + j) = 3
      · rw [if_pos c1, if_pos c1, gdix (by omega) (by omega), z4, gadd_eq (by omega) (by omega)]
      · rw [if_neg c1, if_neg c1, x1, gadd_eq (by omega) (by omega)]
  · intro n
    show f_Traffic_together_L4 t but _ (n + 1) _ (C : Int) h = _
    rw [f_Traffic_together_L4, x0, Int.toNat_natCast, gdcl (gsh_c hr.1), hc3, if_pos (by omega)]
