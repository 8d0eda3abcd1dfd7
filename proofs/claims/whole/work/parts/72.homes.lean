/- PURE: who is home has a minute; what lies behind the fifty stays -/
def vW (c : gH) (N : Nat → Int) : Prop := ∀ k : Nat, (k : Int) < c 83 6 → N (26 + k) = 3 → 0 ≤ N (38 + k)
def vQ (c : gH) (N0 N : Nat → Int) : Prop := 0 ≤ N 0 ∧ vW c N ∧ ∀ y, 50 ≤ y → N y = N0 y
theorem vW_of {c : gH} {N N' : Nat → Int} (hv : vW c N) (h : ∀ j : Nat, (j : Int) < c 83 6 → (N' (26 + j) = N (26 + j) ∧ N' (38 + j) = N (38 + j)) ∨ N' (26 + j) ≠ 3 ∨ 0 ≤ N' (38 + j)) : vW c N' := fun k hk h3 => by
  rcases h k hk with ⟨e1, e2⟩ | e | e
  · rw [e2]; exact hv k hk (by rw [← e1]; exact h3)
  · exact absurd h3 e
  · exact e
theorem vQ_arr {c : gH} (hc : cW c) {N0 N : Nat → Int} {k : Nat} (hk : (k : Int) < c 83 6) (h : vQ c N0 N) : vQ c N0 (aArr c k N) := by
  have hC := hc.2.2.1.2
  unfold aArr
  split
  · obtain ⟨h1, h2, h3⟩ := h
    refine ⟨?_, vW_of h2 (fun j hj => ?_), fun y hy => ?_⟩
    · simp (disch := omega) only [nu_ne]; exact h1
    · by_cases e : j = k
      · subst e
        refine Or.inr (Or.inr ?_)
        rw [nu_ne (by omega), nu_at]; exact h1
      · refine Or.inl ⟨?_, ?_⟩ <;> simp (disch := omega) only [nu_ne]
    · simp (disch := omega) only [nu_ne]; exact h3 y hy
  · exact h
theorem vQ_sta {c : gH} (hc : cW c) {N0 N : Nat → Int} {ab : Int} {k : Nat} (hk : (k : Int) < c 83 6) (h : vQ c N0 N) : vQ c N0 (aSta c ab k N) := by
  have hC := hc.2.2.1.2
  unfold aSta
  split
  · obtain ⟨h1, h2, h3⟩ := h
    refine ⟨?_, vW_of h2 (fun j hj => ?_), fun y hy => ?_⟩
    · simp (disch := omega) only [nu_ne]; exact h1
    · by_cases e : j = k
      · subst e
        refine Or.inr (Or.inr ?_)
        rw [nu_ne (by omega), nu_at]; exact h1
      · refine Or.inl ⟨?_, ?_⟩ <;> simp (disch := omega) only [nu_ne]
    · simp (disch := omega) only [nu_ne]; exact h3 y hy
  · exact h
theorem vQ_ent {c : gH} (hc : cW c) {N0 N : Nat → Int} {s : Nat} (hs : (s : Int) < c 83 2) (h : vQ c N0 N) : vQ c N0 (aEnt c s N) := by
  have hC := hc.2.2.1.2
  have hS := hc.2.1.2
  have h1 : vQ c N0 (aTrn c N s) := by
    obtain ⟨h1, h2, h3⟩ := h
    unfold aTrn
    refine ⟨?_, vW_of h2 (fun j hj => Or.inl ⟨?_, ?_⟩), fun y hy => ?_⟩
    · simp (disch := omega) only [nu_ne]; exact h1
    · simp (disch := omega) only [nu_ne]
    · simp (disch := omega) only [nu_ne]
    · simp (disch := omega) only [nu_ne]; exact h3 y hy
  unfold aEnt aLet
  generalize aTrn c N s = M at h1
  have hf := aFore_lt hc M s (M (11 + s))
  generalize aFore c M s (M (11 + s)) = q at hf
  split
  · exact h1
  · obtain ⟨h1, h2, h3⟩ := h1
    obtain ⟨k, rfl⟩ : ∃ k : Nat, q = (k : Int) := ⟨q.toNat, by omega⟩
    rw [Int.toNat_natCast]
    refine ⟨?_, vW_of h2 (fun j hj => ?_), fun y hy => ?_⟩
    · simp (disch := omega) only [nu_ne]; exact h1
    · by_cases e : j = k
      · subst e
        refine Or.inr (Or.inr ?_)
        rw [nu_at]; exact h1
      · refine Or.inl ⟨?_, ?_⟩ <;> simp (disch := omega) only [nu_ne]
    · simp (disch := omega) only [nu_ne]; exact h3 y hy
theorem vQ_tir {c : gH} (hc : cW c) {N0 N : Nat → Int} {k : Nat} (hk : (k : Int) < c 83 6) (h : vQ c N0 N) : vQ c N0 (aTir c k N) := by
  have hC := hc.2.2.1.2
  unfold aTir
  obtain ⟨h1, h2, h3⟩ := h
  split
  · split
    · refine ⟨?_, vW_of h2 (fun j hj => Or.inl ⟨?_, ?_⟩), fun y hy => ?_⟩
      · simp (disch := omega) only [nu_ne]; exact h1
      · simp (disch := omega) only [nu_ne]
      · simp (disch := omega) only [nu_ne]
      · simp (disch := omega) only [nu_ne]; exact h3 y hy
    · refine ⟨?_, vW_of h2 (fun j hj => ?_), fun y hy => ?_⟩
      · simp (disch := omega) only [nu_ne]; exact h1
      · by_cases e : j = k
        · subst e
          refine Or.inr (Or.inr ?_)
          rw [nu_at]; exact h1
        · refine Or.inl ⟨?_, ?_⟩ <;> simp (disch := omega) only [nu_ne]
      · simp (disch := omega) only [nu_ne]; exact h3 y hy
  · exact ⟨h1, h2, h3⟩
theorem vQ_pass {c : gH} (hc : cW c) (ab : Int) {N0 N : Nat → Int} (h : vQ c N0 N) : vQ c N0 (aPass c ab N) := by
  have hC := hc.2.2.1.2
  have p1 : vQ c N0 (aPh1 c N) := gfold_inv (aArr c) (fun _ x => vQ c N0 x) N h _ (fun j x hj hx => vQ_arr hc (by omega) hx) _ (Nat.le_refl _)
  have p2 : vQ c N0 (aPh2 c ab N) := gfold_inv (aSta c ab) (fun _ x => vQ c N0 x) _ p1 _ (fun j x hj hx => vQ_sta hc (by omega) hx) _ (Nat.le_refl _)
  have p3 : vQ c N0 (aPh3 c ab N) := gfold_inv (aEnt c) (fun _ x => vQ c N0 x) _ p2 _ (fun j x hj hx => vQ_ent hc (by omega) hx) _ (Nat.le_refl _)
  have p4 : vQ c N0 (aPh4 c ab N) := gfold_inv (aTir c) (fun _ x => vQ c N0 x) _ p3 _ (fun j x hj hx => vQ_tir hc (by omega) hx) _ (Nat.le_refl _)
  unfold aPass
  generalize aPh4 c ab N = M at p4
  obtain ⟨h1, h2, h3⟩ := p4
  refine ⟨by rw [nu_at]; omega, vW_of h2 (fun j hj => Or.inl ⟨?_, ?_⟩), fun y hy => ?_⟩
  · simp (disch := omega) only [nu_ne]
  · simp (disch := omega) only [nu_ne]
  · simp (disch := omega) only [nu_ne]; exact h3 y hy
theorem vQ_it {c : gH} (hc : cW c) (ab : Int) {N0 N : Nat → Int} (h : vQ c N0 N) : ∀ n, vQ c N0 (aIt c ab n N)
  | 0 => h
  | n + 1 => by rw [aIt_succ]; exact vQ_pass hc ab (vQ_it hc ab h n)
theorem vQ_dr {c : gH} (hc : cW c) {N0 : Nat → Int} {q : Int × (Nat → Int)} (h : vQ c N0 q.2) : ∀ n, vQ c N0 (aDr c n q).2
  | 0 => h
  | n + 1 => by
    have ih := vQ_dr hc h n
    have hS := hc.2.1
    rw [aDr_succ]
    unfold aDs
    generalize aDr c n q = r at ih
    split
    · rename_i hh
      refine vQ_pass hc (-1) ?_
      obtain ⟨h1, h2, h3⟩ := ih
      have hm := Int.emod_lt_of_pos (nx (nx r.1) / 65536) hh.2
      have hm0 := Int.emod_nonneg (nx (nx r.1) / 65536) (show c 83 2 ≠ 0 by omega)
      generalize hz : (nx (nx r.1) / 65536 % c 83 2).toNat = z
      have hz9 : z < 9 := by omega
      unfold aTn
      refine ⟨?_, vW_of h2 (fun j hj => Or.inl ⟨?_, ?_⟩), fun y hy => ?_⟩
      · simp (disch := omega) only [nu_ne]; exact h1
      · simp (disch := omega) only [nu_ne]
      · simp (disch := omega) only [nu_ne]
      · simp (disch := omega) only [nu_ne]; exact h3 y hy
    · exact vQ_pass hc (-1) ih
theorem aSum_nn {c : gH} {N : Nat → Int} (h0 : 0 ≤ N 0) (hv : vW c N) (but : Int) : 0 ≤ aSum c N but := by
  unfold aSum
  refine gfold_inv (aSumF N but) (fun _ x => 0 ≤ x) 0 (by decide) (c 83 6).toNat (fun j x hj hx => ?_) _ (Nat.le_refl _)
  unfold aSumF
  have := hv j (by omega)
  split
  · omega
  · split
    · have := this (by assumption); omega
    · omega
theorem aSum_le {c : gH} (hc : cW c) {w : Int} {N : Nat → Int} (hn : nW c w N) (but : Int) : aSum c N but ≤ 600000 := by
  have hC := hc.2.2.1
  have := (aSum_in hn but (c 83 6).toNat (by omega)).2
  unfold aSum
  omega
/- saved, changed, put back: what comes back is what was -/
theorem back_id {h : gH} {M : Nat → Int} (hM : ∀ y, 50 ≤ y → M y = h 92 y) : grw (gnow (grw h 104 50 (h 92)) M) 92 50 (gnow (grw h 104 50 (h 92)) M 104) = grw h 104 50 (h 92) := by
  funext x y
  rw [gnow_ne (show 104 ≠ 92 by decide)]
  unfold grw
  by_cases hx : x = 92
  · subst hx
    by_cases hy : y < 50
    · rw [if_pos ⟨rfl, hy⟩, if_pos ⟨rfl, hy⟩, if_neg (fun q => absurd q.1 (by decide))]
    · rw [if_neg (fun q => hy q.2), if_neg (fun q => absurd q.1 (by decide)), gnow_92]
      exact hM y (by omega)
  · rw [if_neg (fun q => hx q.1), gnow_ne hx]
