/- PURE: the class's way by law; its minute -/
theorem k_wayByLaw {D h : gH} (hc : cW D) {c t s : Nat} {N : Nat → Int} {w : Int} (hn : nW D w N) (hr : CR D h c) (hT : TR D h c t N) (hs : (s : Int) < D 83 2) : f_Traffic_wayByLaw t (s : Int) h = some (h, aGoes D N s) := by
  have hC : 0 ≤ D 83 6 ∧ D 83 6 ≤ 6 := hc.2.2.1
  have hS : D 83 2 ≤ 9 := hc.2.1.2
  obtain ⟨x0, x1, xS, xC⟩ := TR_iff.mp hT
  obtain ⟨y1, y2, y3, y4, y5⟩ := xS s hs
  have hg := (hn.2.2.1 s hs).2
  have hN0 := hn.1
  have hhalf : 0 < D 83 1 ∧ D 83 1 ≤ 60 := ⟨hc.2.2.2.2.1 (by omega), hc.2.2.2.1.2⟩
  have e1 : gmul 2 (s : Int) = ((2 * s : Nat) : Int) := by rw [gmul_eq (by omega) (by omega)]; omega
  have e2 : gadd ((2 * s : Nat) : Int) 1 = ((2 * s + 1 : Nat) : Int) := by rw [gadd_eq (by omega) (by omega)]; omega
  have hc1 : h c 1 = D 83 1 := hr.2.2.1
  unfold f_Traffic_wayByLaw
  simp only [e1, e2]
  simp (disch := omega) only [gdix, Int.toNat_natCast]
  rw [y1, y2, x0, Int.toNat_natCast, x1, hc1]
  unfold aGoes
  by_cases l0 : N (2 + s) = 0
  · rw [if_pos l0, if_pos l0]
    have hW : f_Traffic_wayOfLongest t (s : Int) (h (t + 4) (2 * s)) (h (t + 4) (2 * s + 1)) h = some (h, if aLong D N s 0 = 1000000 ∧ aLong D N s 1 = 1000000 then N (11 + s) else if aLong D N s 1 < aLong D N s 0 then 1 else 0) := by
      unfold f_Traffic_wayOfLongest
      simp (disch := omega) only [gdix, Int.toNat_natCast]
      rw [y2]
      have hl0 := k_longest hc hr hT y4
      have hl1 := k_longest hc hr hT y5
      have hb : ∀ k : Nat, k < (D 83 6).toNat → N (38 + k) ≤ 100000 := fun k hk => by
        have := (hn.2.2.2 k (by omega)).2.2.1
        omega
      have t0 := aLo_two (N := N) (P := aW D N s 0) hb
      have t1 := aLo_two (N := N) (P := aW D N s 1) hb
      have f0 : gfold (aLoF N (aW D N s 0)) (D 83 6).toNat 1000000 = aLong D N s 0 := rfl
      have f1 : gfold (aLoF N (aW D N s 1)) (D 83 6).toNat 1000000 = aLong D N s 1 := rfl
      rw [f0] at t0
      rw [f1] at t1
      rw [hl0, gb_s, hl1, gb_s]
      obtain ⟨q0, hq0, hq0'⟩ := sI_nat y4
      obtain ⟨q1, hq1, hq1'⟩ := sI_nat y5
      have hor : gor (h (t + 4) (2 * s)) (h (t + 4) (2 * s + 1)) = 0 ↔ (∀ k : Nat, (k : Int) < D 83 6 → aW D N s 0 k = false) ∧ (∀ k : Nat, (k : Int) < D 83 6 → aW D N s 1 k = false) := by
        rw [← sI_0 hC.2 y4, ← sI_0 hC.2 y5, hq0, hq1, gb_or0 q0 hq0' q1 hq1']
        constructor
        · intro z
          have z0 := gb_ext q0 hq0' 0 (by decide) (fun j hj => by rw [(z j hj).1]; exact (gb_zero j).symm)
          have z1 := gb_ext q1 hq1' 0 (by decide) (fun j hj => by rw [(z j hj).2]; exact (gb_zero j).symm)
          omega
        · intro ⟨z0, z1⟩ j hj
          rw [z0, z1]
          exact ⟨gb_zero j, gb_zero j⟩
      rcases t0 with ⟨p1, p2, p3⟩ | ⟨p1, p2, k0, p3, p4⟩
      · rcases t1 with ⟨r1, r2, r3⟩ | ⟨r1, r2, k1, r3, r4⟩
        · rw [if_pos (hor.mpr ⟨fun k hk => p3 k (by omega), fun k hk => r3 k (by omega)⟩), if_pos ⟨p2, r2⟩]
        · rw [if_neg (fun z => by have := (hor.mp z).2 k1 (by omega); rw [this] at r4; cases r4), if_neg (show ¬ (aLong D N s 0 = 1000000 ∧ aLong D N s 1 = 1000000) by omega), p1, r1, p2, if_pos (by omega), if_pos (by omega)]
      · rw [if_neg (fun z => by have := (hor.mp z).1 k0 (by omega); rw [this] at p4; cases p4), if_neg (show ¬ (aLong D N s 0 = 1000000 ∧ aLong D N s 1 = 1000000) by omega), p1]
        rcases t1 with ⟨r1, r2, r3⟩ | ⟨r1, r2, k1, r3, r4⟩
        · rw [r1, r2, if_neg (by omega), if_neg (by omega)]
        · rw [r1]
          by_cases z : aLong D N s 1 < aLong D N s 0
          · rw [if_pos z, if_pos z]
          · rw [if_neg z, if_neg z]
    rw [hW, gb_s]
  · rw [if_neg l0, if_neg l0]
    by_cases l1 : N (2 + s) = 1
    · rw [if_pos l1, if_pos l1, gdcl (gsh_c hr.1), if_neg (by omega), gdcl (gsh_c hr.1), gdnz (by omega), gdnz (by decide), gdiv_eq (by omega) (by omega) (by omega) (by omega)]
      have hd0 : 0 ≤ N 0 / D 83 1 := Int.ediv_nonneg (by omega) (by omega)
      have hd1 : N 0 / D 83 1 ≤ N 0 := Int.ediv_le_self _ (by omega)
      rw [grem_eq (by omega) (by omega) (by omega) (by omega)]
    · rw [if_neg l1, if_neg l1]
      have hmore : ∀ a b g : Int, f_Traffic_wayOfMore g a b h = some (h, aSide a b g) := fun a b g => by
        unfold f_Traffic_wayOfMore aSide
        by_cases z : a = b
        · rw [if_pos z, if_pos (by omega), if_pos (by omega)]
        · rw [if_neg z]
          by_cases z2 : a ≤ b
          · rw [if_pos z2, if_pos z2, if_neg (by omega)]
          · rw [if_neg z2, if_neg z2]
      by_cases l2 : N (2 + s) = 2
      · rw [if_pos l2, if_pos l2, k_bits hC.1 hC.2 y4, gb_s, k_bits hC.1 hC.2 y5, gb_s, hmore, gb_s]
        rfl
      · rw [if_neg l2, if_neg l2]
        by_cases l3 : N (2 + s) = 3
        · rw [if_pos l3, if_pos l3]
          have hgr : ∀ (m : Int) (sdx : Int), sI (D 83 6) m (aW D N s sdx) → f_Traffic_greatestRank t m h = some (h, aRk N (aFore D N s sdx)) := fun m sdx hm => by
            rw [k_great hc hr hT hm, aGr_fo _ (fun k hk => by have := (hn.2.2.2 k (by omega)).1; omega)]
            rfl
          rw [hgr _ _ y4, gb_s, hgr _ _ y5, gb_s, hmore, gb_s]
        · rw [if_neg l3, if_neg l3]
/- arriving and starting, cart by cart -/
def aAS (D : gH) (k : Nat) (N : Nat → Int) : Nat → Int := aSta D (-1) k (aArr D k N)
theorem aArr_on {D : gH} {k : Nat} {N : Nat → Int} (h : N (26 + k) = 2) (h2 : N 0 - N (38 + k) = D 86 (N (32 + k)).toNat) : aAS D k N = aArr D k N := by
  have e : aArr D k N (26 + k) = 3 ∨ aArr D k N (26 + k) = 1 := by
    unfold aArr
    rw [if_pos ⟨h, h2⟩, nu_at]
    split
    · exact Or.inl rfl
    · exact Or.inr rfl
  unfold aAS aSta
  rw [if_neg (fun q => by have := q.1; omega)]
theorem aArr_no {D : gH} {k : Nat} {N : Nat → Int} (h : ¬ (N (26 + k) = 2 ∧ N 0 - N (38 + k) = D 86 (N (32 + k)).toNat)) : aArr D k N = N := by
  unfold aArr
  rw [if_neg h]
theorem aSta_no {D : gH} {ab : Int} {k : Nat} {N : Nat → Int} (h : ¬ (N (26 + k) = 0 ∧ D 89 k = N 0)) : aSta D ab k N = N := by
  unfold aSta
  rw [if_neg (fun q => h ⟨q.1, q.2.1⟩)]
theorem nu_comm {N : Nat → Int} {a b : Nat} {x y : Int} (h : a ≠ b) : nu (nu N a x) b y = nu (nu N b y) a x := by
  funext j
  unfold nu
  by_cases e1 : j = b
  · rw [if_pos e1, if_neg (by omega), if_pos e1]
  · rw [if_neg e1, if_neg e1]
theorem aArr_sta {D : gH} (hc : cW D) {N : Nat → Int} (hn : nW D 0 N) {i j : Nat} (hi : i < j) (hj : (j : Int) < D 83 6) (ab : Int) : aArr D j (aSta D ab i N) = aSta D ab i (aArr D j N) := by
  have hC : D 83 6 ≤ 6 := hc.2.2.1.2
  have hS : D 83 2 ≤ 9 := hc.2.1.2
  have e26 : ∀ M : Nat → Int, aSta D ab i M (26 + j) = M (26 + j) := fun M => aSta_off (by omega) (by omega)
  have e38 : ∀ M : Nat → Int, aSta D ab i M (38 + j) = M (38 + j) := fun M => aSta_off (by omega) (by omega)
  have e32 : ∀ M : Nat → Int, aSta D ab i M (32 + j) = M (32 + j) := fun M => aSta_off (by omega) (by omega)
  have e0 : ∀ M : Nat → Int, aSta D ab i M 0 = M 0 := fun M => aSta_off (by omega) (by omega)
  by_cases c1 : N (26 + j) = 2 ∧ N 0 - N (38 + j) = D 86 (N (32 + j)).toNat
  · have hp := ((hn.2.2.2 j hj).2.2.2.2.2.2 c1.1).1
    obtain ⟨s, hs⟩ : ∃ s : Nat, N (32 + j) = (s : Int) := ⟨(N (32 + j)).toNat, by omega⟩
    have e11 : aSta D ab i N (11 + s) = N (11 + s) := aSta_off (by omega) (by omega)
    have ee : aEnd D (aSta D ab i N) s = aEnd D N s := by unfold aEnd; rw [e11]
    unfold aArr
    rw [e26, e38, e32, e0, if_pos c1, if_pos c1, hs, Int.toNat_natCast, ee]
    generalize aEnd D N s = e
    generalize (if e = D 88 j then (3 : Int) else 1) = v
    unfold aSta
    simp (disch := omega) only [nu_ne]
    by_cases c2 : N (26 + i) = 0 ∧ D 89 i = N 0 ∧ ¬(i : Int) = ab
    · rw [if_pos c2, if_pos c2]
      funext x
      unfold nu
      by_cases z1 : x = 26 + j
      · simp (disch := omega) only [if_pos z1, if_neg]
      · by_cases z2 : x = 38 + j
        · simp (disch := omega) only [if_pos z2, if_neg z1, if_neg]
        · by_cases z3 : x = 32 + j
          · simp (disch := omega) only [if_pos z3, if_neg z1, if_neg z2, if_neg]
          · simp only [if_neg z1, if_neg z2, if_neg z3]
    · rw [if_neg c2, if_neg c2]
  · rw [aArr_no c1, aArr_no (by rw [e26, e38, e32, e0]; exact c1)]
theorem aAS_fold {D : gH} (hc : cW D) {N : Nat → Int} (hn : nW D 0 N) : ∀ j, j ≤ (D 83 6).toNat → gfold (aAS D) j N = gfold (aSta D (-1)) j (gfold (aArr D) j N) := by
  have hC : 0 ≤ D 83 6 := hc.2.2.1.1
  have hnn := gfold_inv (aArr D) (fun _ x => nW D 0 x) N hn (D 83 6).toNat (fun j x hj hx => nW_arr hc hx (by omega))
  intro j
  induction j with
  | zero => intro _; rfl
  | succ j ih =>
    intro hj
    rw [gfold_succ, ih (by omega), gfold_succ, gfold_succ]
    unfold aAS
    refine congrArg _ ?_
    have hM := hnn j (by omega)
    generalize gfold (aArr D) j N = M at hM ⊢
    have key := gfold_inv (aSta D (-1)) (fun i x => nW D 0 x ∧ ∀ y, y = gfold (aSta D (-1)) i (aArr D j M) → aArr D j x = y) M ⟨hM, fun y hy => hy.symm⟩ j (fun i x hi hx => ⟨nW_sta hc (-1) hx.1 (by omega), fun y hy => by
      rw [hy, gfold_succ, ← hx.2 _ rfl]
      exact aArr_sta hc hx.1 hi (by omega) (-1)⟩) j (Nat.le_refl _)
    exact key.2 _ rfl
theorem k_ph12 {D h : gH} (hc : cW D) {c t : Nat} (ht : 27 ≤ t) {N : Nat → Int} (hn : nW D 0 N) (hr : CR D h c) (hT : TR D h c t N) (k : gH → Option gO) : ∃ h', f_Traffic_passOne_L2 t k 50000 0 h = k h' ∧ TR D h' c t (aPh2 D (-1) N) ∧ gF t h h' := by
  have hC : 0 ≤ D 83 6 ∧ D 83 6 ≤ 6 := hc.2.2.1
  have hS : D 83 2 ≤ 9 := hc.2.1.2
  obtain ⟨C, hCe⟩ : ∃ C : Nat, D 83 6 = (C : Int) := ⟨(D 83 6).toNat, by omega⟩
  have e2 : aPh2 D (-1) N = gfold (aAS D) C N := by
    unfold aPh2 aPh1
    rw [hCe, Int.toNat_natCast, aAS_fold hc hn C (by omega)]
  have hnn := gfold_inv (aAS D) (fun _ x => nW D 0 x) N hn C (fun j x hj hx => nW_sta hc (-1) (nW_arr hc hx (by omega)) (by omega))
  have key := gloopI (S := Int × gH) (F := fun n x => f_Traffic_passOne_L2 t k n x.1 x.2) (K := fun x => k x.2) C (fun j x => x.1 = (j : Int) ∧ TR D x.2 c t (gfold (aAS D) j N) ∧ gF t h x.2) ?_ ?_ 50000 (0, h) ⟨rfl, hT, gF_id t h⟩ (by omega)
  · obtain ⟨s', hs1, hs2⟩ := key
    rw [e2]
    exact ⟨s'.2, hs2, hs1.2.1, hs1.2.2⟩
  · intro n j x hj hx
    obtain ⟨xi, hx⟩ := x
    obtain ⟨i1, i2, i3⟩ := hx
    have i1' : xi = (j : Int) := i1
    subst i1'
    show ∃ s', _ ∧ f_Traffic_passOne_L2 t k (n + 1) (j : Int) hx = _
    have i2' : TR D hx c t (gfold (aAS D) j N) := i2
    have i3' : gF t h hx := i3
    have hM := hnn j (by omega)
    rw [gfold_succ]
    generalize gfold (aAS D) j N = M at hM i2' ⊢
    have hr' := CR_F ht hr i3'
    obtain ⟨x0, x1, xS, xC⟩ := TR_iff.mp i2'
    have hk : (j : Int) < D 83 6 := by omega
    obtain ⟨z1, z2, z3, z4, z5⟩ := xC j hk
    obtain ⟨a1, a2, a3, a4, a5, a6, a7⟩ := (nW_kW.mp hM).2.2.2 j hk
    have hct := hr'.2.2.2.2.2.2.1 j hk
    have hM0 := hM.1
    have fin : ∀ h', TR D h' c t (aAS D j M) → gF t hx h' → ∃ s' : Int × gH, (s'.1 = ((j + 1 : Nat) : Int) ∧ TR D s'.2 c t (aAS D j M) ∧ gF t h s'.2) ∧ f_Traffic_passOne_J98 t (f_Traffic_passOne_L2 t k n) (j : Int) h' = f_Traffic_passOne_L2 t k n s'.1 s'.2 := fun h' q1 q2 => by
      refine ⟨(((j + 1 : Nat) : Int), h'), ⟨rfl, q1, gF_tr i3' q2⟩, ?_⟩
      unfold f_Traffic_passOne_J98
      rw [ga_s (by omega)]
    have h59 : ¬ (M (26 + j) = 2 ∧ M 0 - M (38 + j) = D 86 (M (32 + j)).toNat) → ∃ s' : Int × gH, (s'.1 = ((j + 1 : Nat) : Int) ∧ TR D s'.2 c t (aAS D j M) ∧ gF t h s'.2) ∧ f_Traffic_passOne_J59 t (f_Traffic_passOne_L2 t k n) (j : Int) hx = f_Traffic_passOne_L2 t k n s'.1 s'.2 := fun hno => by
      have eAS : aAS D j M = aSta D (-1) j M := by unfold aAS; rw [aArr_no hno]
      unfold f_Traffic_passOne_J59
      simp (disch := omega) only [gdix, Int.toNat_natCast]
      rw [z2, x0, Int.toNat_natCast, gdcl (gsh_c hr.1), gdcl (gsh_c hr.1), hct.2.2.1, hct.1, x1]
      by_cases c1 : M (26 + j) = 0
      · rw [if_pos c1]
        by_cases c2 : D 89 j = M 0
        · rw [if_pos c2]
          obtain ⟨h', g1, g2, g3⟩ := k_start hc ht hM hr' i2' hk c1 c2
          rw [g1, gb_s]
          exact fin h' (by rw [eAS]; exact g2) g3
        · rw [if_neg c2]
          exact fin hx (by rw [eAS, aSta_no (fun q => c2 q.2)]; exact i2') (gF_id t hx)
      · rw [if_neg c1]
        exact fin hx (by rw [eAS, aSta_no (fun q => c1 q.1)]; exact i2') (gF_id t hx)
    have hc3 : hx c 3 = D 83 6 := hr'.2.2.2.2.1
    rw [f_Traffic_passOne_L2, x0, Int.toNat_natCast, gdcl (gsh_c hr.1), hc3, if_neg (by omega), gdix (by omega) (by omega), Int.toNat_natCast, z2]
    by_cases c1 : M (26 + j) = 2
    · rw [if_pos c1]
      obtain ⟨d1, d2, d3, d4⟩ := a7 c1
      obtain ⟨s, hs⟩ : ∃ s : Nat, M (32 + j) = (s : Int) := ⟨(M (32 + j)).toNat, by omega⟩
      have hst := hr'.2.2.2.2.2.1 s (by omega)
      rw [hs, Int.toNat_natCast] at d2
      rw [gdix (by omega) (by omega), gdcl (gsh_c hr.1), gdix (by omega) (by omega), z3, hs, gdix (by omega) (by omega), z4, x1, Int.toNat_natCast, hst.2.2, gsub_eq (by omega) (by omega)]
      by_cases c2 : M 0 - M (38 + j) < D 86 s
      · rw [if_pos c2]
        exact h59 (fun q => by have q2 := q.2; rw [hs, Int.toNat_natCast] at q2; omega)
      · rw [if_neg c2]
        have hm : M 0 - M (38 + j) = D 86 (M (32 + j)).toNat := by rw [hs, Int.toNat_natCast]; omega
        obtain ⟨h', g1, g2, g3⟩ := k_arrive hc ht hM hr' i2' hk c1 hm
        rw [g1, gb_s]
        exact fin h' (by rw [aArr_on c1 hm]; exact g2) g3
    · rw [if_neg c1]
      exact h59 (fun q => c1 q.1)
  · intro n x hx
    obtain ⟨xi, hx'⟩ := x
    obtain ⟨i1, i2, i3⟩ := hx
    have i1' : xi = (C : Int) := i1
    subst i1'
    show f_Traffic_passOne_L2 t k (n + 1) (C : Int) hx' = k hx'
    have i2' : TR D hx' c t (gfold (aAS D) C N) := i2
    have i3' : gF t h hx' := i3
    have hr' := CR_F ht hr i3'
    have hc3 : hx' c 3 = D 83 6 := hr'.2.2.2.2.1
    rw [f_Traffic_passOne_L2, i2'.1, Int.toNat_natCast, gdcl (gsh_c hr.1), hc3, if_pos (by omega)]
