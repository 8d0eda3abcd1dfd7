/- PURE: the class's minute is the reference's -/
theorem TR_goes {D h : gH} (hc : cW D) {c t s : Nat} {N : Nat → Int} {v : Int} (hT : TR D h c t N) (hs : (s : Int) < D 83 2) : TR D (gup h (t + 2) s v) c t (nu N (11 + s) v) := by
  have hC : D 83 6 ≤ 6 := hc.2.2.1.2
  have hS : D 83 2 ≤ 9 := hc.2.1.2
  obtain ⟨x0, x1, xS, xC⟩ := TR_iff.mp hT
  rw [TR_iff]
  refine ⟨by rw [gu_r (by omega)]; exact x0, by rw [gu_r (by omega), nu_ne (by omega)]; exact x1, fun s' hs' => ?_, fun k hk => ?_⟩
  · obtain ⟨y1, y2, y3, y4, y5⟩ := xS s' hs'
    rw [gu_r (by omega), gu_r (show t + 3 ≠ t + 2 by omega), gu_r (show t + 4 ≠ t + 2 by omega), nu_ne (by omega)]
    refine ⟨y1, ?_, sI_same y3 (fun i hi => ?_), sI_same y4 (fun i hi => ?_), sI_same y5 (fun i hi => ?_)⟩
    · by_cases e : s' = s
      · subst e; rw [gu_at, nu_at]
      · rw [gu_o e, nu_ne (by omega)]; exact y2
    · unfold aOnB; rw [nu_ne (by omega), nu_ne (by omega)]
    · unfold aW aNk; rw [nu_ne (by omega), nu_ne (by omega)]
    · unfold aW aNk; rw [nu_ne (by omega), nu_ne (by omega)]
  · rw [gu_r (by omega), gu_r (by omega), gu_r (by omega), gu_r (by omega), gu_r (by omega), nu_ne (by omega), nu_ne (by omega), nu_ne (by omega), nu_ne (by omega), nu_ne (by omega)]
    exact xC k hk
theorem nu_self {N : Nat → Int} {k : Nat} : nu N k (N k) = N := by
  funext j
  unfold nu
  by_cases e : j = k
  · rw [if_pos e, e]
  · rw [if_neg e]
theorem TR_on {D h : gH} (hc : cW D) {c t s : Nat} {N : Nat → Int} (hT : TR D h c t N) (hs : (s : Int) < D 83 2) : h (t + 3) s = aOn D N s :=
  sI_eq (hT.2.2.1 s hs).2.2.1 (sI_msk hc.2.2.1.1 hc.2.2.1.2 _)
theorem k_ph3 {D h : gH} (hc : cW D) (hd : dW D) {c t : Nat} (ht : 27 ≤ t) {N : Nat → Int} (hn : nW D 0 N) (htw : tW D N) (hr : CR D h c) (hT : TR D h c t (aPh2 D (-1) N)) (k : gH → Option gO) : ∃ h', f_Traffic_passOne_L106 t k 50000 0 h = k h' ∧ TR D h' c t (aPh3 D (-1) N) ∧ gF t h h' := by
  have hC : 0 ≤ D 83 6 ∧ D 83 6 ≤ 6 := hc.2.2.1
  have hS : 0 ≤ D 83 2 ∧ D 83 2 ≤ 9 := hc.2.1
  obtain ⟨S, hSe⟩ : ∃ S : Nat, D 83 2 = (S : Int) := ⟨(D 83 2).toNat, by omega⟩
  have e2 : aPh3 D (-1) N = gfold (aEnt D) S (aPh2 D (-1) N) := by
    unfold aPh3
    rw [hSe, Int.toNat_natCast]
  have hnn := pW_ph3 hc hd (-1) hn htw
  generalize aPh2 D (-1) N = N2 at hT e2 hnn
  have key := gloopI (S := Int × gH) (F := fun n x => f_Traffic_passOne_L106 t k n x.1 x.2) (K := fun x => k x.2) S (fun j x => x.1 = (j : Int) ∧ TR D x.2 c t (gfold (aEnt D) j N2) ∧ gF t h x.2) ?_ ?_ 50000 (0, h) ⟨rfl, hT, gF_id t h⟩ (by omega)
  · obtain ⟨s', hs1, hs2⟩ := key
    rw [e2]
    exact ⟨s'.2, hs2, hs1.2.1, hs1.2.2⟩
  · intro n j x hj hx
    obtain ⟨xi, hx⟩ := x
    obtain ⟨i1, i2, i3⟩ := hx
    have i1' : xi = (j : Int) := i1
    subst i1'
    show ∃ s', _ ∧ f_Traffic_passOne_L106 t k (n + 1) (j : Int) hx = _
    have i2' : TR D hx c t (gfold (aEnt D) j N2) := i2
    have i3' : gF t h hx := i3
    have hM := (hnn j (by omega)).1
    rw [gfold_succ]
    generalize gfold (aEnt D) j N2 = M at hM i2' ⊢
    have hr' := CR_F ht hr i3'
    have hs : (j : Int) < D 83 2 := by omega
    obtain ⟨x0, x1, xS, xC⟩ := TR_iff.mp i2'
    have hon := TR_on hc i2' hs
    have hnt := nW_trn hc hM hs
    have fin : ∀ h1, TR D h1 c t (aTrn D M j) → gF t hx h1 → ∃ s' : Int × gH, (s'.1 = ((j + 1 : Nat) : Int) ∧ TR D s'.2 c t (aEnt D j M) ∧ gF t h s'.2) ∧ f_Traffic_passOne_J137 t (f_Traffic_passOne_L106 t k n) (j : Int) h1 = f_Traffic_passOne_L106 t k n s'.1 s'.2 := fun h1 q1 q2 => by
      have hr1 := CR_F ht hr' q2
      obtain ⟨h', g1, g2, g3⟩ := k_letIn hc ht hnt hr1 q1 hs
      refine ⟨(((j + 1 : Nat) : Int), h'), ⟨rfl, g2, gF_tr i3' (gF_tr q2 g3)⟩, ?_⟩
      unfold f_Traffic_passOne_J137
      rw [g1, gb_s, ga_s (by omega)]
    have hc2 : hx c 2 = D 83 2 := hr'.2.2.2.1
    rw [f_Traffic_passOne_L106, x0, Int.toNat_natCast, gdcl (gsh_c hr.1), hc2, if_neg (by omega), gdix (by omega) (by omega), Int.toNat_natCast, hon]
    by_cases c1 : aOn D M j = 0
    · rw [if_pos c1, k_wayByLaw hc hM hr' i2' hs, gb_s, gdix (by omega) (by omega), gs_s]
      refine fin _ ?_ (fun x hx => gu_r (by omega))
      unfold aTrn
      rw [if_pos c1]
      exact TR_goes hc i2' hs
    · rw [if_neg c1]
      refine fin hx ?_ (gF_id t hx)
      unfold aTrn
      rw [if_neg c1, nu_self]
      exact i2'
  · intro n x hx
    obtain ⟨xi, hx'⟩ := x
    obtain ⟨i1, i2, i3⟩ := hx
    have i1' : xi = (S : Int) := i1
    subst i1'
    show f_Traffic_passOne_L106 t k (n + 1) (S : Int) hx' = k hx'
    have i2' : TR D hx' c t (gfold (aEnt D) S N2) := i2
    have i3' : gF t h hx' := i3
    have hr' := CR_F ht hr i3'
    have hc2 : hx' c 2 = D 83 2 := hr'.2.2.2.1
    rw [f_Traffic_passOne_L106, i2'.1, Int.toNat_natCast, gdcl (gsh_c hr.1), hc2, if_pos (by omega)]
theorem k_ph4 {D h : gH} (hc : cW D) (hd : dW D) {c t : Nat} (ht : 27 ≤ t) {N : Nat → Int} (hn : nW D 0 N) (htw : tW D N) (hr : CR D h c) (hT : TR D h c t (aPh3 D (-1) N)) (k : gH → Option gO) : ∃ h', f_Traffic_passOne_L150 t k 50000 0 h = k h' ∧ TR D h' c t (aPh4 D (-1) N) ∧ gF t h h' := by
  have hC : 0 ≤ D 83 6 ∧ D 83 6 ≤ 6 := hc.2.2.1
  obtain ⟨C, hCe⟩ : ∃ C : Nat, D 83 6 = (C : Int) := ⟨(D 83 6).toNat, by omega⟩
  have e2 : aPh4 D (-1) N = gfold (aTir D) C (aPh3 D (-1) N) := by
    unfold aPh4
    rw [hCe, Int.toNat_natCast]
  have hnn := pW_ph4 hc hd (-1) hn htw
  generalize aPh3 D (-1) N = N2 at hT e2 hnn
  have key := gloopI (S := Int × gH) (F := fun n x => f_Traffic_passOne_L150 t k n x.1 x.2) (K := fun x => k x.2) C (fun j x => x.1 = (j : Int) ∧ TR D x.2 c t (gfold (aTir D) j N2) ∧ gF t h x.2) ?_ ?_ 50000 (0, h) ⟨rfl, hT, gF_id t h⟩ (by omega)
  · obtain ⟨s', hs1, hs2⟩ := key
    rw [e2]
    exact ⟨s'.2, hs2, hs1.2.1, hs1.2.2⟩
  · intro n j x hj hx
    obtain ⟨xi, hx⟩ := x
    obtain ⟨i1, i2, i3⟩ := hx
    have i1' : xi = (j : Int) := i1
    subst i1'
    show ∃ s', _ ∧ f_Traffic_passOne_L150 t k (n + 1) (j : Int) hx = _
    have i2' : TR D hx c t (gfold (aTir D) j N2) := i2
    have i3' : gF t h hx := i3
    have hM := (hnn j (by omega)).1
    rw [gfold_succ]
    generalize gfold (aTir D) j N2 = M at hM i2' ⊢
    have hr' := CR_F ht hr i3'
    have hk : (j : Int) < D 83 6 := by omega
    obtain ⟨x0, x1, xS, xC⟩ := TR_iff.mp i2'
    have fin : ∀ h1, TR D h1 c t (aTir D j M) → gF t hx h1 → ∃ s' : Int × gH, (s'.1 = ((j + 1 : Nat) : Int) ∧ TR D s'.2 c t (aTir D j M) ∧ gF t h s'.2) ∧ f_Traffic_passOne_J176 t (f_Traffic_passOne_L150 t k n) (j : Int) h1 = f_Traffic_passOne_L150 t k n s'.1 s'.2 := fun h1 q1 q2 => by
      refine ⟨(((j + 1 : Nat) : Int), h1), ⟨rfl, q1, gF_tr i3' q2⟩, ?_⟩
      unfold f_Traffic_passOne_J176
      rw [ga_s (by omega)]
    have hc3 : hx c 3 = D 83 6 := hr'.2.2.2.2.1
    rw [f_Traffic_passOne_L150, x0, Int.toNat_natCast, gdcl (gsh_c hr.1), hc3, if_neg (by omega), gdix (by omega) (by omega), Int.toNat_natCast, (xC j hk).2.1]
    by_cases c1 : M (26 + j) = 1
    · rw [if_pos c1]
      obtain ⟨h', g1, g2, g3⟩ := k_lose hc ht hM hr' i2' hk c1
      rw [g1, gb_s]
      exact fin h' g2 g3
    · rw [if_neg c1]
      refine fin hx ?_ (gF_id t hx)
      unfold aTir
      rw [if_neg c1]
      exact i2'
  · intro n x hx
    obtain ⟨xi, hx'⟩ := x
    obtain ⟨i1, i2, i3⟩ := hx
    have i1' : xi = (C : Int) := i1
    subst i1'
    show f_Traffic_passOne_L150 t k (n + 1) (C : Int) hx' = k hx'
    have i2' : TR D hx' c t (gfold (aTir D) C N2) := i2
    have i3' : gF t h hx' := i3
    have hr' := CR_F ht hr i3'
    have hc3 : hx' c 3 = D 83 6 := hr'.2.2.2.2.1
    rw [f_Traffic_passOne_L150, i2'.1, Int.toNat_natCast, gdcl (gsh_c hr.1), hc3, if_pos (by omega)]
def kG (t : Nat) (h h' : gH) : Prop := (∀ x, x < t ∨ t + 10 ≤ x → h' x = h x) ∧ ∀ y, y ≠ 1 → h' t y = h t y
theorem kG_id (t : Nat) (h : gH) : kG t h h := ⟨fun _ _ => rfl, fun _ _ => rfl⟩
theorem kG_tr {t : Nat} {h h1 h2 : gH} (a : kG t h h1) (b : kG t h1 h2) : kG t h h2 := ⟨fun x hx => (b.1 x hx).trans (a.1 x hx), fun y hy => (b.2 y hy).trans (a.2 y hy)⟩
theorem kG_F {t : Nat} {h h' : gH} (a : gF t h h') : kG t h h' := ⟨fun x hx => a x (by omega), fun y hy => by rw [a t (by omega)]⟩
theorem CR_G {D h h' : gH} {c t : Nat} (ht : 27 ≤ t) (hr : CR D h c) (hf : kG t h h') : CR D h' c := CR_fr hr (fun x hx => hf.1 x (by omega))
theorem TR_min {D h : gH} (hc : cW D) {c t : Nat} {N : Nat → Int} {v : Int} (hT : TR D h c t N) : TR D (gup h t 1 v) c t (nu N 0 v) := by
  obtain ⟨x0, x1, xS, xC⟩ := TR_iff.mp hT
  rw [TR_iff]
  refine ⟨by rw [gu_o (by decide)]; exact x0, by rw [gu_at, nu_at], fun s' hs' => ?_, fun k hk => ?_⟩
  · obtain ⟨y1, y2, y3, y4, y5⟩ := xS s' hs'
    rw [gu_r (by omega), gu_r (by omega), gu_r (by omega), gu_r (by omega), nu_ne (by omega), nu_ne (by omega)]
    refine ⟨y1, y2, sI_same y3 (fun i hi => ?_), sI_same y4 (fun i hi => ?_), sI_same y5 (fun i hi => ?_)⟩
    · unfold aOnB; rw [nu_ne (by omega), nu_ne (by omega)]
    · unfold aW aNk; rw [nu_ne (by omega), nu_ne (by omega)]
    · unfold aW aNk; rw [nu_ne (by omega), nu_ne (by omega)]
  · rw [gu_r (by omega), gu_r (by omega), gu_r (by omega), gu_r (by omega), gu_r (by omega), nu_ne (by omega), nu_ne (by omega), nu_ne (by omega), nu_ne (by omega), nu_ne (by omega)]
    exact xC k hk
theorem k_passOne {D h : gH} (hc : cW D) (hd : dW D) {c t : Nat} (ht : 27 ≤ t) {N : Nat → Int} (hn : nW D 0 N) (htw : tW D N) (hr : CR D h c) (hT : TR D h c t N) : ∃ h', f_Traffic_passOne t h = some (h', 0) ∧ TR D h' c t (aPass D (-1) N) ∧ kG t h h' := by
  have hN0 := hn.1
  unfold f_Traffic_passOne
  obtain ⟨h1, e1, t1, f1⟩ := k_ph12 hc ht hn hr hT (fun h14 => f_Traffic_passOne_L106 t (fun h23 => f_Traffic_passOne_L150 t (fun h29 => gs (gup h29 t 1 (gadd (h29 t 1) 1)) (fun h30 => some (h30, 0))) 50000 0 h23) 50000 0 h14)
  have r1 := CR_F ht hr f1
  obtain ⟨h2, e2, t2, f2⟩ := k_ph3 hc hd ht hn htw r1 t1 (fun h23 => f_Traffic_passOne_L150 t (fun h29 => gs (gup h29 t 1 (gadd (h29 t 1) 1)) (fun h30 => some (h30, 0))) 50000 0 h23)
  have r2 := CR_F ht r1 f2
  obtain ⟨h3, e3, t3, f3⟩ := k_ph4 hc hd ht hn htw r2 t2 (fun h29 => gs (gup h29 t 1 (gadd (h29 t 1) 1)) (fun h30 => some (h30, 0)))
  rw [e1, e2, e3, gs_s]
  have e0 := @aPh4_0 D (-1) N
  have h31 : h3 t 1 = N 0 := by rw [t3.2.1, e0]
  refine ⟨_, rfl, ?_, ?_⟩
  · unfold aPass
    rw [h31, gadd_eq (by omega) (by omega), e0]
    exact TR_min hc t3
  · have g3 : kG t h h3 := kG_F (gF_tr f1 (gF_tr f2 f3))
    refine ⟨fun x hx => ?_, fun y hy => ?_⟩
    · rw [gu_r (by omega)]; exact g3.1 x hx
    · rw [gu_o hy]; exact g3.2 y hy
