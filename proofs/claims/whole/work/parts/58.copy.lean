/- PURE: traffic copied, laws decreed, one number put -/
def T4 (t : Nat) : Prop := t = 27 ∨ t = 37 ∨ t = 48 ∨ t = 58
theorem T4_27 {t : Nat} (h : T4 t) : 27 ≤ t := by unfold T4 at h; omega
theorem gcp_r {h : gH} {s d n x : Nat} (hx : x ≠ d) : gcp h s 0 d 0 n x = h x := by
  funext y
  unfold gcp
  rw [if_neg (fun q => hx q.1)]
theorem gcp_in {h : gH} {s d n y : Nat} (hy : y < n) : gcp h s 0 d 0 n d y = h s y := by
  unfold gcp
  rw [if_pos ⟨rfl, by omega, by omega⟩, show 0 + (y - 0) = y by omega]
theorem gcpok_t {p t i : Nat} (hp : T4 p) (ht : T4 t) : (gcpok (p + 1) (t + 1) 0 0 9 = true ∧ gcpok (p + 2) (t + 2) 0 0 9 = true ∧ gcpok (p + 3) (t + 3) 0 0 9 = true ∧ gcpok (p + 4) (t + 4) 0 0 18 = true) ∧ gcpok (p + 5) (t + 5) 0 0 6 = true ∧ gcpok (p + 6) (t + 6) 0 0 6 = true ∧ gcpok (p + 7) (t + 7) 0 0 6 = true ∧ gcpok (p + 8) (t + 8) 0 0 6 = true ∧ gcpok (p + 9) (t + 9) 0 0 6 = true := by
  rcases hp with rfl | rfl | rfl | rfl <;> rcases ht with rfl | rfl | rfl | rfl <;> decide +kernel
theorem k_copy {D h : gH} (hc : cW D) {c t p : Nat} {N : Nat → Int} (hp : T4 p) (ht : T4 t) (hpt : p ≠ t) (hr : CR D h c) (hT : TR D h c p N) : ∃ h', f_Traffic_copyFrom t p h = some (h', 0) ∧ TR D h' c t N ∧ h' t 2 = h p 2 ∧ kH t h h' := by
  have hC : 0 ≤ D 83 6 ∧ D 83 6 ≤ 6 := hc.2.2.1
  have hS : 0 ≤ D 83 2 ∧ D 83 2 ≤ 9 := hc.2.1
  obtain ⟨⟨o1, o2, o3, o4⟩, o5, o6, o7, o8, o9⟩ := gcpok_t (i := 0) hp ht
  obtain ⟨x0, x1, xS, xC⟩ := TR_iff.mp hT
  unfold T4 at hp ht
  have hne : ∀ i j : Nat, i < 10 → j < 10 → p + i ≠ t + j := fun i j hi hj => by omega
  have hne0 : ∀ j : Nat, j < 10 → p ≠ t + j := fun j hj => by omega
  have hnt : ∀ i : Nat, i < 10 → p + i ≠ t := fun i hi => by omega
  unfold f_Traffic_copyFrom
  rw [x0, Int.toNat_natCast, gdcl (gsh_c hr.1)]
  simp only [gs_s, gd_t o1, gd_t o2, gd_t o3, gd_t o4, gd_t o5, gd_t o6, gd_t o7, gd_t o8, gd_t o9]
  refine ⟨_, rfl, ?_, ?_, ?_⟩
  · rw [TR_iff]
    refine ⟨?_, ?_, fun s hs => ?_, fun k hk => ?_⟩
    · simp (disch := omega) only [gcp_r, gu_r, gu_o, gu_at]
    · simp (disch := omega) only [gcp_r, gu_r, gu_o, gu_at]
      exact x1
    · have e1 := xS s hs
      simp (disch := omega) only [gcp_r, gcp_in, gu_r, gu_o, gu_at]
      exact e1
    · have e1 := xC k hk
      simp (disch := omega) only [gcp_r, gcp_in, gu_r, gu_o, gu_at]
      exact e1
  · simp (disch := omega) only [gcp_r, gu_r, gu_o, gu_at]
  · intro x hx
    simp (disch := omega) only [gcp_r, gu_r]
theorem TR_law {D h : gH} (hc : cW D) {c t s : Nat} {N : Nat → Int} {v : Int} (hT : TR D h c t N) (hs : (s : Int) < D 83 2) : TR D (gup h (t + 1) s v) c t (nu N (2 + s) v) := by
  have hC : D 83 6 ≤ 6 := hc.2.2.1.2
  have hS : D 83 2 ≤ 9 := hc.2.1.2
  obtain ⟨x0, x1, xS, xC⟩ := TR_iff.mp hT
  rw [TR_iff]
  refine ⟨by rw [gu_r (by omega)]; exact x0, by rw [gu_r (by omega), nu_ne (by omega)]; exact x1, fun s' hs' => ?_, fun k hk => ?_⟩
  · obtain ⟨y1, y2, y3, y4, y5⟩ := xS s' hs'
    rw [gu_r (show t + 2 ≠ t + 1 by omega), gu_r (show t + 3 ≠ t + 1 by omega), gu_r (show t + 4 ≠ t + 1 by omega), nu_ne (show 11 + s' ≠ 2 + s by omega)]
    refine ⟨?_, y2, sI_same y3 (fun i hi => ?_), sI_same y4 (fun i hi => ?_), sI_same y5 (fun i hi => ?_)⟩
    · by_cases e : s' = s
      · subst e; rw [gu_at, nu_at]
      · rw [gu_o e, nu_ne (by omega)]; exact y1
    · unfold aOnB; rw [nu_ne (by omega), nu_ne (by omega)]
    · unfold aW aNk; rw [nu_ne (by omega), nu_ne (by omega)]
    · unfold aW aNk; rw [nu_ne (by omega), nu_ne (by omega)]
  · rw [gu_r (by omega), gu_r (by omega), gu_r (by omega), gu_r (by omega), gu_r (by omega), nu_ne (by omega), nu_ne (by omega), nu_ne (by omega), nu_ne (by omega), nu_ne (by omega)]
    exact xC k hk
theorem TR_rank {D h : gH} (hc : cW D) {c t k : Nat} {N : Nat → Int} {v : Int} (hT : TR D h c t N) (hk : (k : Int) < D 83 6) : TR D (gup h (t + 5) k v) c t (nu N (20 + k) v) := by
  have hC : D 83 6 ≤ 6 := hc.2.2.1.2
  have hS : D 83 2 ≤ 9 := hc.2.1.2
  obtain ⟨x0, x1, xS, xC⟩ := TR_iff.mp hT
  rw [TR_iff]
  refine ⟨by rw [gu_r (by omega)]; exact x0, by rw [gu_r (by omega), nu_ne (by omega)]; exact x1, fun s' hs' => ?_, fun i hi => ?_⟩
  · obtain ⟨y1, y2, y3, y4, y5⟩ := xS s' hs'
    rw [gu_r (by omega), gu_r (by omega), gu_r (by omega), gu_r (by omega), nu_ne (by omega), nu_ne (by omega)]
    refine ⟨y1, y2, sI_same y3 (fun i hi => ?_), sI_same y4 (fun i hi => ?_), sI_same y5 (fun i hi => ?_)⟩
    · unfold aOnB; rw [nu_ne (by omega), nu_ne (by omega)]
    · unfold aW aNk; rw [nu_ne (by omega), nu_ne (by omega)]
    · unfold aW aNk; rw [nu_ne (by omega), nu_ne (by omega)]
  · obtain ⟨z1, z2, z3, z4, z5⟩ := xC i hi
    rw [gu_r (show t + 6 ≠ t + 5 by omega), gu_r (show t + 7 ≠ t + 5 by omega), gu_r (show t + 8 ≠ t + 5 by omega), gu_r (show t + 9 ≠ t + 5 by omega), nu_ne (show 26 + i ≠ 20 + k by omega), nu_ne (show 32 + i ≠ 20 + k by omega), nu_ne (show 38 + i ≠ 20 + k by omega), nu_ne (show 44 + i ≠ 20 + k by omega)]
    refine ⟨?_, z2, z3, z4, z5⟩
    by_cases e : i = k
    · subst e; rw [gu_at, nu_at]
    · rw [gu_o e, nu_ne (by omega)]; exact z1
/- one who is ahead is put to the inn -/
theorem TR_inn {D h : gH} (hc : cW D) {c t k : Nat} {N : Nat → Int} (hT : TR D h c t N) (hk : (k : Int) < D 83 6) (h1 : N (26 + k) ≠ 1) (h2 : N (26 + k) ≠ 2) : TR D (gup h (t + 6) k 4) c t (nu N (26 + k) 4) := by
  have hC : D 83 6 ≤ 6 := hc.2.2.1.2
  have hS : D 83 2 ≤ 9 := hc.2.1.2
  obtain ⟨x0, x1, xS, xC⟩ := TR_iff.mp hT
  rw [TR_iff]
  refine ⟨by rw [gu_r (by omega)]; exact x0, by rw [gu_r (by omega), nu_ne (by omega)]; exact x1, ?_, fun i hi => ?_⟩
  · refine TS_gen hc hk xS (nu26_off N k 4) (gu_r (by omega)) (gu_r (by omega)) (fun s hs => Or.inl ⟨by rw [gu_r (by omega)], ?_⟩) (fun s hs => ⟨Or.inl ⟨by rw [gu_r (by omega)], ?_⟩, Or.inl ⟨by rw [gu_r (by omega)], ?_⟩⟩)
    · rw [aOnB_no (by rw [nu_at]; decide), aOnB_no h2]
    · rw [aW_no (by rw [nu_at]; decide), aW_no h1]
    · rw [aW_no (by rw [nu_at]; decide), aW_no h1]
  · obtain ⟨z1, z2, z3, z4, z5⟩ := xC i hi
    rw [gu_r (show t + 5 ≠ t + 6 by omega), gu_r (show t + 7 ≠ t + 6 by omega), gu_r (show t + 8 ≠ t + 6 by omega), gu_r (show t + 9 ≠ t + 6 by omega), nu_ne (show 20 + i ≠ 26 + k by omega), nu_ne (show 32 + i ≠ 26 + k by omega), nu_ne (show 38 + i ≠ 26 + k by omega), nu_ne (show 44 + i ≠ 26 + k by omega)]
    refine ⟨z1, ?_, z3, z4, z5⟩
    by_cases e : i = k
    · subst e; rw [gu_at, nu_at]
    · rw [gu_o e, nu_ne (by omega)]; exact z2
def aLwF (st w : Int) (q : Nat) (N : Nat → Int) : Nat → Int := nu N (2 + q) (if st = -1 ∨ st = (q : Int) then w else N (2 + q))
def aLw (D : gH) (st w : Int) (N : Nat → Int) : Nat → Int := gfold (aLwF st w) (D 83 2).toNat N
theorem nW_lawset {c : gH} (hc : cW c) {w : Int} {N : Nat → Int} (hn : nW c w N) (ht : tW c N) {s : Nat} (hs : (s : Int) < c 83 2) {v : Int} (hv : 0 ≤ v ∧ v ≤ 4) : nW c w (nu N (2 + s) v) ∧ tW c (nu N (2 + s) v) := by
  have hC : c 83 6 ≤ 6 := hc.2.2.1.2
  have hS : c 83 2 ≤ 9 := hc.2.1.2
  refine ⟨?_, ?_⟩
  · rw [nW_kW] at hn ⊢
    obtain ⟨b1, b2, b3, b4⟩ := hn
    refine ⟨by rw [nu_ne (by omega)]; exact b1, by rw [nu_ne (by omega)]; exact b2, fun s' hs' => ?_, fun k hk => ?_⟩
    · rw [nu_ne (show 11 + s' ≠ 2 + s by omega)]
      refine ⟨?_, (b3 s' hs').2⟩
      by_cases e : s' = s
      · subst e; rw [nu_at]; exact hv
      · rw [nu_ne (by omega)]; exact (b3 s' hs').1
    · have hkw := b4 k hk
      exact kW_congr (fun hh => nu_ne (by omega)) (nu_ne (by omega)) (nu_ne (by omega)) (nu_ne (by omega)) (nu_ne (by omega)) (nu_ne (by omega)) (nu_ne (by omega)) hkw
  · unfold tW at ht ⊢
    rw [aTol_congr (N := N) (fun j hj => nu_ne (by omega)), nu_ne (by omega)]
    exact ht
theorem nW_rankset {c : gH} (hc : cW c) {w : Int} {N : Nat → Int} (hn : nW c w N) (ht : tW c N) {k : Nat} (hk : (k : Int) < c 83 6) {v : Int} (hv : 1 ≤ v ∧ v ≤ 9) : nW c w (nu N (20 + k) v) ∧ tW c (nu N (20 + k) v) := by
  have hC : c 83 6 ≤ 6 := hc.2.2.1.2
  have hS : c 83 2 ≤ 9 := hc.2.1.2
  refine ⟨?_, ?_⟩
  · rw [nW_kW] at hn ⊢
    obtain ⟨b1, b2, b3, b4⟩ := hn
    refine ⟨by rw [nu_ne (by omega)]; exact b1, by rw [nu_ne (by omega)]; exact b2, fun s' hs' => ?_, fun i hi => ?_⟩
    · rw [nu_ne (by omega), nu_ne (by omega)]; exact b3 s' hs'
    · by_cases e : i = k
      · subst e
        obtain ⟨a1, a2, a3, a4, a5, a6, a7⟩ := b4 i hi
        have ee : ∀ s : Nat, s < 9 → aEnd c (nu N (20 + i) v) s = aEnd c N s := fun s hs => by
          unfold aEnd
          rw [nu_ne (by omega)]
        unfold kW
        rw [nu_at, nu_ne (show 26 + i ≠ 20 + i by omega), nu_ne (show 32 + i ≠ 20 + i by omega), nu_ne (show 38 + i ≠ 20 + i by omega), nu_ne (show 44 + i ≠ 20 + i by omega), nu_ne (show 0 ≠ 20 + i by omega)]
        refine ⟨hv, a2, a3, a4, a5, a6, fun q => ?_⟩
        have := (a7 q).1
        rw [ee _ (by omega)]
        exact a7 q
      · have hkw := b4 i hi
        refine kW_congr (fun hh => ?_) (nu_ne (by omega)) (nu_ne (by omega)) (nu_ne (by omega)) (nu_ne (by omega)) (nu_ne (by omega)) (nu_ne (by omega)) hkw
        have hpl := (hkw.2.2.2.2.2.2 hh).1
        exact nu_ne (by omega)
  · unfold tW at ht ⊢
    rw [aTol_congr (N := N) (fun j hj => nu_ne (by omega)), nu_ne (by omega)]
    exact ht
theorem pW_lw {D : gH} (hc : cW D) {N : Nat → Int} (hn : nW D 0 N) (ht : tW D N) (st : Int) {w : Int} (hw : 0 ≤ w ∧ w ≤ 4) : ∀ j, j ≤ (D 83 2).toNat → nW D 0 (gfold (aLwF st w) j N) ∧ tW D (gfold (aLwF st w) j N) ∧ gfold (aLwF st w) j N 0 = N 0 := by
  have hS : 0 ≤ D 83 2 := hc.2.1.1
  exact gfold_inv (aLwF st w) (fun _ x => nW D 0 x ∧ tW D x ∧ x 0 = N 0) N ⟨hn, ht, rfl⟩ (D 83 2).toNat (fun j x hj hx => by
    unfold aLwF
    obtain ⟨q1, q2⟩ := nW_lawset hc hx.1 hx.2.1 (s := j) (by omega) (v := if st = -1 ∨ st = (j : Int) then w else x (2 + j)) (by
      split
      · exact hw
      · exact (hx.1.2.2.1 j (by omega)).1)
    exact ⟨q1, q2, by rw [nu_ne (by omega)]; exact hx.2.2⟩)
theorem k_decree {D h : gH} (hc : cW D) {c t : Nat} (ht : 27 ≤ t) {N : Nat → Int} (hr : CR D h c) (hT : TR D h c t N) (st w : Int) : ∃ h', f_Traffic_decreeLaw t st w h = some (h', 0) ∧ TR D h' c t (aLw D st w N) ∧ kG t h h' := by
  have hS : 0 ≤ D 83 2 ∧ D 83 2 ≤ 9 := hc.2.1
  obtain ⟨S, hSe⟩ : ∃ S : Nat, D 83 2 = (S : Int) := ⟨(D 83 2).toNat, by omega⟩
  unfold f_Traffic_decreeLaw aLw
  rw [hSe, Int.toNat_natCast]
  have key := gloopI (S := Int × gH) (F := fun n x => f_Traffic_decreeLaw_L2 t st w (fun h6 => some (h6, 0)) n x.1 x.2) (K := fun x => some (x.2, 0)) S (fun j x => x.1 = (j : Int) ∧ TR D x.2 c t (gfold (aLwF st w) j N) ∧ kG t h x.2) ?_ ?_ 50000 (0, h) ⟨rfl, hT, kG_id t h⟩ (by omega)
  · obtain ⟨s', hs1, hs2⟩ := key
    exact ⟨s'.2, hs2, hs1.2.1, hs1.2.2⟩
  · intro n j x hj hx
    obtain ⟨xi, hx⟩ := x
    obtain ⟨i1, i2, i3⟩ := hx
    have i1' : xi = (j : Int) := i1
    subst i1'
    show ∃ s', _ ∧ f_Traffic_decreeLaw_L2 t st w (fun h6 => some (h6, 0)) (n + 1) (j : Int) hx = _
    have i2' : TR D hx c t (gfold (aLwF st w) j N) := i2
    have i3' : kG t h hx := i3
    rw [gfold_succ]
    generalize gfold (aLwF st w) j N = M at i2' ⊢
    have hrx := CR_G ht hr i3'
    have hc2 : hx c 2 = (S : Int) := by rw [hrx.2.2.2.1, hSe]
    rw [f_Traffic_decreeLaw_L2, i2'.1, Int.toNat_natCast, gdcl (gsh_c hr.1), hc2, if_neg (by omega)]
    unfold f_Traffic_decreeLaw_J23 f_Traffic_decreeLaw_J30
    rw [gdix (by omega) (by omega), gs_s, ga_s (by omega), Int.toNat_natCast]
    have yes : (st = -1 ∨ st = (j : Int)) → ∃ s' : Int × gH, (s'.1 = ((j + 1 : Nat) : Int) ∧ TR D s'.2 c t (aLwF st w j M) ∧ kG t h s'.2) ∧ f_Traffic_decreeLaw_L2 t st w (fun h6 => some (h6, 0)) n ((j + 1 : Nat) : Int) (gup hx (t + 1) j w) = f_Traffic_decreeLaw_L2 t st w (fun h6 => some (h6, 0)) n s'.1 s'.2 := fun q => by
      have g1 : kG t hx (gup hx (t + 1) j w) := ⟨fun x hx' => gu_r (by omega), fun y hy => by rw [gu_r (by omega)]⟩
      refine ⟨(((j + 1 : Nat) : Int), gup hx (t + 1) j w), ⟨rfl, ?_, kG_tr i3' g1⟩, rfl⟩
      unfold aLwF
      rw [if_pos q]
      exact TR_law hc i2' (by omega)
    by_cases c1 : st = -1
    · rw [if_pos c1]; exact yes (Or.inl c1)
    · rw [if_neg c1]
      by_cases c2 : st = (j : Int)
      · rw [if_pos c2]; exact yes (Or.inr c2)
      · rw [if_neg c2]
        refine ⟨(((j + 1 : Nat) : Int), hx), ⟨rfl, ?_, i3'⟩, rfl⟩
        unfold aLwF
        rw [if_neg (by omega), nu_self]
        exact i2'
  · intro n x hx
    obtain ⟨xi, hx'⟩ := x
    obtain ⟨i1, i2, i3⟩ := hx
    have i1' : xi = (S : Int) := i1
    subst i1'
    show f_Traffic_decreeLaw_L2 t st w (fun h6 => some (h6, 0)) (n + 1) (S : Int) hx' = _
    have i2' : TR D hx' c t (gfold (aLwF st w) S N) := i2
    have i3' : kG t h hx' := i3
    have hrx := CR_G ht hr i3'
    have hc2 : hx' c 2 = (S : Int) := by rw [hrx.2.2.2.1, hSe]
    rw [f_Traffic_decreeLaw_L2, i2'.1, Int.toNat_natCast, gdcl (gsh_c hr.1), hc2, if_pos (by omega)]
theorem aLw_one {D : gH} (hc : cW D) {s : Nat} (hs : (s : Int) < D 83 2) (w : Int) (N : Nat → Int) : aLw D (s : Int) w N = nu N (2 + s) w := by
  have hS : 0 ≤ D 83 2 := hc.2.1.1
  unfold aLw
  have := gfold_inv (aLwF (s : Int) w) (fun j x => x = if s < j then nu N (2 + s) w else N) N (by rw [if_neg (by omega)]) (D 83 2).toNat (fun j x hj hx => by
    unfold aLwF
    rw [hx]
    by_cases e : s = j
    · subst e
      rw [if_pos (Or.inr rfl), if_neg (by omega), if_pos (by omega)]
    · rw [if_neg (show ¬ ((s : Int) = -1 ∨ (s : Int) = (j : Int)) by omega), nu_self]
      by_cases e2 : s < j
      · rw [if_pos e2, if_pos (by omega)]
      · rw [if_neg e2, if_neg (by omega)]) (D 83 2).toNat (Nat.le_refl _)
  rw [this, if_pos (by omega)]
