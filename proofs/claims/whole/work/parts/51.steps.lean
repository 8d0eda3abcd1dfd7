/- PURE: the class's steps of a minute -/
theorem gu_r {h : gH} {a k : Nat} {v : Int} {x : Nat} (hx : x ≠ a) : gup h a k v x = h x := by
  funext y
  rw [gupd, if_neg (fun q => hx q.1)]
theorem gu_at {h : gH} {a k : Nat} {v : Int} : gup h a k v a k = v := by rw [gupd, if_pos ⟨rfl, rfl⟩]
theorem gu_o {h : gH} {a k : Nat} {v : Int} {y : Nat} (hy : y ≠ k) : gup h a k v a y = h a y := by rw [gupd, if_neg (fun q => hy q.2)]
def gF (t : Nat) (h h' : gH) : Prop := ∀ x, x ≤ t ∨ t + 10 ≤ x → h' x = h x
theorem gF_id (t : Nat) (h : gH) : gF t h h := fun _ _ => rfl
theorem gF_tr {t : Nat} {h h1 h2 : gH} (a : gF t h h1) (b : gF t h1 h2) : gF t h h2 := fun x hx => (b x hx).trans (a x hx)
theorem CR_fr {D h h' : gH} {c : Nat} (hr : CR D h c) (he : ∀ x, x < 27 → h' x = h x) : CR D h' c := by
  obtain ⟨a0, a1, a2, a3, a4, a5, a6, a7⟩ := hr
  have hc : c ≤ 13 := by omega
  unfold CR
  rw [he c (by omega), he (c + 1) (by omega), he (c + 2) (by omega), he (c + 3) (by omega), he (c + 5) (by omega), he (c + 6) (by omega), he (c + 7) (by omega), he (c + 9) (by omega), he (c + 10) (by omega), he (c + 11) (by omega)]
  exact ⟨a0, a1, a2, a3, a4, a5, a6, a7⟩
theorem CR_F {D h h' : gH} {c t : Nat} (ht : 27 ≤ t) (hr : CR D h c) (hf : gF t h h') : CR D h' c := CR_fr hr (fun x hx => hf x (by omega))
def TS (D h : gH) (t : Nat) (N : Nat → Int) : Prop := ∀ s : Nat, (s : Int) < D 83 2 → h (t + 1) s = N (2 + s) ∧ h (t + 2) s = N (11 + s) ∧ sI (D 83 6) (h (t + 3) s) (aOnB N s) ∧ sI (D 83 6) (h (t + 4) (2 * s)) (aW D N s 0) ∧ sI (D 83 6) (h (t + 4) (2 * s + 1)) (aW D N s 1)
def TC (D h : gH) (t : Nat) (N : Nat → Int) : Prop := ∀ k : Nat, (k : Int) < D 83 6 → h (t + 5) k = N (20 + k) ∧ h (t + 6) k = N (26 + k) ∧ h (t + 7) k = N (32 + k) ∧ h (t + 8) k = N (38 + k) ∧ h (t + 9) k = N (44 + k)
theorem TR_iff {D h : gH} {c t : Nat} {N : Nat → Int} : TR D h c t N ↔ h t 0 = (c : Int) ∧ h t 1 = N 0 ∧ TS D h t N ∧ TC D h t N := Iff.rfl
def TX (D h : gH) (t : Nat) (N : Nat → Int) (k : Nat) : Prop := ∀ i : Nat, (i : Int) < D 83 6 → h (t + 5) i = N (20 + i) ∧ h (t + 9) i = N (44 + i) ∧ (i ≠ k → h (t + 6) i = N (26 + i) ∧ h (t + 7) i = N (32 + i) ∧ h (t + 8) i = N (38 + i))
def nOff (k : Nat) (N N' : Nat → Int) : Prop := ∀ j, j ≠ 26 + k → j ≠ 32 + k → j ≠ 38 + k → j ≠ 44 + k → j ≠ 1 → N' j = N j
theorem aW_off {D : gH} {N N' : Nat → Int} {k i : Nat} (hk : k < 6) (hi : i < 6) (ho : nOff k N N') (hik : i ≠ k) (s : Nat) (e : Int) : aW D N' s e i = aW D N s e i := by
  unfold aW aNk
  rw [ho (26 + i) (by omega) (by omega) (by omega) (by omega) (by omega), ho (32 + i) (by omega) (by omega) (by omega) (by omega) (by omega)]
theorem aOnB_off {N N' : Nat → Int} {k i : Nat} (hk : k < 6) (hi : i < 6) (ho : nOff k N N') (hik : i ≠ k) (s : Nat) : aOnB N' s i = aOnB N s i := by
  unfold aOnB
  rw [ho (26 + i) (by omega) (by omega) (by omega) (by omega) (by omega), ho (32 + i) (by omega) (by omega) (by omega) (by omega) (by omega)]
def dM (k : Nat) (m m' : Int) (P P' : Nat → Bool) : Prop := (m' = m ∧ P' k = P k) ∨ (m' = gor m (gshl 1 (k : Int)) ∧ P' k = true) ∨ (m' = gand m (gxor (gshl 1 (k : Int)) (-1)) ∧ P' k = false)
theorem sI_dM {C m m' : Int} {P P' : Nat → Bool} {k : Nat} (h : sI C m P) (hk : k < 6) (hkC : (k : Int) < C) (h2 : ∀ i : Nat, i ≠ k → (i : Int) < C → P' i = P i) (hd : dM k m m' P P') : sI C m' P' := by
  rcases hd with ⟨e, e2⟩ | ⟨e, e2⟩ | ⟨e, e2⟩
  · rw [e]
    refine sI_same h (fun i hi => ?_)
    by_cases q : i = k
    · rw [q, e2]
    · exact h2 i q hi
  · rw [e]; exact sI_ins h hk hkC e2 h2
  · rw [e]; exact sI_del h hk e2 h2
theorem TS_gen {D h h' : gH} (hc : cW D) {t k : Nat} {N N' : Nat → Int} (hk : (k : Int) < D 83 6) (hT : TS D h t N) (ho : nOff k N N') (h1 : h' (t + 1) = h (t + 1)) (h2 : h' (t + 2) = h (t + 2)) (h3 : ∀ s : Nat, (s : Int) < D 83 2 → dM k (h (t + 3) s) (h' (t + 3) s) (aOnB N s) (aOnB N' s)) (h4 : ∀ s : Nat, (s : Int) < D 83 2 → dM k (h (t + 4) (2 * s)) (h' (t + 4) (2 * s)) (aW D N s 0) (aW D N' s 0) ∧ dM k (h (t + 4) (2 * s + 1)) (h' (t + 4) (2 * s + 1)) (aW D N s 1) (aW D N' s 1)) : TS D h' t N' := by
  have hC : D 83 6 ≤ 6 := hc.2.2.1.2
  have hS : D 83 2 ≤ 9 := hc.2.1.2
  intro s hs
  obtain ⟨a1, a2, a3, a4, a5⟩ := hT s hs
  have hk6 : k < 6 := by omega
  refine ⟨?_, ?_, sI_dM a3 hk6 hk (fun i hi hiC => aOnB_off hk6 (by omega) ho hi s) (h3 s hs), sI_dM a4 hk6 hk (fun i hi hiC => aW_off hk6 (by omega) ho hi s 0) (h4 s hs).1, sI_dM a5 hk6 hk (fun i hi hiC => aW_off hk6 (by omega) ho hi s 1) (h4 s hs).2⟩
  · rw [h1, a1, ho (2 + s) (by omega) (by omega) (by omega) (by omega) (by omega)]
  · rw [h2, a2, ho (11 + s) (by omega) (by omega) (by omega) (by omega) (by omega)]
theorem aW_no {D : gH} {N : Nat → Int} {k s : Nat} {e : Int} (h : N (26 + k) ≠ 1) : aW D N s e k = false := by
  cases hq : aW D N s e k with
  | false => rfl
  | true => exact absurd (aW_iff.mp hq).1 h
theorem aOnB_no {N : Nat → Int} {k s : Nat} (h : N (26 + k) ≠ 2) : aOnB N s k = false := by
  unfold aOnB
  rw [decide_eq_false h, Bool.false_and]
theorem aOnB_yes {N : Nat → Int} {k s : Nat} (h : N (26 + k) = 2) (h2 : N (32 + k) = (s : Int)) : aOnB N s k = true := by
  unfold aOnB
  rw [decide_eq_true h, decide_eq_true h2]; rfl
theorem aOnB_ne {N : Nat → Int} {k s : Nat} (h2 : N (32 + k) ≠ (s : Int)) : aOnB N s k = false := by
  unfold aOnB
  rw [decide_eq_false h2, Bool.and_false]
/- a cart that waits stands in one set -/
theorem aNx_end {D : gH} (hc : cW D) {a b : Int} {s : Nat} (h : aNx D a b = (s : Int)) : (s : Int) < D 83 2 ∧ (D 84 s = a ∨ D 85 s = a) := by
  rcases aNx_spec hc a b with ⟨z1, -⟩ | ⟨s', z1, z2, z3, -⟩
  · omega
  · have es : s' = s := by omega
    subst es
    refine ⟨z2, ?_⟩
    have h1 := (aIs_iff.mp z3).1
    unfold aOther at h1
    by_cases c1 : D 84 s' = a
    · exact Or.inl c1
    · rw [if_neg c1] at h1
      by_cases c2 : D 85 s' = a
      · exact Or.inr c2
      · rw [if_neg c2] at h1; omega
def sd (D : gH) (s : Nat) (a : Int) : Nat := if D 84 s = a then 0 else 1
theorem aW_sd {D : gH} (hc : cW D) {N : Nat → Int} {k s : Nat} (h1 : N (26 + k) = 1) (h2 : aNx D (N (32 + k)) (D 88 k) = (s : Int)) (s' : Nat) : (aW D N s' 0 k = true ↔ s' = s ∧ sd D s (N (32 + k)) = 0) ∧ (aW D N s' 1 k = true ↔ s' = s ∧ sd D s (N (32 + k)) = 1) := by
  obtain ⟨z1, z2⟩ := aNx_end hc h2
  have hne := (hc.2.2.2.2.2.1 s z1).2.2.1
  unfold sd
  refine ⟨?_, ?_⟩
  · rw [aW_iff, if_pos rfl, h2]
    constructor
    · intro ⟨q1, q2, q3⟩
      have e : s' = s := by omega
      subst e
      exact ⟨rfl, by rw [if_pos q3.symm]⟩
    · intro ⟨q1, q2⟩
      subst q1
      refine ⟨h1, rfl, ?_⟩
      by_cases c1 : D 84 s' = N (32 + k)
      · exact c1.symm
      · rw [if_neg c1] at q2; omega
  · rw [aW_iff, if_neg (by decide), h2]
    constructor
    · intro ⟨q1, q2, q3⟩
      have e : s' = s := by omega
      subst e
      refine ⟨rfl, ?_⟩
      rw [if_neg (fun q => hne (by rw [q, q3]))]
    · intro ⟨q1, q2⟩
      subst q1
      refine ⟨h1, rfl, ?_⟩
      by_cases c1 : D 84 s' = N (32 + k)
      · rw [if_pos c1] at q2; omega
      · exact (z2.resolve_left c1).symm
theorem sd_lt (D : gH) (s : Nat) (a : Int) : sd D s a = 0 ∨ sd D s a = 1 := by
  unfold sd
  split
  · exact Or.inl rfl
  · exact Or.inr rfl
def S3 (h : gH) (t k : Nat) (st wh : Int) : gH := gup (gup (gup h (t + 6) k st) (t + 7) k wh) (t + 8) k (h t 1)
theorem S3_r {h : gH} {t k : Nat} {st wh : Int} {x : Nat} (h6 : x ≠ t + 6) (h7 : x ≠ t + 7) (h8 : x ≠ t + 8) : S3 h t k st wh x = h x := by
  unfold S3
  rw [gu_r h8, gu_r h7, gu_r h6]
theorem S3_F (h : gH) (t k : Nat) (st wh : Int) : gF t h (S3 h t k st wh) := fun x hx => S3_r (by omega) (by omega) (by omega)
theorem k_settle {h : gH} {t k : Nat} (hk : k < 6) (st wh : Int) : f_Traffic_settle t (k : Int) st wh h = some (S3 h t k st wh, 0) := by
  unfold f_Traffic_settle
  simp (disch := omega) only [gdix, gs_s, Int.toNat_natCast, gu_r]
  rfl
def nS (N : Nat → Int) (k : Nat) (st wh : Int) : Nat → Int := nu (nu (nu N (32 + k) wh) (38 + k) (N 0)) (26 + k) st
theorem nS_off (N : Nat → Int) (k : Nat) (st wh : Int) : nOff k N (nS N k st wh) := by
  intro j h1 h2 h3 h4 h5
  unfold nS
  rw [nu_ne h1, nu_ne h3, nu_ne h2]
theorem TC_settle {D h : gH} (hc : cW D) {t k : Nat} {N : Nat → Int} (hk : (k : Int) < D 83 6) (hX : TX D h t N k) (h0 : h t 1 = N 0) (st wh : Int) : TC D (S3 h t k st wh) t (nS N k st wh) := by
  have hC : D 83 6 ≤ 6 := hc.2.2.1.2
  intro i hi
  obtain ⟨a1, a2, a3⟩ := hX i hi
  have ho := nS_off N k st wh
  rw [S3_r (show t + 5 ≠ t + 6 by omega) (by omega) (by omega), S3_r (show t + 9 ≠ t + 6 by omega) (by omega) (by omega)]
  by_cases e : i = k
  · subst e
    unfold S3 nS
    simp (disch := omega) only [nu_at, nu_ne, gu_r, gu_at]
    exact ⟨a1, trivial, trivial, h0, a2⟩
  · obtain ⟨b1, b2, b3⟩ := a3 e
    rw [ho (20 + i) (by omega) (by omega) (by omega) (by omega) (by omega), ho (26 + i) (by omega) (by omega) (by omega) (by omega) (by omega), ho (32 + i) (by omega) (by omega) (by omega) (by omega) (by omega), ho (38 + i) (by omega) (by omega) (by omega) (by omega) (by omega)]
    have e44 : nS N k st wh (44 + i) = N (44 + i) := by
      unfold nS
      simp (disch := omega) only [nu_ne]
    rw [e44]
    unfold S3
    simp (disch := omega) only [gu_r, gu_o]
    exact ⟨a1, b1, b2, b3, a2⟩
theorem TX_TC {D h : gH} {t k : Nat} {N : Nat → Int} (hT : TC D h t N) : TX D h t N k := fun i hi => by
  obtain ⟨a1, a2, a3, a4, a5⟩ := hT i hi
  exact ⟨a1, a5, fun _ => ⟨a2, a3, a4⟩⟩
/- one that is neither on a street nor waits is put somewhere where he does neither -/
theorem TS_S3 {D h : gH} {t k : Nat} {N : Nat → Int} {st wh : Int} (hT : TS D h t N) : TS D (S3 h t k st wh) t N := by
  intro s hs
  rw [S3_r (show t + 1 ≠ t + 6 by omega) (by omega) (by omega), S3_r (show t + 2 ≠ t + 6 by omega) (by omega) (by omega), S3_r (show t + 3 ≠ t + 6 by omega) (by omega) (by omega), S3_r (show t + 4 ≠ t + 6 by omega) (by omega) (by omega)]
  exact hT s hs
theorem nS_26 (N : Nat → Int) (k : Nat) (st wh : Int) : nS N k st wh (26 + k) = st := nu_at _ _ _
theorem nS_32 (N : Nat → Int) {k : Nat} (st wh : Int) : nS N k st wh (32 + k) = wh := by
  unfold nS
  simp (disch := omega) only [nu_at, nu_ne]
theorem nS_0 (N : Nat → Int) {k : Nat} (st wh : Int) : nS N k st wh 0 = N 0 := by
  unfold nS
  simp (disch := omega) only [nu_at, nu_ne]
theorem TS_calm {D h : gH} (hc : cW D) {t k : Nat} {N : Nat → Int} (hk : (k : Int) < D 83 6) (hT : TS D h t N) (h1 : N (26 + k) ≠ 1) (h2 : N (26 + k) ≠ 2) {st wh : Int} (h3 : st ≠ 1) (h4 : st ≠ 2) : TS D h t (nS N k st wh) := by
  refine TS_gen hc hk hT (nS_off N k st wh) rfl rfl (fun s hs => Or.inl ⟨rfl, ?_⟩) (fun s hs => ⟨Or.inl ⟨rfl, ?_⟩, Or.inl ⟨rfl, ?_⟩⟩)
  · rw [aOnB_no h2, aOnB_no (by rw [nS_26]; exact h4)]
  · rw [aW_no h1, aW_no (by rw [nS_26]; exact h3)]
  · rw [aW_no h1, aW_no (by rw [nS_26]; exact h3)]
theorem k_waitAt {D h : gH} (hc : cW D) {c t k a : Nat} (ht : 27 ≤ t) {N : Nat → Int} (hr : CR D h c) (h0 : h t 0 = (c : Int)) (h1 : h t 1 = N 0) (hk : (k : Int) < D 83 6) (ha : (a : Int) < D 83 0) (hT : TS D h t N) (hX : TX D h t N k) (hn1 : N (26 + k) ≠ 1) (hn2 : N (26 + k) ≠ 2) : ∃ h', f_Traffic_waitAt t (k : Int) (a : Int) h = some (h', 0) ∧ TR D h' c t (nS N k (if 0 ≤ aNx D (a : Int) (D 88 k) then 1 else 4) (a : Int)) ∧ gF t h h' := by
  have hC : D 83 6 ≤ 6 := hc.2.2.1.2
  have hS : D 83 2 ≤ 9 := hc.2.1.2
  have hK : D 83 0 ≤ 7 := hc.1.2
  have hck := hc.2.2.2.2.2.2.1 k hk
  obtain ⟨b, hb⟩ : ∃ b : Nat, D 88 k = (b : Int) := ⟨(D 88 k).toNat, by omega⟩
  have hbK : (b : Int) < D 83 0 := by omega
  have e6 : h (c + 6) k = (b : Int) := by rw [(hr.2.2.2.2.2.2.1 k hk).2.1, hb]
  unfold f_Traffic_waitAt
  rw [h0, Int.toNat_natCast, gdcl (gsh_c hr.1), gdcl (gsh_c hr.1), gdix (by omega) (by omega), Int.toNat_natCast, e6, k_next hc hr ha hbK, gb_s, hb]
  have hin := aNx_in D hc (a : Int) (b : Int)
  by_cases c1 : aNx D (a : Int) (b : Int) = -1
  · rw [if_pos c1, if_neg (show ¬ 0 ≤ aNx D (a : Int) (b : Int) by omega), k_settle (by omega), gb_s]
    refine ⟨_, rfl, ?_, S3_F h t k 4 (a : Int)⟩
    rw [TR_iff]
    refine ⟨?_, ?_, TS_calm hc hk (TS_S3 hT) hn1 hn2 (by decide) (by decide), TC_settle hc hk hX h1 4 (a : Int)⟩
    · rw [S3_r (by omega) (by omega) (by omega)]; exact h0
    · rw [S3_r (by omega) (by omega) (by omega), nS_0]; exact h1
  · obtain ⟨s, hs⟩ : ∃ s : Nat, aNx D (a : Int) (b : Int) = (s : Int) := ⟨(aNx D (a : Int) (b : Int)).toNat, by omega⟩
    have hs2 : (s : Int) < D 83 2 := by omega
    rw [if_neg c1, if_pos (show 0 ≤ aNx D (a : Int) (b : Int) by omega), k_settle (by omega), gb_s, hs]
    have r0 : ∀ st wh : Int, S3 h t k st wh t = h t := fun st wh => S3_r (by omega) (by omega) (by omega)
    have hr' : CR D (S3 h t k 1 (a : Int)) c := CR_F ht hr (S3_F h t k 1 (a : Int))
    rw [r0, h0, Int.toNat_natCast, gdcl (gsh_c hr.1), k_sideOf hr' hs2 hS (a : Int), gb_s]
    have hsd : (if D 84 s = (a : Int) then (0 : Int) else 1) = ((sd D s (a : Int) : Nat) : Int) := by
      unfold sd
      split <;> rfl
    have hsl := sd_lt D s (a : Int)
    rw [hsd]
    have ei : gadd (gmul 2 (s : Int)) ((sd D s (a : Int) : Nat) : Int) = ((2 * s + sd D s (a : Int) : Nat) : Int) := by
      rw [gmul_eq (by omega) (by omega), gadd_eq (by omega) (by omega)]; omega
    rw [ei, gdix (by omega) (by omega), gdix (by omega) (by omega), gs_s, Int.toNat_natCast]
    refine ⟨_, rfl, ?_, ?_⟩
    · rw [TR_iff]
      refine ⟨?_, ?_, ?_, ?_⟩
      · rw [gu_r (by omega), r0]; exact h0
      · rw [gu_r (by omega), r0, nS_0]; exact h1
      · have e26 := nS_26 N k 1 (a : Int)
        have e32 := @nS_32 N k 1 (a : Int)
        have hw := aW_sd hc (N := nS N k 1 (a : Int)) (k := k) (s := s) e26 (by rw [e32, hb, hs])
        rw [e32] at hw
        refine TS_gen hc hk (TS_S3 (k := k) (st := 1) (wh := (a : Int)) hT) (nS_off N k 1 (a : Int)) (gu_r (by omega)) (gu_r (by omega)) (fun s' hs' => Or.inl ⟨by rw [gu_r (by omega)], ?_⟩) (fun s' hs' => ?_)
        · rw [aOnB_no hn2, aOnB_no (by rw [e26]; decide)]
        · refine ⟨?_, ?_⟩
          · by_cases q : s' = s ∧ sd D s (a : Int) = 0
            · obtain ⟨q1, q2⟩ := q
              subst q1
              refine Or.inr (Or.inl ⟨?_, (hw s').1.mpr ⟨rfl, q2⟩⟩)
              rw [q2, show 2 * s' + 0 = 2 * s' by omega, gu_at]
            · refine Or.inl ⟨?_, ?_⟩
              · rw [gu_o (by omega)]
              · rw [aW_no hn1]
                cases hq : aW D (nS N k 1 (a : Int)) s' 0 k with
                | false => rfl
                | true => exact absurd ((hw s').1.mp hq) q
          · by_cases q : s' = s ∧ sd D s (a : Int) = 1
            · obtain ⟨q1, q2⟩ := q
              subst q1
              refine Or.inr (Or.inl ⟨?_, (hw s').2.mpr ⟨rfl, q2⟩⟩)
              rw [q2, gu_at]
            · refine Or.inl ⟨?_, ?_⟩
              · rw [gu_o (by omega)]
              · rw [aW_no hn1]
                cases hq : aW D (nS N k 1 (a : Int)) s' 1 k with
                | false => rfl
                | true => exact absurd ((hw s').2.mp hq) q
      · have := TC_settle hc hk hX h1 1 (a : Int)
        intro i hi
        rw [gu_r (by omega), gu_r (by omega), gu_r (by omega), gu_r (by omega), gu_r (by omega)]
        exact this i hi
    · intro x hx
      rw [gu_r (by omega), S3_r (by omega) (by omega) (by omega)]
