/- PURE: draws; copies; laws decreed -/
def nx (s : Int) : Int := (s * 1103515245 + 12345) % 2147483648
theorem nx_in (s : Int) : 0 ≤ nx s ∧ nx s ≤ 2147483647 := by unfold nx; omega
theorem gl2i_eq {x : Int} (h0 : 0 ≤ x) (h1 : x ≤ 2147483647) : gl2i x = x := by
  unfold gl2i
  rw [Int64.toInt_toInt32, g64 ⟨by omega, by omega⟩]
  exact Int.bmod_eq_of_le (by omega) (by omega)
theorem glma {s : Int} (h0 : 0 ≤ s) (h1 : s ≤ 2147483647) : gladd (glmul s 1103515245) 12345 = s * 1103515245 + 12345 := by
  unfold gladd glmul
  rw [← Int64.ofInt_mul, g64 (x := s * 1103515245) ⟨by omega, by omega⟩, ← Int64.ofInt_add]
  exact g64 ⟨by omega, by omega⟩
theorem draw_m {s : Int} (h0 : 0 ≤ s) (h1 : s ≤ 2147483647) : gl2i (glrem (gladd (glmul s 1103515245) 12345) 2147483648) = nx s := by
  rw [glma h0 h1]
  have hq : 0 ≤ s * 1103515245 + 12345 ∧ s * 1103515245 + 12345 < 4611686018427387904 := by omega
  unfold nx
  generalize s * 1103515245 + 12345 = x at hq ⊢
  have e : glrem x 2147483648 = x % 2147483648 := by
    unfold glrem
    have e2 : Int64.ofInt x / Int64.ofInt 2147483648 = Int64.ofInt (x / 2147483648) := by
      rw [← Int64.toInt_inj, Int64.toInt_div, g64 ⟨by omega, by omega⟩, g64 ⟨by omega, by omega⟩, Int.tdiv_eq_ediv_of_nonneg hq.1, Int64.toInt_ofInt]
    rw [e2, ← Int64.ofInt_mul, ← Int64.ofInt_sub]
    have h3 : x - x / 2147483648 * 2147483648 = x % 2147483648 := by omega
    rw [h3]
    exact g64 ⟨by omega, by omega⟩
  rw [e]
  exact gl2i_eq (by omega) (by omega)
theorem draw_k {s : Int} (h0 : 0 ≤ s) (h1 : s ≤ 2147483647) : gl2i (gland (gladd (glmul s 1103515245) 12345) 2147483647) = nx s := by
  rw [glma h0 h1]
  have hq : 0 ≤ s * 1103515245 + 12345 ∧ s * 1103515245 + 12345 < 4611686018427387904 := by omega
  unfold nx
  generalize s * 1103515245 + 12345 = x at hq ⊢
  have e : gland x 2147483647 = x % 2147483648 := by
    obtain ⟨n, rfl⟩ : ∃ n : Nat, x = (n : Int) := ⟨x.toNat, by omega⟩
    unfold gland
    have e2 : Int64.ofInt (n : Int) &&& Int64.ofInt 2147483647 = Int64.ofNat (n % 2147483648) := by
      rw [show (2147483647 : Int) = ((2147483647 : Nat) : Int) from rfl, Int64.ofInt_eq_ofNat, Int64.ofInt_eq_ofNat]
      have e3 : n % 2147483648 = n &&& 2147483647 := (Nat.and_two_pow_sub_one_eq_mod n 31).symm
      rw [e3, ← Int64.toBitVec_inj, Int64.toBitVec_and]
      show BitVec.ofNat 64 n &&& BitVec.ofNat 64 2147483647 = BitVec.ofNat 64 (n &&& 2147483647)
      rw [BitVec.ofNat_and]
    rw [e2, Int64.toInt_ofNat_of_lt (by omega)]
    omega
  rw [e]
  exact gl2i_eq (by omega) (by omega)
def gsd (h : gH) (s : Int) (N : Nat → Int) : gH := gup (gnow h N) 83 13 s
theorem gsd_ct (h : gH) (s : Int) (N : Nat → Int) : ct (gsd h s N) = ct h := by
  have e : ct (gsd h s N) = ct (gnow h N) := by
    funext x y
    unfold ct gsd
    by_cases h1 : 84 ≤ x ∧ x ≤ 91
    · rw [if_pos h1, if_pos h1, gu_r (by omega)]
    · rw [if_neg h1, if_neg h1]
      by_cases h2 : x = 83
      · rw [if_pos h2, if_pos h2]
        by_cases h3 : y = 0 ∨ y = 1 ∨ y = 2 ∨ y = 6
        · rw [if_pos h3, if_pos h3, gu_o (by omega)]
        · rw [if_neg h3, if_neg h3]
      · rw [if_neg h2, if_neg h2]
  rw [e, ct_now]
theorem gsd_92 (h : gH) (s : Int) (N : Nat → Int) : gsd h s N 92 = N := by unfold gsd; rw [gu_r (by decide), gnow_92]
theorem gsd_13 (h : gH) (s : Int) (N : Nat → Int) : gsd h s N 83 13 = s := gu_at
theorem gsd_83 (h : gH) (s : Int) (N : Nat → Int) {y : Nat} (hy : y ≠ 13) : gsd h s N 83 y = h 83 y := by
  unfold gsd
  rw [gu_o hy, gnow_ne (by decide)]
theorem gsd_up (h : gH) (s s' : Int) (N : Nat → Int) : gup (gsd h s N) 83 13 s' = gsd h s' N := by
  funext x y
  unfold gsd gup
  by_cases e : x = 83 ∧ y = 13
  · rw [if_pos e, if_pos e]
  · rw [if_neg e, if_neg e, if_neg e]
theorem gsd_now (h : gH) (s : Int) (N N' : Nat → Int) : gnow (gsd h s N) N' = gsd h s N' := by
  funext x
  unfold gsd
  by_cases e : x = 92
  · subst e
    rw [gnow_92, gu_r (by decide), gnow_92]
  · rw [gnow_ne e]
    by_cases e2 : x = 83
    · subst e2
      funext y
      unfold gup
      rw [gnow_ne e, gnow_ne e]
    · rw [gu_r e2, gu_r e2, gnow_ne e, gnow_ne e]
theorem gsd_self (h : gH) : gsd h (h 83 13) (h 92) = h := by
  unfold gsd
  rw [gnow_self]
  funext x y
  unfold gup
  split
  · rename_i e; rw [e.1, e.2]
  · rfl
theorem gsd_ne (h : gH) (s : Int) (N : Nat → Int) {x : Nat} (h1 : x ≠ 83) (h2 : x ≠ 92) : gsd h s N x = h x := by
  unfold gsd
  rw [gu_r h1, gnow_ne h2]
def aTn (D : gH) (N : Nat → Int) (s : Nat) : Nat → Int := nu N (11 + s) (if aOn D N s = 0 then 1 - N (11 + s) else N (11 + s))
theorem nW_tn {c : gH} (hc : cW c) {w : Int} {N : Nat → Int} (hn : nW c w N) {s : Nat} (hs : (s : Int) < c 83 2) : nW c w (aTn c N s) := by
  have hC : c 83 6 ≤ 6 := hc.2.2.1.2
  have hS : c 83 2 ≤ 9 := hc.2.1.2
  have hz := @aOn_zero c hc N s
  rw [nW_kW] at hn ⊢
  obtain ⟨b1, b2, b3, b4⟩ := hn
  have hg := (b3 s hs).2
  unfold aTn
  refine ⟨by simp (disch := omega) only [nu_at, nu_ne]; exact b1, by simp (disch := omega) only [nu_at, nu_ne]; exact b2, fun s' hs' => ?_, fun k hk => ?_⟩
  · rw [nu_ne (show 2 + s' ≠ 11 + s by omega)]
    refine ⟨(b3 s' hs').1, ?_⟩
    by_cases e : s' = s
    · subst e
      rw [nu_at]
      split <;> omega
    · rw [nu_ne (by omega)]
      exact (b3 s' hs').2
  · have hkw := b4 k hk
    refine kW_congr (fun hh => ?_) (nu_ne (by omega)) (nu_ne (by omega)) (nu_ne (by omega)) (nu_ne (by omega)) (nu_ne (by omega)) (nu_ne (by omega)) hkw
    have hpl := (hkw.2.2.2.2.2.2 hh).1
    by_cases e : (N (32 + k)).toNat = s
    · rw [e, nu_at, if_neg (fun q => (hz.mp q) k hk ⟨hh, by omega⟩)]
    · exact nu_ne (by omega)
theorem tW_tn {c : gH} (hc : cW c) {N : Nat → Int} (ht : tW c N) {s : Nat} (hs : (s : Int) < c 83 2) : tW c (aTn c N s) := by
  have hS : c 83 2 ≤ 9 := hc.2.1.2
  unfold tW aTn
  rw [aTol_congr (N := N) (fun j hj => nu_ne (by omega)), nu_ne (by omega)]
  exact ht
theorem m_turnNow {h : gH} (hc : cW (ct h)) {w : Int} (hn : nW (ct h) w (h 92)) {s : Nat} (hs : (s : Int) < h 83 2) : f_Mo_turnNow (s : Int) h = some (gnow h (aTn (ct h) (h 92) s), 0) := by
  have hS : h 83 2 ≤ 9 := hc.2.1.2
  have hg := (hn.2.2.1 s hs).2
  unfold f_Mo_turnNow f_Mo_turnNow_J39 aTn
  rw [m_onStreet hc, gb_s]
  have e11 : gadd 11 (s : Int) = ((11 + s : Nat) : Int) := ga_11 (by omega)
  rw [e11, gdix (by omega) (by omega), gdix (by omega) (by omega), gs_s, Int.toNat_natCast, gs_s, gup92, gup92]
  by_cases c1 : aOn (ct h) (h 92) s = 0
  · rw [if_pos c1, if_pos c1, gsub_eq (by omega) (by omega)]
  · rw [if_neg c1, if_neg c1, gdix (by omega) (by omega), gdix (by omega) (by omega)]
def aDs (D : gH) (q : Int × (Nat → Int)) : Int × (Nat → Int) :=
  if nx q.1 / 65536 % 4 = 0 ∧ 0 < D 83 2 then (nx (nx q.1), aPass D (-1) (aTn D q.2 (nx (nx q.1) / 65536 % D 83 2).toNat)) else (nx q.1, aPass D (-1) q.2)
def aDr (D : gH) (n : Nat) (q : Int × (Nat → Int)) : Int × (Nat → Int) := gfold (fun _ x => aDs D x) n q
theorem aDr_succ (D : gH) (n : Nat) (q : Int × (Nat → Int)) : aDr D (n + 1) q = aDs D (aDr D n q) := rfl
theorem pW_ds {D : gH} (hc : cW D) (hd : dW D) {q : Int × (Nat → Int)} (hn : nW D 0 q.2) (ht : tW D q.2) (h0 : q.2 0 < 100000) : nW D 0 (aDs D q).2 ∧ tW D (aDs D q).2 ∧ (aDs D q).2 0 = q.2 0 + 1 ∧ 0 ≤ (aDs D q).1 ∧ (aDs D q).1 ≤ 2147483647 := by
  have hS : 0 ≤ D 83 2 ∧ D 83 2 ≤ 9 := hc.2.1
  unfold aDs
  by_cases c1 : nx q.1 / 65536 % 4 = 0 ∧ 0 < D 83 2
  · rw [if_pos c1]
    have hb := nx_in (nx q.1)
    have h1 := Int.emod_nonneg (nx (nx q.1) / 65536) (show D 83 2 ≠ 0 by omega)
    have h2 := Int.emod_lt_of_pos (nx (nx q.1) / 65536) c1.2
    have hs : (((nx (nx q.1) / 65536 % D 83 2).toNat : Nat) : Int) < D 83 2 := by omega
    generalize (nx (nx q.1) / 65536 % D 83 2).toNat = s at hs
    have h3 := nW_tn hc hn hs
    have h4 := tW_tn hc ht hs
    have e0 : aTn D q.2 s 0 = q.2 0 := nu_ne (by omega)
    obtain ⟨p1, p2, p3⟩ := pW_pass hc hd (-1) h3 h4 (by omega)
    exact ⟨p1, p2, p3.trans (by rw [e0]), hb.1, hb.2⟩
  · rw [if_neg c1]
    have hb := nx_in q.1
    obtain ⟨p1, p2, p3⟩ := pW_pass hc hd (-1) hn ht h0
    exact ⟨p1, p2, p3, hb.1, hb.2⟩
theorem pW_dr {D : gH} (hc : cW D) (hd : dW D) {q : Int × (Nat → Int)} (hn : nW D 0 q.2) (ht : tW D q.2) (hs : 0 ≤ q.1 ∧ q.1 ≤ 2147483647) : ∀ n : Nat, q.2 0 + (n : Int) ≤ 100000 → nW D 0 (aDr D n q).2 ∧ tW D (aDr D n q).2 ∧ (aDr D n q).2 0 = q.2 0 + (n : Int) ∧ 0 ≤ (aDr D n q).1 ∧ (aDr D n q).1 ≤ 2147483647 := by
  intro n
  induction n with
  | zero => intro _; exact ⟨hn, ht, by show q.2 0 = q.2 0 + 0; omega, hs.1, hs.2⟩
  | succ n ih =>
    intro h0
    obtain ⟨p1, p2, p3, p4, p5⟩ := ih (by omega)
    obtain ⟨q1, q2, q3, q4, q5⟩ := pW_ds hc hd p1 p2 (by omega)
    rw [aDr_succ]
    exact ⟨q1, q2, by rw [q3, p3]; omega, q4, q5⟩
theorem draw_v {s : Int} (h0 : 0 ≤ s) (h1 : s ≤ 2147483647) {n : Int} (hn : 0 < n) (hn2 : n ≤ 9) : grem (gdiv s 65536) n = s / 65536 % n := by
  rw [gdiv_eq h0 h1 (by omega) (by omega), grem_eq (by omega) (by omega) hn (by omega)]
theorem m_draw {h : gH} {s : Int} {N : Nat → Int} (h0 : 0 ≤ s) (h1 : s ≤ 2147483647) {n : Int} (hn : 0 < n) (hn2 : n ≤ 9) : f_Mo_draw n (gsd h s N) = some (gsd h (nx s) N, nx s / 65536 % n) := by
  have hb := nx_in s
  unfold f_Mo_draw
  rw [gdnz (by decide), gs_s, gdnz (by decide), gdnz (by omega), gsd_13, draw_m h0 h1, gsd_up, gsd_13, draw_v hb.1 hb.2 hn hn2]
theorem m_dstep {h : gH} (hc : cW (ct h)) (hd : dW (ct h)) (hab : h 83 32 = -1) {q : Int × (Nat → Int)} (hn : nW (ct h) 0 q.2) (ht : tW (ct h) q.2) (hs : 0 ≤ q.1 ∧ q.1 ≤ 2147483647) (v1 v3 : Int) (k : gH → Option gO) (n j : Nat) (hj : (j : Int) < v1) (hj2 : j < 1000) : f_Mo_drift_L20 v1 v3 k (n + 1) (j : Int) (gsd h q.1 q.2) = f_Mo_drift_L20 v1 v3 k n ((j + 1 : Nat) : Int) (gsd h (aDs (ct h) q).1 (aDs (ct h) q).2) := by
  have hS : 0 ≤ h 83 2 ∧ h 83 2 ≤ 9 := hc.2.1
  have hb := nx_in q.1
  have fin : ∀ (s : Int) (M : Nat → Int), nW (ct h) 0 M → tW (ct h) M → f_Mo_drift_J53 (f_Mo_drift_L20 v1 v3 k n) v1 v3 (j : Int) (gsd h s M) = f_Mo_drift_L20 v1 v3 k n ((j + 1 : Nat) : Int) (gsd h s (aPass (ct h) (-1) M)) := fun s M q1 q2 => by
    unfold f_Mo_drift_J53
    rw [m_pass (by rw [gsd_ct]; exact hc) (by rw [gsd_ct]; exact hd) (by rw [gsd_ct, gsd_92]; exact q1) (by rw [gsd_ct, gsd_92]; exact q2), gb_s, ga_s (by omega), gsd_ct, gsd_92, gsd_now, gsd_83 _ _ _ (by decide), hab]
  rw [f_Mo_drift_L20, if_neg (by omega), m_draw hs.1 hs.2 (by omega) (by omega), gb_s, gsd_83 _ _ _ (by decide)]
  unfold aDs
  by_cases c1 : nx q.1 / 65536 % 4 = 0
  · rw [if_pos c1]
    by_cases c2 : h 83 2 ≤ 0
    · rw [if_pos c2, if_neg (fun z => by have : 0 < h 83 2 := z.2; omega)]
      exact fin _ _ hn ht
    · have c3 : 0 < ct h 83 2 := by rw [ct_83_2]; omega
      rw [if_neg c2, if_pos ⟨c1, c3⟩, m_draw hb.1 hb.2 (by omega) (by omega), gb_s]
      have h1 := Int.emod_nonneg (nx (nx q.1) / 65536) (show h 83 2 ≠ 0 by omega)
      have h2 := Int.emod_lt_of_pos (nx (nx q.1) / 65536) (show 0 < h 83 2 by omega)
      rw [ct_83_2]
      obtain ⟨s, hse⟩ : ∃ s : Nat, nx (nx q.1) / 65536 % h 83 2 = (s : Int) := ⟨(nx (nx q.1) / 65536 % h 83 2).toNat, by omega⟩
      rw [hse, Int.toNat_natCast]
      have hsS : (s : Int) < ct h 83 2 := by rw [ct_83_2]; omega
      rw [m_turnNow (h := gsd h (nx (nx q.1)) q.2) (by rw [gsd_ct]; exact hc) (w := 0) (by rw [gsd_ct, gsd_92]; exact hn) (by rw [gsd_83 _ _ _ (by decide)]; omega), gb_s, gsd_ct, gsd_92, gsd_now]
      exact fin _ _ (nW_tn hc hn hsS) (tW_tn hc ht hsS)
  · rw [if_neg c1, if_neg (fun z => c1 z.1)]
    exact fin _ _ hn ht
theorem m_driftL {h : gH} (hm : mW h) (hab : h 83 32 = -1) (hs : 0 ≤ h 83 13 ∧ h 83 13 ≤ 2147483647) (v3 : Int) (k : gH → Option gO) {n : Nat} (hn : n ≤ 1000) (h0 : h 92 0 + (n : Int) ≤ 100000) : f_Mo_drift_L20 (n : Int) v3 k 50000 0 h = k (gsd h (aDr (ct h) n (h 83 13, h 92)).1 (aDr (ct h) n (h 83 13, h 92)).2) := by
  obtain ⟨hc, hd, hw, ht⟩ := hm
  have hpw := pW_dr hc hd (q := (h 83 13, h 92)) hw ht hs
  have key := gloop (S := Int × gH) (F := fun m x => f_Mo_drift_L20 (n : Int) v3 k m x.1 x.2) (K := fun x => k x.2) n (fun j => ((j : Int), gsd h (aDr (ct h) j (h 83 13, h 92)).1 (aDr (ct h) j (h 83 13, h 92)).2)) ?_ ?_ 50000 (by omega)
  · have key' : f_Mo_drift_L20 (n : Int) v3 k 50000 ((0 : Nat) : Int) (gsd h (h 83 13) (h 92)) = _ := key
    rw [gsd_self] at key'
    exact key'
  · intro m j hj
    have hp := hpw j (by show h 92 0 + _ ≤ _; omega)
    show f_Mo_drift_L20 (n : Int) v3 k (m + 1) (j : Int) (gsd h (aDr (ct h) j (h 83 13, h 92)).1 (aDr (ct h) j (h 83 13, h 92)).2) = f_Mo_drift_L20 (n : Int) v3 k m ((j + 1 : Nat) : Int) (gsd h (aDr (ct h) (j + 1) (h 83 13, h 92)).1 (aDr (ct h) (j + 1) (h 83 13, h 92)).2)
    rw [aDr_succ]
    exact m_dstep hc hd hab hp.1 hp.2.1 hp.2.2.2 (n : Int) v3 k m j (by omega) (by omega)
  · intro m
    show f_Mo_drift_L20 (n : Int) v3 k (m + 1) (n : Int) _ = _
    rw [f_Mo_drift_L20, if_pos (by omega)]
/- the class's draws -/
def kH (t : Nat) (h h' : gH) : Prop := ∀ x, x < t ∨ t + 10 ≤ x → h' x = h x
theorem kH_tr {t : Nat} {h h1 h2 : gH} (a : kH t h h1) (b : kH t h1 h2) : kH t h h2 := fun x hx => (b x hx).trans (a x hx)
theorem CR_H {D h h' : gH} {c t : Nat} (ht : 27 ≤ t) (hr : CR D h c) (hf : kH t h h') : CR D h' c := CR_fr hr (fun x hx => hf x (by omega))
theorem TR_seed {D h : gH} {c t : Nat} {N : Nat → Int} {v : Int} (hT : TR D h c t N) : TR D (gup h t 2 v) c t N := by
  obtain ⟨x0, x1, xS, xC⟩ := TR_iff.mp hT
  rw [TR_iff]
  refine ⟨by rw [gu_o (by decide)]; exact x0, by rw [gu_o (by decide)]; exact x1, fun s hs => ?_, fun k hk => ?_⟩
  · rw [gu_r (by omega), gu_r (by omega), gu_r (by omega), gu_r (by omega)]
    exact xS s hs
  · rw [gu_r (by omega), gu_r (by omega), gu_r (by omega), gu_r (by omega), gu_r (by omega)]
    exact xC k hk
theorem k_draw {h : gH} {t : Nat} (h0 : 0 ≤ h t 2) (h1 : h t 2 ≤ 2147483647) {n : Int} (hn : 0 < n) (hn2 : n ≤ 9) : f_Traffic_draw t n h = some (gup h t 2 (nx (h t 2)), nx (h t 2) / 65536 % n) := by
  have hb := nx_in (h t 2)
  unfold f_Traffic_draw
  rw [gs_s, if_neg (by omega), gdnz (by decide), gdnz (by omega), draw_k h0 h1, gu_at, draw_v hb.1 hb.2 hn hn2]
theorem k_drift {D h : gH} (hc : cW D) (hd : dW D) {c t : Nat} (ht : 27 ≤ t) {N : Nat → Int} (hn : nW D 0 N) (htw : tW D N) (hr : CR D h c) (hT : TR D h c t N) (hs : 0 ≤ h t 2 ∧ h t 2 ≤ 2147483647) {n : Nat} (hn1 : n ≤ 1000) (h0 : N 0 + (n : Int) ≤ 100000) : ∃ h', f_Traffic_passByDraws t (n : Int) h = some (h', 0) ∧ TR D h' c t (aDr D n (h t 2, N)).2 ∧ h' t 2 = (aDr D n (h t 2, N)).1 ∧ kH t h h' := by
  have hS : 0 ≤ D 83 2 ∧ D 83 2 ≤ 9 := hc.2.1
  have hpw := pW_dr hc hd (q := (h t 2, N)) hn htw hs
  unfold f_Traffic_passByDraws
  have key := gloopI (S := Int × gH) (F := fun m x => f_Traffic_passByDraws_L2 t (n : Int) (fun h14 => some (h14, 0)) m x.1 x.2) (K := fun x => some (x.2, 0)) n (fun j x => x.1 = (j : Int) ∧ TR D x.2 c t (aDr D j (h t 2, N)).2 ∧ x.2 t 2 = (aDr D j (h t 2, N)).1 ∧ kH t h x.2) ?_ ?_ 50000 (0, h) ⟨rfl, hT, rfl, fun _ _ => rfl⟩ (by omega)
  · obtain ⟨s', hs1, hs2⟩ := key
    exact ⟨s'.2, hs2, hs1.2.1, hs1.2.2.1, hs1.2.2.2⟩
  · intro m j x hj hx
    obtain ⟨xi, hx⟩ := x
    obtain ⟨i1, i2, i3, i4⟩ := hx
    have i1' : xi = (j : Int) := i1
    subst i1'
    have hp := hpw j (by show N 0 + _ ≤ _; omega)
    show ∃ s', _ ∧ f_Traffic_passByDraws_L2 t (n : Int) (fun h14 => some (h14, 0)) (m + 1) (j : Int) hx = _
    have i2' : TR D hx c t (aDr D j (h t 2, N)).2 := i2
    have i3' : hx t 2 = (aDr D j (h t 2, N)).1 := i3
    have i4' : kH t h hx := i4
    rw [aDr_succ]
    generalize aDr D j (h t 2, N) = q at hp i2' i3' ⊢
    obtain ⟨p1, p2, p3, p4, p5⟩ := hp
    have hrx := CR_H ht hr i4'
    have hb := nx_in q.1
    have fin : ∀ (h1 : gH) (s : Int) (M : Nat → Int), nW D 0 M → tW D M → TR D h1 c t M → h1 t 2 = s → kH t hx h1 → (s, aPass D (-1) M) = aDs D q → ∃ s' : Int × gH, (s'.1 = ((j + 1 : Nat) : Int) ∧ TR D s'.2 c t (aDs D q).2 ∧ s'.2 t 2 = (aDs D q).1 ∧ kH t h s'.2) ∧ f_Traffic_passByDraws_J60 t (f_Traffic_passByDraws_L2 t (n : Int) (fun h14 => some (h14, 0)) m) (n : Int) (j : Int) h1 = f_Traffic_passByDraws_L2 t (n : Int) (fun h14 => some (h14, 0)) m s'.1 s'.2 := fun h1 s M q1 q2 q3 q4 q5 q6 => by
      obtain ⟨h2, e2, t2, g2⟩ := k_passOne hc hd ht q1 q2 (CR_H ht hrx q5) q3
      refine ⟨(((j + 1 : Nat) : Int), h2), ⟨rfl, ?_, ?_, kH_tr i4' (kH_tr q5 g2.1)⟩, ?_⟩
      · rw [← q6]; exact t2
      · show h2 t 2 = _
        rw [← q6, g2.2 2 (by decide), q4]
      · unfold f_Traffic_passByDraws_J60
        rw [e2, gb_s, ga_s (by omega)]
    have hc2 : ∀ h1, kH t hx h1 → h1 c 2 = D 83 2 := fun h1 q5 => (CR_H ht hrx q5).2.2.2.1
    rw [f_Traffic_passByDraws_L2, if_neg (by omega), k_draw (by rw [i3']; exact p4) (by rw [i3']; exact p5) (by omega) (by omega), gb_s, i3']
    generalize hh1 : gup hx t 2 (nx q.1) = h1
    have f1 : kH t hx h1 := fun x hx' => by rw [← hh1, gu_r (by omega)]
    have t1 : TR D h1 c t q.2 := by rw [← hh1]; exact TR_seed i2'
    have s1 : h1 t 2 = nx q.1 := by rw [← hh1, gu_at]
    by_cases c1 : nx q.1 / 65536 % 4 = 0
    · rw [if_pos c1, t1.1, Int.toNat_natCast, gdcl (gsh_c hr.1), hc2 h1 f1]
      by_cases c2 : D 83 2 ≤ 0
      · rw [if_pos c2]
        refine fin h1 _ _ p1 p2 t1 s1 f1 ?_
        unfold aDs
        rw [if_neg (fun z => by omega)]
      · rw [if_neg c2, gdcl (gsh_c hr.1), k_draw (by rw [s1]; exact hb.1) (by rw [s1]; exact hb.2) (by omega) (by omega), gb_s, s1]
        have e1 := Int.emod_nonneg (nx (nx q.1) / 65536) (show D 83 2 ≠ 0 by omega)
        have e2 := Int.emod_lt_of_pos (nx (nx q.1) / 65536) (show 0 < D 83 2 by omega)
        have eq6 : aDs D q = (nx (nx q.1), aPass D (-1) (aTn D q.2 (nx (nx q.1) / 65536 % D 83 2).toNat)) := by
          unfold aDs
          rw [if_pos ⟨c1, by omega⟩]
        obtain ⟨s, hse⟩ : ∃ s : Nat, nx (nx q.1) / 65536 % D 83 2 = (s : Int) := ⟨(nx (nx q.1) / 65536 % D 83 2).toNat, by omega⟩
        rw [hse, Int.toNat_natCast] at eq6
        rw [hse, gdix (by omega) (by omega), Int.toNat_natCast]
        have hsS : (s : Int) < D 83 2 := by omega
        generalize hh2 : gup h1 t 2 (nx (nx q.1)) = h2
        have f2 : kH t hx h2 := fun x hx' => by rw [← hh2, gu_r (by omega)]; exact f1 x hx'
        have t2 : TR D h2 c t q.2 := by rw [← hh2]; exact TR_seed t1
        have s2 : h2 t 2 = nx (nx q.1) := by rw [← hh2, gu_at]
        rw [TR_on hc t2 hsS]
        by_cases c3 : aOn D q.2 s = 0
        · have hg := (p1.2.2.1 s hsS).2
          rw [if_pos c3, gdix (by omega) (by omega), gdix (by omega) (by omega), gs_s, (t2.2.2.1 s hsS).2.1, gsub_eq (by omega) (by omega)]
          refine fin _ _ (aTn D q.2 s) (nW_tn hc p1 hsS) (tW_tn hc p2 hsS) ?_ (by rw [gu_r (by omega)]; exact s2) (fun x hx' => by rw [gu_r (by omega)]; exact f2 x hx') eq6.symm
          unfold aTn
          rw [if_pos c3]
          exact TR_goes hc t2 hsS
        · rw [if_neg c3]
          refine fin _ _ (aTn D q.2 s) (nW_tn hc p1 hsS) (tW_tn hc p2 hsS) ?_ s2 f2 eq6.symm
          unfold aTn
          rw [if_neg c3, nu_self]
          exact t2
    · rw [if_neg c1]
      refine fin h1 _ _ p1 p2 t1 s1 f1 ?_
      unfold aDs
      rw [if_neg (fun z => c1 z.1)]
  · intro m x hx
    obtain ⟨xi, hx'⟩ := x
    obtain ⟨i1, i2⟩ := hx
    have i1' : xi = (n : Int) := i1
    subst i1'
    show f_Traffic_passByDraws_L2 t (n : Int) (fun h14 => some (h14, 0)) (m + 1) (n : Int) hx' = _
    rw [f_Traffic_passByDraws_L2, if_pos (by omega)]
