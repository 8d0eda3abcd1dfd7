/- PURE: the reference's minute -/
theorem gup92 (h : gH) (k : Nat) (v : Int) : gup h 92 k v = gnow h (nu (h 92) k v) := by
  have := gup_now h (h 92) k v
  rw [gnow_self] at this
  exact this
theorem gnow_id {h : gH} {N : Nat → Int} (e : N = h 92) : gnow h N = h := by rw [e, gnow_self]
theorem m_arr_end {h : gH} {k : Nat} (hk : k < 6) (v : Int) : f_Mo_arrive_J75 (k : Int) v h = some (gnow h (nu (nu (nu (h 92) (32 + k) v) (38 + k) (h 92 0)) (26 + k) (if v = h 88 k then 3 else 1)), 0) := by
  unfold f_Mo_arrive_J75 f_Mo_arrive_J124
  simp (disch := omega) only [gdix, gs_s, gb_s, ga_1, ga_2, ga_11, ga_20, ga_26, ga_32, ga_38, ga_44, ga_s, Int.toNat_natCast, gup92, gnow_92, gnow_gnow, gnow_ne, nu_at, nu_ne, ct_now, gnow_self]
  by_cases c4 : v = h 88 k
  · rw [if_pos c4, if_pos c4]
  · rw [if_neg c4, if_neg c4]
theorem m_arrive {h : gH} (hc : cW (ct h)) {w : Int} (hn : nW (ct h) w (h 92)) {k : Nat} (hk : (k : Int) < h 83 6) : f_Mo_arrive (k : Int) h = some (gnow h (aArr (ct h) k (h 92)), 0) := by
  have hC : h 83 6 ≤ 6 := hc.2.2.1.2
  have hS : h 83 2 ≤ 9 := hc.2.1.2
  have hk2 := hn.2.2.2 k hk
  have hN0 := hn.1
  have hs3 : -1 ≤ h 92 (38 + k) ∧ h 92 (38 + k) ≤ h 92 0 := hk2.2.2.1
  unfold f_Mo_arrive
  by_cases c1 : h 92 (26 + k) = 2
  · obtain ⟨hp, -⟩ := hk2.2.2.2.2.2.2 c1
    have hp2 : h 92 (32 + k) < h 83 2 := hp.2
    obtain ⟨s, hs⟩ : ∃ s : Nat, h 92 (32 + k) = (s : Int) := ⟨(h 92 (32 + k)).toNat, by omega⟩
    have eA : aArr (ct h) k (h 92) = if h 92 0 - h 92 (38 + k) = h 86 s then nu (nu (nu (h 92) (32 + k) (if h 92 (11 + s) = 0 then h 85 s else h 84 s)) (38 + k) (h 92 0)) (26 + k) (if (if h 92 (11 + s) = 0 then h 85 s else h 84 s) = h 88 k then 3 else 1) else h 92 := by
      unfold aArr
      rw [hs, Int.toNat_natCast]
      by_cases c2 : h 92 0 - h 92 (38 + k) = h 86 s
      · rw [if_pos c2, if_pos ⟨c1, c2⟩]; rfl
      · rw [if_neg c2, if_neg (fun q => c2 q.2)]
    rw [eA]
    have e26 : (gadd 26 (k : Int)).toNat = 26 + k := by rw [ga_26 (by omega), Int.toNat_natCast]
    have e32 : (gadd 32 (k : Int)).toNat = 32 + k := by rw [ga_32 (by omega), Int.toNat_natCast]
    rw [e26, e32, hs]
    simp (disch := omega) only [gdix, gs_s, gb_s, ga_1, ga_2, ga_11, ga_20, ga_26, ga_32, ga_38, ga_44, ga_s, Int.toNat_natCast, gup92, gnow_92, gnow_gnow, gnow_ne, nu_at, nu_ne, ct_now, gnow_self, if_pos c1, gsub_eq]
    by_cases c2 : h 92 0 - h 92 (38 + k) = h 86 s
    · rw [if_pos c2, if_pos c2]
      by_cases c3 : h 92 (11 + s) = 0
      · rw [if_pos c3, if_pos c3]
        exact m_arr_end (by omega) _
      · rw [if_neg c3, if_neg c3]
        exact m_arr_end (by omega) _
    · rw [if_neg c2, if_neg c2, gnow_self]
  · have eA : aArr (ct h) k (h 92) = h 92 := by unfold aArr; rw [if_neg (fun q => c1 q.1)]
    rw [eA]
    simp (disch := omega) only [gdix, gs_s, gb_s, ga_1, ga_2, ga_11, ga_20, ga_26, ga_32, ga_38, ga_44, ga_s, Int.toNat_natCast, gup92, gnow_92, gnow_gnow, gnow_ne, nu_at, nu_ne, ct_now, gnow_self, if_neg c1]
theorem m_start {h : gH} (hc : cW (ct h)) {k : Nat} (hk : (k : Int) < h 83 6) : f_Mo_start (k : Int) h = some (gnow h (aSta (ct h) (h 83 32) k (h 92)), 0) := by
  have hC : h 83 6 ≤ 6 := hc.2.2.1.2
  have hK : h 83 0 ≤ 7 := hc.1.2
  have hck := hc.2.2.2.2.2.2.1 k hk
  have h87 : 0 ≤ h 87 k ∧ h 87 k < h 83 0 := hck.1
  have h88 : 0 ≤ h 88 k ∧ h 88 k < h 83 0 := hck.2.1
  have eA : aSta (ct h) (h 83 32) k (h 92) = if h 92 (26 + k) = 0 ∧ h 89 k = h 92 0 ∧ ¬ (k : Int) = h 83 32 then nu (nu (h 92) (38 + k) (h 92 0)) (26 + k) (if 0 ≤ aNx (ct h) (h 87 k) (h 88 k) then 1 else 4) else h 92 := rfl
  rw [eA]
  unfold f_Mo_start f_Mo_start_J82
  simp (disch := omega) only [gdix, gs_s, gb_s, ga_1, ga_2, ga_11, ga_20, ga_26, ga_32, ga_38, ga_44, ga_s, Int.toNat_natCast, gup92, gnow_92, gnow_gnow, gnow_ne, nu_at, nu_ne, ct_now, gnow_self]
  by_cases c1 : h 92 (26 + k) = 0
  · rw [if_pos c1]
    by_cases c2 : h 89 k = h 92 0
    · rw [if_pos c2]
      by_cases c3 : (k : Int) = h 83 32
      · rw [if_pos c3, if_neg (fun q => q.2.2 c3), gnow_self]
      · rw [if_neg c3, if_pos ⟨c1, c2, c3⟩, m_nextFrom (by rw [ct_now]; exact hc) (by omega) (by omega)]
        simp (disch := omega) only [gdix, gs_s, gb_s, ga_1, ga_2, ga_11, ga_20, ga_26, ga_32, ga_38, ga_44, ga_s, Int.toNat_natCast, gup92, gnow_92, gnow_gnow, gnow_ne, nu_at, nu_ne, ct_now, gnow_self]
        by_cases c4 : 0 ≤ aNx (ct h) (h 87 k) (h 88 k)
        · rw [if_pos c4, if_pos c4]
        · rw [if_neg c4, if_neg c4]
    · rw [if_neg c2, if_neg (fun q => c2 q.2.1), gnow_self]
  · rw [if_neg c1, if_neg (fun q => c1 q.1), gnow_self]
theorem m_tire {h : gH} (hc : cW (ct h)) {w : Int} (hn : nW (ct h) w (h 92)) {k : Nat} (hk : (k : Int) < h 83 6) : f_Mo_tire (k : Int) h = some (gnow h (aTir (ct h) k (h 92)), 0) := by
  have hC : h 83 6 ≤ 6 := hc.2.2.1.2
  have hk2 := hn.2.2.2 k hk
  have h44 := hk2.2.2.2.1
  have hN1 := hn.2.1
  have eA : aTir (ct h) k (h 92) = if h 92 (26 + k) = 1 then (if h 92 (44 + k) + 1 ≤ h 90 k then nu (nu (h 92) (44 + k) (h 92 (44 + k) + 1)) 1 (h 92 1 + 1) else nu (nu (nu (nu (h 92) (44 + k) (h 92 (44 + k) + 1)) 1 (h 92 1 + 1)) (26 + k) 4) (38 + k) (h 92 0)) else h 92 := rfl
  rw [eA]
  unfold f_Mo_tire
  by_cases c1 : h 92 (26 + k) = 1
  · rw [if_pos c1]
    have e26 : (gadd 26 (k : Int)).toNat = 26 + k := by rw [ga_26 (by omega), Int.toNat_natCast]
    have e44 : (gadd 44 (k : Int)).toNat = 44 + k := by rw [ga_44 (by omega), Int.toNat_natCast]
    have eg : gadd (h 92 (44 + k)) 1 = h 92 (44 + k) + 1 := gadd_eq (by omega) (by omega)
    have eg1 : gadd (h 92 1) 1 = h 92 1 + 1 := gadd_eq (by omega) (by omega)
    rw [e26, if_pos c1]
    simp (disch := omega) only [gdix, gs_s, gb_s, ga_1, ga_2, ga_11, ga_20, ga_26, ga_32, ga_38, ga_44, ga_s, Int.toNat_natCast, gup92, gnow_92, gnow_gnow, gnow_ne, nu_at, nu_ne, ct_now, gnow_self, eg, eg1]
    by_cases c2 : h 92 (44 + k) + 1 ≤ h 90 k
    · rw [if_pos c2, if_pos c2]
    · rw [if_neg c2, if_neg c2]
  · rw [if_neg c1]
    simp (disch := omega) only [gdix, gs_s, gb_s, ga_1, ga_2, ga_11, ga_20, ga_26, ga_32, ga_38, ga_44, ga_s, Int.toNat_natCast, gup92, gnow_92, gnow_gnow, gnow_ne, nu_at, nu_ne, ct_now, gnow_self, if_neg c1]
theorem aFore_lt {c : gH} (hc : cW c) (N : Nat → Int) (s : Nat) (side : Int) : -1 ≤ aFore c N s side ∧ aFore c N s side < c 83 6 := by
  have h0 := hc.2.2.1.1
  have := aFore_in c N s side (c 83 6).toNat
  unfold aFore
  omega
theorem m_enter {h : gH} (hc : cW (ct h)) {w : Int} (hn : nW (ct h) w (h 92)) {s : Nat} (hs : (s : Int) < h 83 2) (hn2 : nW (ct h) w (aTrn (ct h) (h 92) s)) : f_Mo_enter (s : Int) h = some (gnow h (aEnt (ct h) s (h 92)), 0) := by
  have hC : h 83 6 ≤ 6 := hc.2.2.1.2
  have hS : h 83 2 ≤ 9 := hc.2.1.2
  have hJ : f_Mo_enter_J33 (s : Int) (if aOn (ct h) (h 92) s = 0 then aGoes (ct h) (h 92) s else h 92 (11 + s)) (gadd 11 (s : Int)) h = some (gnow h (aEnt (ct h) s (h 92)), 0) := by
    unfold f_Mo_enter_J33
    simp (disch := omega) only [gdix, gs_s, gb_s, ga_1, ga_2, ga_11, ga_20, ga_26, ga_32, ga_38, ga_44, ga_s, Int.toNat_natCast, gup92, gnow_92, gnow_gnow, gnow_ne, nu_at, nu_ne, ct_now, gnow_self]
    have eT : nu (h 92) (11 + s) (if aOn (ct h) (h 92) s = 0 then aGoes (ct h) (h 92) s else h 92 (11 + s)) = aTrn (ct h) (h 92) s := rfl
    have eT2 : (if aOn (ct h) (h 92) s = 0 then aGoes (ct h) (h 92) s else h 92 (11 + s)) = aTrn (ct h) (h 92) s (11 + s) := (nu_at _ _ _).symm
    rw [eT, eT2]
    unfold aEnt
    generalize hN' : aTrn (ct h) (h 92) s = N' at hn2 ⊢
    have hc' : cW (ct (gnow h N')) := by rw [ct_now]; exact hc
    have hn' : nW (ct (gnow h N')) w (gnow h N' 92) := by rw [ct_now, gnow_92]; exact hn2
    have hs' : (s : Int) < gnow h N' 83 2 := hs
    rw [m_foremostOf hc' hn' hs', gb_s, ct_now, gnow_92]
    unfold aLet
    have hf := aFore_lt hc N' s (N' (11 + s))
    have hf2 : aFore (ct h) N' s (N' (11 + s)) < h 83 6 := hf.2
    by_cases c1 : aFore (ct h) N' s (N' (11 + s)) < 0
    · rw [if_pos c1, if_pos c1]
    · rw [if_neg c1, if_neg c1]
      obtain ⟨q, hq⟩ : ∃ q : Nat, aFore (ct h) N' s (N' (11 + s)) = (q : Int) := ⟨(aFore (ct h) N' s (N' (11 + s))).toNat, by omega⟩
      rw [hq]
      simp (disch := omega) only [gdix, gs_s, gb_s, ga_1, ga_2, ga_11, ga_20, ga_26, ga_32, ga_38, ga_44, ga_s, Int.toNat_natCast, gup92, gnow_92, gnow_gnow, gnow_ne, nu_at, nu_ne, ct_now, gnow_self]
  unfold f_Mo_enter
  rw [m_onStreet hc, gb_s]
  by_cases c0 : aOn (ct h) (h 92) s = 0
  · rw [if_pos c0] at hJ ⊢
    rw [m_goesBy hc hn hs, gb_s]
    exact hJ
  · rw [if_neg c0] at hJ ⊢
    rw [gdix (by rw [ga_11 (by omega)]; omega) (by rw [ga_11 (by omega)]; omega)]
    rw [show (gadd 11 (s : Int)).toNat = 11 + s by rw [ga_11 (by omega), Int.toNat_natCast]]
    exact hJ
