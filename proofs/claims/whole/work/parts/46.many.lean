/- PURE: minutes of the reference, many; sums; saved and put back -/
theorem m_ph {h : gH} {B : Nat} {N0 : Nat → Int} {f : Nat → (Nat → Int) → (Nat → Int)} {L : (gH → Option gO) → Nat → Int → gH → Option gO} (k : gH → Option gO) (hs : ∀ n j, j < B → L k (n + 1) (j : Int) (gnow h (gfold f j N0)) = L k n ((j + 1 : Nat) : Int) (gnow h (gfold f (j + 1) N0))) (he : ∀ n, L k (n + 1) (B : Int) (gnow h (gfold f B N0)) = k (gnow h (gfold f B N0))) (hB : B < 50000) : L k 50000 0 (gnow h N0) = k (gnow h (gfold f B N0)) :=
  gloop (S := Int × gH) (F := fun n x => L k n x.1 x.2) (K := fun x => k x.2) B (fun j => ((j : Int), gnow h (gfold f j N0))) hs he 50000 hB
theorem m_pass {h : gH} (hc : cW (ct h)) (hd : dW (ct h)) (hn : nW (ct h) 0 (h 92)) (ht : tW (ct h) (h 92)) : f_Mo_pass h = some (gnow h (aPass (ct h) (h 83 32) (h 92)), 0) := by
  have hC : 0 ≤ h 83 6 ∧ h 83 6 ≤ 6 := hc.2.2.1
  have hS : 0 ≤ h 83 2 ∧ h 83 2 ≤ 9 := hc.2.1
  obtain ⟨C, hCe⟩ : ∃ C : Nat, h 83 6 = (C : Int) := ⟨(h 83 6).toNat, by omega⟩
  obtain ⟨S, hSe⟩ : ∃ S : Nat, h 83 2 = (S : Int) := ⟨(h 83 2).toNat, by omega⟩
  have eC : (ct h 83 6).toNat = C := by rw [ct_83_6, hCe, Int.toNat_natCast]
  have eS : (ct h 83 2).toNat = S := by rw [ct_83_2, hSe, Int.toNat_natCast]
  unfold f_Mo_pass
  have p1 : ∀ k, f_Mo_pass_L2 k 50000 0 h = k (gnow h (aPh1 (ct h) (h 92))) := by
    intro k
    have key := m_ph (h := h) (B := C) (N0 := h 92) (f := aArr (ct h)) (L := f_Mo_pass_L2) k ?_ ?_ (by omega)
    · rw [gnow_self] at key
      rw [key]
      unfold aPh1
      rw [eC]
    · intro n j hj
      have hn' := (gfold_inv (aArr (ct h)) (fun _ x => nW (ct h) 0 x) (h 92) hn C (fun j x hj hx => nW_arr hc hx (by rw [ct_83_6]; omega))) j (by omega)
      rw [gfold_succ]
      generalize gfold (aArr (ct h)) j (h 92) = M at hn' ⊢
      rw [f_Mo_pass_L2, gnow_ne (show 83 ≠ 92 by decide), if_neg (show ¬ h 83 6 ≤ (j : Int) by omega), m_arrive (h := gnow h M) (by rw [ct_now]; exact hc) (w := 0) (by rw [ct_now, gnow_92]; exact hn') (by show (j : Int) < h 83 6; omega), gb_s, ga_s (by omega), ct_now, gnow_92, gnow_gnow]
    · intro n
      rw [f_Mo_pass_L2, gnow_ne (show 83 ≠ 92 by decide), if_pos (show h 83 6 ≤ (C : Int) by omega)]
  have p2 : ∀ k, f_Mo_pass_L23 k 50000 0 (gnow h (aPh1 (ct h) (h 92))) = k (gnow h (aPh2 (ct h) (h 83 32) (h 92))) := by
    intro k
    have key := m_ph (h := h) (B := C) (N0 := aPh1 (ct h) (h 92)) (f := aSta (ct h) (h 83 32)) (L := f_Mo_pass_L23) k ?_ ?_ (by omega)
    · rw [key]
      unfold aPh2
      rw [eC]
    · intro n j hj
      rw [gfold_succ]
      generalize gfold (aSta (ct h) (h 83 32)) j (aPh1 (ct h) (h 92)) = M
      rw [f_Mo_pass_L23, gnow_ne (show 83 ≠ 92 by decide), if_neg (show ¬ h 83 6 ≤ (j : Int) by omega), m_start (h := gnow h M) (by rw [ct_now]; exact hc) (by show (j : Int) < h 83 6; omega), gb_s, ga_s (by omega), ct_now, gnow_92, gnow_gnow]
      rfl
    · intro n
      rw [f_Mo_pass_L23, gnow_ne (show 83 ≠ 92 by decide), if_pos (show h 83 6 ≤ (C : Int) by omega)]
  have p3 : ∀ k, f_Mo_pass_L44 k 50000 0 (gnow h (aPh2 (ct h) (h 83 32) (h 92))) = k (gnow h (aPh3 (ct h) (h 83 32) (h 92))) := by
    intro k
    have key := m_ph (h := h) (B := S) (N0 := aPh2 (ct h) (h 83 32) (h 92)) (f := aEnt (ct h)) (L := f_Mo_pass_L44) k ?_ ?_ (by omega)
    · rw [key]
      unfold aPh3
      rw [eS]
    · intro n j hj
      have hn' := (pW_ph3 hc hd (h 83 32) hn ht j (by rw [eS]; omega)).1
      rw [gfold_succ]
      generalize gfold (aEnt (ct h)) j (aPh2 (ct h) (h 83 32) (h 92)) = M at hn' ⊢
      have hj2 : (j : Int) < ct h 83 2 := by rw [ct_83_2]; omega
      rw [f_Mo_pass_L44, gnow_ne (show 83 ≠ 92 by decide), if_neg (show ¬ h 83 2 ≤ (j : Int) by omega), m_enter (h := gnow h M) (by rw [ct_now]; exact hc) (w := 1) (by rw [ct_now, gnow_92]; exact hn') (by show (j : Int) < h 83 2; omega) (by rw [ct_now, gnow_92]; exact nW_trn hc hn' hj2), gb_s, ga_s (by omega), ct_now, gnow_92, gnow_gnow]
    · intro n
      rw [f_Mo_pass_L44, gnow_ne (show 83 ≠ 92 by decide), if_pos (show h 83 2 ≤ (S : Int) by omega)]
  have p4 : ∀ k, f_Mo_pass_L65 k 50000 0 (gnow h (aPh3 (ct h) (h 83 32) (h 92))) = k (gnow h (aPh4 (ct h) (h 83 32) (h 92))) := by
    intro k
    have key := m_ph (h := h) (B := C) (N0 := aPh3 (ct h) (h 83 32) (h 92)) (f := aTir (ct h)) (L := f_Mo_pass_L65) k ?_ ?_ (by omega)
    · rw [key]
      unfold aPh4
      rw [eC]
    · intro n j hj
      have hn' := (pW_ph4 hc hd (h 83 32) hn ht j (by rw [eC]; omega)).1
      rw [gfold_succ]
      generalize gfold (aTir (ct h)) j (aPh3 (ct h) (h 83 32) (h 92)) = M at hn' ⊢
      rw [f_Mo_pass_L65, gnow_ne (show 83 ≠ 92 by decide), if_neg (show ¬ h 83 6 ≤ (j : Int) by omega), m_tire (h := gnow h M) (by rw [ct_now]; exact hc) (w := 1) (by rw [ct_now, gnow_92]; exact hn') (by show (j : Int) < h 83 6; omega), gb_s, ga_s (by omega), ct_now, gnow_92, gnow_gnow]
    · intro n
      rw [f_Mo_pass_L65, gnow_ne (show 83 ≠ 92 by decide), if_pos (show h 83 6 ≤ (C : Int) by omega)]
  rw [p1, p2, p3, p4]
  have hN0 := hn.1
  have e4 := @aPh4_0 (ct h) (h 83 32) (h 92)
  rw [gdix (by omega) (by omega), gdix (by omega) (by omega), gs_s, gnow_92, gup_now, gadd_eq (by omega) (by omega)]
  rfl
def aIt (c : gH) (ab : Int) (n : Nat) (N : Nat → Int) : Nat → Int := gfold (fun _ x => aPass c ab x) n N
theorem aIt_succ (c : gH) (ab : Int) (n : Nat) (N : Nat → Int) : aIt c ab (n + 1) N = aPass c ab (aIt c ab n N) := rfl
theorem pW_it {c : gH} (hc : cW c) (hd : dW c) (ab : Int) {N : Nat → Int} (hn : nW c 0 N) (ht : tW c N) : ∀ n : Nat, N 0 + (n : Int) ≤ 100000 → nW c 0 (aIt c ab n N) ∧ tW c (aIt c ab n N) ∧ aIt c ab n N 0 = N 0 + (n : Int) := by
  intro n
  induction n with
  | zero => intro _; exact ⟨hn, ht, by show N 0 = N 0 + 0; omega⟩
  | succ n ih =>
    intro h0
    obtain ⟨h1, h2, h3⟩ := ih (by omega)
    rw [aIt_succ]
    obtain ⟨h4, h5, h6⟩ := pW_pass hc hd ab h1 h2 (by omega)
    exact ⟨h4, h5, by rw [h6, h3]; omega⟩
/- what is known of the memory of the reference -/
def mW (h : gH) : Prop := cW (ct h) ∧ dW (ct h) ∧ nW (ct h) 0 (h 92) ∧ tW (ct h) (h 92)
theorem m_it {h : gH} (hm : mW h) {L : Int → Int → (gH → Option gO) → Nat → Int → gH → Option gO} {v : Int} (k : gH → Option gO) {n : Nat} (hn : n ≤ 1000) (hL : ∀ m j hh, L (n : Int) v k (m + 1) j hh = if (n : Int) ≤ j then k hh else gb (f_Mo_pass hh) (fun h2 _ => L (n : Int) v k m (gadd j 1) h2)) (h0 : h 92 0 + (n : Int) ≤ 100000) : L (n : Int) v k 50000 0 h = k (gnow h (aIt (ct h) (h 83 32) n (h 92))) := by
  obtain ⟨hc, hd, hw, ht⟩ := hm
  have key := gloop (S := Int × gH) (F := fun m x => L (n : Int) v k m x.1 x.2) (K := fun x => k x.2) n (fun j => ((j : Int), gnow h (aIt (ct h) (h 83 32) j (h 92)))) ?_ ?_ 50000 (by omega)
  · have e : gnow h (aIt (ct h) (h 83 32) 0 (h 92)) = h := gnow_self h
    have key' : L (n : Int) v k 50000 ((0 : Nat) : Int) (gnow h (aIt (ct h) (h 83 32) 0 (h 92))) = _ := key
    rw [e] at key'
    exact key'
  · intro m j hj
    show L (n : Int) v k (m + 1) (j : Int) (gnow h (aIt (ct h) (h 83 32) j (h 92))) = L (n : Int) v k m ((j + 1 : Nat) : Int) (gnow h (aIt (ct h) (h 83 32) (j + 1) (h 92)))
    obtain ⟨q1, q2, q3⟩ := pW_it hc hd (h 83 32) hw ht j (by omega)
    rw [aIt_succ, hL, if_neg (by omega)]
    generalize aIt (ct h) (h 83 32) j (h 92) = M at q1 q2 q3 ⊢
    rw [m_pass (by rw [ct_now]; exact hc) (by rw [ct_now]; exact hd) (by rw [ct_now, gnow_92]; exact q1) (by rw [ct_now, gnow_92]; exact q2), gb_s, ga_s (by omega), ct_now, gnow_92, gnow_gnow]
    rfl
  · intro m
    show L (n : Int) v k (m + 1) (n : Int) _ = _
    rw [hL, if_pos (by omega)]
theorem m_go {h : gH} (hm : mW h) {n : Nat} (hn : n ≤ 1000) (h0 : h 92 0 + (n : Int) ≤ 100000) : f_Mo_go (n : Int) h = some (gnow h (aIt (ct h) (h 83 32) n (h 92)), 0) := by
  unfold f_Mo_go
  exact m_it hm (L := fun a _ k m j hh => f_Mo_go_L2 a k m j hh) (v := 0) (fun h4 => some (h4, 0)) hn (fun m j hh => by rw [f_Mo_go_L2]) h0
def aHomeF (N : Nat → Int) (k : Nat) (x : Int) : Int := x + (if N (26 + k) = 3 then 1 else 0)
def aHome (c : gH) (N : Nat → Int) : Int := gfold (aHomeF N) (c 83 6).toNat 0
theorem aHome_in (N : Nat → Int) : ∀ j : Nat, 0 ≤ gfold (aHomeF N) j 0 ∧ gfold (aHomeF N) j 0 ≤ (j : Int) := by
  intro j
  induction j with
  | zero => exact ⟨by show (0 : Int) ≤ 0; omega, by show (0 : Int) ≤ _; omega⟩
  | succ j ih =>
    rw [gfold_succ]
    generalize gfold (aHomeF N) j 0 = b at ih ⊢
    unfold aHomeF
    split <;> omega
theorem m_home {h : gH} (hc : cW (ct h)) : f_Mo_home h = some (h, aHome (ct h) (h 92)) := by
  have hC : 0 ≤ h 83 6 ∧ h 83 6 ≤ 6 := hc.2.2.1
  obtain ⟨C, hCe⟩ : ∃ C : Nat, h 83 6 = (C : Int) := ⟨(h 83 6).toNat, by omega⟩
  unfold f_Mo_home
  have key := gloop (S := Int × Int × gH) (F := fun n x => f_Mo_home_L4 (fun v3 h4 => some (h4, v3)) n x.1 x.2.1 x.2.2) (K := fun x => some (x.2.2, x.1)) C (fun j => (gfold (aHomeF (h 92)) j 0, (j : Int), h)) ?_ ?_ 50000 (by omega)
  · refine Eq.trans key ?_
    unfold aHome
    rw [ct_83_6, hCe, Int.toNat_natCast]
  · intro n j hj
    show f_Mo_home_L4 _ (n + 1) (gfold (aHomeF (h 92)) j 0) (j : Int) h = f_Mo_home_L4 _ n (gfold (aHomeF (h 92)) (j + 1) 0) ((j + 1 : Nat) : Int) h
    have hb := aHome_in (h 92) j
    rw [gfold_succ]
    generalize gfold (aHomeF (h 92)) j 0 = best at hb ⊢
    unfold aHomeF
    rw [f_Mo_home_L4, if_neg (by omega)]
    unfold f_Mo_home_J31
    simp (disch := omega) only [gdix, gs_s, gb_s, ga_1, ga_2, ga_11, ga_20, ga_26, ga_32, ga_38, ga_44, ga_s, Int.toNat_natCast, gup92, gnow_92, gnow_gnow, gnow_ne, nu_at, nu_ne, ct_now, gnow_self]
    by_cases c1 : h 92 (26 + j) = 3
    · rw [if_pos c1, if_pos c1, gadd_eq (by omega) (by omega)]
    · rw [if_neg c1, if_neg c1, gadd_eq (by omega) (by omega)]
  · intro n
    show f_Mo_home_L4 _ (n + 1) _ (C : Int) h = _
    rw [f_Mo_home_L4, if_pos (by omega)]
def aSumF (N : Nat → Int) (but : Int) (k : Nat) (x : Int) : Int := x + (if (k : Int) = but then 0 else if N (26 + k) = 3 then N (38 + k) else N 0)
def aSum (c : gH) (N : Nat → Int) (but : Int) : Int := gfold (aSumF N but) (c 83 6).toNat 0
theorem aSum_in {c : gH} {w : Int} {N : Nat → Int} (hn : nW c w N) (but : Int) : ∀ j : Nat, (j : Int) ≤ c 83 6 → -(j : Int) ≤ gfold (aSumF N but) j 0 ∧ gfold (aSumF N but) j 0 ≤ 100000 * (j : Int) := by
  intro j
  induction j with
  | zero => intro _; exact ⟨by show -((0 : Nat) : Int) ≤ 0; omega, by show (0 : Int) ≤ _; omega⟩
  | succ j ih =>
    intro hj
    have ih' := ih (by omega)
    have h0 := hn.1
    have h3 := (hn.2.2.2 j (by omega)).2.2.1
    rw [gfold_succ]
    generalize gfold (aSumF N but) j 0 = b at ih' ⊢
    unfold aSumF
    split
    · omega
    · split <;> omega
theorem m_minutes {h : gH} (hc : cW (ct h)) {w : Int} (hn : nW (ct h) w (h 92)) (but : Int) : f_Mo_minutes but h = some (h, aSum (ct h) (h 92) but) := by
  have hC : 0 ≤ h 83 6 ∧ h 83 6 ≤ 6 := hc.2.2.1
  obtain ⟨C, hCe⟩ : ∃ C : Nat, h 83 6 = (C : Int) := ⟨(h 83 6).toNat, by omega⟩
  have h0 := hn.1
  unfold f_Mo_minutes
  have key := gloop (S := Int × Int × gH) (F := fun n x => f_Mo_minutes_L4 but (fun v4 h5 => some (h5, v4)) n x.1 x.2.1 x.2.2) (K := fun x => some (x.2.2, x.1)) C (fun j => (gfold (aSumF (h 92) but) j 0, (j : Int), h)) ?_ ?_ 50000 (by omega)
  · refine Eq.trans key ?_
    unfold aSum
    rw [ct_83_6, hCe, Int.toNat_natCast]
  · intro n j hj
    show f_Mo_minutes_L4 but _ (n + 1) (gfold (aSumF (h 92) but) j 0) (j : Int) h = f_Mo_minutes_L4 but _ n (gfold (aSumF (h 92) but) (j + 1) 0) ((j + 1 : Nat) : Int) h
    have hb := aSum_in hn but j (by rw [ct_83_6]; omega)
    have h3 := (hn.2.2.2 j (by rw [ct_83_6]; omega)).2.2.1
    rw [gfold_succ]
    generalize gfold (aSumF (h 92) but) j 0 = best at hb ⊢
    unfold aSumF
    rw [f_Mo_minutes_L4, if_neg (by omega)]
    unfold f_Mo_minutes_J53
    simp (disch := omega) only [gdix, gs_s, gb_s, ga_1, ga_2, ga_11, ga_20, ga_26, ga_32, ga_38, ga_44, ga_s, Int.toNat_natCast, gup92, gnow_92, gnow_gnow, gnow_ne, nu_at, nu_ne, ct_now, gnow_self]
    by_cases c0 : (j : Int) = but
    · rw [if_pos c0, if_pos c0, gadd_eq (by omega) (by omega)]
    · rw [if_neg c0, if_neg c0]
      by_cases c1 : h 92 (26 + j) = 3
      · rw [if_pos c1, if_pos c1, gadd_eq (by omega) (by omega)]
      · rw [if_neg c1, if_neg c1, gadd_eq (by omega) (by omega)]
  · intro n
    show f_Mo_minutes_L4 but _ (n + 1) _ (C : Int) h = _
    rw [f_Mo_minutes_L4, if_pos (by omega)]
/- a row put in another's place, its first n numbers -/
def grw (h : gH) (d : Nat) (n : Nat) (f : Nat → Int) : gH := fun x y => if x = d ∧ y < n then f y else h x y
theorem grw_step (h : gH) (d n : Nat) (f : Nat → Int) : gup (grw h d n f) d n (f n) = grw h d (n + 1) f := by
  funext x y
  unfold gup grw
  by_cases hx : x = d
  · subst hx
    by_cases hy : y = n
    · subst hy; simp
    · by_cases hl : y < n
      · simp [hy, hl, show y < n + 1 by omega]
      · simp [hy, hl, show ¬ y < n + 1 by omega]
  · simp [hx]
theorem grw_0 (h : gH) (d : Nat) (f : Nat → Int) : grw h d 0 f = h := by
  funext x y
  unfold grw
  rw [if_neg (by omega)]
theorem grw_ne {h : gH} {d n : Nat} {f : Nat → Int} {x : Nat} (hx : x ≠ d) : grw h d n f x = h x := by
  funext y
  unfold grw
  rw [if_neg (fun q => hx q.1)]
theorem m_save {h : gH} : f_Mo_save h = some (grw h 104 50 (h 92), 0) := by
  unfold f_Mo_save
  have key := gloop (S := Int × gH) (F := fun n x => f_Mo_save_L2 (fun h3 => some (h3, 0)) n x.1 x.2) (K := fun x => some (x.2, 0)) 50 (fun j => ((j : Int), grw h 104 j (h 92))) ?_ ?_ 50000 (by omega)
  · have key' : f_Mo_save_L2 (fun h3 => some (h3, 0)) 50000 ((0 : Nat) : Int) (grw h 104 0 (h 92)) = _ := key
    rw [grw_0] at key'
    exact key'
  · intro n j hj
    show f_Mo_save_L2 _ (n + 1) (j : Int) (grw h 104 j (h 92)) = f_Mo_save_L2 _ n ((j + 1 : Nat) : Int) (grw h 104 (j + 1) (h 92))
    rw [f_Mo_save_L2, if_neg (by omega)]
    simp (disch := omega) only [gdix, gs_s, ga_s, Int.toNat_natCast]
    rw [grw_ne (show 92 ≠ 104 by decide), grw_step]
  · intro n
    show f_Mo_save_L2 _ (n + 1) ((50 : Nat) : Int) _ = _
    rw [f_Mo_save_L2, if_pos (by omega)]
theorem m_putBack {h : gH} : f_Mo_putBack h = some (grw h 92 50 (h 104), 0) := by
  unfold f_Mo_putBack
  have key := gloop (S := Int × gH) (F := fun n x => f_Mo_putBack_L2 (fun h3 => some (h3, 0)) n x.1 x.2) (K := fun x => some (x.2, 0)) 50 (fun j => ((j : Int), grw h 92 j (h 104))) ?_ ?_ 50000 (by omega)
  · have key' : f_Mo_putBack_L2 (fun h3 => some (h3, 0)) 50000 ((0 : Nat) : Int) (grw h 92 0 (h 104)) = _ := key
    rw [grw_0] at key'
    exact key'
  · intro n j hj
    show f_Mo_putBack_L2 _ (n + 1) (j : Int) (grw h 92 j (h 104)) = f_Mo_putBack_L2 _ n ((j + 1 : Nat) : Int) (grw h 92 (j + 1) (h 104))
    rw [f_Mo_putBack_L2, if_neg (by omega)]
    simp (disch := omega) only [gdix, gs_s, ga_s, Int.toNat_natCast]
    rw [grw_ne (show 104 ≠ 92 by decide), grw_step]
  · intro n
    show f_Mo_putBack_L2 _ (n + 1) ((50 : Nat) : Int) _ = _
    rw [f_Mo_putBack_L2, if_pos (by omega)]
