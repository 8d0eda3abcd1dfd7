/- PURE: tried on a copy, or saved and put back -/
def tS (h hh : gH) : Prop := ∀ x, x < 37 ∨ 47 ≤ x → hh x = h x
theorem tS_id (h : gH) : tS h h := fun _ _ => rfl
theorem tS_tr {h a b : gH} (h1 : tS h a) (h2 : tS a b) : tS h b := fun x hx => (h2 x hx).trans (h1 x hx)
theorem tS_G {h hh h' : gH} (h1 : tS h hh) (h2 : kG 37 hh h') : tS h h' := fun x hx => (h2.1 x (by omega)).trans (h1 x hx)
theorem tS_u {h hh : gH} {a k : Nat} {v : Int} (h1 : tS h hh) (ha : 37 ≤ a ∧ a < 47) : tS h (gup hh a k v) := fun x hx => (gu_r (by omega)).trans (h1 x hx)
theorem tS_CR {h hh : gH} {c : Nat} (g : GK h c) (h1 : tS h hh) : CR (ct h) hh c := by
  obtain ⟨g1, g2, ⟨g3, g4, g5, g6, gF⟩, -⟩ := g
  exact CR_c (fun x _ _ => h1 x (by omega)) g6
theorem k_copy37 {h hh : gH} {c : Nat} (g : GK h c) (h1 : tS h hh) : ∃ h', f_Traffic_copyFrom 37 27 hh = some (h', 0) ∧ TR (ct h) h' c 37 (h 92) ∧ tS h h' := by
  have hr := tS_CR g h1
  obtain ⟨g1, g2, ⟨g3, g4, g5, g6, gF⟩, g7, -⟩ := g
  obtain ⟨h', z1, z2, z3, z4⟩ := k_copy g1 (p := 27) (t := 37) (Or.inl rfl) (Or.inr (Or.inl rfl)) (by decide) hr (TR_c (fun x _ _ => h1 x (by omega)) g7.1)
  exact ⟨h', z1, z2, fun x hx => (z4 x (by omega)).trans (h1 x hx)⟩
theorem k_pass37 {h hh : gH} {c : Nat} (g : GK h c) (h1 : tS h hh) {N : Nat → Int} (hT : TR (ct h) hh c 37 N) (hn : nW (ct h) 0 N) (ht : tW (ct h) N) {n : Nat} (hn1 : n ≤ 300) (h0 : N 0 + (n : Int) ≤ 100000) : ∃ h', f_Traffic_pass 37 (n : Int) hh = some (h', 0) ∧ TR (ct h) h' c 37 (aIt (ct h) (-1) n N) ∧ tS h h' ∧ CR (ct h) h' c ∧ nW (ct h) 0 (aIt (ct h) (-1) n N) := by
  obtain ⟨h', z1, z2, z3⟩ := k_pass g.1 g.2.1 (by decide) hn ht (tS_CR g h1) hT (n := n) (by omega) h0
  exact ⟨h', z1, z2, tS_G h1 z3, tS_CR g (tS_G h1 z3), (pW_it g.1 g.2.1 (-1) hn ht n h0).1⟩
def bk (H : gH) : gH := grw H 104 50 (H 92)
theorem bk_ne {H : gH} {x : Nat} (hx : x ≠ 104) : bk H x = H x := grw_ne hx
theorem ct_bk (H : gH) : ct (bk H) = ct H := ct_eq (fun x _ _ => bk_ne (by omega)) (by rw [bk_ne (by decide)]) (by rw [bk_ne (by decide)]) (by rw [bk_ne (by decide)]) (by rw [bk_ne (by decide)])
theorem m_saveB (H : gH) : f_Mo_save H = some (bk H, 0) := m_save
theorem bk_self (H : gH) : gnow (bk H) (H 92) = bk H := by
  have := gnow_self (bk H)
  rw [bk_ne (show 92 ≠ 104 by decide)] at this
  exact this
theorem m_goB {H : gH} {M : Nat → Int} (hc : cW (ct H)) (hd : dW (ct H)) (hn : nW (ct H) 0 M) (ht : tW (ct H) M) {n : Nat} (hn1 : n ≤ 1000) (h0 : M 0 + (n : Int) ≤ 100000) : f_Mo_go (n : Int) (gnow (bk H) M) = some (gnow (bk H) (aIt (ct H) (H 83 32) n M), 0) := by
  have hm : mW (gnow (bk H) M) := by unfold mW; rw [ct_now, ct_bk, gnow_92]; exact ⟨hc, hd, hn, ht⟩
  rw [m_go hm hn1 (by rw [gnow_92]; exact h0), ct_now, ct_bk, gnow_92, gnow_gnow, gnow_ne (by decide), bk_ne (by decide)]
theorem m_minB {H : gH} {M : Nat → Int} (hc : cW (ct H)) {w : Int} (hn : nW (ct H) w M) (but : Int) : f_Mo_minutes but (gnow (bk H) M) = some (gnow (bk H) M, aSum (ct H) M but) := by
  rw [m_minutes (w := w) (by rw [ct_now, ct_bk]; exact hc) (by rw [ct_now, ct_bk, gnow_92]; exact hn), ct_now, ct_bk, gnow_92]
theorem m_backB {H : gH} {M : Nat → Int} (hM : ∀ y, 50 ≤ y → M y = H 92 y) : f_Mo_putBack (gnow (bk H) M) = some (bk H, 0) := by
  rw [m_putBack]
  exact congrArg some (congrArg (fun z => (z, (0 : Int))) (back_id hM))
theorem off_it {c : gH} (hc : cW c) (ab : Int) {N0 N : Nat → Int} (h0 : 0 ≤ N 0) (hv : vW c N) (h : ∀ y, 50 ≤ y → N y = N0 y) (n : Nat) : ∀ y, 50 ≤ y → aIt c ab n N y = N0 y := (vQ_it hc ab (N0 := N0) ⟨h0, hv, h⟩ n).2.2
/- the class's heap H is like h but for what it tried -/
theorem tS_ct {h H : gH} (h1 : tS h H) : ct H = ct h := ct_eq (fun x _ _ => h1 x (by omega)) (by rw [h1 83 (by omega)]) (by rw [h1 83 (by omega)]) (by rw [h1 83 (by omega)]) (by rw [h1 83 (by omega)])
theorem GI_try {h H : gH} {c : Nat} (g : GK h c) (h1 : tS h H) : GI (bk H) := ⟨c, GK_try g (fun x h2 h3 _ _ => by rw [bk_ne (by omega), h1 x (by omega)]) (fun x h2 h3 => by rw [bk_ne (by omega), h1 x (by omega)])⟩
theorem op_allHome {h : gH} (g : GI h) (a b : Int) : gok (f_DS_allHome a b) (f_Mo_allHome a b) h := by
  obtain ⟨c, g⟩ := g
  have hgi : GI h := ⟨c, g⟩
  by_cases ca : 1 ≤ a ∧ a ≤ 300
  · by_cases cb : 0 ≤ b ∧ b ≤ 1
    · obtain ⟨n, rfl⟩ : ∃ n : Nat, a = (n : Int) := ⟨a.toNat, by omega⟩
      have gg := g
      obtain ⟨g1, g2, ⟨g3, g4, g5, g6, gF⟩, g7, g8, -⟩ := g
      obtain ⟨w1, w2, w3, w4⟩ := g7.2.2.1
      obtain ⟨hA, z1, z2, z3⟩ := k_copy37 gg (tS_id h)
      obtain ⟨H, y1, y2, y3, y4, y5⟩ := k_pass37 gg z3 z2 w1 w2 (n := n) (by omega) (by omega)
      have hct := tS_ct y3
      have x83 := y3 83 (by omega)
      have x92 := y3 92 (by omega)
      generalize hX : aIt (ct h) (-1) n (h 92) = X at y2 y5
      have hoff : ∀ y, 50 ≤ y → X y = H 92 y := by rw [← hX, x92]; exact off_it g1 (-1) w1.1.1 w3 (fun _ _ => rfl) n
      have e0 : f_Mo_go (n : Int) (bk H) = some (gnow (bk H) X, 0) := by
        have := m_goB (H := H) (M := H 92) (by rw [hct]; exact g1) (by rw [hct]; exact g2) (by rw [hct, x92]; exact w1) (by rw [hct, x92]; exact w2) (n := n) (by omega) (by rw [x92]; omega)
        rw [bk_self, hct, x83, g8, x92, hX] at this
        exact this
      by_cases c0 : b = 0
      · refine ⟨H, aHome (ct h) X, bk H, ?_, ?_, GI_try gg y3⟩
        · unfold f_DS_allHome
          rw [k_out, gb_s, if_pos ca, if_pos rfl, k_out, gb_s, if_pos cb, if_pos rfl, z1, gb_s, y1, gb_s, if_pos c0, k_countHome g1 y4 y2, gb_s]
        · unfold f_Mo_allHome f_Mo_allHome_J50
          rw [m_in, gb_s, if_pos ca, if_neg (by decide), m_in, gb_s, if_pos cb, if_neg (by decide), m_saveB, gb_s, e0, gb_s, if_pos c0, m_home (by rw [ct_now, ct_bk, hct]; exact g1), gb_s, ct_now, ct_bk, hct, gnow_92, m_backB hoff, gb_s]
      · refine ⟨H, aSum (ct h) X (-1), bk H, ?_, ?_, GI_try gg y3⟩
        · unfold f_DS_allHome
          rw [k_out, gb_s, if_pos ca, if_pos rfl, k_out, gb_s, if_pos cb, if_pos rfl, z1, gb_s, y1, gb_s, if_neg c0, k_together g1 y5 y4 y2, gb_s]
        · unfold f_Mo_allHome f_Mo_allHome_J50
          rw [m_in, gb_s, if_pos ca, if_neg (by decide), m_in, gb_s, if_pos cb, if_neg (by decide), m_saveB, gb_s, e0, gb_s, if_neg c0, m_minB (w := 0) (by rw [hct]; exact g1) (by rw [hct]; exact y5), gb_s, m_backB hoff, gb_s, hct]
    · exact gok_id (r := -1000000002) hgi (by unfold f_DS_allHome; rw [k_out, gb_s, if_pos ca, if_pos rfl, k_out, gb_s, if_neg cb, if_neg (by decide)]) (by unfold f_Mo_allHome; rw [m_in, gb_s, if_pos ca, if_neg (by decide), m_in, gb_s, if_neg cb, if_pos rfl])
  · exact gok_id (r := -1000000002) hgi (by unfold f_DS_allHome; rw [k_out, gb_s, if_neg ca, if_neg (by decide)]) (by unfold f_Mo_allHome; rw [m_in, gb_s, if_neg ca, if_pos rfl])
/- which law -/
theorem aLw_ok {D : gH} (hc : cW D) {N : Nat → Int} (hn : nW D 0 N) (ht : tW D N) (hv : vW D N) (st : Int) {w : Int} (hw : 0 ≤ w ∧ w ≤ 4) : nW D 0 (aLw D st w N) ∧ tW D (aLw D st w N) ∧ vW D (aLw D st w N) ∧ aLw D st w N 0 = N 0 ∧ ∀ y, 50 ≤ y → aLw D st w N y = N y := by
  have hS := hc.2.1.2
  obtain ⟨p1, p2, p3⟩ := pW_lw hc hn ht st hw (D 83 2).toNat (Nat.le_refl _)
  refine ⟨p1, p2, ?_, p3, ?_⟩
  · exact gfold_inv (aLwF st w) (fun _ x => vW D x) N hv _ (fun j x hj hx => by unfold aLwF; exact vW_nu hc (by omega) hx) _ (Nat.le_refl _)
  · exact gfold_inv (aLwF st w) (fun _ x => ∀ y, 50 ≤ y → x y = N y) N (fun _ _ => rfl) _ (fun j x hj hx => by unfold aLwF; intro y hy; rw [nu_ne (by omega)]; exact hx y hy) _ (Nat.le_refl _)
def lwV (D : gH) (N : Nat → Int) (n : Nat) (st w : Int) : Int := aSum D (aIt D (-1) n (aLw D st w N)) (-1)
theorem lwV_in {D : gH} (hc : cW D) (hd : dW D) {N : Nat → Int} (hw : gw D N) (st : Int) {w : Int} (hw2 : 0 ≤ w ∧ w ≤ 4) {n : Nat} (hn : n ≤ 300) : 0 ≤ lwV D N n st w ∧ lwV D N n st w ≤ 600000 := by
  obtain ⟨w1, w2, w3, w4⟩ := hw
  obtain ⟨p1, p2, p3, p4, p5⟩ := aLw_ok hc w1 w2 w3 st hw2
  obtain ⟨r1, r2, r3⟩ := pW_it hc hd (-1) p1 p2 n (by rw [p4]; omega)
  exact ⟨aSum_nn r1.1.1 (vQ_it hc (-1) (N0 := aLw D st w N) ⟨p1.1.1, p3, fun _ _ => rfl⟩ n).2.1 _, aSum_le hc r1 _⟩
def blF (V : Nat → Int) : Nat → Nat → Int × Int → Int × Int
  | 0, _, p => p
  | m + 1, w, p => blF V m (w + 1) (if p.2 ≤ V w then p else ((w : Int), V w))
def mbF (V : Nat → Int) : Nat → Nat → Int × Int → Int × Int
  | 0, _, p => p
  | m + 1, w, p => mbF V m (w + 1) (if p.2 < 0 ∨ V w < p.2 then ((w : Int), V w) else p)
theorem bl_mb {V : Nat → Int} (hV : ∀ w, w < 5 → 0 ≤ V w) : ∀ m w p, w + m = 5 → 0 ≤ p.2 → blF V m w p = mbF V m w p := by
  intro m
  induction m with
  | zero => intro w p _ _; rfl
  | succ m ih =>
    intro w p hw hp
    rw [blF, mbF]
    by_cases c : p.2 ≤ V w
    · rw [if_pos c, if_neg (by omega)]; exact ih _ _ (by omega) hp
    · rw [if_neg c, if_pos (by omega)]; exact ih _ _ (by omega) (hV w (by omega))
theorem k_blL {h : gH} {c : Nat} (g : GK h c) {n : Nat} (hn : n ≤ 300) (st : Int) : ∀ (m w f : Nat) (hh : gH) (p : Int × Int), w + m = 5 → m < f → tS h hh → ∃ h', f_DS_bestLaw_L39 (n : Int) st (fun v15 h16 => some (h16, v15)) f p.1 p.2 (w : Int) hh = some (h', (blF (fun w : Nat => lwV (ct h) (h 92) n st (w : Int)) m w p).1) ∧ tS h h' := by
  obtain ⟨w1, w2, w3, w4⟩ := g.2.2.2.1.2.2.1
  intro m
  induction m with
  | zero =>
    intro w f hh p hw hf hS
    obtain ⟨f, rfl⟩ : ∃ f', f = f' + 1 := ⟨f - 1, by omega⟩
    exact ⟨hh, by rw [f_DS_bestLaw_L39, if_pos (by omega)]; rfl, hS⟩
  | succ m ih =>
    intro w f hh p hw hf hS
    obtain ⟨f, rfl⟩ : ∃ f', f = f' + 1 := ⟨f - 1, by omega⟩
    obtain ⟨h1, z1, z2, z3⟩ := k_copy37 g hS
    obtain ⟨h2, y1, y2, y3⟩ := k_decree g.1 (by decide) (tS_CR g z3) z2 st (w : Int)
    obtain ⟨p1, p2, p3, p4, p5⟩ := aLw_ok g.1 w1 w2 w3 st (w := (w : Int)) (by omega)
    obtain ⟨h3, x1, x2, x3, x4, x5⟩ := k_pass37 g (tS_G z3 y3) y2 p1 p2 hn (by rw [p4]; omega)
    rw [f_DS_bestLaw_L39, if_neg (by omega), z1, gb_s, y1, gb_s, x1, gb_s, k_together g.1 x5 x4 x2, gb_s]
    unfold f_DS_bestLaw_J98
    rw [ga_s (by omega), blF]
    show ∃ h', (if p.2 ≤ lwV (ct h) (h 92) n st (w : Int) then _ else _) = _ ∧ _
    by_cases cc : p.2 ≤ lwV (ct h) (h 92) n st (w : Int)
    · rw [if_pos cc]
      simp only [if_pos cc]
      exact ih (w + 1) f h3 p (by omega) (by omega) x3
    · rw [if_neg cc]
      simp only [if_neg cc]
      exact ih (w + 1) f h3 ((w : Int), lwV (ct h) (h 92) n st (w : Int)) (by omega) (by omega) x3
theorem m_blI {B D : gH} {N : Nat → Int} (hD : ct B = D) (hc : cW D) (v1 st v3 v4 w : Int) (k : gH → Option gO) : f_Mo_bestLaw_L52 v1 st v3 v4 w k 50000 0 (gnow B N) = k (gnow B (aLw D st w N)) := by
  have hS : 0 ≤ B 83 2 ∧ B 83 2 ≤ 9 := by have := hc.2.1; rw [← hD, ct_83_2] at this; exact this
  obtain ⟨S, hSe⟩ : ∃ S : Nat, B 83 2 = (S : Int) := ⟨(B 83 2).toNat, by omega⟩
  have key := m_ph (h := B) (B := S) (N0 := N) (f := aLwF st w) (L := fun k n j hh => f_Mo_bestLaw_L52 v1 st v3 v4 w k n j hh) k ?_ ?_ (by omega)
  · unfold aLw
    rw [← hD, ct_83_2, hSe, Int.toNat_natCast]
    exact key
  · intro n j hj
    rw [gfold_succ]
    generalize gfold (aLwF st w) j N = M
    show f_Mo_bestLaw_L52 v1 st v3 v4 w k (n + 1) (j : Int) (gnow B M) = f_Mo_bestLaw_L52 v1 st v3 v4 w k n ((j + 1 : Nat) : Int) (gnow B (aLwF st w j M))
    rw [f_Mo_bestLaw_L52, gnow_ne (show 83 ≠ 92 by decide), hSe, if_neg (by omega)]
    unfold f_Mo_bestLaw_J80 f_Mo_bestLaw_J94 aLwF
    rw [ga_2 (by omega), Int.toNat_natCast, gdix (by omega) (by omega), gs_s, ga_s (by omega), gup_now, gdix (by omega) (by omega), gdix (by omega) (by omega), gs_s, gup_now, gnow_92]
    by_cases c1 : st = -1
    · rw [if_pos c1, if_pos (Or.inl c1)]
    · rw [if_neg c1]
      by_cases c2 : st = (j : Int)
      · rw [if_pos c2, if_pos (Or.inr c2)]
      · rw [if_neg c2, if_neg (by omega)]
  · intro n
    show f_Mo_bestLaw_L52 v1 st v3 v4 w k (n + 1) (S : Int) (gnow B _) = _
    rw [f_Mo_bestLaw_L52, gnow_ne (show 83 ≠ 92 by decide), hSe, if_pos (by omega)]
theorem m_blL {h H : gH} {c : Nat} (g : GK h c) (hS : tS h H) {n : Nat} (hn : n ≤ 300) (st : Int) : ∀ (m w f : Nat) (p : Int × Int), w + m = 5 → m < f → f_Mo_bestLaw_L43 (n : Int) st (fun v23 h24 => some (h24, v23)) f p.1 p.2 (w : Int) (bk H) = some (bk H, (mbF (fun w : Nat => lwV (ct h) (h 92) n st (w : Int)) m w p).1) := by
  obtain ⟨w1, w2, w3, w4⟩ := g.2.2.2.1.2.2.1
  have hct := tS_ct hS
  have x83 := hS 83 (by omega)
  have x92 := hS 92 (by omega)
  have g8 := g.2.2.2.2.1
  intro m
  induction m with
  | zero =>
    intro w f p hw hf
    obtain ⟨f, rfl⟩ : ∃ f', f = f' + 1 := ⟨f - 1, by omega⟩
    rw [f_Mo_bestLaw_L43, if_pos (by omega)]; rfl
  | succ m ih =>
    intro w f p hw hf
    obtain ⟨f, rfl⟩ : ∃ f', f = f' + 1 := ⟨f - 1, by omega⟩
    obtain ⟨p1, p2, p3, p4, p5⟩ := aLw_ok g.1 w1 w2 w3 st (w := (w : Int)) (by omega)
    have e0 := m_goB (H := H) (M := aLw (ct h) st (w : Int) (h 92)) (by rw [hct]; exact g.1) (by rw [hct]; exact g.2.1) (by rw [hct]; exact p1) (by rw [hct]; exact p2) (n := n) (by omega) (by rw [p4]; omega)
    rw [hct, x83, g8] at e0
    have hnn := (pW_it g.1 g.2.1 (-1) p1 p2 n (by rw [p4]; omega)).1
    have hoff : ∀ y, 50 ≤ y → aIt (ct h) (-1) n (aLw (ct h) st (w : Int) (h 92)) y = H 92 y := by rw [x92]; exact off_it g.1 (-1) p1.1.1 p3 p5 n
    rw [f_Mo_bestLaw_L43, if_neg (by omega), ← bk_self H, m_blI (D := ct h) (by rw [ct_bk, hct]) g.1, x92, e0, gb_s, m_minB (w := 0) (by rw [hct]; exact g.1) (by rw [hct]; exact hnn), gb_s, m_backB hoff, gb_s, hct]
    unfold f_Mo_bestLaw_J129 f_Mo_bestLaw_J135 f_Mo_bestLaw_J148 f_Mo_bestLaw_J155
    rw [ga_s (by omega), mbF]
    have hV : aSum (ct h) (aIt (ct h) (-1) n (aLw (ct h) st (w : Int) (h 92))) (-1) = lwV (ct h) (h 92) n st (w : Int) := rfl
    rw [hV, ← x92, bk_self]
    by_cases c1 : p.2 < 0
    · rw [if_pos c1, if_pos c1]
      simp only [show (p.2 < 0 ∨ lwV (ct h) (H 92) n st (w : Int) < p.2) = True from eq_true (Or.inl c1), if_true]
      have := ih (w + 1) f ((w : Int), lwV (ct h) (H 92) n st (w : Int)) (by omega) (by omega)
      rw [← x92] at this
      exact this
    · rw [if_neg c1, if_neg c1]
      by_cases c2 : p.2 ≤ lwV (ct h) (H 92) n st (w : Int)
      · rw [if_pos c2, if_pos c2]
        simp only [show (p.2 < 0 ∨ lwV (ct h) (H 92) n st (w : Int) < p.2) = False from eq_false (by omega), if_false]
        have := ih (w + 1) f p (by omega) (by omega)
        rw [← x92] at this
        exact this
      · rw [if_neg c2, if_neg c2, if_neg c1]
        simp only [show (p.2 < 0 ∨ lwV (ct h) (H 92) n st (w : Int) < p.2) = True from eq_true (by omega), if_true]
        have := ih (w + 1) f ((w : Int), lwV (ct h) (H 92) n st (w : Int)) (by omega) (by omega)
        rw [← x92] at this
        exact this
theorem op_bestLaw {h : gH} (g : GI h) (a b : Int) : gok (f_DS_bestLaw a b) (f_Mo_bestLaw a b) h := by
  obtain ⟨c, g⟩ := g
  have hgi : GI h := ⟨c, g⟩
  have bS : 0 ≤ h 83 2 ∧ h 83 2 ≤ 9 := g.1.2.1
  have core : gok (f_DS_bestLaw_J16 a b) (f_Mo_bestLaw_J16 a b) h := by
    by_cases ca : 1 ≤ a ∧ a ≤ 300
    · obtain ⟨n, rfl⟩ : ∃ n : Nat, a = (n : Int) := ⟨a.toNat, by omega⟩
      obtain ⟨H, z1, z2⟩ := k_blL g (n := n) (by omega) b 5 0 50000 h (0, 1000000000) rfl (by omega) (tS_id h)
      have e2 := m_blL g z2 (n := n) (by omega) b 5 0 50000 (0, -1) rfl (by omega)
      have hV : ∀ w : Nat, w < 5 → 0 ≤ lwV (ct h) (h 92) n b (w : Int) ∧ lwV (ct h) (h 92) n b (w : Int) ≤ 600000 := fun w hw => lwV_in g.1 g.2.1 g.2.2.2.1.2.2.1 b (by omega) (by omega)
      have heq : blF (fun w : Nat => lwV (ct h) (h 92) n b (w : Int)) 5 0 (0, 1000000000) = mbF (fun w : Nat => lwV (ct h) (h 92) n b (w : Int)) 5 0 (0, -1) := by
        have v0 := hV 0 (by omega)
        rw [blF, mbF, if_neg (by show ¬ ((1000000000 : Int) ≤ lwV (ct h) (h 92) n b ((0 : Nat) : Int)); omega), if_pos (Or.inl (by decide))]
        exact bl_mb (fun w hw => (hV w hw).1) 4 (0 + 1) _ rfl v0.1
      refine ⟨H, (blF (fun w : Nat => lwV (ct h) (h 92) n b (w : Int)) 5 0 (0, 1000000000)).1, bk H, ?_, ?_, GI_try g z2⟩
      · unfold f_DS_bestLaw_J16
        rw [k_out, gb_s, if_pos ca, if_pos rfl]
        exact z1
      · unfold f_Mo_bestLaw_J16
        rw [m_in, gb_s, if_pos ca, if_neg (by decide), m_saveB, gb_s, heq]
        exact e2
    · exact gok_id (r := -1000000002) hgi (by unfold f_DS_bestLaw_J16; rw [k_out, gb_s, if_neg ca, if_neg (by decide)]) (by unfold f_Mo_bestLaw_J16; rw [m_in, gb_s, if_neg ca, if_pos rfl])
  by_cases cb : b = -1
  · obtain ⟨h1, r, h2, q1, q2, q3⟩ := core
    exact ⟨h1, r, h2, by unfold f_DS_bestLaw; rw [if_pos cb]; exact q1, by unfold f_Mo_bestLaw; rw [if_pos cb]; exact q2, q3⟩
  · by_cases cs : 0 ≤ b ∧ b < h 83 2
    · obtain ⟨h1, r, h2, q1, q2, q3⟩ := core
      have hs : h1 83 = h 83 := by
        by_cases ca : 1 ≤ a ∧ a ≤ 300
        · obtain ⟨n, rfl⟩ : ∃ n : Nat, a = (n : Int) := ⟨a.toNat, by omega⟩
          obtain ⟨H, z1, z2⟩ := k_blL g (n := n) (by omega) b 5 0 50000 h (0, 1000000000) rfl (by omega) (tS_id h)
          unfold f_DS_bestLaw_J16 at q1
          rw [k_out, gb_s, if_pos ca, if_pos rfl] at q1
          have := (z1.symm.trans q1)
          have e := congrArg (fun o : Option gO => (o.getD (h, 0)).1) this
          have e : H = h1 := e
          rw [← e]; exact z2 83 (by omega)
        · unfold f_DS_bestLaw_J16 at q1
          rw [k_out, gb_s, if_neg ca, if_neg (by decide)] at q1
          have e := congrArg (fun o : Option gO => (o.getD (h, 0)).1) q1
          have e : h = h1 := e
          rw [← e]
      exact ⟨h1, r, h2, by unfold f_DS_bestLaw; rw [if_neg cb, k_noStreet g, gb_s, if_pos cs, if_pos rfl]; exact q1, by unfold f_Mo_bestLaw; rw [if_neg cb, m_isStreet (by rw [hs]; exact bS), gb_s, hs, if_pos cs, if_neg (by decide)]; exact q2, q3⟩
    · exact gok_id (r := -1000000001) hgi (by unfold f_DS_bestLaw; rw [if_neg cb, k_noStreet g, gb_s, if_neg cs, if_neg (by decide)]) (by unfold f_Mo_bestLaw; rw [if_neg cb, m_isStreet bS, gb_s, if_neg cs, if_pos rfl])
