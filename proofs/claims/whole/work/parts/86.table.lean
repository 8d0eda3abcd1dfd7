/- PURE: minutes bought: the reference's table -/
def bPy (D : gH) (N : Nat → Int) (s : Nat) (e t : Int) : Int := if N (2 + s) = 1 ∧ ¬ t / D 83 1 % 2 = e then 1 else 0
theorem bPy_01 (D : gH) (N : Nat → Int) (s : Nat) (e t : Int) : bPy D N s e t = 0 ∨ bPy D N s e t = 1 := by unfold bPy; split <;> simp
def bAt (D : gH) (N : Nat → Int) (a : Nat) (m : Int) (F : Nat → Int) (i r c : Nat) (v : Int) : Prop := (r = 0 ∧ c = a ∧ v = 0) ∨ (∃ q, r = q + 1 ∧ q ≤ i ∧ F (7 * q + c) = v) ∨ (∃ (s : Nat) (e : Int) (q : Nat), (s : Int) < D 83 2 ∧ (e = 0 ∨ e = 1) ∧ yZ D s e = c ∧ (N (2 + s) = 4 → e = 0) ∧ (r : Int) = (q : Int) + D 86 s ∧ q ≤ i ∧ F (7 * q + yA D s e) + bPy D N s e (m + (q : Int)) = v)
def bS (D : gH) (N : Nat → Int) (a : Nat) (m : Int) (n : Nat) (F : Nat → Int) (i : Nat) : Prop := (∀ y, y < 2107 → 0 ≤ F y ∧ F y ≤ 1000000) ∧ F a = 0 ∧ ∀ r c, r ≤ n → c < 7 → F (7 * r + c) < 1000000 → bAt D N a m F i r c (F (7 * r + c))
def bZ (i : Nat) (F F' : Nat → Int) : Prop := (∀ y, F' y ≤ F y) ∧ ∀ y, y < 7 * (i + 1) → F' y = F y
def bCw (n : Nat) (F : Nat → Int) (i c : Nat) : Prop := i < n → F (7 * (i + 1) + c) ≤ F (7 * i + c)
def bCs (D : gH) (N : Nat → Int) (m : Int) (n : Nat) (F : Nat → Int) (i c s : Nat) : Prop := ∀ e : Int, (e = 0 ∨ e = 1) → yA D s e = c → (N (2 + s) = 4 → e = 0) → (i : Int) + D 86 s ≤ (n : Int) → F (7 * (i + (D 86 s).toNat) + yZ D s e) ≤ F (7 * i + c) + bPy D N s e (m + (i : Int))
theorem bZ_id (i : Nat) (F : Nat → Int) : bZ i F F := ⟨fun _ => Int.le_refl _, fun _ _ => rfl⟩
theorem bZ_tr {i : Nat} {F G H : Nat → Int} (h1 : bZ i F G) (h2 : bZ i G H) : bZ i F H := ⟨fun y => Int.le_trans (h2.1 y) (h1.1 y), fun y hy => (h2.2 y hy).trans (h1.2 y hy)⟩
theorem bAt_Z {D : gH} (hc : cW D) {N : Nat → Int} {a : Nat} {m : Int} {F F' : Nat → Int} {i r c : Nat} {v : Int} (hc7 : c < 7) (h : bAt D N a m F i r c v) (hz : bZ i F F') : bAt D N a m F' i r c v := by
  rcases h with h | ⟨q, h1, h2, h3⟩ | ⟨s, e, q, h1, h2, h3, h4, h5, h6, h7⟩
  · exact Or.inl h
  · exact Or.inr (Or.inl ⟨q, h1, h2, by rw [hz.2 _ (by omega)]; exact h3⟩)
  · have := (yAZ hc h1 h2).1.2.2.2.1
    exact Or.inr (Or.inr ⟨s, e, q, h1, h2, h3, h4, h5, h6, by rw [hz.2 _ (by omega)]; exact h7⟩)
theorem bAt_i {D : gH} {N : Nat → Int} {a : Nat} {m : Int} {F : Nat → Int} {i j r c : Nat} {v : Int} (hij : i ≤ j) (h : bAt D N a m F i r c v) : bAt D N a m F j r c v := by
  rcases h with h | ⟨q, h1, h2, h3⟩ | ⟨s, e, q, h1, h2, h3, h4, h5, h6, h7⟩
  · exact Or.inl h
  · exact Or.inr (Or.inl ⟨q, h1, by omega, h3⟩)
  · exact Or.inr (Or.inr ⟨s, e, q, h1, h2, h3, h4, h5, by omega, h7⟩)
theorem bS_i {D : gH} {N : Nat → Int} {a : Nat} {m : Int} {n : Nat} {F : Nat → Int} {i j : Nat} (hij : i ≤ j) (h : bS D N a m n F i) : bS D N a m n F j := ⟨h.1, h.2.1, fun r c h1 h2 h3 => bAt_i hij (h.2.2 r c h1 h2 h3)⟩
theorem bS_w {D : gH} (hc : cW D) {N : Nat → Int} {a : Nat} {m : Int} {n : Nat} {F : Nat → Int} {i r c : Nat} (hS : bS D N a m n F i) (ha : a < 7) (hr : i < r) (hrn : r ≤ n) (hn : n ≤ 300) (hc7 : c < 7) {v : Int} (h0 : 0 ≤ v) (h1 : v ≤ F (7 * r + c)) (hat : v < 1000000 → bAt D N a m F i r c v) : bS D N a m n (nu F (7 * r + c) v) i ∧ bZ i F (nu F (7 * r + c) v) := by
  obtain ⟨s1, s2, s3⟩ := hS
  have hz : bZ i F (nu F (7 * r + c) v) := by
    refine ⟨fun y => ?_, fun y hy => nu_ne (by omega)⟩
    by_cases e : y = 7 * r + c
    · rw [e, nu_at]; exact h1
    · rw [nu_ne e]; exact Int.le_refl _
  refine ⟨⟨fun y hy => ?_, by rw [nu_ne (by omega)]; exact s2, fun r' c' p1 p2 p3 => ?_⟩, hz⟩
  · by_cases e : y = 7 * r + c
    · rw [e, nu_at]
      have := (s1 (7 * r + c) (by omega)).2
      exact ⟨h0, by omega⟩
    · rw [nu_ne e]; exact s1 y hy
  · by_cases e : 7 * r' + c' = 7 * r + c
    · have e1 : r' = r := by omega
      have e2 : c' = c := by omega
      subst e1
      subst e2
      rw [nu_at] at p3 ⊢
      exact bAt_Z hc p2 (hat p3) hz
    · rw [nu_ne e] at p3 ⊢
      exact bAt_Z hc p2 (s3 r' c' p1 p2 p3) hz
theorem bCw_Z {n : Nat} {F F' : Nat → Int} {i j c : Nat} (hij : i ≤ j) (hc7 : c < 7) (h : bCw n F i c) (hz : bZ j F F') : bCw n F' i c := by
  intro hi
  have h1 := h hi
  have h2 := hz.1 (7 * (i + 1) + c)
  have h3 := hz.2 (7 * i + c) (by omega)
  omega
theorem bCs_Z {D : gH} {N : Nat → Int} {m : Int} {n : Nat} {F F' : Nat → Int} {i j c s : Nat} (hij : i ≤ j) (hc7 : c < 7) (h : bCs D N m n F i c s) (hz : bZ j F F') : bCs D N m n F' i c s := by
  intro e h1 h2 h3 h4
  have h5 := h e h1 h2 h3 h4
  have h6 := hz.1 (7 * (i + (D 86 s).toNat) + yZ D s e)
  have h7 := hz.2 (7 * i + c) (by omega)
  omega
theorem gi7 {i c : Nat} (hi : i ≤ 400) (hc : c < 7) : gadd (gmul 7 (i : Int)) (c : Int) = ((7 * i + c : Nat) : Int) := by
  rw [gmul_eq (by omega) (by omega), gadd_eq (by omega) (by omega)]; omega
theorem gi77 {i c : Nat} (hi : i ≤ 400) (hc : c < 7) : gadd (gadd (gmul 7 (i : Int)) 7) (c : Int) = ((7 * (i + 1) + c : Nat) : Int) := by
  rw [gmul_eq (by omega) (by omega), gadd_eq (a := 7 * (i : Int)) (b := 7) (by omega) (by omega), gadd_eq (by omega) (by omega)]; omega
theorem ct_grr {B : gH} {r : Nat} (h : r < 83 ∨ 91 < r) (F : Nat → Int) : ct (grr B r F) = ct B := ct_eq (fun x _ _ => grr_ne (by omega)) (by rw [grr_ne (by omega)]) (by rw [grr_ne (by omega)]) (by rw [grr_ne (by omega)]) (by rw [grr_ne (by omega)])
theorem m_bst {B : gH} (hc : cW (ct B)) {a : Nat} (ha : a < 7) {m : Int} (hm : 0 ≤ m ∧ m ≤ 999) {n : Nat} (hn : n ≤ 300) {i c : Nat} (hi : i ≤ n) {F : Nat → Int} (hS : bS (ct B) (B 92) a m n F i) (hh : F (7 * i + c) < 1000000) {s : Nat} (hs : (s : Int) < B 83 2) {e : Int} (he : e = 0 ∨ e = 1) (hce : yA (ct B) s e = c) (K : Int → gH → Option gO) : ∃ F', f_Mo_buy_J107 K (i : Int) (c : Int) (n : Int) m (F (7 * i + c)) (s : Int) (yZ (ct B) s e : Int) e (grr B 106 F) = K (gadd (s : Int) 1) (grr B 106 F') ∧ bS (ct B) (B 92) a m n F' i ∧ bZ i F F' ∧ bCs (ct B) (B 92) m n F' i c s := by
  have hSS : 0 ≤ B 83 2 ∧ B 83 2 ≤ 9 := hc.2.1
  have hsD : (s : Int) < ct B 83 2 := hs
  obtain ⟨p1, p2⟩ := y_half hc hsD
  obtain ⟨w1, w2⟩ := y_wide hc hsD
  obtain ⟨⟨-, -, a3, a4, a5⟩, -, -⟩ := yAZ hc hsD he
  have hc7 : c < 7 := by omega
  obtain ⟨W, hW⟩ : ∃ W : Nat, ct B 86 s = (W : Int) := ⟨(ct B 86 s).toNat, by omega⟩
  have hW' : B 86 s = (W : Int) := hW
  have d1 : 0 ≤ (m + (i : Int)) / ct B 83 1 := Int.ediv_nonneg (by omega) (by omega)
  have d2 : (m + (i : Int)) / ct B 83 1 ≤ m + (i : Int) := Int.ediv_le_self _ (by omega)
  have only : ∀ e' : Int, (e' = 0 ∨ e' = 1) → yA (ct B) s e' = c → e' = e := by
    intro e' h1 h2
    have q0 := (yAZ hc hsD (Or.inl rfl : (0 : Int) = 0 ∨ (0 : Int) = 1)).1.2.2.1
    have q1 : yZ (ct B) s 0 = yA (ct B) s 1 := rfl
    rcases he with rfl | rfl <;> rcases h1 with rfl | rfl
    · rfl
    · omega
    · omega
    · rfl
  have hp := bPy_01 (ct B) (B 92) s e (m + (i : Int))
  have st : f_Mo_buy_J107 K (i : Int) (c : Int) (n : Int) m (F (7 * i + c)) (s : Int) (yZ (ct B) s e : Int) e (grr B 106 F) = f_Mo_buy_J147 K (i : Int) (c : Int) (n : Int) m (F (7 * i + c)) (s : Int) (yZ (ct B) s e : Int) e (B 92 (2 + s)) (bPy (ct B) (B 92) s e (m + (i : Int))) (grr B 106 F) := by
    unfold f_Mo_buy_J107 f_Mo_buy_J146 bPy
    rw [ga_2 (by omega), gdix (by omega) (by omega), Int.toNat_natCast, grr_ne (show 92 ≠ 106 by decide), grr_ne (show 83 ≠ 106 by decide), ← ct_83_1 B]
    by_cases c1 : B 92 (2 + s) = 1
    · rw [if_pos c1, gdnz (by omega), gdnz (by decide), gadd_eq (by omega) (by omega), gdiv_eq (by omega) (by omega) p1 (by omega), grem_eq d1 (by omega) (by decide) (by decide)]
      by_cases cc : (m + (i : Int)) / ct B 83 1 % 2 = e
      · rw [if_pos cc, if_neg (by intro z; exact z.2 cc)]
      · rw [if_neg cc, if_pos ⟨c1, cc⟩]
    · rw [if_neg c1, if_neg (by intro z; exact c1 z.1)]
  rw [st]
  generalize hpv : bPy (ct B) (B 92) s e (m + (i : Int)) = p at hp ⊢
  unfold f_Mo_buy_J147 f_Mo_buy_J178 f_Mo_buy_J231 f_Mo_buy_J232
  rw [if_neg (by omega), gdix (by omega) (by omega), Int.toNat_natCast, grr_ne (show 86 ≠ 106 by decide), hW', gadd_eq (show -2147483648 ≤ (i : Int) + (W : Int) by omega) (by omega)]
  by_cases cn : (n : Int) < (i : Int) + (W : Int)
  · refine ⟨F, by rw [if_pos cn], hS, bZ_id i F, fun e' h1 h2 h3 h4 => ?_⟩
    rw [hW] at h4; omega
  · rw [if_neg cn]
    by_cases c4 : B 92 (2 + s) = 4 ∧ ¬ e = 0
    · refine ⟨F, by rw [if_pos c4.1, if_neg c4.2], hS, bZ_id i F, fun e' h1 h2 h3 h4 => ?_⟩
      have := only e' h1 h2
      subst this
      exact absurd (h3 c4.1) c4.2
    · have g1 : gadd (gmul 7 ((i : Int) + (W : Int))) (yZ (ct B) s e : Int) = ((7 * (i + W) + yZ (ct B) s e : Nat) : Int) := by
        rw [← gi7 (i := i + W) (c := yZ (ct B) s e) (by omega) a5]
        rw [show ((i + W : Nat) : Int) = (i : Int) + (W : Int) by omega]
      obtain ⟨k1, k2⟩ := hS.1 (7 * (i + W) + yZ (ct B) s e) (by omega)
      obtain ⟨k3, k4⟩ := hS.1 (7 * i + c) (by omega)
      have go : ∃ F', (if grr B 106 F 106 (7 * (i + W) + yZ (ct B) s e) ≤ gadd (F (7 * i + c)) p then gd (gix 2107 ((7 * (i + W) + yZ (ct B) s e : Nat) : Int)) (gd (gix 2107 ((7 * (i + W) + yZ (ct B) s e : Nat) : Int)) (gs (gup (grr B 106 F) 106 (7 * (i + W) + yZ (ct B) s e) (grr B 106 F 106 (7 * (i + W) + yZ (ct B) s e))) (fun h11 => K (gadd (s : Int) 1) h11))) else gd (gix 2107 ((7 * (i + W) + yZ (ct B) s e : Nat) : Int)) (gs (gup (grr B 106 F) 106 (7 * (i + W) + yZ (ct B) s e) (gadd (F (7 * i + c)) p)) (fun h11 => K (gadd (s : Int) 1) h11))) = K (gadd (s : Int) 1) (grr B 106 F') ∧ bS (ct B) (B 92) a m n F' i ∧ bZ i F F' ∧ bCs (ct B) (B 92) m n F' i c s := by
        rw [grr_at, gadd_eq (by omega) (by omega)]
        by_cases cl : F (7 * (i + W) + yZ (ct B) s e) ≤ F (7 * i + c) + p
        · refine ⟨F, by rw [if_pos cl, gdix (by omega) (by omega), gdix (by omega) (by omega), gs_s, grr_up, nu_self], hS, bZ_id i F, fun e' h1 h2 h3 h4 => ?_⟩
          have := only e' h1 h2
          subst this
          rw [hW, hpv, Int.toNat_natCast]
          exact cl
        · have hat : bAt (ct B) (B 92) a m F i (i + W) (yZ (ct B) s e) (F (7 * i + c) + p) := Or.inr (Or.inr ⟨s, e, i, hsD, he, rfl, fun z => by
            by_cases c0 : e = 0
            · exact c0
            · exact absurd ⟨z, c0⟩ c4, by rw [hW]; omega, Nat.le_refl _, by rw [hce, hpv]⟩)
          obtain ⟨b1, b2⟩ := bS_w hc hS ha (r := i + W) (c := yZ (ct B) s e) (by omega) (by omega) hn a5 (v := F (7 * i + c) + p) (by omega) (by omega) (fun _ => hat)
          refine ⟨_, by rw [if_neg cl, gdix (by omega) (by omega), gs_s, grr_up], b1, b2, fun e' h1 h2 h3 h4 => ?_⟩
          have := only e' h1 h2
          subst this
          rw [hW, hpv, Int.toNat_natCast, nu_at, nu_ne (by omega)]
          exact Int.le_refl _
      by_cases c41 : B 92 (2 + s) = 4
      · have c0 : e = 0 := by
          by_cases c0 : e = 0
          · exact c0
          · exact absurd ⟨c41, c0⟩ c4
        rw [if_pos c41, if_pos c0, gdix (by omega) (by omega), g1, gdix (by omega) (by omega), Int.toNat_natCast]
        exact go
      · rw [if_neg c41, gdix (by omega) (by omega), g1, gdix (by omega) (by omega), Int.toNat_natCast]
        exact go
theorem m_L73 {B : gH} (hc : cW (ct B)) {a : Nat} (ha : a < 7) {m : Int} (hm : 0 ≤ m ∧ m ≤ 999) {n : Nat} (hn : n ≤ 300) {i c : Nat} (hi : i ≤ n) (hcK : (c : Int) < B 83 0) {had : Int} (hh : had < 1000000) : ∀ (d s f : Nat) (F : Nat → Int), (s : Int) + (d : Int) = B 83 2 → d < f → bS (ct B) (B 92) a m n F i → F (7 * i + c) = had → ∃ F', f_Mo_buy_L73 (i : Int) (c : Int) (n : Int) m had (fun h14 => some (h14, 0)) f (s : Int) (grr B 106 F) = some (grr B 106 F', 0) ∧ bS (ct B) (B 92) a m n F' i ∧ bZ i F F' ∧ ∀ s' : Nat, s ≤ s' → (s' : Int) < B 83 2 → bCs (ct B) (B 92) m n F' i c s' := by
  have hK : 0 ≤ B 83 0 ∧ B 83 0 ≤ 7 := hc.1
  have hSS : 0 ≤ B 83 2 ∧ B 83 2 ≤ 9 := hc.2.1
  intro d
  induction d with
  | zero =>
    intro s f F hs hf hS hF
    obtain ⟨f, rfl⟩ : ∃ f', f = f' + 1 := ⟨f - 1, by omega⟩
    exact ⟨F, by rw [f_Mo_buy_L73, grr_ne (show 83 ≠ 106 by decide), if_pos (by omega)], hS, bZ_id i F, fun s' h1 h2 => by omega⟩
  | succ d ih =>
    intro s f F hs hf hS hF
    obtain ⟨f, rfl⟩ : ∃ f', f = f' + 1 := ⟨f - 1, by omega⟩
    have hsB : (s : Int) < B 83 2 := by omega
    have hsD : (s : Int) < ct B 83 2 := hsB
    have step : ∃ F1, f_Mo_buy_L73 (i : Int) (c : Int) (n : Int) m had (fun h14 => some (h14, 0)) (f + 1) (s : Int) (grr B 106 F) = f_Mo_buy_L73 (i : Int) (c : Int) (n : Int) m had (fun h14 => some (h14, 0)) f (gadd (s : Int) 1) (grr B 106 F1) ∧ bS (ct B) (B 92) a m n F1 i ∧ bZ i F F1 ∧ bCs (ct B) (B 92) m n F1 i c s := by
      rw [f_Mo_buy_L73, grr_ne (show 83 ≠ 106 by decide), if_neg (by omega), m_other (by omega), gb_s, ct_grr (by omega), gdix (by omega) (by omega), Int.toNat_natCast, grr_ne (show 84 ≠ 106 by decide)]
      obtain ⟨⟨-, -, a3, a4, a5⟩, a6, a7⟩ := yAZ hc hsD (Or.inl rfl : (0 : Int) = 0 ∨ (0 : Int) = 1)
      rw [if_pos rfl] at a6 a7
      have b6 : ct B 84 s = B 84 s := rfl
      have b7 : ct B 85 s = B 85 s := rfl
      by_cases c0 : B 84 s = (c : Int)
      · have eo : aOther (ct B) s (c : Int) = (yZ (ct B) s 0 : Int) := by
          unfold aOther
          rw [if_pos (show ct B 84 s = (c : Int) from c0)]
          exact a7
        rw [if_pos c0, eo, ← hF]
        exact m_bst hc ha hm hn hi hS (by omega) hsB (Or.inl rfl) (by omega) _
      · rw [if_neg c0]
        by_cases c1 : B 85 s = (c : Int)
        · have eo : aOther (ct B) s (c : Int) = (yZ (ct B) s 1 : Int) := by
            unfold aOther
            rw [if_neg (show ¬ ct B 84 s = (c : Int) from c0), if_pos (show ct B 85 s = (c : Int) from c1)]
            exact a6
          have ez : yA (ct B) s 1 = c := by
            have : yA (ct B) s 1 = yZ (ct B) s 0 := rfl
            omega
          rw [eo, ← hF]
          exact m_bst hc ha hm hn hi hS (by omega) hsB (Or.inr rfl) ez _
        · have eo : aOther (ct B) s (c : Int) = -1 := by
            unfold aOther
            rw [if_neg (show ¬ ct B 84 s = (c : Int) from c0), if_neg (show ¬ ct B 85 s = (c : Int) from c1)]
          obtain ⟨p1, p2⟩ := y_half hc hsD
          have d1 : 0 ≤ (m + (i : Int)) / B 83 1 := Int.ediv_nonneg (by omega) (by have : B 83 1 = ct B 83 1 := rfl; omega)
          have d2 : (m + (i : Int)) / B 83 1 ≤ m + (i : Int) := Int.ediv_le_self _ (by omega)
          refine ⟨F, ?_, hS, bZ_id i F, fun e h1 h2 h3 h4 => ?_⟩
          · rw [eo]
            unfold f_Mo_buy_J107 f_Mo_buy_J146 f_Mo_buy_J147 f_Mo_buy_J232
            have hp1 : B 83 1 ≠ 0 := by have : B 83 1 = ct B 83 1 := rfl; omega
            rw [ga_2 (by omega), gdix (by omega) (by omega), grr_ne (show 83 ≠ 106 by decide), gdnz hp1, gdnz (by decide)]
            simp only [if_pos (show (-1 : Int) < 0 by decide), ite_self]
          · exfalso
            have : yA (ct B) s 1 = yZ (ct B) s 0 := rfl
            rcases h1 with rfl | rfl <;> omega
    obtain ⟨F1, q1, q2, q3, q4⟩ := step
    obtain ⟨F2, r1, r2, r3, r4⟩ := ih (s + 1) f F1 (by omega) (by omega) q2 (by rw [q3.2 _ (by omega)]; exact hF)
    refine ⟨F2, ?_, r2, bZ_tr q3 r3, fun s' h1 h2 => ?_⟩
    · rw [q1, ga_s (by omega)]; exact r1
    · by_cases e : s' = s
      · subst e; exact bCs_Z (Nat.le_refl _) (by omega) q4 r3
      · exact r4 s' (by omega) h2
theorem m_buy {B : gH} (hc : cW (ct B)) {a : Nat} (ha : a < 7) {m : Int} (hm : 0 ≤ m ∧ m ≤ 999) {n : Nat} (hn : n ≤ 300) {i c : Nat} (hi : i ≤ n) (hcK : (c : Int) < B 83 0) {F : Nat → Int} (hS : bS (ct B) (B 92) a m n F i) (hh : F (7 * i + c) < 1000000) : ∃ F', f_Mo_buy (i : Int) (c : Int) (n : Int) m (grr B 106 F) = some (grr B 106 F', 0) ∧ bS (ct B) (B 92) a m n F' i ∧ bZ i F F' ∧ bCw n F' i c ∧ ∀ s : Nat, (s : Int) < B 83 2 → bCs (ct B) (B 92) m n F' i c s := by
  have hK : 0 ≤ B 83 0 ∧ B 83 0 ≤ 7 := hc.1
  have hSS : 0 ≤ B 83 2 ∧ B 83 2 ≤ 9 := hc.2.1
  obtain ⟨k1, k2⟩ := hS.1 (7 * i + c) (by omega)
  have wait : ∃ F1, f_Mo_buy (i : Int) (c : Int) (n : Int) m (grr B 106 F) = f_Mo_buy_J70 (i : Int) (c : Int) (n : Int) m (F (7 * i + c)) (grr B 106 F1) ∧ bS (ct B) (B 92) a m n F1 i ∧ bZ i F F1 ∧ bCw n F1 i c := by
    unfold f_Mo_buy f_Mo_buy_J69
    rw [gi7 (by omega) (by omega), gdix (by omega) (by omega), Int.toNat_natCast, grr_at]
    by_cases cn : (n : Int) ≤ (i : Int)
    · exact ⟨F, by rw [if_pos cn], hS, bZ_id i F, fun z => by omega⟩
    · obtain ⟨k3, k4⟩ := hS.1 (7 * (i + 1) + c) (by omega)
      rw [if_neg cn, gi77 (by omega) (by omega), gdix (by omega) (by omega), Int.toNat_natCast]
      by_cases cl : F (7 * (i + 1) + c) ≤ F (7 * i + c)
      · exact ⟨F, by rw [if_pos cl, gdix (by omega) (by omega), gdix (by omega) (by omega), gs_s, grr_up, nu_self], hS, bZ_id i F, fun _ => cl⟩
      · obtain ⟨b1, b2⟩ := bS_w hc hS ha (r := i + 1) (c := c) (by omega) (by omega) hn (by omega) (v := F (7 * i + c)) (by omega) (by omega) (fun _ => Or.inr (Or.inl ⟨i, rfl, Nat.le_refl _, rfl⟩))
        refine ⟨_, by rw [if_neg cl, gdix (by omega) (by omega), gs_s, grr_up], b1, b2, fun _ => ?_⟩
        rw [nu_at, nu_ne (by omega)]
        exact Int.le_refl _
  obtain ⟨F1, q1, q2, q3, q4⟩ := wait
  obtain ⟨F2, r1, r2, r3, r4⟩ := m_L73 hc ha hm hn hi hcK hh (B 83 2).toNat 0 50000 F1 (by omega) (by omega) q2 (by rw [q3.2 _ (by omega)])
  refine ⟨F2, ?_, r2, bZ_tr q3 r3, bCw_Z (Nat.le_refl _) (by omega) q4 r3, fun s hs => r4 s (by omega) hs⟩
  rw [q1]
  unfold f_Mo_buy_J70
  exact r1
def bQ (D : gH) (N : Nat → Int) (m : Int) (n : Nat) (F : Nat → Int) (i c : Nat) : Prop := bCw n F i c ∧ ∀ s : Nat, (s : Int) < D 83 2 → bCs D N m n F i c s
theorem bQ_Z {D : gH} {N : Nat → Int} {m : Int} {n : Nat} {F F' : Nat → Int} {i j c : Nat} (hij : i ≤ j) (hc7 : c < 7) (h : bQ D N m n F i c) (hz : bZ j F F') : bQ D N m n F' i c := ⟨bCw_Z hij hc7 h.1 hz, fun s hs => bCs_Z hij hc7 (h.2 s hs) hz⟩
theorem m_L93 {B : gH} (hc : cW (ct B)) {a : Nat} (ha : a < 7) {m : Int} (hm : 0 ≤ m ∧ m ≤ 999) {n : Nat} (hn : n ≤ 300) {i : Nat} (hi : i ≤ n) (v2 : Int) (k : gH → Option gO) : ∀ (d c f : Nat) (F : Nat → Int), (c : Int) + (d : Int) = B 83 0 → d < f → bS (ct B) (B 92) a m n F i → ∃ F', f_Mo_bought_L93 v2 m (n : Int) (i : Int) k f (c : Int) (grr B 106 F) = k (grr B 106 F') ∧ bS (ct B) (B 92) a m n F' i ∧ bZ i F F' ∧ ∀ c' : Nat, c ≤ c' → (c' : Int) < B 83 0 → bQ (ct B) (B 92) m n F' i c' := by
  have hK : 0 ≤ B 83 0 ∧ B 83 0 ≤ 7 := hc.1
  have hSS : 0 ≤ B 83 2 ∧ B 83 2 ≤ 9 := hc.2.1
  intro d
  induction d with
  | zero =>
    intro c f F hd hf hS
    obtain ⟨f, rfl⟩ : ∃ f', f = f' + 1 := ⟨f - 1, by omega⟩
    exact ⟨F, by rw [f_Mo_bought_L93, grr_ne (show 83 ≠ 106 by decide), if_pos (by omega)], hS, bZ_id i F, fun c' h1 h2 => by omega⟩
  | succ d ih =>
    intro c f F hd hf hS
    obtain ⟨f, rfl⟩ : ∃ f', f = f' + 1 := ⟨f - 1, by omega⟩
    have step : ∃ F1, f_Mo_bought_L93 v2 m (n : Int) (i : Int) k (f + 1) (c : Int) (grr B 106 F) = f_Mo_bought_L93 v2 m (n : Int) (i : Int) k f (gadd (c : Int) 1) (grr B 106 F1) ∧ bS (ct B) (B 92) a m n F1 i ∧ bZ i F F1 ∧ bQ (ct B) (B 92) m n F1 i c := by
      rw [f_Mo_bought_L93, grr_ne (show 83 ≠ 106 by decide), if_neg (by omega), gi7 (by omega) (by omega), gdix (by omega) (by omega), Int.toNat_natCast, grr_at]
      unfold f_Mo_bought_J131
      by_cases cf : 1000000 ≤ F (7 * i + c)
      · refine ⟨F, by rw [if_pos cf], hS, bZ_id i F, fun z => ?_, fun s hs e h1 h2 h3 h4 => ?_⟩
        · have := (hS.1 (7 * (i + 1) + c) (by omega)).2
          omega
        · obtain ⟨w1, w2⟩ := y_wide hc hs
          have a5 := (yAZ hc hs h1).1.2.2.2.2
          have := (hS.1 (7 * (i + (ct B 86 s).toNat) + yZ (ct B) s e) (by omega)).2
          have := bPy_01 (ct B) (B 92) s e (m + (i : Int))
          omega
      · obtain ⟨F1, q1, q2, q3, q4, q5⟩ := m_buy hc ha hm hn hi (c := c) (by omega) hS (by omega)
        exact ⟨F1, by rw [if_neg cf, q1, gb_s], q2, q3, q4, q5⟩
    obtain ⟨F1, q1, q2, q3, q4⟩ := step
    obtain ⟨F2, r1, r2, r3, r4⟩ := ih (c + 1) f F1 (by omega) (by omega) q2
    refine ⟨F2, ?_, r2, bZ_tr q3 r3, fun c' h1 h2 => ?_⟩
    · rw [q1, ga_s (by omega)]; exact r1
    · by_cases e : c' = c
      · subst e; exact bQ_Z (Nat.le_refl _) (by omega) q4 r3
      · exact r4 c' (by omega) h2
theorem m_L83 {B : gH} (hc : cW (ct B)) {a : Nat} (ha : a < 7) {m : Int} (hm : 0 ≤ m ∧ m ≤ 999) {n : Nat} (hn : n ≤ 300) (v2 : Int) (k : gH → Option gO) : ∀ (d i f : Nat) (F : Nat → Int), i + d = n + 1 → d < f → bS (ct B) (B 92) a m n F i → (∀ i' c' : Nat, i' < i → (c' : Int) < B 83 0 → bQ (ct B) (B 92) m n F i' c') → ∃ F', f_Mo_bought_L83 v2 m (n : Int) k f (i : Int) (grr B 106 F) = k (grr B 106 F') ∧ bS (ct B) (B 92) a m n F' (n + 1) ∧ ∀ i' c' : Nat, i' ≤ n → (c' : Int) < B 83 0 → bQ (ct B) (B 92) m n F' i' c' := by
  have hK : 0 ≤ B 83 0 ∧ B 83 0 ≤ 7 := hc.1
  intro d
  induction d with
  | zero =>
    intro i f F hd hf hS hQ
    obtain ⟨f, rfl⟩ : ∃ f', f = f' + 1 := ⟨f - 1, by omega⟩
    exact ⟨F, by rw [f_Mo_bought_L83, if_pos (by omega)], bS_i (by omega) hS, fun i' c' h1 h2 => hQ i' c' (by omega) h2⟩
  | succ d ih =>
    intro i f F hd hf hS hQ
    obtain ⟨f, rfl⟩ : ∃ f', f = f' + 1 := ⟨f - 1, by omega⟩
    obtain ⟨F1, q1, q2, q3, q4⟩ := m_L93 hc ha hm hn (i := i) (by omega) v2 (fun h22 => f_Mo_bought_L83 v2 m (n : Int) k f (gadd (i : Int) 1) h22) (B 83 0).toNat 0 50000 F (by omega) (by omega) hS
    obtain ⟨F2, r1, r2, r3⟩ := ih (i + 1) f F1 (by omega) (by omega) (bS_i (by omega) q2) (fun i' c' h1 h2 => by
      by_cases e : i' = i
      · subst e; exact q4 c' (by omega) h2
      · exact bQ_Z (show i' ≤ i by omega) (by omega) (hQ i' c' (by omega) h2) q3)
    refine ⟨F2, ?_, r2, r3⟩
    rw [f_Mo_bought_L83, if_neg (by omega)]
    refine (show _ = _ from q1).trans ?_
    show f_Mo_bought_L83 v2 m (n : Int) k f (gadd (i : Int) 1) (grr B 106 F1) = _
    rw [ga_s (by omega)]
    exact r1
/- the final table -/
def bT (D : gH) (N : Nat → Int) (a : Nat) (m : Int) (n : Nat) (F : Nat → Int) : Prop := bS D N a m n F (n + 1) ∧ ∀ i c : Nat, i ≤ n → (c : Int) < D 83 0 → bQ D N m n F i c
theorem m_bought {B : gH} (hc : cW (ct B)) {a b : Nat} (ha : (a : Int) < B 83 0) (hb : (b : Int) < B 83 0) {m : Int} (hm : 0 ≤ m ∧ m ≤ 999) {n : Nat} (hn : n ≤ 300) : ∃ F, f_Mo_bought (a : Int) (b : Int) m (n : Int) B = some (grr B 106 F, if 1000000 ≤ F (7 * n + b) then -1 else F (7 * n + b)) ∧ bT (ct B) (B 92) a m n F := by
  have hK : 0 ≤ B 83 0 ∧ B 83 0 ≤ 7 := hc.1
  have key : ∀ (k : gH → Option gO) (d i f : Nat), i + d = 2107 → d < f → f_Mo_bought_L50 (a : Int) (b : Int) m (n : Int) k f (i : Int) (grw B 106 i (fun _ => 1000000)) = k (grr B 106 (fun y => if y < 2107 then 1000000 else B 106 y)) := by
    intro k d
    induction d with
    | zero =>
      intro i f hi hf
      obtain ⟨f, rfl⟩ : ∃ f', f = f' + 1 := ⟨f - 1, by omega⟩
      have e7 : i = 2107 := by omega
      subst e7
      rw [f_Mo_bought_L50, if_pos (by omega)]
      refine congrArg k ?_
      funext x y
      unfold grw grr
      by_cases hx : x = 106
      · subst hx; simp
      · simp [hx]
    | succ d ih =>
      intro i f hi hf
      obtain ⟨f, rfl⟩ : ∃ f', f = f' + 1 := ⟨f - 1, by omega⟩
      have e := grw_step B 106 i (fun _ => (1000000 : Int))
      rw [f_Mo_bought_L50, if_neg (by omega), gdix (by omega) (by omega), gs_s, Int.toNat_natCast, e, ga_s (by omega)]
      exact ih (i + 1) f (by omega) (by omega)
  have k50 := fun k => key k 2107 0 50000 rfl (by omega)
  have k50' : ∀ k : gH → Option gO, f_Mo_bought_L50 (a : Int) (b : Int) m (n : Int) k 50000 0 B = k (grr B 106 (fun y => if y < 2107 then 1000000 else B 106 y)) := fun k => by
    have := k50 k
    rw [grw_0] at this
    exact this
  have hS0 : bS (ct B) (B 92) a m n (nu (fun y => if y < 2107 then 1000000 else B 106 y) a 0) 0 := by
    refine ⟨fun y hy => ?_, nu_at _ _ _, fun r c h1 h2 h3 => ?_⟩
    · by_cases e : y = a
      · rw [e, nu_at]; decide
      · rw [nu_ne e, if_pos hy]; decide
    · by_cases e : 7 * r + c = a
      · rw [e, nu_at]
        exact Or.inl ⟨by omega, by omega, rfl⟩
      · rw [nu_ne e, if_pos (by omega)] at h3
        omega
  obtain ⟨F, q1, q2, q3⟩ := m_L83 hc (a := a) (by omega) hm hn (b : Int) (fun h23 => gd (gix 2107 (gadd (gmul 7 (n : Int)) (b : Int))) (if 1000000 ≤ (h23 106 (gadd (gmul 7 (n : Int)) (b : Int)).toNat) then (some (h23, (-1))) else (gd (gix 2107 (gadd (gmul 7 (n : Int)) (b : Int))) (some (h23, (h23 106 (gadd (gmul 7 (n : Int)) (b : Int)).toNat)))))) (n + 1) 0 50000 _ (by omega) (by omega) hS0 (fun i' c' h1 _ => by omega)
  refine ⟨F, ?_, q2, q3⟩
  have ca : 0 ≤ (a : Int) ∧ (a : Int) < B 83 0 := ⟨by omega, ha⟩
  have cb : 0 ≤ (b : Int) ∧ (b : Int) < B 83 0 := ⟨by omega, hb⟩
  have cn : 0 ≤ (n : Int) ∧ (n : Int) ≤ 300 := ⟨by omega, by omega⟩
  unfold f_Mo_bought
  rw [m_isCorner hK, gb_s, if_pos ca, if_neg (by decide), m_isCorner hK, gb_s, if_pos cb, if_neg (by decide), m_in, gb_s, if_pos hm, if_neg (by decide), m_in, gb_s, if_pos cn, if_neg (by decide), k50', gdix (by omega) (by omega), gs_s, Int.toNat_natCast, grr_up]
  refine (show _ = _ from q1).trans ?_
  show gd (gix 2107 (gadd (gmul 7 (n : Int)) (b : Int))) _ = _
  rw [gi7 (by omega) (by omega), gdix (by omega) (by omega), Int.toNat_natCast, grr_at]
  by_cases cf : 1000000 ≤ F (7 * n + b)
  · rw [if_pos cf, if_pos cf]
  · rw [if_neg cf, if_neg cf, gdix (by omega) (by omega)]
