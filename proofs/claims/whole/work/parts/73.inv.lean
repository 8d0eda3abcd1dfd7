/- PURE: what holds between two calls -/
def cnt (v : Int) (p : Nat → Int) : Nat → Nat
  | 0 => 0
  | n + 1 => cnt v p n + (if p n = v then 1 else 0)
def isP (C : Nat) (a p : Nat → Int) : Prop := ∀ v, cnt v p C = cnt v a C
def lxT (C : Nat) (p q : Nat → Int) : Prop := ∃ j, j < C ∧ (∀ k, k < j → p k = q k) ∧ p j < q j
def lxE (C : Nat) (p q : Nat → Int) : Prop := lxT C p q ∨ ∀ k, k < C → p k = q k
def rkN (C : Nat) (N p : Nat → Int) : Nat → Int := fun y => if 20 ≤ y ∧ y < 20 + C then p (y - 20) else N y
def rkV (D : gH) (N : Nat → Int) (n : Nat) (p : Nat → Int) : Int := aSum D (aIt D (-1) n (rkN (D 83 6).toNat N p)) (-1)
def rkS (D : gH) (N : Nat → Int) (n : Nat) (l : Int) (b : Nat → Int) : Prop := isP (D 83 6).toNat (fun k => N (20 + k)) b ∧ l = rkV D N n b ∧ ∀ q, isP (D 83 6).toNat (fun k => N (20 + k)) q → l ≤ rkV D N n q ∧ (l = rkV D N n q → lxE (D 83 6).toNat b q)
def gw (D : gH) (N : Nat → Int) : Prop := nW D 0 N ∧ tW D N ∧ vW D N ∧ N 0 ≤ 90300
def GN (D h : gH) (c t : Nat) (N : Nat → Int) (sd : Int) : Prop := TR D h c t N ∧ h t 2 = sd ∧ gw D N ∧ 0 ≤ sd ∧ sd ≤ 2147483647
def GT (h : gH) : Prop := (0 ≤ h 83 15 ∧ h 83 15 ≤ 250) ∧ h 25 0 = h 83 15 ∧ h 25 1 = h 83 16 ∧ ∀ i : Nat, (i : Int) < h 83 15 → h 26 i = h 93 i ∧ 0 ≤ h 93 i
def GU (h : gH) : Prop := (0 ≤ h 83 38 ∧ h 83 38 ≤ 8) ∧ h 75 0 = h 83 38 ∧ ∀ i : Nat, (i : Int) < h 83 38 → h 76 i = h 109 i ∧ h 77 i = h 110 i ∧ h 78 i = h 111 i ∧ 0 ≤ h 110 i ∧ h 110 i ≤ 99
def GB (D h : gH) : Prop := (0 ≤ h 83 42 ∧ h 83 42 ≤ 15) ∧ h 79 0 = h 83 42 ∧ ∀ i : Nat, (i : Int) < h 83 42 → h 80 i = h 112 i ∧ h 81 i = h 113 i ∧ 0 ≤ h 112 i ∧ h 112 i < D 83 6
def gim (h : gH) (i : Nat) : Nat → Int := fun y => h 114 (51 * i + y)
def GP (D h : gH) (c : Nat) : Prop := ∀ i : Nat, i < 2 → h 68 i = h 115 i ∧ (h 115 i ≠ 0 → GN D h c (48 + 10 * i) (gim h i) (h 114 (51 * i + 50)))
def GS (D h : gH) : Prop := h 72 5 = 0 ∨ ∃ n : Nat, (1 ≤ n ∧ n ≤ 300) ∧ h 72 5 = (n : Int) ∧ rkS D (h 92) n (h 72 0) (h 73)
def fW (D : gH) : Prop := ∀ a b : Nat, (a : Int) < D 83 0 → (b : Int) < D 83 0 → D 91 (7 * a + b) < 1000 ∨ D 91 (7 * a + b) = 1000000
def GC (h : gH) (c : Nat) : Prop := (c = 1 ∨ c = 13) ∧ h 0 0 = (c : Int) ∧ h 0 1 = ((14 - c : Nat) : Int) ∧ CR (ct h) h c ∧ fW (ct h)
def GK (h : gH) (c : Nat) : Prop := cW (ct h) ∧ dW (ct h) ∧ GC h c ∧ GN (ct h) h c 27 (h 92) (h 83 13) ∧ h 83 32 = -1 ∧ GT h ∧ GU h ∧ GB (ct h) h ∧ GP (ct h) h c ∧ GS (ct h) h
theorem ct_eq {h h' : gH} (h1 : ∀ x, 84 ≤ x → x ≤ 91 → h' x = h x) (h2 : h' 83 0 = h 83 0) (h3 : h' 83 1 = h 83 1) (h4 : h' 83 2 = h 83 2) (h5 : h' 83 6 = h 83 6) : ct h' = ct h := by
  funext x y
  unfold ct
  by_cases c1 : 84 ≤ x ∧ x ≤ 91
  · rw [if_pos c1, if_pos c1, h1 x c1.1 c1.2]
  · rw [if_neg c1, if_neg c1]
    by_cases c2 : x = 83
    · rw [if_pos c2, if_pos c2]
      by_cases c3 : y = 0 ∨ y = 1 ∨ y = 2 ∨ y = 6
      · rw [if_pos c3, if_pos c3]
        rcases c3 with rfl | rfl | rfl | rfl
        · exact h2
        · exact h3
        · exact h4
        · exact h5
      · rw [if_neg c3, if_neg c3]
    · rw [if_neg c2, if_neg c2]
theorem CR_c {D h h' : gH} {c : Nat} (he : ∀ x, c ≤ x → x < c + 12 → h' x = h x) (hr : CR D h c) : CR D h' c := by
  unfold CR at hr ⊢
  rw [he c (by omega) (by omega), he (c + 1) (by omega) (by omega), he (c + 2) (by omega) (by omega), he (c + 3) (by omega) (by omega), he (c + 5) (by omega) (by omega), he (c + 6) (by omega) (by omega), he (c + 7) (by omega) (by omega), he (c + 9) (by omega) (by omega), he (c + 10) (by omega) (by omega), he (c + 11) (by omega) (by omega)]
  exact hr
theorem TR_c {D h h' : gH} {c t : Nat} {N : Nat → Int} (he : ∀ x, t ≤ x → x < t + 10 → h' x = h x) (hr : TR D h c t N) : TR D h' c t N := by
  unfold TR at hr ⊢
  rw [he t (by omega) (by omega), he (t + 1) (by omega) (by omega), he (t + 2) (by omega) (by omega), he (t + 3) (by omega) (by omega), he (t + 4) (by omega) (by omega), he (t + 5) (by omega) (by omega), he (t + 6) (by omega) (by omega), he (t + 7) (by omega) (by omega), he (t + 8) (by omega) (by omega), he (t + 9) (by omega) (by omega)]
  exact hr
theorem GN_c {D h h' : gH} {c t : Nat} {N : Nat → Int} {sd : Int} (he : ∀ x, t ≤ x → x < t + 10 → h' x = h x) (hr : GN D h c t N sd) : GN D h' c t N sd :=
  ⟨TR_c he hr.1, by rw [he t (by omega) (by omega)]; exact hr.2.1, hr.2.2⟩
theorem GT_c {h h' : gH} (h1 : h' 83 15 = h 83 15) (h2 : h' 83 16 = h 83 16) (h3 : h' 25 = h 25) (h4 : h' 26 = h 26) (h5 : h' 93 = h 93) (g : GT h) : GT h' := by
  unfold GT at g ⊢
  rw [h1, h2, h3, h4, h5]; exact g
theorem GU_c {h h' : gH} (h1 : h' 83 38 = h 83 38) (h2 : ∀ x, 75 ≤ x → x ≤ 78 → h' x = h x) (h3 : ∀ x, 109 ≤ x → x ≤ 111 → h' x = h x) (g : GU h) : GU h' := by
  unfold GU at g ⊢
  rw [h1, h2 75 (by omega) (by omega), h2 76 (by omega) (by omega), h2 77 (by omega) (by omega), h2 78 (by omega) (by omega), h3 109 (by omega) (by omega), h3 110 (by omega) (by omega), h3 111 (by omega) (by omega)]; exact g
theorem GB_c {D h h' : gH} (h1 : h' 83 42 = h 83 42) (h2 : ∀ x, 79 ≤ x → x ≤ 81 → h' x = h x) (h3 : ∀ x, 112 ≤ x → x ≤ 113 → h' x = h x) (g : GB D h) : GB D h' := by
  unfold GB at g ⊢
  rw [h1, h2 79 (by omega) (by omega), h2 80 (by omega) (by omega), h2 81 (by omega) (by omega), h3 112 (by omega) (by omega), h3 113 (by omega) (by omega)]; exact g
theorem GP_c {D h h' : gH} {c : Nat} (h1 : ∀ x, 48 ≤ x → x ≤ 68 → h' x = h x) (h2 : h' 114 = h 114) (h3 : h' 115 = h 115) (g : GP D h c) : GP D h' c := by
  intro i hi
  obtain ⟨g1, g2⟩ := g i hi
  unfold gim at g2 ⊢
  rw [h1 68 (by omega) (by omega), h2, h3]
  exact ⟨g1, fun z => GN_c (fun x hx hx2 => h1 x (by omega) (by omega)) (g2 z)⟩
theorem GS_c {D h h' : gH} (h1 : h' 72 = h 72) (h2 : h' 73 = h 73) (h3 : h' 92 = h 92) (g : GS D h) : GS D h' := by
  unfold GS at g ⊢
  rw [h1, h2, h3]; exact g
/- after something tried -/
theorem GK_try {h h' : gH} {c : Nat} (g : GK h c) (hk : ∀ x, x < 83 → x < 37 ∨ 47 ≤ x → x ≠ 70 → x ≠ 71 → h' x = h x) (hm : ∀ x, 83 ≤ x → x < 104 ∨ 108 < x → h' x = h x) : GK h' c := by
  obtain ⟨g1, g2, ⟨g3, g4, g5, g6, gF⟩, g7, g8, g9, g10, g11, g12, g13⟩ := g
  have hct : ct h' = ct h := ct_eq (fun x _ _ => hm x (by omega) (by omega)) (by rw [hm 83 (by omega) (by omega)]) (by rw [hm 83 (by omega) (by omega)]) (by rw [hm 83 (by omega) (by omega)]) (by rw [hm 83 (by omega) (by omega)])
  have h83 := hm 83 (by omega) (by omega)
  have h92 := hm 92 (by omega) (by omega)
  unfold GK GC
  rw [hct, h83, h92, hk 0 (by omega) (by omega) (by omega) (by omega)]
  exact ⟨g1, g2, ⟨g3, g4, g5, CR_c (fun x _ _ => hk x (by omega) (by omega) (by omega) (by omega)) g6, gF⟩, GN_c (fun x _ _ => hk x (by omega) (by omega) (by omega) (by omega)) g7, g8, GT_c (by rw [h83]) (by rw [h83]) (hk 25 (by omega) (by omega) (by omega) (by omega)) (hk 26 (by omega) (by omega) (by omega) (by omega)) (hm 93 (by omega) (by omega)) g9, GU_c (by rw [h83]) (fun x _ _ => hk x (by omega) (by omega) (by omega) (by omega)) (fun x _ _ => hm x (by omega) (by omega)) g10, GB_c (by rw [h83]) (fun x _ _ => hk x (by omega) (by omega) (by omega) (by omega)) (fun x _ _ => hm x (by omega) (by omega)) g11, GP_c (fun x _ _ => hk x (by omega) (by omega) (by omega) (by omega)) (hm 114 (by omega) (by omega)) (hm 115 (by omega) (by omega)) g12, GS_c (hk 72 (by omega) (by omega) (by omega) (by omega)) (hk 73 (by omega) (by omega) (by omega) (by omega)) h92 g13⟩
/- after the minutes, laws, ranks or streets of now have changed -/
theorem GK_now {h h' : gH} {c : Nat} (g : GK h c) (hk : ∀ x, x < 83 → x < 27 ∨ 37 ≤ x → x ≠ 72 → h' x = h x) (hf : h' 72 5 = 0) (hm : ∀ x, 84 ≤ x → x ≠ 92 → h' x = h x) (h83 : ∀ y, y ≠ 13 → h' 83 y = h 83 y) (hn : GN (ct h) h' c 27 (h' 92) (h' 83 13)) : GK h' c := by
  obtain ⟨g1, g2, ⟨g3, g4, g5, g6, gF⟩, g7, g8, g9, g10, g11, g12, g13⟩ := g
  have hct : ct h' = ct h := ct_eq (fun x _ _ => hm x (by omega) (by omega)) (h83 _ (by omega)) (h83 _ (by omega)) (h83 _ (by omega)) (h83 _ (by omega))
  unfold GK GC
  rw [hct, h83 32 (by omega), hk 0 (by omega) (by omega) (by omega)]
  exact ⟨g1, g2, ⟨g3, g4, g5, CR_c (fun x _ _ => hk x (by omega) (by omega) (by omega)) g6, gF⟩, hn, g8, GT_c (h83 _ (by omega)) (h83 _ (by omega)) (hk 25 (by omega) (by omega) (by omega)) (hk 26 (by omega) (by omega) (by omega)) (hm 93 (by omega) (by omega)) g9, GU_c (h83 _ (by omega)) (fun x _ _ => hk x (by omega) (by omega) (by omega)) (fun x _ _ => hm x (by omega) (by omega)) g10, GB_c (h83 _ (by omega)) (fun x _ _ => hk x (by omega) (by omega) (by omega)) (fun x _ _ => hm x (by omega) (by omega)) g11, GP_c (fun x _ _ => hk x (by omega) (by omega) (by omega)) (hm 114 (by omega) (by omega)) (hm 115 (by omega) (by omega)) g12, Or.inl hf⟩
/- after the text, the ruts or the record have changed -/
theorem GK_book {h h' : gH} {c : Nat} (g : GK h c) (hk : ∀ x, x < 75 → x ≠ 25 → x ≠ 26 → h' x = h x) (hm : ∀ x, 84 ≤ x → x ≠ 93 → x < 109 ∨ 113 < x → h' x = h x) (h83 : ∀ y, y ≠ 15 → y ≠ 38 → y ≠ 42 → h' 83 y = h 83 y) (ht : GT h') (hu : GU h') (hb : GB (ct h) h') : GK h' c := by
  obtain ⟨g1, g2, ⟨g3, g4, g5, g6, gF⟩, g7, g8, g9, g10, g11, g12, g13⟩ := g
  have hct : ct h' = ct h := ct_eq (fun x _ _ => hm x (by omega) (by omega) (by omega)) (h83 _ (by omega) (by omega) (by omega)) (h83 _ (by omega) (by omega) (by omega)) (h83 _ (by omega) (by omega) (by omega)) (h83 _ (by omega) (by omega) (by omega))
  have h92 := hm 92 (by omega) (by omega) (by omega)
  unfold GK GC
  rw [hct, h83 32 (by omega) (by omega) (by omega), h83 13 (by omega) (by omega) (by omega), h92, hk 0 (by omega) (by omega) (by omega)]
  exact ⟨g1, g2, ⟨g3, g4, g5, CR_c (fun x _ _ => hk x (by omega) (by omega) (by omega)) g6, gF⟩, GN_c (fun x _ _ => hk x (by omega) (by omega) (by omega)) g7, g8, ht, hu, hb, GP_c (fun x _ _ => hk x (by omega) (by omega) (by omega)) (hm 114 (by omega) (by omega) (by omega)) (hm 115 (by omega) (by omega) (by omega)) g12, GS_c (hk 72 (by omega) (by omega) (by omega)) (hk 73 (by omega) (by omega) (by omega)) h92 g13⟩
def GI (h : gH) : Prop := ∃ c, GK h c
def gok (f g : gH → Option gO) (h : gH) : Prop := ∃ h1 r h2, f h = some (h1, r) ∧ g h1 = some (h2, r) ∧ GI h2
theorem gok_id {f g : gH → Option gO} {h : gH} {r : Int} (hg : GI h) (h1 : f h = some (h, r)) (h2 : g h = some (h, r)) : gok f g h := ⟨h, r, h, h1, h2, hg⟩
/- guards -/
theorem k_out (a lo hi : Int) (h : gH) : f_DS_isOutside a lo hi h = some (h, if lo ≤ a ∧ a ≤ hi then 0 else 1) := by
  unfold f_DS_isOutside f_DS_isOutside_J10
  by_cases c1 : a < lo
  · rw [if_pos c1, if_neg (by omega), gdz1]
  · rw [if_neg c1]
    by_cases c2 : a ≤ hi
    · rw [if_pos c2, if_pos (by omega), gdz0]
    · rw [if_neg c2, if_neg (by omega), gdz1]
theorem g01 {p : Prop} [Decidable p] : (if p then (0 : Int) else 1) = 0 ∨ (if p then (0 : Int) else 1) = 1 := by split <;> simp
theorem g10 {p : Prop} [Decidable p] : (if p then (1 : Int) else 0) = 0 ∨ (if p then (1 : Int) else 0) = 1 := by split <;> simp
theorem k_noCorner {h : gH} {c : Nat} (g : GK h c) (a : Int) : f_DS_isNoCorner a h = some (h, if 0 ≤ a ∧ a < h 83 0 then 0 else 1) := by
  obtain ⟨g1, g2, ⟨g3, g4, g5, g6, gF⟩, -⟩ := g
  have e : h c 0 = h 83 0 := g6.2.1
  have b : 0 ≤ h 83 0 ∧ h 83 0 ≤ 7 := g1.1
  unfold f_DS_isNoCorner
  rw [g4, Int.toNat_natCast, gdcl (gsh_c g3), e, gsub_eq (by omega) (by omega), k_out, gb_s, gdz g01]
  simp only [show (a ≤ h 83 0 - 1) = (a < h 83 0) from propext (by omega)]
theorem k_noStreet {h : gH} {c : Nat} (g : GK h c) (a : Int) : f_DS_isNoStreet a h = some (h, if 0 ≤ a ∧ a < h 83 2 then 0 else 1) := by
  obtain ⟨g1, g2, ⟨g3, g4, g5, g6, gF⟩, -⟩ := g
  have e : h c 2 = h 83 2 := g6.2.2.2.1
  have b : 0 ≤ h 83 2 ∧ h 83 2 ≤ 9 := g1.2.1
  unfold f_DS_isNoStreet
  rw [g4, Int.toNat_natCast, gdcl (gsh_c g3), e, gsub_eq (by omega) (by omega), k_out, gb_s, gdz g01]
  simp only [show (a ≤ h 83 2 - 1) = (a < h 83 2) from propext (by omega)]
theorem k_noCart {h : gH} {c : Nat} (g : GK h c) (a : Int) : f_DS_isNoCart a h = some (h, if 0 ≤ a ∧ a < h 83 6 then 0 else 1) := by
  obtain ⟨g1, g2, ⟨g3, g4, g5, g6, gF⟩, -⟩ := g
  have e : h c 3 = h 83 6 := g6.2.2.2.2.1
  have b : 0 ≤ h 83 6 ∧ h 83 6 ≤ 6 := g1.2.2.1
  unfold f_DS_isNoCart
  rw [g4, Int.toNat_natCast, gdcl (gsh_c g3), e, gsub_eq (by omega) (by omega), k_out, gb_s, gdz g01]
  simp only [show (a ≤ h 83 6 - 1) = (a < h 83 6) from propext (by omega)]
theorem m_isCorner {h : gH} (b : 0 ≤ h 83 0 ∧ h 83 0 ≤ 7) (a : Int) : f_Mo_isCorner a h = some (h, if 0 ≤ a ∧ a < h 83 0 then 1 else 0) := by
  unfold f_Mo_isCorner
  rw [gsub_eq (by omega) (by omega), m_in, gb_s, gdz g10]
  simp only [show (a ≤ h 83 0 - 1) = (a < h 83 0) from propext (by omega)]
theorem m_isStreet {h : gH} (b : 0 ≤ h 83 2 ∧ h 83 2 ≤ 9) (a : Int) : f_Mo_isStreet a h = some (h, if 0 ≤ a ∧ a < h 83 2 then 1 else 0) := by
  unfold f_Mo_isStreet
  rw [gsub_eq (by omega) (by omega), m_in, gb_s, gdz g10]
  simp only [show (a ≤ h 83 2 - 1) = (a < h 83 2) from propext (by omega)]
theorem m_isCart {h : gH} (b : 0 ≤ h 83 6 ∧ h 83 6 ≤ 6) (a : Int) : f_Mo_isCart a h = some (h, if 0 ≤ a ∧ a < h 83 6 then 1 else 0) := by
  unfold f_Mo_isCart
  rw [gsub_eq (by omega) (by omega), m_in, gb_s, gdz g10]
  simp only [show (a ≤ h 83 6 - 1) = (a < h 83 6) from propext (by omega)]
