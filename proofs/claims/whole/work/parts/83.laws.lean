/- PURE: which laws fit the ruts -/
theorem k_minL {hh : gH} {R : Nat} (hR : R ≤ 8) (h0 : hh 75 0 = (R : Int)) (hb : ∀ i : Nat, i < R → 0 ≤ hh 77 i ∧ hh 77 i ≤ 99) (s : Int) : ∀ (m i f v : Nat), i + m = R → m < f → v ≤ 100 → ∃ v' : Nat, f_Notes_minutesOf_L4 75 s (fun v3 h4 => some (h4, v3)) f (v : Int) (i : Int) hh = some (hh, (v' : Int)) ∧ v' ≤ 100 ∧ v ≤ v' ∧ ∀ j : Nat, i ≤ j → j < R → hh 76 j = s → hh 77 j < (v' : Int) := by
  intro m
  induction m with
  | zero =>
    intro i f v hi hf hv
    obtain ⟨f, rfl⟩ : ∃ f', f = f' + 1 := ⟨f - 1, by omega⟩
    exact ⟨v, by rw [f_Notes_minutesOf_L4, h0, if_pos (by omega)], hv, Nat.le_refl _, fun j h1 h2 _ => by omega⟩
  | succ m ih =>
    intro i f v hi hf hv
    obtain ⟨f, rfl⟩ : ∃ f', f = f' + 1 := ⟨f - 1, by omega⟩
    obtain ⟨b1, b2⟩ := hb i (by omega)
    rw [f_Notes_minutesOf_L4, h0, if_neg (by omega), gln_76, gln_77, gdix (by omega) (by omega), Int.toNat_natCast]
    unfold f_Notes_minutesOf_J35
    rw [ga_s (by omega)]
    by_cases c : hh 76 i = s
    · obtain ⟨w, hw⟩ : ∃ w : Nat, hh 77 i = (w : Int) := ⟨(hh 77 i).toNat, by omega⟩
      obtain ⟨x, x1, x2, x3⟩ : ∃ x : Nat, gmax (v : Int) (gadd (hh 77 i) 1) = (x : Int) ∧ x ≤ 100 ∧ v ≤ x ∧ w < x := by
        rw [hw, ga_s (by omega)]
        unfold gmax
        by_cases c2 : (v : Int) < ((w + 1 : Nat) : Int)
        · exact ⟨w + 1, if_pos c2, by omega, by omega, by omega⟩
        · exact ⟨v, if_neg c2, hv, Nat.le_refl _, by omega⟩
      obtain ⟨v', y1, y2, y3, y4⟩ := ih (i + 1) f x (by omega) (by omega) x2
      refine ⟨v', ?_, y2, by omega, fun j h1 h2 h3 => ?_⟩
      · rw [if_pos c, gdix (by omega) (by omega), x1]
        exact y1
      · by_cases e : j = i
        · subst e; omega
        · exact y4 j (by omega) h2 h3
    · obtain ⟨v', y1, y2, y3, y4⟩ := ih (i + 1) f v (by omega) (by omega) hv
      refine ⟨v', ?_, y2, y3, fun j h1 h2 h3 => ?_⟩
      · rw [if_neg c]
        exact y1
      · by_cases e : j = i
        · subst e; exact absurd h3 c
        · exact y4 j (by omega) h2 h3
theorem k_agL {hh : gH} {R : Nat} (hR : R ≤ 8) (h0 : hh 75 0 = (R : Int)) (s t q : Int) : ∀ (m i f : Nat), i + m = R → m < f → ∃ r : Int, f_Notes_agree_L3 75 s t q (fun h5 => gd (gz 1) (some (h5, 1))) f (i : Int) hh = some (hh, r) ∧ (r = 0 ∨ r = 1) ∧ (r = 1 ↔ ∀ j : Nat, i ≤ j → j < R → hh 76 j = s → hh 77 j = t → hh 78 j = q) := by
  intro m
  induction m with
  | zero =>
    intro i f hi hf
    obtain ⟨f, rfl⟩ : ∃ f', f = f' + 1 := ⟨f - 1, by omega⟩
    exact ⟨1, by rw [f_Notes_agree_L3, h0, if_pos (by omega), gdz1], Or.inr rfl, fun _ j h1 h2 => by omega, fun _ => rfl⟩
  | succ m ih =>
    intro i f hi hf
    obtain ⟨f, rfl⟩ : ∃ f', f = f' + 1 := ⟨f - 1, by omega⟩
    obtain ⟨r, e, hr, hq⟩ := ih (i + 1) f (by omega) (by omega)
    rw [f_Notes_agree_L3, h0, if_neg (by omega), gln_76, gln_77, gln_78, gdix (by omega) (by omega), Int.toNat_natCast]
    unfold f_Notes_agree_J47
    rw [ga_s (by omega)]
    have fin : (hh 76 i = s → hh 77 i = t → hh 78 i = q) → (r = 1 ↔ ∀ j : Nat, i ≤ j → j < R → hh 76 j = s → hh 77 j = t → hh 78 j = q) := fun z => by
      rw [hq]
      constructor
      · intro w j h1 h2 h3 h4
        by_cases e : j = i
        · subst e; exact z h3 h4
        · exact w j (by omega) h2 h3 h4
      · intro w j h1 h2 h3 h4
        exact w j (by omega) h2 h3 h4
    by_cases c1 : hh 76 i = s
    · by_cases c2 : hh 77 i = t
      · by_cases c3 : hh 78 i = q
        · exact ⟨r, by rw [if_pos c1, gdix (by omega) (by omega), if_pos c2, gdix (by omega) (by omega), if_pos c3]; exact e, hr, fin (fun _ _ => c3)⟩
        · exact ⟨0, by rw [if_pos c1, gdix (by omega) (by omega), if_pos c2, gdix (by omega) (by omega), if_neg c3, gdz0], Or.inl rfl, fun z => absurd z (by decide), fun z => absurd (z i (Nat.le_refl _) (by omega) c1 c2) c3⟩
      · exact ⟨r, by rw [if_pos c1, gdix (by omega) (by omega), if_neg c2]; exact e, hr, fin (fun _ z => absurd z c2)⟩
    · exact ⟨r, by rw [if_neg c1]; exact e, hr, fin (fun z => absurd z c1)⟩
theorem m_irL {B : gH} {R : Nat} (hR : R ≤ 8) (h0 : B 83 38 = (R : Int)) {s : Nat} (hs : s < 9) (t : Int) : ∀ (m i f : Nat) (v : Int), (v = 0 ∨ v = 1) → i + m = R → m < f → ∃ r : Int, f_Mo_isRut_L5 (s : Int) t (fun v6 h7 => gd (gz v6) (some (h7, v6))) f v (i : Int) B = some (B, r) ∧ (r = 0 ∨ r = 1) ∧ (r = 1 ↔ v = 1 ∧ ∀ j : Nat, i ≤ j → j < R → B 109 j = (s : Int) → B 110 j = t → B 111 j = B 92 (11 + s)) := by
  intro m
  induction m with
  | zero =>
    intro i f v hv hi hf
    obtain ⟨f, rfl⟩ : ∃ f', f = f' + 1 := ⟨f - 1, by omega⟩
    exact ⟨v, by rw [f_Mo_isRut_L5, h0, if_pos (by omega), gdz hv], hv, fun e => ⟨e, fun j h1 h2 => by omega⟩, fun e => e.1⟩
  | succ m ih =>
    intro i f v hv hi hf
    obtain ⟨f, rfl⟩ : ∃ f', f = f' + 1 := ⟨f - 1, by omega⟩
    rw [f_Mo_isRut_L5, h0, if_neg (by omega)]
    unfold f_Mo_isRut_J63 f_Mo_isRut_J59 f_Mo_isRut_J64
    rw [ga_s (by omega)]
    obtain ⟨r0, e0, hr0, hq0⟩ := ih (i + 1) f 0 (Or.inl rfl) (by omega) (by omega)
    have n0 : r0 = 0 := by
      rcases hr0 with z | z
      · exact z
      · exact absurd (hq0.mp z).1 (by decide)
    subst n0
    by_cases c0 : v = 0
    · exact ⟨0, by rw [if_pos c0]; exact e0, Or.inl rfl, fun z => absurd z (by decide), fun z => by omega⟩
    · obtain ⟨r, e, hr, hq⟩ := ih (i + 1) f 1 (Or.inr rfl) (by omega) (by omega)
      have v1 : v = 1 := by omega
      have fin : (B 109 i = (s : Int) → B 110 i = t → B 111 i = B 92 (11 + s)) → (r = 1 ↔ v = 1 ∧ ∀ j : Nat, i ≤ j → j < R → B 109 j = (s : Int) → B 110 j = t → B 111 j = B 92 (11 + s)) := fun z => by
        rw [hq]
        constructor
        · intro w
          refine ⟨v1, fun j h1 h2 h3 h4 => ?_⟩
          by_cases e : j = i
          · subst e; exact z h3 h4
          · exact w.2 j (by omega) h2 h3 h4
        · intro w
          exact ⟨rfl, fun j h1 h2 h3 h4 => w.2 j (by omega) h2 h3 h4⟩
      rw [if_neg c0, gdix (by omega) (by omega), Int.toNat_natCast, ga_11 (by omega), Int.toNat_natCast]
      by_cases c1 : B 109 i = (s : Int)
      · by_cases c2 : B 110 i = t
        · by_cases c3 : B 111 i = B 92 (11 + s)
          · exact ⟨r, by rw [if_pos c1, gdix (by omega) (by omega), if_pos c2, gdix (by omega) (by omega), gdix (by omega) (by omega), if_pos c3]; exact e, hr, fin (fun _ _ => c3)⟩
          · exact ⟨0, by rw [if_pos c1, gdix (by omega) (by omega), if_pos c2, gdix (by omega) (by omega), gdix (by omega) (by omega), if_neg c3]; exact e0, Or.inl rfl, fun z => absurd z (by decide), fun z => absurd (z.2 i (Nat.le_refl _) (by omega) c1 c2) c3⟩
        · exact ⟨r, by rw [if_pos c1, gdix (by omega) (by omega), if_neg c2]; exact e, hr, fin (fun _ z => absurd z c2)⟩
      · exact ⟨r, by rw [if_neg c1]; exact e, hr, fin (fun z => absurd z c1)⟩
def rtO (h : gH) (N : Nat → Int) (s t : Nat) : Prop := ∀ j : Nat, (j : Int) < h 83 38 → h 109 j = (s : Int) → h 110 j = (t : Int) → h 111 j = aIt (ct h) (-1) (t + 1) N (11 + s)
theorem k_fitL {h : gH} {c : Nat} (g : GK h c) {s : Nat} (hs : (s : Int) < h 83 2) {N : Nat → Int} (hn : nW (ct h) 0 N) (ht : tW (ct h) N) (hN : N 0 ≤ 90300) {m : Nat} (hm : m ≤ 100) : ∀ (d t f : Nat) (hh : gH), t + d = m → d < f → tS h hh → TR (ct h) hh c 37 (aIt (ct h) (-1) t N) → ∃ h' r, f_DS_fitsRuts_L32 (s : Int) (m : Int) (fun h13 => gd (gz 1) (some (h13, 1))) f (t : Int) hh = some (h', r) ∧ tS h h' ∧ (r = 0 ∨ r = 1) ∧ (r = 1 ↔ ∀ t' : Nat, t ≤ t' → t' < m → rtO h N s t') := by
  have hS : 0 ≤ h 83 2 ∧ h 83 2 ≤ 9 := g.1.2.1
  obtain ⟨⟨b1, b2⟩, b3, b4⟩ := g.2.2.2.2.2.2.1
  obtain ⟨R, hR⟩ : ∃ R : Nat, h 83 38 = (R : Int) := ⟨(h 83 38).toNat, by omega⟩
  have hsD : (s : Int) < ct h 83 2 := by rw [ct_83_2]; omega
  intro d
  induction d with
  | zero =>
    intro t f hh hd hf hS2 hT
    obtain ⟨f, rfl⟩ : ∃ f', f = f' + 1 := ⟨f - 1, by omega⟩
    exact ⟨hh, 1, by rw [f_DS_fitsRuts_L32, if_pos (by omega), gdz1], hS2, Or.inr rfl, fun _ t' h1 h2 => by omega, fun _ => rfl⟩
  | succ d ih =>
    intro t f hh hd hf hS2 hT
    obtain ⟨f, rfl⟩ : ∃ f', f = f' + 1 := ⟨f - 1, by omega⟩
    obtain ⟨q1, q2, q3⟩ := pW_it g.1 g.2.1 (-1) hn ht t (by omega)
    obtain ⟨h2, y1, y2, y3, y4, y5⟩ := k_pass37 g hS2 hT q1 q2 (n := 1) (by omega) (by rw [q3]; omega)
    have y1' : f_Traffic_pass 37 1 hh = some (h2, 0) := y1
    have y2' : TR (ct h) h2 c 37 (aIt (ct h) (-1) (t + 1) N) := y2
    have e39 : h2 39 s = aIt (ct h) (-1) (t + 1) N (11 + s) := (y2'.2.2.1 s hsD).2.1
    have x75 : h2 75 0 = (R : Int) := by rw [y3 75 (by omega), b3, hR]
    obtain ⟨r, e, hr, hq⟩ := k_agL (hh := h2) (R := R) (by omega) x75 (s : Int) (t : Int) (aIt (ct h) (-1) (t + 1) N (11 + s)) R 0 50000 (by omega) (by omega)
    have e' : f_Notes_agree 75 (s : Int) (t : Int) (aIt (ct h) (-1) (t + 1) N (11 + s)) h2 = some (h2, r) := e
    have hq' : r = 1 ↔ rtO h N s t := by
      rw [hq]
      unfold rtO
      constructor
      · intro z j h1 h3 h4
        obtain ⟨p1, p2, p3, p4, p5⟩ := b4 j h1
        have := z j (by omega) (by omega)
        rw [y3 76 (by omega), y3 77 (by omega), y3 78 (by omega), p1, p2, p3] at this
        exact this h3 h4
      · intro z j h1 h2
        obtain ⟨p1, p2, p3, p4, p5⟩ := b4 j (by omega)
        rw [y3 76 (by omega), y3 77 (by omega), y3 78 (by omega), p1, p2, p3]
        exact z j (by omega)
    rw [f_DS_fitsRuts_L32, if_neg (by omega), y1', gb_s, gdix (by omega) (by omega), Int.toNat_natCast, e39, e', gb_s, ga_s (by omega)]
    by_cases c0 : r = 0
    · refine ⟨h2, 0, by rw [if_pos c0, gdz0], y3, Or.inl rfl, fun z => absurd z (by decide), fun z => ?_⟩
      have := hq'.mpr (z t (Nat.le_refl _) (by omega))
      omega
    · obtain ⟨h3, r3, i1, i2, i3, i4⟩ := ih (t + 1) f h2 (by omega) (by omega) y3 y2'
      refine ⟨h3, r3, by rw [if_neg c0]; exact i1, i2, i3, ?_⟩
      rw [i4]
      constructor
      · intro z t' h1 h2
        by_cases e : t' = t
        · subst e; exact hq'.mp (by omega)
        · exact z t' (by omega) h2
      · intro z t' h1 h2
        exact z t' (by omega) h2
theorem m_fitL {h H : gH} {c : Nat} (g : GK h c) (hS2 : tS h H) {s : Nat} (hs : (s : Int) < h 83 2) {N : Nat → Int} (hn : nW (ct h) 0 N) (ht : tW (ct h) N) (hN : N 0 ≤ 90300) (v2 v3 : Int) (k : Int → gH → Option gO) : ∀ (d t f : Nat) (v : Int), (v = 0 ∨ v = 1) → t + d = 100 → d < f → ∃ r : Int, f_Mo_laws_L39 (s : Int) v2 v3 k f v (t : Int) (gnow (bk H) (aIt (ct h) (-1) t N)) = k r (gnow (bk H) (aIt (ct h) (-1) 100 N)) ∧ (r = 0 ∨ r = 1) ∧ (r = 1 ↔ v = 1 ∧ ∀ t' : Nat, t ≤ t' → t' < 100 → rtO h N s t') := by
  have hS : 0 ≤ h 83 2 ∧ h 83 2 ≤ 9 := g.1.2.1
  obtain ⟨⟨b1, b2⟩, b3, b4⟩ := g.2.2.2.2.2.2.1
  obtain ⟨R, hR⟩ : ∃ R : Nat, h 83 38 = (R : Int) := ⟨(h 83 38).toNat, by omega⟩
  have g8 := g.2.2.2.2.1
  have bc := bk_ct hS2
  have bx : ∀ x, x ≠ 92 → 47 ≤ x → x ≠ 104 → ∀ M, gnow (bk H) M x = h x := fun x h1 h2 h3 M => by rw [gnow_ne h1, bk_ne h3, hS2 x (by omega)]
  intro d
  induction d with
  | zero =>
    intro t f v hv hd hf
    obtain ⟨f, rfl⟩ : ∃ f', f = f' + 1 := ⟨f - 1, by omega⟩
    have ht100 : t = 100 := by omega
    subst ht100
    exact ⟨v, by rw [f_Mo_laws_L39, if_pos (by omega)], hv, fun e => ⟨e, fun t' h1 h2 => by omega⟩, fun e => e.1⟩
  | succ d ih =>
    intro t f v hv hd hf
    obtain ⟨f, rfl⟩ : ∃ f', f = f' + 1 := ⟨f - 1, by omega⟩
    obtain ⟨q1, q2, q3⟩ := pW_it g.1 g.2.1 (-1) hn ht t (by omega)
    have mp : f_Mo_pass (gnow (bk H) (aIt (ct h) (-1) t N)) = some (gnow (bk H) (aIt (ct h) (-1) (t + 1) N), 0) := by
      rw [m_pass (by rw [ct_now, bc]; exact g.1) (by rw [ct_now, bc]; exact g.2.1) (by rw [ct_now, bc, gnow_92]; exact q1) (by rw [ct_now, bc, gnow_92]; exact q2), ct_now, bc, gnow_92, gnow_gnow, bx 83 (by decide) (by decide) (by decide), g8]
      rfl
    obtain ⟨r, e, hr, hq⟩ := m_irL (B := gnow (bk H) (aIt (ct h) (-1) (t + 1) N)) (R := R) (by omega) (by rw [bx 83 (by decide) (by decide) (by decide), hR]) (s := s) (by omega) (t : Int) R 0 50000 1 (Or.inr rfl) (by omega) (by omega)
    have e' : f_Mo_isRut (s : Int) (t : Int) (gnow (bk H) (aIt (ct h) (-1) (t + 1) N)) = some (gnow (bk H) (aIt (ct h) (-1) (t + 1) N), r) := e
    have hq' : r = 1 ↔ rtO h N s t := by
      rw [hq, bx 109 (by decide) (by decide) (by decide), bx 110 (by decide) (by decide) (by decide), bx 111 (by decide) (by decide) (by decide), gnow_92]
      unfold rtO
      constructor
      · intro z j h1 h3 h4
        exact z.2 j (by omega) (by omega) h3 h4
      · intro z
        exact ⟨rfl, fun j h1 h2 h3 h4 => z j (by omega) h3 h4⟩
    rw [f_Mo_laws_L39, if_neg (by omega), mp, gb_s]
    unfold f_Mo_laws_J69 f_Mo_laws_J70
    rw [ga_s (by omega), e', gb_s]
    by_cases cz : v = 0 ∨ r = 0
    · obtain ⟨r0, i1, i2, i3⟩ := ih (t + 1) f 0 (Or.inl rfl) (by omega) (by omega)
      have n0 : r0 = 0 := by
        rcases i2 with z | z
        · exact z
        · exact absurd (i3.mp z).1 (by decide)
      subst n0
      refine ⟨0, ?_, Or.inl rfl, fun z => absurd z (by decide), fun z => ?_⟩
      · by_cases c0 : v = 0
        · rw [if_pos c0]; exact i1
        · rw [if_neg c0, if_pos (by omega)]; exact i1
      · have := hq'.mpr (z.2 t (Nat.le_refl _) (by omega))
        omega
    · obtain ⟨r0, i1, i2, i3⟩ := ih (t + 1) f 1 (Or.inr rfl) (by omega) (by omega)
      refine ⟨r0, by rw [if_neg (by omega), if_neg (by omega)]; exact i1, i2, ?_⟩
      rw [i3]
      constructor
      · intro z
        refine ⟨by omega, fun t' h1 h2 => ?_⟩
        by_cases e : t' = t
        · subst e; exact hq'.mp (by omega)
        · exact z.2 t' (by omega) h2
      · intro z
        exact ⟨rfl, fun t' h1 h2 => z.2 t' (by omega) h2⟩
def lsF (P : Nat → Bool) : Nat → Nat → Int → Int
  | 0, _, v => v
  | m + 1, w, v => lsF P m (w + 1) (if P w = true then gor v (gshl 1 (w : Int)) else v)
theorem gor_0 : ∀ m : Nat, m < 64 → gor (m : Int) 0 = (m : Int) := by decide +kernel
theorem k_lsL {h : gH} {c : Nat} (g : GK h c) {s : Nat} (hs : (s : Int) < h 83 2) {P : Nat → Bool} (hP : ∀ w, P w = true ↔ ∀ t : Nat, t < 100 → rtO h (aLw (ct h) (s : Int) (w : Int) (h 92)) s t) : ∀ (m w f : Nat) (v : Int) (hh : gH), w + m = 5 → m < f → tS h hh → ∃ h', f_DS_laws_L15 (s : Int) (fun v8 h9 => some (h9, v8)) f v (w : Int) hh = some (h', lsF P m w v) ∧ tS h h' := by
  obtain ⟨w1, w2, w3, w4⟩ := g.2.2.2.1.2.2.1
  obtain ⟨⟨b1, b2⟩, b3, b4⟩ := g.2.2.2.2.2.2.1
  obtain ⟨R, hR⟩ : ∃ R : Nat, h 83 38 = (R : Int) := ⟨(h 83 38).toNat, by omega⟩
  intro m
  induction m with
  | zero =>
    intro w f v hh hw hf hS
    obtain ⟨f, rfl⟩ : ∃ f', f = f' + 1 := ⟨f - 1, by omega⟩
    exact ⟨hh, by rw [f_DS_laws_L15, if_pos (by omega)]; rfl, hS⟩
  | succ m ih =>
    intro w f v hh hw hf hS
    obtain ⟨f, rfl⟩ : ∃ f', f = f' + 1 := ⟨f - 1, by omega⟩
    obtain ⟨h1, z1, z2, z3⟩ := k_copy37 g hS
    obtain ⟨h2, y1, y2, y3⟩ := k_decree g.1 (by decide) (tS_CR g z3) z2 (s : Int) (w : Int)
    obtain ⟨p1, p2, p3, p4, p5⟩ := aLw_ok g.1 w1 w2 w3 (s : Int) (w := (w : Int)) (by omega)
    have hS2 := tS_G z3 y3
    have x75 : h2 75 0 = (R : Int) := by rw [hS2 75 (by omega), b3, hR]
    obtain ⟨mm, u1, u2, u3, u4⟩ := k_minL (hh := h2) (R := R) (by omega) x75 (fun i hi => by
      obtain ⟨p1, p2, p3, p4, p5⟩ := b4 i (by omega)
      rw [hS2 77 (by omega), p2]; exact ⟨p4, p5⟩) (s : Int) R 0 50000 0 (by omega) (by omega) (by omega)
    have u1' : f_Notes_minutesOf 75 (s : Int) h2 = some (h2, (mm : Int)) := u1
    obtain ⟨h3, r, x1, x2, x3, x4⟩ := k_fitL g hs p1 p2 (by rw [p4]; exact w4) u2 mm 0 50000 h2 (by omega) (by omega) hS2 y2
    have x1' : f_DS_fitsRuts_L32 (s : Int) (mm : Int) (fun h13 => gd (gz 1) (some (h13, 1))) 50000 0 h2 = some (h3, r) := x1
    have ef : f_DS_fitsRuts (s : Int) (w : Int) hh = some (h3, r) := by
      unfold f_DS_fitsRuts
      rw [z1, gb_s, y1, gb_s, u1', gb_s, x1']
    have hr : r = 1 ↔ P w = true := by
      rw [x4, hP]
      constructor
      · intro z t ht
        by_cases e : t < mm
        · exact z t (by omega) e
        · intro j q1 q2 q3
          exfalso
          obtain ⟨p1, p2, p3, p4, p5⟩ := b4 j q1
          have := u4 j (by omega) (by omega)
          rw [hS2 76 (by omega), hS2 77 (by omega), p1, p2] at this
          have := this q2
          omega
      · intro z t _ ht
        exact z t (by omega)
    rw [f_DS_laws_L15, if_neg (by omega), ef, gb_s, lsF]
    unfold f_DS_laws_J35
    rw [ga_s (by omega)]
    by_cases c0 : r = 0
    · have hp : ¬ P w = true := fun z => by have := hr.mpr z; omega
      rw [if_pos c0, if_neg hp]
      exact ih (w + 1) f v h3 (by omega) (by omega) x2
    · rw [if_neg c0, if_pos (hr.mp (by omega))]
      exact ih (w + 1) f _ h3 (by omega) (by omega) x2
theorem m_lsL {h H : gH} {c : Nat} (g : GK h c) (hS2 : tS h H) {s : Nat} (hs : (s : Int) < h 83 2) {P : Nat → Bool} (hP : ∀ w, P w = true ↔ ∀ t : Nat, t < 100 → rtO h (aLw (ct h) (s : Int) (w : Int) (h 92)) s t) : ∀ (m w f v : Nat), v < 64 → w + m = 5 → m < f → f_Mo_laws_L19 (s : Int) (fun v20 h21 => some (h21, v20)) f (v : Int) (w : Int) (bk H) = some (bk H, lsF P m w (v : Int)) := by
  obtain ⟨w1, w2, w3, w4⟩ := g.2.2.2.1.2.2.1
  have hS : 0 ≤ h 83 2 ∧ h 83 2 ≤ 9 := g.1.2.1
  have hsD : (s : Int) < ct h 83 2 := by rw [ct_83_2]; omega
  intro m
  induction m with
  | zero =>
    intro w f v hv hw hf
    obtain ⟨f, rfl⟩ : ∃ f', f = f' + 1 := ⟨f - 1, by omega⟩
    rw [f_Mo_laws_L19, if_pos (by omega)]; rfl
  | succ m ih =>
    intro w f v hv hw hf
    obtain ⟨f, rfl⟩ : ∃ f', f = f' + 1 := ⟨f - 1, by omega⟩
    obtain ⟨p1, p2, p3, p4, p5⟩ := aLw_ok g.1 w1 w2 w3 (s : Int) (w := (w : Int)) (by omega)
    have eu : gup (bk H) 92 (2 + s) (w : Int) = gnow (bk H) (aLw (ct h) (s : Int) (w : Int) (h 92)) := by
      rw [gup92, aLw_one g.1 hsD, bk_ne (by decide), hS2 92 (by omega)]
    have hoff : ∀ y, 50 ≤ y → aIt (ct h) (-1) 100 (aLw (ct h) (s : Int) (w : Int) (h 92)) y = h 92 y := off_it g.1 (-1) p1.1.1 p3 p5 100
    rw [f_Mo_laws_L19, if_neg (by omega), ga_2 (by omega), gdix (by omega) (by omega), gs_s, Int.toNat_natCast, eu]
    obtain ⟨r, x1, x2, x3⟩ := m_fitL g hS2 hs p1 p2 (by rw [p4]; exact w4) (v : Int) (w : Int) (fun v15 h16 => gb (f_Mo_putBack h16) (fun h17 r18 => if v15 = 0 then (f_Mo_laws_J95 (f_Mo_laws_L19 (s : Int) (fun v20 h21 => some (h21, v20)) f) (s : Int) (w : Int) 0 (v : Int) h17) else (f_Mo_laws_J95 (f_Mo_laws_L19 (s : Int) (fun v20 h21 => some (h21, v20)) f) (s : Int) (w : Int) (gshl 1 (w : Int)) (v : Int) h17))) 100 0 50000 1 (Or.inr rfl) (by omega) (by omega)
    have hr : r = 1 ↔ P w = true := by
      rw [x3, hP]
      exact ⟨fun z t ht => z.2 t (by omega) ht, fun z => ⟨rfl, fun t _ ht => z t ht⟩⟩
    refine (show _ = _ from x1).trans ?_
    rw [m_backT hS2 hoff, gb_s, lsF]
    unfold f_Mo_laws_J95
    rw [ga_s (by omega), gor_0 v hv]
    by_cases c0 : r = 0
    · have hp : ¬ P w = true := fun z => by have := hr.mpr z; omega
      rw [if_pos c0, if_neg hp]
      exact ih (w + 1) f v hv (by omega) (by omega)
    · rw [if_neg c0, if_pos (hr.mp (by omega))]
      obtain ⟨q1, q2⟩ := (gb_or v hv w (by omega)).1
      obtain ⟨v', hv'⟩ : ∃ v' : Nat, gor (v : Int) (gshl 1 (w : Int)) = (v' : Int) := ⟨(gor (v : Int) (gshl 1 (w : Int))).toNat, by omega⟩
      rw [hv'] at q2 ⊢
      exact ih (w + 1) f v' (by omega) (by omega) (by omega)
theorem op_laws {h : gH} (g : GI h) (a : Int) : gok (f_DS_laws a) (f_Mo_laws a) h := by
  obtain ⟨c, g⟩ := g
  have hgi : GI h := ⟨c, g⟩
  have hS : 0 ≤ h 83 2 ∧ h 83 2 ≤ 9 := g.1.2.1
  have ka := k_noStreet g a
  by_cases ca : 0 ≤ a ∧ a < h 83 2
  · obtain ⟨s, rfl⟩ : ∃ s : Nat, a = (s : Int) := ⟨a.toNat, by omega⟩
    obtain ⟨P, hP⟩ : ∃ P : Nat → Bool, ∀ w, P w = true ↔ ∀ t : Nat, t < 100 → rtO h (aLw (ct h) (s : Int) (w : Int) (h 92)) s t := ⟨fun w => @decide _ (Classical.propDecidable (∀ t : Nat, t < 100 → rtO h (aLw (ct h) (s : Int) (w : Int) (h 92)) s t)), fun w => @decide_eq_true_iff _ (Classical.propDecidable _)⟩
    obtain ⟨H, x1, x2⟩ := k_lsL g ca.2 hP 5 0 50000 0 h rfl (by omega) (tS_id h)
    have e2 := m_lsL g x2 ca.2 hP 5 0 50000 0 (by omega) rfl (by omega)
    refine ⟨H, lsF P 5 0 0, bk H, ?_, ?_, GI_try g x2⟩
    · unfold f_DS_laws
      rw [ka, gb_s, if_pos ca, if_pos rfl]
      exact x1
    · unfold f_Mo_laws
      rw [m_isStreet (by rw [x2 83 (by omega)]; exact hS), gb_s, x2 83 (by omega), if_pos ca, if_neg (by decide), m_saveB, gb_s]
      exact e2
  · exact gok_id (r := -1000000001) hgi (by unfold f_DS_laws; rw [ka, gb_s, if_neg ca, if_neg (by decide)]) (by unfold f_Mo_laws; rw [m_isStreet hS, gb_s, if_neg ca, if_pos rfl])
