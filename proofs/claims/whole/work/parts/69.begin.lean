/- PURE: the class reads the text into its draft; traffic begins anew -/
theorem pI_g {q : Nat → Int} {R : gH} (h : pI q R) : eGr (R 1) (R 2) (R 3) (q 0).toNat (q 2).toNat ∧ q 0 = ((q 0).toNat : Int) ∧ q 2 = ((q 2).toNat : Int) := by
  obtain ⟨h1, h2, h3⟩ := h
  have hq : (0 ≤ q 0 ∧ q 0 ≤ 7) ∧ (0 ≤ q 2 ∧ q 2 ≤ 9) := by
    rcases h1 with h1 | h1 <;> omega
  refine ⟨⟨by omega, by omega, fun s hs => ?_⟩, by omega, by omega⟩
  obtain ⟨p1, p2, p3, p4, -⟩ := h2 s (by omega)
  exact ⟨⟨p1.1, by omega⟩, ⟨p2.1, by omega⟩, p3, p4⟩
theorem pI_0 (R : gH) : pI (fun _ => 0) R := ⟨Or.inl ⟨rfl, rfl, rfl, rfl⟩, fun s hs => by have : (s : Int) < 0 := hs; omega, fun s hs => by have : (s : Int) < 0 := hs; omega⟩
def kD (d : Nat) (h h' : gH) : Prop := ∀ x, x < d ∨ d + 12 ≤ x → x ≠ 25 → h' x = h x
def rdX (T : Nat → Int) (n : Nat) (R : gH) : (Int × Int × Nat) × (Nat → Int) × gH := aLp T n (n + 1) ((0, -1, sk T n 0), (fun _ => 0), R)
def rdT (h : gH) (d : Nat) (q : Nat → Int) (R : gH) : Prop := ∃ e, h (d + 10) = e ∧ eJ (R 1) (R 2) (R 3) (q 0).toNat (q 2).toNat e ∧ eC (R 1) (R 2) (R 3) (q 0).toNat (q 2).toNat e ∧ ∀ a b : Nat, a < (q 0).toNat → b < (q 0).toNat → ldS (R 1) (R 2) (R 3) e (q 2).toNat a b (h (d + 11) (7 * a + b))
theorem k_readInto {h : gH} {d n : Nat} {T : Nat → Int} (hd : d = 1 ∨ d = 13) (hT : LT h 26 n T) (h0 : h 25 0 = (n : Int)) : ∃ h', f_Reader_readInto d h = some (h', (rdX T n (fun i => h (d + i))).1.1) ∧ h' 25 0 = 0 ∧ h' 25 1 = (rdX T n (fun i => h (d + i))).1.2.1 ∧ kD d h h' ∧ pI (rdX T n (fun i => h (d + i))).2.1 (rdX T n (fun i => h (d + i))).2.2 ∧ ((rdX T n (fun i => h (d + i))).1.1 = 0 → RC h' d (rdX T n (fun i => h (d + i))).2.1 (rdX T n (fun i => h (d + i))).2.2 ∧ rdT h' d (rdX T n (fun i => h (d + i))).2.1 (rdX T n (fun i => h (d + i))).2.2) := by
  have hn := hT.1
  unfold f_Reader_readInto f_City_clear
  simp only [gs_s, gb_s]
  generalize hH : gup (gup (gup (gup (gup (gup (gup h d 0 0) d 1 0) d 2 0) d 3 0) 25 3 0) 25 5 0) 25 1 (-1) = H
  have a26 : H 26 = h 26 := by rw [← hH]; simp (disch := omega) only [gu_r]
  have a0 : H 25 0 = (n : Int) := by rw [← hH]; simp (disch := omega) only [gu_r, gu_o, gu_at]; exact h0
  have a1 : H 25 1 = -1 := by rw [← hH]; simp (disch := omega) only [gu_r, gu_o, gu_at]
  have a3 : H 25 3 = 0 := by rw [← hH]; simp (disch := omega) only [gu_r, gu_o, gu_at]
  have a5 : H 25 5 = 0 := by rw [← hH]; simp (disch := omega) only [gu_r, gu_o, gu_at]
  have ad : ∀ y, y < 4 → H d y = 0 := fun y hy => by
    rw [← hH]
    rcases (show y = 0 ∨ y = 1 ∨ y = 2 ∨ y = 3 by omega) with rfl | rfl | rfl | rfl <;> simp (disch := omega) only [gu_r, gu_o, gu_at]
  have ax : ∀ x, x ≠ d → x ≠ 25 → H x = h x := fun x h1 h2 => by rw [← hH]; simp (disch := omega) only [gu_r]
  clear hH
  have hTH : LT H 26 n T := ⟨hn, fun i hi => by rw [a26]; exact hT.2 i hi⟩
  obtain ⟨s1, s2, s3⟩ := sk_spec (T := T) (n := n) (n - 0) 0 (Nat.le_refl _) (Nat.zero_le _)
  have e1 := k_skipB (h := H) (ρ := H 25) (p := 0) hTH a0 a3 (Nat.zero_le _)
  rw [grr_self] at e1
  rw [e1, gb_s]
  obtain ⟨h', ρ', g1, g2, g3, g4, g5⟩ := k_lp hd (fun h15 => f_Reader_readInto_J65 d h15) (n + 1) (0, -1, sk T n 0) (fun _ => 0) (fun i => h (d + i)) H (nu (H 25) 3 ((sk T n 0 : Nat) : Int)) 0 50000 (fun _ => by show n - sk T n 0 < n + 1; omega) (fun _ => Nat.zero_le _) (by omega) (by omega) (by omega) hTH ⟨by rw [nu_ne (by decide)]; exact a0, by rw [nu_ne (by decide)]; exact a5, by rw [nu_ne (by decide)]; exact a1, nu_at _ _ _, s2⟩ ⟨ad, fun i h1 h2 => ax (d + i) (by omega) (by omega)⟩ (pI_0 _)
  have g1' : f_Reader_readInto_L25 d (fun h15 => f_Reader_readInto_J65 d h15) 50000 0 (grr H 25 (nu (H 25) 3 ((sk T n 0 : Nat) : Int))) = f_Reader_readInto_J65 d (grr h' 25 ρ') := g1
  rw [g1']
  show ∃ h'', _ = some (h'', (rdX T n (fun i => h (d + i))).1.1) ∧ _
  have g2' : RU ρ' n (rdX T n (fun i => h (d + i))).1 := g2
  have g3' : RC h' d (rdX T n (fun i => h (d + i))).2.1 (rdX T n (fun i => h (d + i))).2.2 := g3
  have g4' : pI (rdX T n (fun i => h (d + i))).2.1 (rdX T n (fun i => h (d + i))).2.2 := g4
  generalize rdX T n (fun i => h (d + i)) = X at g2' g3' g4' ⊢
  obtain ⟨u, q, R⟩ := X
  have g3'' : RC h' d q R := g3'
  have g4'' : pI q R := g4'
  have g2'' : RU ρ' n u := g2'
  unfold f_Reader_readInto_J65 f_Reader_readInto_J76
  simp only [gs_s]
  rw [grr_at, g2''.2.1]
  by_cases c : u.1 = 0
  · rw [if_pos c]
    obtain ⟨hg, hK, hS⟩ := pI_g g4''
    have r1 : grr h' 25 ρ' (d + 1) = R 1 := by rw [grr_ne (by omega)]; exact g3''.2 1 (by omega) (by omega)
    have r2 : grr h' 25 ρ' (d + 2) = R 2 := by rw [grr_ne (by omega)]; exact g3''.2 2 (by omega) (by omega)
    have r3 : grr h' 25 ρ' (d + 3) = R 3 := by rw [grr_ne (by omega)]; exact g3''.2 3 (by omega) (by omega)
    obtain ⟨e, l, z1, z2, z3, z4⟩ := c_measure (h := grr h' 25 ρ') (t := d) (K := (q 0).toNat) (S := (q 2).toNat) (by rw [r1, r2, r3]; exact hg) (by rw [grr_ne (by omega), g3''.1 0 (by omega)]; exact hK) (by rw [grr_ne (by omega), g3''.1 2 (by omega)]; exact hS)
    rw [r1, r2, r3] at z2 z3 z4
    rw [z1, gb_s]
    refine ⟨gup (grr (grr (grr h' 25 ρ') (d + 10) e) (d + 11) l) 25 0 0, ?_, gu_at, ?_, ?_, g4', fun _ => ⟨?_, ?_⟩⟩
    · rw [gu_o (by decide), grr_ne (by omega), grr_ne (by omega), grr_at, g2''.2.1]
    · rw [gu_o (by decide), grr_ne (by omega), grr_ne (by omega), grr_at, g2''.2.2.1]
    · intro x h1 h2
      rw [gu_r h2, grr_ne (by omega), grr_ne (by omega), grr_ne h2, g5 x (by omega), ax x (by omega) h2]
    · refine ⟨fun y hy => ?_, fun i h1 h2 => ?_⟩
      · rw [gu_r (by omega), grr_ne (by omega), grr_ne (by omega), grr_ne (by omega)]; exact g3''.1 y hy
      · rw [gu_r (by omega), grr_ne (by omega), grr_ne (by omega), grr_ne (by omega)]; exact g3''.2 i h1 h2
    · refine ⟨e, ?_, z2, z3, fun a b ha hb => ?_⟩
      · rw [gu_r (by omega), grr_ne (by omega), grr_at]
      · rw [gu_r (by omega), grr_at]; exact z4 a b ha hb
  · rw [if_neg c]
    refine ⟨gup (grr h' 25 ρ') 25 0 0, ?_, gu_at, ?_, ?_, g4', fun z => absurd z c⟩
    · rw [gu_o (by decide), grr_at, g2''.2.1]
    · rw [gu_o (by decide), grr_at, g2''.2.2.1]
    · intro x h1 h2
      rw [gu_r h2, grr_ne h2, g5 x (by omega), ax x (by omega) h2]
/- traffic begins -/
def bgS (h hh : gH) (c t s : Nat) : Prop := hh (t + 1) s = h (c + 4) s ∧ hh (t + 2) s = 0 ∧ hh (t + 3) s = 0 ∧ hh (t + 4) (2 * s) = 0 ∧ hh (t + 4) (2 * s + 1) = 0
def bgC (h hh : gH) (c t k : Nat) : Prop := hh (t + 5) k = h (c + 8) k ∧ hh (t + 6) k = 0 ∧ hh (t + 7) k = h (c + 5) k ∧ hh (t + 8) k = -1 ∧ hh (t + 9) k = 0
def bgT (h hh : gH) (c t : Nat) : Prop := kH t h hh ∧ hh t 0 = (c : Int) ∧ hh t 1 = 0 ∧ hh t 2 = h t 2
theorem gm2 {s : Nat} (h : s < 100) : gmul 2 (s : Int) = ((2 * s : Nat) : Int) := by rw [gmul_eq (by omega) (by omega)]; omega
theorem kq_begin {h : gH} {t c : Nat} (ht : T4 t) (hc : c = 1 ∨ c = 13) : ∃ h', f_Traffic_begin t c h = some (h', 0) ∧ bgT h h' c t ∧ (∀ s : Nat, s < 9 → bgS h h' c t s) ∧ (∀ k : Nat, k < 6 → bgC h h' c t k) ∧ (gRg h → gRg h') := by
  unfold T4 at ht
  have hcr : gR32 (c : Int) := ⟨by omega, by omega⟩
  have hm1 : gR32 (-1) := ⟨by decide, by decide⟩
  have h0r : gR32 0 := ⟨by decide, by decide⟩
  unfold f_Traffic_begin
  simp only [gs_s]
  generalize hH : gup (gup h t 0 ((c : Nat) : Int)) t 1 0 = H
  have b0 : bgT h H c t := by
    rw [← hH]
    refine ⟨fun x hx => ?_, ?_, ?_, ?_⟩
    · rw [gu_r (by omega), gu_r (by omega)]
    · rw [gu_o (by decide), gu_at]
    · rw [gu_at]
    · rw [gu_o (by decide), gu_o (by decide)]
  have bg : gRg h → gRg H := fun hgr => by rw [← hH]; exact gRg_up (gRg_up hgr hcr) h0r
  clear hH
  have key := gloopI (S := Int × gH) (F := fun n x => f_Traffic_begin_L12 t c (fun h10 => f_Traffic_begin_L75 t c (fun h19 => some (h19, 0)) 50000 0 h10) n x.1 x.2) (K := fun x => f_Traffic_begin_L75 t c (fun h19 => some (h19, 0)) 50000 0 x.2) 9 (fun j x => x.1 = (j : Int) ∧ bgT h x.2 c t ∧ (gRg h → gRg x.2) ∧ ∀ s : Nat, s < j → bgS h x.2 c t s) ?_ ?_ 50000 (0, H) ⟨rfl, b0, bg, fun s hs => by omega⟩ (by omega)
  · obtain ⟨⟨v, h1⟩, ⟨i1, i2, i2g, i3⟩, e1⟩ := key
    have i2' : bgT h h1 c t := i2
    have i3' : ∀ s : Nat, s < 9 → bgS h h1 c t s := i3
    have key2 := gloopI (S := Int × gH) (F := fun n x => f_Traffic_begin_L75 t c (fun h19 => some (h19, 0)) n x.1 x.2) (K := fun x => some (x.2, 0)) 6 (fun j x => x.1 = (j : Int) ∧ bgT h x.2 c t ∧ (gRg h → gRg x.2) ∧ (∀ s : Nat, s < 9 → bgS h x.2 c t s) ∧ ∀ k : Nat, k < j → bgC h x.2 c t k) ?_ ?_ 50000 (0, h1) ⟨rfl, i2', i2g, i3', fun s hs => by omega⟩ (by omega)
    · obtain ⟨⟨w, h2⟩, ⟨j1, j2, jg, j3, j4⟩, e2⟩ := key2
      exact ⟨h2, e1.trans e2, j2, j3, j4, jg⟩
    · intro n j x hj hx
      obtain ⟨xi, hh⟩ := x
      obtain ⟨x1, x2, xg, x3, x4⟩ := hx
      have x1' : xi = (j : Int) := x1
      have x2' : bgT h hh c t := x2
      have xg' : gRg h → gRg hh := xg
      have x3' : ∀ s : Nat, s < 9 → bgS h hh c t s := x3
      have x4' : ∀ k : Nat, k < j → bgC h hh c t k := x4
      subst x1'
      obtain ⟨y1, y2, y3, y4⟩ := x2'
      have cn : (hh t 0).toNat = c := by rw [y2, Int.toNat_natCast]
      show ∃ s', _ ∧ f_Traffic_begin_L75 t c (fun h19 => some (h19, 0)) (n + 1) (j : Int) hh = _
      rw [f_Traffic_begin_L75, if_neg (by omega), cn, gdcl (gsh_c hc)]
      simp only [gs_s, Int.toNat_natCast]
      simp (disch := omega) only [gdix, gu_r, cn]
      rw [gdcl (gsh_c hc), ga_s (by omega), y1 (c + 8) (by omega), y1 (c + 5) (by omega)]
      refine ⟨(((j + 1 : Nat) : Int), gup (gup (gup (gup (gup hh (t + 5) j (h (c + 8) j)) (t + 6) j 0) (t + 7) j (h (c + 5) j)) (t + 8) j (-1)) (t + 9) j 0), ⟨rfl, ⟨fun x hx => ?_, ?_, ?_, ?_⟩, ?_, fun s hs => ?_, fun k hk => ?_⟩, rfl⟩
      · simp (disch := omega) only [gu_r]; exact y1 x hx
      · simp (disch := omega) only [gu_r]; exact y2
      · simp (disch := omega) only [gu_r]; exact y3
      · simp (disch := omega) only [gu_r]; exact y4
      · exact fun hgr => gRg_up (gRg_up (gRg_up (gRg_up (gRg_up (xg' hgr) (hgr _ _)) h0r) (hgr _ _)) hm1) h0r
      · have := x3' s hs
        unfold bgS at this ⊢
        simp (disch := omega) only [gu_r]
        exact this
      · unfold bgC
        by_cases e : k = j
        · subst e
          simp (disch := omega) only [gu_r, gu_at]
          exact ⟨trivial, trivial, trivial, trivial, trivial⟩
        · have := x4' k (by omega)
          unfold bgC at this
          simp (disch := omega) only [gu_r, gu_o]
          exact this
    · intro n x hx
      obtain ⟨xi, hh⟩ := x
      obtain ⟨x1, -⟩ := hx
      have x1' : xi = (6 : Int) := x1
      subst x1'
      show f_Traffic_begin_L75 t c (fun h19 => some (h19, 0)) (n + 1) 6 hh = _
      rw [f_Traffic_begin_L75, if_pos (by decide)]
  · intro n j x hj hx
    obtain ⟨xi, hh⟩ := x
    obtain ⟨x1, x2, xg, x3⟩ := hx
    have x1' : xi = (j : Int) := x1
    have x2' : bgT h hh c t := x2
    have xg' : gRg h → gRg hh := xg
    have x3' : ∀ s : Nat, s < j → bgS h hh c t s := x3
    subst x1'
    obtain ⟨y1, y2, y3, y4⟩ := x2'
    have cn : (hh t 0).toNat = c := by rw [y2, Int.toNat_natCast]
    show ∃ s', _ ∧ f_Traffic_begin_L12 t c (fun h10 => f_Traffic_begin_L75 t c (fun h19 => some (h19, 0)) 50000 0 h10) (n + 1) (j : Int) hh = _
    rw [f_Traffic_begin_L12, if_neg (by omega), cn, gdcl (gsh_c hc), gm2 (by omega)]
    simp (disch := omega) only [ga_s, gdix, gs_s, Int.toNat_natCast]
    rw [y1 (c + 4) (by omega)]
    refine ⟨(((j + 1 : Nat) : Int), gup (gup (gup (gup (gup hh (t + 1) j (h (c + 4) j)) (t + 2) j 0) (t + 3) j 0) (t + 4) (2 * j) 0) (t + 4) (2 * j + 1) 0), ⟨rfl, ⟨fun x hx => ?_, ?_, ?_, ?_⟩, ?_, fun s hs => ?_⟩, rfl⟩
    · simp (disch := omega) only [gu_r]; exact y1 x hx
    · simp (disch := omega) only [gu_r]; exact y2
    · simp (disch := omega) only [gu_r]; exact y3
    · simp (disch := omega) only [gu_r]; exact y4
    · exact fun hgr => gRg_up (gRg_up (gRg_up (gRg_up (gRg_up (xg' hgr) (hgr _ _)) h0r) h0r) h0r) h0r
    · unfold bgS
      by_cases e : s = j
      · subst e
        simp (disch := omega) only [gu_r, gu_at, gu_o]
        exact ⟨trivial, trivial, trivial, trivial, trivial⟩
      · have := x3' s (by omega)
        unfold bgS at this
        simp (disch := omega) only [gu_r, gu_o]
        exact this
  · intro n x hx
    obtain ⟨xi, hh⟩ := x
    obtain ⟨x1, -⟩ := hx
    have x1' : xi = (9 : Int) := x1
    subst x1'
    show f_Traffic_begin_L12 t c (fun h10 => f_Traffic_begin_L75 t c (fun h19 => some (h19, 0)) 50000 0 h10) (n + 1) 9 hh = _
    rw [f_Traffic_begin_L12, if_pos (by decide)]
