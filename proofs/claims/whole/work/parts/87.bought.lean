/- PURE: minutes bought: the class, and why both agree -/
theorem bPy_1 {D : gH} {N : Nat → Int} {s : Nat} {e t : Int} (h : ¬ bPy D N s e t = 0) : N (2 + s) = 1 := by
  unfold bPy at h
  by_cases c : N (2 + s) = 1 ∧ ¬ t / D 83 1 % 2 = e
  · exact c.1
  · rw [if_neg c] at h; exact absurd rfl h
theorem bPy_0 {D : gH} {N : Nat → Int} {s : Nat} {e t : Int} (h : bPy D N s e t = 0) (hl : N (2 + s) = 1) : t / D 83 1 % 2 = e := by
  unfold bPy at h
  by_cases c : t / D 83 1 % 2 = e
  · exact c
  · rw [if_pos ⟨hl, c⟩] at h; exact absurd h (by decide)
theorem bT_wait {D : gH} {N : Nat → Int} {a : Nat} {m : Int} {n : Nat} {F : Nat → Int} (hT : bT D N a m n F) {c : Nat} (hcK : (c : Int) < D 83 0) (i : Nat) : ∀ d : Nat, i + d ≤ n → F (7 * (i + d) + c) ≤ F (7 * i + c) := by
  intro d
  induction d with
  | zero => intro _; exact Int.le_refl _
  | succ d ih =>
    intro h
    have h1 := (hT.2 (i + d) c (by omega) hcK).1 (by omega)
    have h2 := ih (by omega)
    rw [show i + (d + 1) = i + d + 1 by omega]
    omega
def bD (m : Int) (n : Nat) (F : Nat → Int) (e : Nat) (x : Nat → Int) : Prop := ∀ c, c < 7 → m ≤ x c ∧ (x c ≤ m + (n : Int) → F (7 * (x c - m).toNat + c) ≤ (e : Int))
theorem bD_C {D : gH} (hc : cW D) {N : Nat → Int} {a : Nat} {m : Int} {n : Nat} {F : Nat → Int} (hm : 0 ≤ m ∧ m ≤ 999) (hn : n ≤ 300) (hT : bT D N a m n F) {e s : Nat} {g : Int} (hs : (s : Int) < D 83 2) (hg : g = 0 ∨ g = 1) {x : Nat → Int} (hx : yI x) (h : bD m n F e x) : bD m n F e (yC D N s g x) := by
  intro v hv
  by_cases c : x (yA D s g) < 1000000 ∧ yV D N s g x < x (yZ D s g)
  · have ec : yC D N s g x = nu x (yZ D s g) (yV D N s g x) := if_pos c
    by_cases ev : v = yZ D s g
    · rw [ec, ev, nu_at]
      obtain ⟨⟨k1, k2, k3, k4, k5⟩, -, -⟩ := yAZ hc hs hg
      obtain ⟨u1, u2⟩ := h _ k4
      obtain ⟨v1, v2⟩ := yV_pos hc (N := N) hs hg hx
      refine ⟨by omega, fun hl => ?_⟩
      obtain ⟨p1, p2⟩ := y_half hc hs
      obtain ⟨w1, w2⟩ := y_wide hc hs
      have hge := yE_ge (N := N) (s := s) (e := g) p1 (hx _ k4).2
      obtain ⟨E, hE⟩ : ∃ E, yE D N s g (x (yA D s g)) = E := ⟨_, rfl⟩
      have hV : yV D N s g x = E + D 86 s := by rw [← hE]; rfl
      rw [hV] at hl ⊢
      have hop := yE_open (N := N) (s := s) p1 hg (t := x (yA D s g)) (by rw [hE]; omega)
      rw [hE] at hop hge
      have q1 := u2 (by omega)
      have q2 := bT_wait hT k1 (x (yA D s g) - m).toNat ((E - m).toNat - (x (yA D s g) - m).toNat) (by omega)
      rw [show (x (yA D s g) - m).toNat + ((E - m).toNat - (x (yA D s g) - m).toNat) = (E - m).toNat by omega] at q2
      have q3 := (hT.2 (E - m).toNat (yA D s g) (by omega) k1).2 s hs g hg rfl hop.1 (by omega)
      have pay0 : bPy D N s g (m + ((E - m).toNat : Int)) = 0 := by
        unfold bPy
        rw [if_neg (by
          intro z
          refine z.2 ?_
          rw [show m + ((E - m).toNat : Int) = E by omega]
          exact hop.2 z.1)]
      rw [pay0] at q3
      rw [show (E + D 86 s - m).toNat = (E - m).toNat + (D 86 s).toNat by omega]
      omega
    · rw [ec, nu_ne ev]; exact h v hv
  · have ec : yC D N s g x = x := if_neg c
    rw [ec]; exact h v hv
def bM (m : Int) (n : Nat) (F : Nat → Int) (e : Nat) (x : Nat → Int) : Prop := ∀ i c : Nat, i ≤ n → c < 7 → F (7 * i + c) ≤ (e : Int) → x c ≤ m + (i : Int)
def bLy (D : gH) (N : Nat → Int) (m : Int) (n : Nat) (F : Nat → Int) (e : Nat) (x : Nat → Int) : Prop := e = 0 ∨ ∃ (e' : Nat) (z : Nat → Int), e = e' + 1 ∧ bM m n F e' z ∧ ∀ (s : Nat) (g : Int), (s : Int) < D 83 2 → (g = 0 ∨ g = 1) → N (2 + s) = 1 → x (yZ D s g) ≤ z (yA D s g) + D 86 s
theorem bM_of {D : gH} (hc : cW D) {N : Nat → Int} {a : Nat} {m : Int} {n : Nat} {F : Nat → Int} (hm : 0 ≤ m ∧ m ≤ 999) (hn : n ≤ 300) (hT : bT D N a m n F) {e : Nat} (he : e ≤ 100) {x : Nat → Int} (hK : yK D N x) (ha : x a ≤ m) (hL : bLy D N m n F e x) : bM m n F e x := by
  intro i
  induction i using Nat.strongRecOn with
  | ind i ih =>
    intro c hi hc7 hF
    rcases hT.1.2.2 i c hi hc7 (by omega) with ⟨r0, ca, v0⟩ | ⟨q, h1, h2, h3⟩ | ⟨s, g, q, h1, h2, h3, h4, h5, h6, h7⟩
    · rw [ca, r0]; omega
    · have := ih q (by omega) c (by omega) hc7 (by rw [h3]; exact hF)
      omega
    · obtain ⟨p1, p2⟩ := y_half hc h1
      obtain ⟨w1, w2⟩ := y_wide hc h1
      have k4 := (yAZ hc h1 h2).1.2.2.2.1
      have hf0 := (hT.1.1 (7 * q + yA D s g) (by omega)).1
      have h01 := bPy_01 D N s g (m + (q : Int))
      by_cases pz : bPy D N s g (m + (q : Int)) = 0
      · have hu := ih q (by omega) (yA D s g) (by omega) k4 (by omega)
        have hE := yE_to (D := D) (N := N) (s := s) (e := g) p1 hu (by omega) ⟨h4, fun l1 => bPy_0 pz l1⟩
        have hcl := hK s g h1 h2 (by omega)
        unfold yV at hcl
        rw [h3] at hcl
        omega
      · have hl := bPy_1 pz
        rcases hL with z | ⟨e', z, he', hz, hb⟩
        · omega
        · have hu := hz q (yA D s g) (by omega) k4 (by omega)
          have hcl := hb s g h1 h2 hl
          rw [h3] at hcl
          omega
theorem n_least (P : Nat → Prop) : ∀ i, P i → ∃ j, j ≤ i ∧ P j ∧ ∀ k, k < j → ¬ P k := by
  intro i
  induction i using Nat.strongRecOn with
  | ind i ih =>
    intro hi
    by_cases c : ∃ k, k < i ∧ P k
    · obtain ⟨k, h1, h2⟩ := c
      obtain ⟨j, j1, j2, j3⟩ := ih k h1 h2
      exact ⟨j, by omega, j2, j3⟩
    · exact ⟨i, Nat.le_refl _, hi, fun k hk hp => c ⟨k, hk, hp⟩⟩
theorem bT_6 {D : gH} (hc : cW D) {N : Nat → Int} {a : Nat} {m : Int} {n : Nat} {F : Nat → Int} (hn : n ≤ 300) (hT : bT D N a m n F) {b : Nat} (hb : (b : Int) < D 83 0) (hF : F (7 * n + b) < 1000000) : F (7 * n + b) ≤ 6 := by
  have hK := hc.1
  have ex : ∀ c : Nat, ∃ t : Int, (∃ k : Nat, t = (k : Int) ∧ k ≤ n ∧ F (7 * k + c) < 1000000 ∧ ∀ j : Nat, j < k → ¬ F (7 * j + c) < 1000000) ∨ (t = 1000000 ∧ ∀ j : Nat, j ≤ n → ¬ F (7 * j + c) < 1000000) := by
    intro c
    by_cases h : ∃ i, i ≤ n ∧ F (7 * i + c) < 1000000
    · obtain ⟨i, h1, h2⟩ := h
      obtain ⟨k, k1, k2, k3⟩ := n_least (fun i => F (7 * i + c) < 1000000) i h2
      exact ⟨(k : Int), Or.inl ⟨k, rfl, by omega, k2, k3⟩⟩
    · exact ⟨1000000, Or.inr ⟨rfl, fun j hj hp => h ⟨j, hj, hp⟩⟩⟩
  obtain ⟨T, hTT⟩ := Classical.axiomOfChoice ex
  have key : ∀ (k c : Nat), c < 7 → T c = (k : Int) → k ≤ n → F (7 * k + c) < 1000000 → F (7 * k + c) ≤ (yk T c : Int) := by
    intro k
    induction k using Nat.strongRecOn with
    | ind k ih =>
      intro c hc7 hTc hkn hlt
      rcases hT.1.2.2 k c hkn hc7 hlt with ⟨r0, ca, v0⟩ | ⟨q, h1, h2, h3⟩ | ⟨s, g, q, h1, h2, h3, h4, h5, h6, h7⟩
      · rw [v0]; omega
      · exfalso
        rcases hTT c with ⟨k', t1, t2, t3, t4⟩ | ⟨t1, t2⟩
        · exact t4 q (by omega) (by omega)
        · omega
      · obtain ⟨w1, w2⟩ := y_wide hc h1
        obtain ⟨⟨k1, k2, k3, k4, k5⟩, -, -⟩ := yAZ hc h1 h2
        have h01 := bPy_01 D N s g (m + (q : Int))
        have hlu : F (7 * q + yA D s g) < 1000000 := by omega
        rcases hTT (yA D s g) with ⟨k', t1, t2, t3, t4⟩ | ⟨t1, t2⟩
        · have hle : k' ≤ q := by
            by_cases z : k' ≤ q
            · exact z
            · exact absurd hlu (t4 q (by omega))
          have i1 := ih k' (by omega) (yA D s g) k4 t1 t2 t3
          have i2 := bT_wait hT k1 k' (q - k') (by omega)
          rw [show k' + (q - k') = q by omega] at i2
          have i3 := yk_lt (L := T) (u := yA D s g) (v := c) k4 (by omega)
          omega
        · exact absurd hlu (t2 q (by omega))
  rcases hTT b with ⟨k, t1, t2, t3, t4⟩ | ⟨t1, t2⟩
  · have i1 := key k b (by omega) t1 t2 t3
    have i2 := bT_wait hT hb k (n - k) (by omega)
    rw [show k + (n - k) = n by omega] at i2
    have i3 := yk_K (L := T) (v := b) (Nat.le_refl 7) (by omega) (fun u h1 h2 => by omega)
    omega
  · exact absurd hF (t2 n (Nat.le_refl _))
/- one entry bought, by the class -/
def rc (v : Nat) (t : Int) (x : Nat → Int) : Nat → Int := if t < x v then nu x v t else x
theorem rc_le (v : Nat) (t : Int) (x : Nat → Int) (y : Nat) : rc v t x y ≤ x y := by
  unfold rc
  by_cases c : t < x v
  · rw [if_pos c]
    by_cases e : y = v
    · rw [e, nu_at]; omega
    · rw [nu_ne e]; exact Int.le_refl _
  · rw [if_neg c]; exact Int.le_refl _
theorem rc_at (v : Nat) (t : Int) (x : Nat → Int) : rc v t x v ≤ t := by
  unfold rc
  by_cases c : t < x v
  · rw [if_pos c, nu_at]; exact Int.le_refl _
  · rw [if_neg c]; omega
theorem rc_or (v : Nat) (t : Int) (x : Nat → Int) (y : Nat) : rc v t x y = x y ∨ (v = y ∧ rc v t x y = t) := by
  unfold rc
  by_cases c : t < x v
  · rw [if_pos c]
    by_cases e : y = v
    · rw [e, nu_at]; exact Or.inr ⟨rfl, rfl⟩
    · rw [nu_ne e]; exact Or.inl rfl
  · rw [if_neg c]; exact Or.inl rfl
theorem rc_I {v : Nat} {t : Int} {x : Nat → Int} (h0 : 0 ≤ t) (hx : yI x) : yI (rc v t x) := by
  intro i hi
  refine ⟨?_, Int.le_trans (rc_le v t x i) (hx i hi).2⟩
  rcases rc_or v t x i with z | ⟨-, z⟩
  · rw [z]; exact (hx i hi).1
  · rw [z]; exact h0
def bR (D : gH) (N z : Nat → Int) (s : Nat) (x x' : Nat → Int) : Prop := yI x' ∧ (∀ y, x' y ≤ x y) ∧ (∀ (r : Nat) (g : Int), s ≤ r → (r : Int) < D 83 2 → (g = 0 ∨ g = 1) → N (2 + r) = 1 → x' (yZ D r g) ≤ z (yA D r g) + D 86 r) ∧ ∀ v, v < 7 → x' v = x v ∨ ∃ (r : Nat) (g : Int), (r : Int) < D 83 2 ∧ (g = 0 ∨ g = 1) ∧ N (2 + r) = 1 ∧ yZ D r g = v ∧ x' v = z (yA D r g) + D 86 r
theorem k_buyL {D B : gH} (hc : cW D) {N : Nat → Int} {c : Nat} (hb : WB D N B c) {z : Nat → Int} (hz : ∀ y, y < 7 → B 71 y = z y) (hzI : yI z) (k : gH → Option gO) : ∀ (d s f : Nat) (x : Nat → Int), (s : Int) + (d : Int) = D 83 2 → d < f → yI x → ∃ x', f_Way_buyOne_L17 k f (s : Int) (grr B 70 x) = k (grr B 70 x') ∧ bR D N z s x x' := by
  have hS := hc.2.1
  obtain ⟨b1, b2, b3⟩ := id hb
  have hc13 : c ≤ 13 := by rcases b1.1 with e | e <;> omega
  have r27 : ∀ x : Nat → Int, grr B 70 x 27 0 = (c : Int) := fun x => by rw [grr_ne (by decide)]; exact b2
  have r71 : ∀ (x : Nat → Int) (y : Nat), y < 7 → grr B 70 x 71 y = z y := fun x y hy => by rw [grr_ne (by decide)]; exact hz y hy
  have rc2 : ∀ x : Nat → Int, grr B 70 x c 2 = D 83 2 := fun x => by rw [grr_ne (by omega)]; exact b1.2.2.2.1
  intro d
  induction d with
  | zero =>
    intro s f x hs hf hx
    obtain ⟨f, rfl⟩ : ∃ f', f = f' + 1 := ⟨f - 1, by omega⟩
    refine ⟨x, by rw [f_Way_buyOne_L17, r27, Int.toNat_natCast, gdcl (gsh_c b1.1), rc2, if_pos (by omega)], hx, fun _ => Int.le_refl _, fun r g h1 h2 => by omega, fun v _ => Or.inl rfl⟩
  | succ d ih =>
    intro s f x hs hf hx
    obtain ⟨f, rfl⟩ : ∃ f', f = f' + 1 := ⟨f - 1, by omega⟩
    have hsD : (s : Int) < D 83 2 := by omega
    obtain ⟨s1, s2, s3⟩ := b1.2.2.2.2.2.1 s hsD
    obtain ⟨w1, w2⟩ := y_wide hc hsD
    obtain ⟨⟨-, -, a3, a4, a5⟩, a6, a7⟩ := yAZ hc hsD (Or.inl rfl : (0 : Int) = 0 ∨ (0 : Int) = 1)
    rw [if_pos rfl] at a6 a7
    have r28 : grr B 70 x 28 s = N (2 + s) := by rw [grr_ne (by decide)]; exact b3 s hsD
    have r1 : ∀ x : Nat → Int, grr B 70 x (c + 1) s = (yA D s 0 : Int) := fun x => by rw [grr_ne (by omega), ← a6]; exact s1
    have r2 : ∀ x : Nat → Int, grr B 70 x (c + 2) s = (yZ D s 0 : Int) := fun x => by rw [grr_ne (by omega), ← a7]; exact s2
    have r3 : ∀ x : Nat → Int, grr B 70 x (c + 3) s = D 86 s := fun x => by rw [grr_ne (by omega)]; exact s3
    obtain ⟨z1, z2⟩ := hzI _ a4
    obtain ⟨z3, z4⟩ := hzI _ a5
    by_cases cl : N (2 + s) = 1
    · have i1 := rc_I (v := yZ D s 0) (t := z (yA D s 0) + D 86 s) (by omega) hx
      have i2 := rc_I (v := yA D s 0) (t := z (yZ D s 0) + D 86 s) (by omega) i1
      have k1 : f_Way_reach (yZ D s 0 : Int) (z (yA D s 0) + D 86 s) (grr B 70 x) = some (grr B 70 (rc (yZ D s 0) (z (yA D s 0) + D 86 s) x), if z (yA D s 0) + D 86 s < x (yZ D s 0) then 1 else 0) := k_reach hx a5 _
      generalize hx1 : rc (yZ D s 0) (z (yA D s 0) + D 86 s) x = x1 at i1 i2 k1
      have k2 : f_Way_reach (yA D s 0 : Int) (z (yZ D s 0) + D 86 s) (grr B 70 x1) = some (grr B 70 (rc (yA D s 0) (z (yZ D s 0) + D 86 s) x1), if z (yZ D s 0) + D 86 s < x1 (yA D s 0) then 1 else 0) := k_reach i1 a4 _
      generalize hx2 : rc (yA D s 0) (z (yZ D s 0) + D 86 s) x1 = x2 at i2 k2
      obtain ⟨x', q1, q2, q3, q4, q5⟩ := ih (s + 1) f x2 (by omega) (by omega) i2
      have l1 : ∀ y, x1 y ≤ x y := fun y => by rw [← hx1]; exact rc_le _ _ _ _
      have l2 : ∀ y, x2 y ≤ x1 y := fun y => by rw [← hx2]; exact rc_le _ _ _ _
      refine ⟨x', ?_, q2, fun y => Int.le_trans (q3 y) (Int.le_trans (l2 y) (l1 y)), fun r g h1 h2 h3 h4 => ?_, fun v hv => ?_⟩
      · rw [f_Way_buyOne_L17, r27, Int.toNat_natCast, gdcl (gsh_c b1.1), rc2, if_neg (by omega), gdix (by omega) (by omega), Int.toNat_natCast, r28, if_pos cl, gdcl (gsh_c b1.1), gdix (by omega) (by omega), gdcl (gsh_c b1.1), gdix (by omega) (by omega), r1, gdix (by omega) (by omega), gdcl (gsh_c b1.1), gdix (by omega) (by omega), r2, r3, Int.toNat_natCast, r71 _ _ a4, gadd_eq (by omega) (by omega), k1, gb_s, r27, Int.toNat_natCast, gdcl (gsh_c b1.1), gdix (by omega) (by omega), gdcl (gsh_c b1.1), gdix (by omega) (by omega), r2, gdix (by omega) (by omega), gdcl (gsh_c b1.1), gdix (by omega) (by omega), r1, r3, Int.toNat_natCast, r71 _ _ a5, gadd_eq (by omega) (by omega), k2, gb_s]
        unfold f_Way_buyOne_J138
        rw [ga_s (by omega)]
        exact q1
      · by_cases e : r = s
        · subst e
          rcases h3 with rfl | rfl
          · have h5 : x1 (yZ D r 0) ≤ z (yA D r 0) + D 86 r := by rw [← hx1]; exact rc_at _ _ _
            exact Int.le_trans (q3 _) (Int.le_trans (l2 _) h5)
          · have h5 : x2 (yA D r 0) ≤ z (yZ D r 0) + D 86 r := by rw [← hx2]; exact rc_at _ _ _
            exact Int.le_trans (q3 _) h5
        · exact q4 r g (by omega) h2 h3 h4
      · rcases q5 v hv with e | e
        · rcases rc_or (yA D s 0) (z (yZ D s 0) + D 86 s) x1 v with e2 | ⟨e2, e3⟩
          · rw [hx2] at e2
            rcases rc_or (yZ D s 0) (z (yA D s 0) + D 86 s) x v with e4 | ⟨e4, e5⟩
            · rw [hx1] at e4
              exact Or.inl (e.trans (e2.trans e4))
            · rw [hx1] at e5
              exact Or.inr ⟨s, 0, hsD, Or.inl rfl, cl, e4, e.trans (e2.trans e5)⟩
          · rw [hx2] at e3
            exact Or.inr ⟨s, 1, hsD, Or.inr rfl, cl, e2, e.trans e3⟩
        · exact Or.inr e
    · obtain ⟨x', q1, q2, q3, q4, q5⟩ := ih (s + 1) f x (by omega) (by omega) hx
      refine ⟨x', ?_, q2, q3, fun r g h1 h2 h3 h4 => ?_, q5⟩
      · rw [f_Way_buyOne_L17, r27, Int.toNat_natCast, gdcl (gsh_c b1.1), rc2, if_neg (by omega), gdix (by omega) (by omega), Int.toNat_natCast, r28, if_neg cl]
        unfold f_Way_buyOne_J138
        rw [ga_s (by omega)]
        exact q1
      · by_cases e : r = s
        · subst e; exact absurd h4 cl
        · exact q4 r g (by omega) h2 h3 h4
theorem k_buyOne {D B : gH} (hc : cW D) {N : Nat → Int} {c : Nat} (hb : WB D N B c) {x : Nat → Int} (hx : yI x) : ∃ B' x', f_Way_buyOne (grr B 70 x) = some (grr B' 70 x', 0) ∧ bR D N x 0 x x' ∧ (∀ y, y ≠ 71 → B' y = B y) := by
  have hS := hc.2.1
  obtain ⟨b1, b2, b3⟩ := id hb
  have hc13 : c ≤ 13 := by rcases b1.1 with e | e <;> omega
  have e1 : gcp (grr B 70 x) 70 0 71 0 7 = grr (grr B 71 (fun y => if y < 7 then x y else B 71 y)) 70 x := by
    funext r y
    unfold gcp grr
    by_cases h1 : r = 71
    · subst h1
      by_cases h2 : y < 7 <;> simp [h2]
    · simp [h1]
  have hb' : WB D N (grr B 71 (fun y => if y < 7 then x y else B 71 y)) c := ⟨CR_c (fun r h1 h2 => grr_ne (by omega)) b1, by rw [grr_ne (by decide)]; exact b2, fun s hs => by rw [grr_ne (by decide)]; exact b3 s hs⟩
  obtain ⟨x', q1, q2⟩ := k_buyL hc hb' (z := x) (fun y hy => by rw [grr_at, if_pos hy]) hx (fun h15 => some (h15, 0)) (D 83 2).toNat 0 50000 x (by omega) (by omega) hx
  refine ⟨grr B 71 (fun y => if y < 7 then x y else B 71 y), x', ?_, q2, fun y hy => grr_ne hy⟩
  unfold f_Way_buyOne
  rw [gd_t (by decide +kernel), gs_s, e1]
  exact q1
theorem k_fbL {D : gH} (hc : cW D) {N : Nat → Int} {c a b : Nat} {m : Int} {n : Nat} {F : Nat → Int} (hm : 0 ≤ m ∧ m ≤ 999) (hn : n ≤ 300) (hT : bT D N a m n F) (hb : (b : Int) < D 83 0) : ∀ (d e f : Nat) (B : gH) (x : Nat → Int), e + d = 7 → d < f → WB D N B c → yI x → bD m n F e x → x a ≤ m → bLy D N m n F e x → (e : Int) ≤ F (7 * n + b) → ∃ H, f_Way_fewestBought_L2 (b : Int) (m + (n : Int)) (fun h7 => some (h7, (-1))) f (e : Int) (grr B 70 x) = some (H, if 1000000 ≤ F (7 * n + b) then -1 else F (7 * n + b)) ∧ ∀ y, y ≠ 70 → y ≠ 71 → H y = B y := by
  have hK := hc.1
  intro d
  induction d with
  | zero =>
    intro e f B x he hf hB hx hD ha hL hV
    obtain ⟨f, rfl⟩ : ∃ f', f = f' + 1 := ⟨f - 1, by omega⟩
    have hbig : 1000000 ≤ F (7 * n + b) := by
      by_cases z : 1000000 ≤ F (7 * n + b)
      · exact z
      · have := bT_6 hc hn hT hb (by omega)
        omega
    exact ⟨grr B 70 x, by rw [f_Way_fewestBought_L2, if_pos (by omega), if_pos hbig], fun y h1 _ => grr_ne h1⟩
  | succ d ih =>
    intro e f B x he hf hB hx hD ha hL hV
    obtain ⟨f, rfl⟩ : ∃ f', f = f' + 1 := ⟨f - 1, by omega⟩
    obtain ⟨j, s1, s2⟩ := k_spread hc hB hx
    have inv : yI (yT D N j x) ∧ bD m n F e (yT D N j x) := yT_inv (fun z => yI z ∧ bD m n F e z) (fun s g z hs hg hz => ⟨yI_C hc hs hg hz.1, bD_C hc hm hn hT hs hg hz.1 hz.2⟩) ⟨hx, hD⟩ j
    have le : ∀ y, yT D N j x y ≤ x y := fun y => by have := yT_mono D N x 0 j y; rw [Nat.zero_add] at this; exact this
    have hcl := yR_closed s2
    generalize yT D N j x = X at s1 inv le hcl
    have haX : X a ≤ m := Int.le_trans (le a) ha
    have hLX : bLy D N m n F e X := by
      rcases hL with z | ⟨e', z, z1, z2, z3⟩
      · exact Or.inl z
      · exact Or.inr ⟨e', z, z1, z2, fun s g h1 h2 h3 => Int.le_trans (le _) (z3 s g h1 h2 h3)⟩
    have hM := bM_of hc hm hn hT (e := e) (by omega) hcl haX hLX
    obtain ⟨i1, i2⟩ := inv
    rw [f_Way_fewestBought_L2, if_neg (by omega), s1, gb_s, gdix (by omega) (by omega), Int.toNat_natCast, grr_at]
    by_cases cb : m + (n : Int) < X b
    · have hV2 : ((e + 1 : Nat) : Int) ≤ F (7 * n + b) := by
        by_cases z : F (7 * n + b) ≤ (e : Int)
        · have := hM n b (Nat.le_refl _) (by omega) z
          omega
        · omega
      obtain ⟨B', x', q1, ⟨q2, q3, q4, q5⟩, q6⟩ := k_buyOne hc hB i1
      obtain ⟨b1, b2, b3⟩ := id hB
      have hc13 : c ≤ 13 := by rcases b1.1 with e | e <;> omega
      have hB' : WB D N B' c := ⟨CR_c (fun r h1 h2 => q6 r (by omega)) b1, by rw [q6 27 (by decide)]; exact b2, fun s hs => by rw [q6 28 (by decide)]; exact b3 s hs⟩
      have hD' : bD m n F (e + 1) x' := by
        intro v hv
        rcases q5 v hv with z | ⟨r, g, h1, h2, h3, h4, h5⟩
        · rw [z]
          obtain ⟨d1, d2⟩ := i2 v hv
          exact ⟨d1, fun hl => by have := d2 hl; omega⟩
        · obtain ⟨w1, w2⟩ := y_wide hc h1
          obtain ⟨⟨k1, k2, k3, k4, k5⟩, -, -⟩ := yAZ hc h1 h2
          obtain ⟨d1, d2⟩ := i2 _ k4
          rw [h5]
          refine ⟨by omega, fun hl => ?_⟩
          have t1 := d2 (by omega)
          have t2 := (hT.2 (X (yA D r g) - m).toNat (yA D r g) (by omega) k1).2 r h1 g h2 rfl (fun z => by omega) (by omega)
          have t3 := bPy_01 D N r g (m + ((X (yA D r g) - m).toNat : Int))
          rw [h4] at t2
          rw [show (X (yA D r g) + D 86 r - m).toNat = (X (yA D r g) - m).toNat + (D 86 r).toNat by omega]
          omega
      obtain ⟨H, r1, r2⟩ := ih (e + 1) f B' x' (by omega) (by omega) hB' q2 hD' (Int.le_trans (q3 a) haX) (Or.inr ⟨e, X, rfl, hM, fun s g h1 h2 h3 => q4 s g (by omega) h1 h2 h3⟩) hV2
      refine ⟨H, ?_, fun y h1 h2 => by rw [r2 y h1 h2, q6 y h2]⟩
      rw [if_pos cb, q1, gb_s, ga_s (by omega)]
      exact r1
    · have hle : F (7 * n + b) ≤ (e : Int) := by
        obtain ⟨d1, d2⟩ := i2 b (by omega)
        have t1 := d2 (by omega)
        have t2 := bT_wait hT hb (X b - m).toNat (n - (X b - m).toNat) (by omega)
        rw [show (X b - m).toNat + (n - (X b - m).toNat) = n by omega] at t2
        omega
      have hee : F (7 * n + b) = (e : Int) := by omega
      exact ⟨grr B 70 X, by rw [if_neg cb, hee, if_neg (by omega)], fun y h1 _ => grr_ne h1⟩
theorem k_bought {h : gH} {c : Nat} (g : GK h c) {a b : Nat} (ha : (a : Int) < h 83 0) (hb : (b : Int) < h 83 0) {m : Int} (hm : 0 ≤ m ∧ m ≤ 999) {n : Nat} (hn : n ≤ 300) {F : Nat → Int} (hT : bT (ct h) (h 92) a m n F) : ∃ H, f_DS_bought (a : Int) (b : Int) m (n : Int) h = some (H, if 1000000 ≤ F (7 * n + b) then -1 else F (7 * n + b)) ∧ ∀ y, y ≠ 70 → y ≠ 71 → H y = h y := by
  have hK : 0 ≤ h 83 0 ∧ h 83 0 ≤ 7 := g.1.1
  have ca : 0 ≤ (a : Int) ∧ (a : Int) < h 83 0 := ⟨by omega, ha⟩
  have cb : 0 ≤ (b : Int) ∧ (b : Int) < h 83 0 := ⟨by omega, hb⟩
  have cn : 0 ≤ (n : Int) ∧ (n : Int) ≤ 300 := ⟨by omega, by omega⟩
  have hD : bD m n F 0 (yX a m (h 70)) := by
    intro v hv
    unfold yX
    by_cases e : v = a
    · rw [if_pos e]
      refine ⟨Int.le_refl _, fun _ => ?_⟩
      have := hT.1.2.1
      rw [show (m - m).toNat = 0 by omega, e, show 7 * 0 + a = a by omega, this]
      exact Int.le_refl _
    · rw [if_neg e, if_pos hv]
      exact ⟨by omega, fun hl => by omega⟩
  obtain ⟨H, q1, q2⟩ := k_fbL g.1 hm hn hT hb 7 0 50000 h (yX a m (h 70)) rfl (by omega) (GK_WB g) (yX_I hm.1 (by omega) (h 70)) hD (by unfold yX; rw [if_pos rfl]; exact Int.le_refl _) (Or.inl rfl) (hT.1.1 (7 * n + b) (by omega)).1
  refine ⟨H, ?_, q2⟩
  unfold f_DS_bought f_Way_fewestBought
  rw [k_noCorner g, gb_s, if_pos ca, if_pos rfl, k_noCorner g, gb_s, if_pos cb, if_pos rfl, k_out, gb_s, if_pos hm, if_pos rfl, k_out, gb_s, if_pos cn, if_pos rfl, k_setOut (by omega), gb_s, gadd_eq (by omega) (by omega)]
  have q1' : f_Way_fewestBought_L2 (b : Int) (m + (n : Int)) (fun h7 => some (h7, (-1))) 50000 0 (grr h 70 (yX a m (h 70))) = some (H, if 1000000 ≤ F (7 * n + b) then -1 else F (7 * n + b)) := q1
  rw [q1', gb_s]
theorem op_bought {h : gH} (g : GI h) (a b m n : Int) : gok (f_DS_bought a b m n) (f_Mo_bought a b m n) h := by
  obtain ⟨c, g⟩ := g
  have hgi : GI h := ⟨c, g⟩
  have hK : 0 ≤ h 83 0 ∧ h 83 0 ≤ 7 := g.1.1
  have ka := k_noCorner g
  have ma := m_isCorner hK
  by_cases ca : 0 ≤ a ∧ a < h 83 0
  · by_cases cb : 0 ≤ b ∧ b < h 83 0
    · by_cases cm : 0 ≤ m ∧ m ≤ 999
      · by_cases cn : 0 ≤ n ∧ n ≤ 300
        · obtain ⟨p, rfl⟩ : ∃ p : Nat, a = (p : Int) := ⟨a.toNat, by omega⟩
          obtain ⟨q, rfl⟩ : ∃ q : Nat, b = (q : Int) := ⟨b.toNat, by omega⟩
          obtain ⟨l, rfl⟩ : ∃ l : Nat, n = (l : Int) := ⟨n.toNat, by omega⟩
          obtain ⟨F, -, f2⟩ := m_bought g.1 ca.2 cb.2 cm (n := l) (by omega)
          obtain ⟨H, k1, k2⟩ := k_bought g ca.2 cb.2 cm (by omega) f2
          have x83 := k2 83 (by decide) (by decide)
          have x92 := k2 92 (by decide) (by decide)
          have hct : ct H = ct h := ct_eq (fun x _ _ => k2 x (by omega) (by omega)) (by rw [x83]) (by rw [x83]) (by rw [x83]) (by rw [x83])
          obtain ⟨G, e1, e2⟩ := m_bought (B := H) (by rw [hct]; exact g.1) (a := p) (b := q) (by rw [x83]; exact ca.2) (by rw [x83]; exact cb.2) cm (n := l) (by omega)
          rw [hct, x92] at e2
          obtain ⟨H', k3, -⟩ := k_bought g ca.2 cb.2 cm (by omega) e2
          have eq := congrArg (fun o : Option gO => (o.getD (h, 0)).2) (k1.symm.trans k3)
          have eq' : (if 1000000 ≤ F (7 * l + q) then -1 else F (7 * l + q)) = (if 1000000 ≤ G (7 * l + q) then -1 else G (7 * l + q)) := eq
          rw [eq'] at k1
          exact ⟨H, _, grr H 106 G, k1, e1, c, GK_try g (fun x h1 h2 h3 h4 => by rw [grr_ne (by omega), k2 x h3 h4]) (fun x h1 h2 => by rw [grr_ne (by omega), k2 x (by omega) (by omega)])⟩
        · exact gok_id (r := -1000000002) hgi (by unfold f_DS_bought; rw [ka, gb_s, if_pos ca, if_pos rfl, ka, gb_s, if_pos cb, if_pos rfl, k_out, gb_s, if_pos cm, if_pos rfl, k_out, gb_s, if_neg cn, if_neg (by decide)]) (by unfold f_Mo_bought; rw [ma, gb_s, if_pos ca, if_neg (by decide), ma, gb_s, if_pos cb, if_neg (by decide), m_in, gb_s, if_pos cm, if_neg (by decide), m_in, gb_s, if_neg cn, if_pos rfl])
      · exact gok_id (r := -1000000002) hgi (by unfold f_DS_bought; rw [ka, gb_s, if_pos ca, if_pos rfl, ka, gb_s, if_pos cb, if_pos rfl, k_out, gb_s, if_neg cm, if_neg (by decide)]) (by unfold f_Mo_bought; rw [ma, gb_s, if_pos ca, if_neg (by decide), ma, gb_s, if_pos cb, if_neg (by decide), m_in, gb_s, if_neg cm, if_pos rfl])
    · exact gok_id (r := -1000000001) hgi (by unfold f_DS_bought; rw [ka, gb_s, if_pos ca, if_pos rfl, ka, gb_s, if_neg cb, if_neg (by decide)]) (by unfold f_Mo_bought; rw [ma, gb_s, if_pos ca, if_neg (by decide), ma, gb_s, if_neg cb, if_pos rfl])
  · exact gok_id (r := -1000000001) hgi (by unfold f_DS_bought; rw [ka, gb_s, if_neg ca, if_neg (by decide)]) (by unfold f_Mo_bought; rw [ma, gb_s, if_neg ca, if_pos rfl])
