/- PURE: the reference's table of distances is the class's -/
def bL (e f : Nat → Int) (K : Nat) : Prop := (∀ a c : Nat, a < K → c < K → eD e (7 * a + c) ≤ f (7 * a + c)) ∧ ∀ y, y < 49 → 0 ≤ f y ∧ f y ≤ 1000000
def bP (e f : Nat → Int) (K i : Nat) : Prop := ∀ a c : Nat, a < K → c < K → e (7 * a + c) < 1000 → eN e c (e (7 * a + c)) K ≤ i → f (7 * a + c) = e (7 * a + c)
def bQ1 (A B W e f : Nat → Int) (K i s c : Nat) : Prop := (e (7 * (B s).toNat + c) < 1000 → eN e c (e (7 * (B s).toNat + c)) K ≤ i → f (7 * (A s).toNat + c) ≤ W s + e (7 * (B s).toNat + c)) ∧ (e (7 * (A s).toNat + c) < 1000 → eN e c (e (7 * (A s).toNat + c)) K ≤ i → f (7 * (B s).toNat + c) ≤ W s + e (7 * (A s).toNat + c))
theorem bP_mono {e f f' : Nat → Int} {K i : Nat} (hK : K ≤ 7) (hP : bP e f K i) (hL : bL e f' K) (hle : ∀ y, f' y ≤ f y) : bP e f' K i := by
  intro a c ha hc h1 h2
  have h3 := hP a c ha hc h1 h2
  have h4 := hL.1 a c ha hc
  have h5 := hle (7 * a + c)
  unfold eD at h4
  rw [if_pos h1] at h4
  omega
theorem bQ1_mono {A B W e f f' : Nat → Int} {K i s c : Nat} (hQ : bQ1 A B W e f K i s c) (hle : ∀ y, f' y ≤ f y) : bQ1 A B W e f' K i s c := by
  refine ⟨fun h1 h2 => ?_, fun h1 h2 => ?_⟩
  · have := hQ.1 h1 h2
    have := hle (7 * (A s).toNat + c)
    omega
  · have := hQ.2 h1 h2
    have := hle (7 * (B s).toNat + c)
    omega
def mn (x y : Int) : Int := if x ≤ y then x else y
theorem g7' {a : Int} {b : Nat} (ha : 0 ≤ a) (ha7 : a < 7) (hb : b < 7) : gadd (gmul 7 a) (b : Int) = ((7 * a.toNat + b : Nat) : Int) := by
  rw [gmul_eq (by omega) (by omega), gadd_eq (by omega) (by omega)]; omega
theorem m_bf1 {h : gH} {K S i s c : Nat} {e f : Nat → Int} (hg : eGr (h 84) (h 85) (h 86) K S) (h0 : h 83 0 = (K : Int)) (hs : s < S) (hc : c < K) (v1 : Int) (k : gH → Option gO) (n : Nat) (hb : ∀ y, y < 49 → 0 ≤ f y ∧ f y ≤ 1000000) : f_Mo_findFar_L59 v1 (s : Int) k (n + 1) (c : Int) (grr h 91 f) = f_Mo_findFar_L59 v1 (s : Int) k n ((c + 1 : Nat) : Int) (grr h 91 (nu (nu f (7 * (h 84 s).toNat + c) (mn (f (7 * (h 84 s).toNat + c)) (f (7 * (h 85 s).toNat + c) + h 86 s))) (7 * (h 85 s).toNat + c) (mn (f (7 * (h 85 s).toNat + c)) (f (7 * (h 84 s).toNat + c) + h 86 s)))) := by
  have hK := hg.1
  have hS := hg.2.1
  obtain ⟨s1, s2, s3, s4⟩ := hg.2.2 s hs
  have b1 := hb (7 * (h 84 s).toNat + c) (by omega)
  have b2 := hb (7 * (h 85 s).toNat + c) (by omega)
  have q0 : ∀ f', grr h 91 f' 83 = h 83 := fun f' => grr_ne (by decide)
  have q4 : ∀ f', grr h 91 f' 84 = h 84 := fun f' => grr_ne (by decide)
  have q5 : ∀ f', grr h 91 f' 85 = h 85 := fun f' => grr_ne (by decide)
  have q6 : ∀ f', grr h 91 f' 86 = h 86 := fun f' => grr_ne (by decide)
  have i1 : gadd (gmul 7 (h 84 s)) (c : Int) = ((7 * (h 84 s).toNat + c : Nat) : Int) := g7' (by omega) (by omega) (by omega)
  have i2 : gadd (gmul 7 (h 85 s)) (c : Int) = ((7 * (h 85 s).toNat + c : Nat) : Int) := g7' (by omega) (by omega) (by omega)
  have j1 : 7 * (h 84 s).toNat + c < 49 := by omega
  have j2 : 7 * (h 85 s).toNat + c < 49 := by omega
  rw [f_Mo_findFar_L59, q0, h0, if_neg (by omega)]
  unfold f_Mo_findFar_J146 f_Mo_findFar_J190
  simp (disch := omega) only [gdix, gs_s, Int.toNat_natCast, q4, q5, q6, i1, i2, grr_at, grr_up, ga_s, gadd_eq]
  generalize f (7 * (h 84 s).toNat + c) = a at b1 ⊢
  generalize f (7 * (h 85 s).toNat + c) = b at b2 ⊢
  unfold mn
  rw [show (c : Int) + 1 = ((c + 1 : Nat) : Int) by omega]
  by_cases c1 : a ≤ b + h 86 s
  · rw [if_pos c1, if_pos c1]
    by_cases c2 : b ≤ a + h 86 s
    · rw [if_pos c2, if_pos c2]
    · rw [if_neg c2, if_neg c2]
  · rw [if_neg c1, if_neg c1]
    by_cases c2 : b ≤ a + h 86 s
    · rw [if_pos c2, if_pos c2]
    · rw [if_neg c2, if_neg c2]
theorem bf_up {A B W e f : Nat → Int} {K S i s c : Nat} (hg : eGr A B W K S) (hj : eJ A B W K S e) (hc : eC A B W K S e) (hs : s < S) (hcK : c < K) (hL : bL e f K) (hP : bP e f K i) : bL e (nu (nu f (7 * (A s).toNat + c) (mn (f (7 * (A s).toNat + c)) (f (7 * (B s).toNat + c) + W s))) (7 * (B s).toNat + c) (mn (f (7 * (B s).toNat + c)) (f (7 * (A s).toNat + c) + W s))) K ∧ (∀ y, (nu (nu f (7 * (A s).toNat + c) (mn (f (7 * (A s).toNat + c)) (f (7 * (B s).toNat + c) + W s))) (7 * (B s).toNat + c) (mn (f (7 * (B s).toNat + c)) (f (7 * (A s).toNat + c) + W s))) y ≤ f y) ∧ bQ1 A B W e (nu (nu f (7 * (A s).toNat + c) (mn (f (7 * (A s).toNat + c)) (f (7 * (B s).toNat + c) + W s))) (7 * (B s).toNat + c) (mn (f (7 * (B s).toNat + c)) (f (7 * (A s).toNat + c) + W s))) K i s c := by
  have hK := hg.1
  obtain ⟨s1, s2, s3, s4⟩ := hg.2.2 s hs
  obtain ⟨u, hu⟩ : ∃ u : Nat, A s = (u : Int) := ⟨(A s).toNat, by omega⟩
  obtain ⟨v, hv⟩ : ∃ v : Nat, B s = (v : Int) := ⟨(B s).toNat, by omega⟩
  have d1 := eD_edge hg hj hc (u := u) (v := v) (w := W s) ⟨s, hs, rfl, Or.inl ⟨hu, hv⟩⟩ hcK
  have d2 := eD_edge hg hj hc (u := v) (v := u) (w := W s) ⟨s, hs, rfl, Or.inr ⟨hv, hu⟩⟩ hcK
  have huK : u < K := by omega
  have hvK : v < K := by omega
  have huv : u ≠ v := by omega
  unfold bQ1
  rw [hu, hv, Int.toNat_natCast, Int.toNat_natCast]
  have l1 := hL.1 u c huK hcK
  have l2 := hL.1 v c hvK hcK
  have b1 := hL.2 (7 * u + c) (by omega)
  have b2 := hL.2 (7 * v + c) (by omega)
  have p1 := hP u c huK hcK
  have p2 := hP v c hvK hcK
  generalize hx : mn (f (7 * u + c)) (f (7 * v + c) + W s) = x
  generalize hy : mn (f (7 * v + c)) (f (7 * u + c) + W s) = y
  have x1 : x ≤ f (7 * u + c) ∧ x ≤ f (7 * v + c) + W s ∧ (x = f (7 * u + c) ∨ x = f (7 * v + c) + W s) := by
    rw [← hx]; unfold mn; split <;> omega
  have y1 : y ≤ f (7 * v + c) ∧ y ≤ f (7 * u + c) + W s ∧ (y = f (7 * v + c) ∨ y = f (7 * u + c) + W s) := by
    rw [← hy]; unfold mn; split <;> omega
  have eu : nu (nu f (7 * u + c) x) (7 * v + c) y (7 * u + c) = x := by rw [nu_ne (by omega), nu_at]
  have ev : nu (nu f (7 * u + c) x) (7 * v + c) y (7 * v + c) = y := nu_at _ _ _
  refine ⟨⟨fun a b ha hb => ?_, fun z hz => ?_⟩, fun z => ?_, ?_, ?_⟩
  · by_cases q1 : 7 * a + b = 7 * v + c
    · rw [q1, ev]; omega
    · by_cases q2 : 7 * a + b = 7 * u + c
      · rw [q2, eu]; omega
      · rw [nu_ne q1, nu_ne q2]; exact hL.1 a b ha hb
  · by_cases q1 : z = 7 * v + c
    · rw [q1, ev]; omega
    · by_cases q2 : z = 7 * u + c
      · rw [q2, eu]; omega
      · rw [nu_ne q1, nu_ne q2]; exact hL.2 z hz
  · by_cases q1 : z = 7 * v + c
    · rw [q1, ev]; omega
    · by_cases q2 : z = 7 * u + c
      · rw [q2, eu]; omega
      · rw [nu_ne q1, nu_ne q2]; omega
  · intro h1 h2
    have := p2 h1 h2
    rw [eu]; omega
  · intro h1 h2
    have := p1 h1 h2
    rw [ev]; omega
theorem m_bf2 {h : gH} {K S i s : Nat} {e f : Nat → Int} (hg : eGr (h 84) (h 85) (h 86) K S) (h0 : h 83 0 = (K : Int)) (hj : eJ (h 84) (h 85) (h 86) K S e) (hc : eC (h 84) (h 85) (h 86) K S e) (hs : s < S) (v1 : Int) (k : gH → Option gO) (hL : bL e f K) (hP : bP e f K i) (hQ : ∀ s' c : Nat, s' < s → c < K → bQ1 (h 84) (h 85) (h 86) e f K i s' c) : ∃ f', f_Mo_findFar_L59 v1 (s : Int) k 50000 0 (grr h 91 f) = k (grr h 91 f') ∧ bL e f' K ∧ bP e f' K i ∧ ∀ s' c : Nat, s' < s + 1 → c < K → bQ1 (h 84) (h 85) (h 86) e f' K i s' c := by
  have hK := hg.1
  have key := gloopI (S := Int × gH) (F := fun n x => f_Mo_findFar_L59 v1 (s : Int) k n x.1 x.2) (K := fun x => k x.2) K (fun j x => x.1 = (j : Int) ∧ ∃ f', x.2 = grr h 91 f' ∧ bL e f' K ∧ bP e f' K i ∧ (∀ s' c : Nat, s' < s → c < K → bQ1 (h 84) (h 85) (h 86) e f' K i s' c) ∧ ∀ c : Nat, c < j → bQ1 (h 84) (h 85) (h 86) e f' K i s c) ?_ ?_ 50000 (0, grr h 91 f) ⟨rfl, f, rfl, hL, hP, hQ, fun c hc => by omega⟩ (by omega)
  · obtain ⟨s', ⟨-, f', q1, q2, q3, q4, q5⟩, hs2⟩ := key
    rw [q1] at hs2
    refine ⟨f', hs2, q2, q3, fun s' c h1 h2 => ?_⟩
    by_cases q : s' = s
    · rw [q]; exact q5 c h2
    · exact q4 s' c (by omega) h2
  · intro n j x hjK hx
    obtain ⟨xi, xh⟩ := x
    obtain ⟨i1, f', i2, i3, i4, i5, i6⟩ := hx
    have i1' : xi = (j : Int) := i1
    have i2' : xh = grr h 91 f' := i2
    subst i1' i2'
    show ∃ s', _ ∧ f_Mo_findFar_L59 v1 (s : Int) k (n + 1) (j : Int) (grr h 91 f') = _
    rw [m_bf1 (e := e) (i := i) hg h0 hs hjK v1 k n i3.2]
    obtain ⟨z1, z2, z3⟩ := bf_up (i := i) hg hj hc hs hjK i3 i4
    refine ⟨(((j + 1 : Nat) : Int), _), ⟨rfl, _, rfl, z1, bP_mono hK i4 z1 z2, fun s' c h1 h2 => bQ1_mono (i5 s' c h1 h2) z2, fun c h1 => ?_⟩, rfl⟩
    by_cases q : c = j
    · rw [q]; exact z3
    · exact bQ1_mono (i6 c (by omega)) z2
  · intro n x hx
    obtain ⟨xi, xh⟩ := x
    obtain ⟨i1, f', i2, i3⟩ := hx
    have i1' : xi = (K : Int) := i1
    have i2' : xh = grr h 91 f' := i2
    subst i1' i2'
    show f_Mo_findFar_L59 v1 (s : Int) k (n + 1) (K : Int) (grr h 91 f') = k (grr h 91 f')
    rw [f_Mo_findFar_L59, grr_ne (show 83 ≠ 91 by decide), h0, if_pos (by omega)]
theorem m_bf3 {h : gH} {K S i : Nat} {e f : Nat → Int} (hg : eGr (h 84) (h 85) (h 86) K S) (h0 : h 83 0 = (K : Int)) (h2 : h 83 2 = (S : Int)) (hj : eJ (h 84) (h 85) (h 86) K S e) (hc : eC (h 84) (h 85) (h 86) K S e) (v1 : Int) (k : gH → Option gO) (hL : bL e f K) (hP : bP e f K i) : ∃ f', f_Mo_findFar_L49 v1 k 50000 0 (grr h 91 f) = k (grr h 91 f') ∧ bL e f' K ∧ bP e f' K (i + 1) := by
  have hK := hg.1
  have hS := hg.2.1
  have key := gloopI (S := Int × gH) (F := fun n x => f_Mo_findFar_L49 v1 k n x.1 x.2) (K := fun x => k x.2) S (fun j x => x.1 = (j : Int) ∧ ∃ f', x.2 = grr h 91 f' ∧ bL e f' K ∧ bP e f' K i ∧ (∀ s' c : Nat, s' < j → c < K → bQ1 (h 84) (h 85) (h 86) e f' K i s' c)) ?_ ?_ 50000 (0, grr h 91 f) ⟨rfl, f, rfl, hL, hP, fun s' c hs' => by omega⟩ (by omega)
  · obtain ⟨s', ⟨-, f', q1, q2, q3, q4⟩, hs2⟩ := key
    rw [q1] at hs2
    refine ⟨f', hs2, q2, fun a c ha hcK h1 h3 => ?_⟩
    by_cases hac : a = c
    · subst hac
      refine q3 a a ha ha h1 ?_
      have e0 := (hj a a ha ha).2.1
      have : eN e a (e (7 * a + a)) K = 0 := by
        unfold eN
        rw [e0]
        exact gfold_inv (fun v n => if e (7 * v + a) < 0 then n + 1 else n) (fun _ n => n = 0) 0 rfl K (fun j x hjK hx => by
          rw [if_neg (by have := (hj j a hjK ha).1.1; omega)]; exact hx) K (Nat.le_refl _)
      omega
    · obtain ⟨v, w, g1, g2⟩ := eC_edge hg hj hc ha hcK hac h1
      obtain ⟨r1, r2, r3, r4, r5⟩ := eG_in hg g1
      have r6 := eN_lt (e := e) (c := c) (v := v) (x := e (7 * v + c)) (y := e (7 * a + c)) (by omega) (by omega) (by omega) K r2
      have r7 := q2.1 a c ha hcK
      unfold eD at r7
      rw [if_pos h1] at r7
      obtain ⟨s, t1, t2, t3⟩ := g1
      have r8 := q4 s c t1 hcK
      unfold bQ1 at r8
      rcases t3 with ⟨e1, e2⟩ | ⟨e1, e2⟩
      · rw [e1, e2, Int.toNat_natCast, Int.toNat_natCast] at r8
        have := r8.1 (by omega) (by omega)
        omega
      · rw [e1, e2, Int.toNat_natCast, Int.toNat_natCast] at r8
        have := r8.2 (by omega) (by omega)
        omega
  · intro n j x hjS hx
    obtain ⟨xi, xh⟩ := x
    obtain ⟨i1, f', i2, i3, i4, i5⟩ := hx
    have i1' : xi = (j : Int) := i1
    have i2' : xh = grr h 91 f' := i2
    subst i1' i2'
    show ∃ s', _ ∧ f_Mo_findFar_L49 v1 k (n + 1) (j : Int) (grr h 91 f') = _
    obtain ⟨f2, z1, z2, z3, z4⟩ := m_bf2 hg h0 hj hc hjS v1 (fun h12 => f_Mo_findFar_L49 v1 k n (gadd (j : Int) 1) h12) i3 i4 i5
    rw [f_Mo_findFar_L49, grr_ne (show 83 ≠ 91 by decide), h2, if_neg (by omega), z1, ga_s (by omega)]
    exact ⟨(((j + 1 : Nat) : Int), _), ⟨rfl, _, rfl, z2, z3, z4⟩, rfl⟩
  · intro n x hx
    obtain ⟨xi, xh⟩ := x
    obtain ⟨i1, f', i2, i3⟩ := hx
    have i1' : xi = (S : Int) := i1
    have i2' : xh = grr h 91 f' := i2
    subst i1' i2'
    show f_Mo_findFar_L49 v1 k (n + 1) (S : Int) (grr h 91 f') = k (grr h 91 f')
    rw [f_Mo_findFar_L49, grr_ne (show 83 ≠ 91 by decide), h2, if_pos (by omega)]
theorem m_findFar {h : gH} {K S : Nat} {e : Nat → Int} (hg : eGr (h 84) (h 85) (h 86) K S) (h0 : h 83 0 = (K : Int)) (h2 : h 83 2 = (S : Int)) (hj : eJ (h 84) (h 85) (h 86) K S e) (hc : eC (h 84) (h 85) (h 86) K S e) : ∃ f, f_Mo_findFar h = some (grr h 91 f, 0) ∧ (∀ a c : Nat, a < K → c < K → f (7 * a + c) = eD e (7 * a + c)) ∧ ∀ y, y < 49 → 0 ≤ f y ∧ f y ≤ 1000000 := by
  have hK := hg.1
  unfold f_Mo_findFar
  obtain ⟨f0, z0, y0⟩ := m_far0 (h := h) (fun h4 => f_Mo_findFar_L39 (fun h14 => some (h14, 0)) 50000 0 h4)
  rw [z0]
  have L0 : bL e f0 K := by
    refine ⟨fun a c ha hcK => ?_, fun y hy => ?_⟩
    · rw [y0 a c (by omega) (by omega)]
      have h3 := (hj a c ha hcK).1
      by_cases q : a = c
      · subst q
        rw [if_pos rfl]
        have := (hj a a ha ha).2.1
        unfold eD
        rw [if_pos (by omega)]; omega
      · rw [if_neg q]
        unfold eD
        split <;> omega
    · have := y0 (y / 7) (y % 7) (by omega) (by omega)
      rw [show 7 * (y / 7) + y % 7 = y by omega] at this
      rw [this]
      split <;> omega
  have P0 : bP e f0 K 0 := by
    intro a c ha hcK h3 h4
    rw [y0 a c (by omega) (by omega)]
    by_cases q : a = c
    · subst q
      rw [if_pos rfl, (hj a a ha ha).2.1]
    · exfalso
      obtain ⟨v, w, g1, g2⟩ := eC_edge hg hj hc ha hcK q h3
      obtain ⟨r1, r2, r3, r4, r5⟩ := eG_in hg g1
      have r6 := eN_lt (e := e) (c := c) (v := v) (x := e (7 * v + c)) (y := e (7 * a + c)) (by omega) (by omega) (by omega) K r2
      omega
  have key := gloopI (S := Int × gH) (F := fun n x => f_Mo_findFar_L39 (fun h14 => some (h14, 0)) n x.1 x.2) (K := fun x => some (x.2, 0)) K (fun j x => x.1 = (j : Int) ∧ ∃ f', x.2 = grr h 91 f' ∧ bL e f' K ∧ bP e f' K j) ?_ ?_ 50000 (0, grr h 91 f0) ⟨rfl, f0, rfl, L0, P0⟩ (by omega)
  · obtain ⟨s', ⟨-, f', q1, q2, q3⟩, hs2⟩ := key
    rw [q1] at hs2
    refine ⟨f', hs2, fun a c ha hcK => ?_, q2.2⟩
    have h5 := q2.1 a c ha hcK
    have h6 := q2.2 (7 * a + c) (by omega)
    unfold eD at h5 ⊢
    by_cases c1 : e (7 * a + c) < 1000
    · rw [if_pos c1]
      have := eN_k (e := e) (c := c) (a := a) (x := e (7 * a + c)) (by omega) K ha
      exact q3 a c ha hcK c1 (by omega)
    · rw [if_neg c1] at h5 ⊢
      omega
  · intro n j x hjK hx
    obtain ⟨xi, xh⟩ := x
    obtain ⟨i1, f', i2, i3, i4⟩ := hx
    have i1' : xi = (j : Int) := i1
    have i2' : xh = grr h 91 f' := i2
    subst i1' i2'
    show ∃ s', _ ∧ f_Mo_findFar_L39 (fun h14 => some (h14, 0)) (n + 1) (j : Int) (grr h 91 f') = _
    obtain ⟨f2, z1, z2, z3⟩ := m_bf3 hg h0 h2 hj hc (j : Int) (fun h13 => f_Mo_findFar_L39 (fun h14 => some (h14, 0)) n (gadd (j : Int) 1) h13) i3 i4
    rw [f_Mo_findFar_L39, grr_ne (show 83 ≠ 91 by decide), h0, if_neg (by omega), z1, ga_s (by omega)]
    exact ⟨(((j + 1 : Nat) : Int), _), ⟨rfl, _, rfl, z2, z3⟩, rfl⟩
  · intro n x hx
    obtain ⟨xi, xh⟩ := x
    obtain ⟨i1, f', i2, i3⟩ := hx
    have i1' : xi = (K : Int) := i1
    have i2' : xh = grr h 91 f' := i2
    subst i1' i2'
    show f_Mo_findFar_L39 (fun h14 => some (h14, 0)) (n + 1) (K : Int) (grr h 91 f') = _
    rw [f_Mo_findFar_L39, grr_ne (show 83 ≠ 91 by decide), h0, if_pos (by omega)]
/- tables over streets that are alike -/
theorem eG_cg {A B W A' B' W' : Nat → Int} {S : Nat} (h : ∀ s : Nat, s < S → A' s = A s ∧ B' s = B s ∧ W' s = W s) {u v : Nat} {w : Int} : eG A B W S u v w ↔ eG A' B' W' S u v w := by
  constructor
  · intro ⟨s, h1, h2, h3⟩
    obtain ⟨e1, e2, e3⟩ := h s h1
    refine ⟨s, h1, by rw [e3]; exact h2, ?_⟩
    rw [e1, e2]; exact h3
  · intro ⟨s, h1, h2, h3⟩
    obtain ⟨e1, e2, e3⟩ := h s h1
    refine ⟨s, h1, by rw [← e3]; exact h2, ?_⟩
    rw [e1, e2] at h3; exact h3
theorem Wk_cg {A B W A' B' W' : Nat → Int} {S : Nat} (h : ∀ s : Nat, s < S → A' s = A s ∧ B' s = B s ∧ W' s = W s) : ∀ n a b l, Wk A B W S n a b l → Wk A' B' W' S n a b l := by
  intro n
  induction n with
  | zero => intro a b l q; exact q
  | succ n ih =>
    intro a b l q
    obtain ⟨v, w, q1, q2⟩ := q
    exact ⟨v, w, (eG_cg h).mp q1, ih v b _ q2⟩
theorem eJ_cg {A B W A' B' W' : Nat → Int} {K S : Nat} {e : Nat → Int} (h : ∀ s : Nat, s < S → A' s = A s ∧ B' s = B s ∧ W' s = W s) (hj : eJ A B W K S e) : eJ A' B' W' K S e := fun a b ha hb => by
  obtain ⟨q1, q2, q3⟩ := hj a b ha hb
  refine ⟨q1, q2, fun q => ?_⟩
  obtain ⟨n, hn⟩ := q3 q
  exact ⟨n, Wk_cg h n a b _ hn⟩
theorem eC_cg {A B W A' B' W' : Nat → Int} {K S : Nat} {e : Nat → Int} (h : ∀ s : Nat, s < S → A' s = A s ∧ B' s = B s ∧ W' s = W s) (hc : eC A B W K S e) : eC A' B' W' K S e := fun u v w q c hcK => hc u v w ((eG_cg h).mpr q) c hcK
/- the next street by either table -/
theorem ld_nx {D : gH} (hc : cW D) {A B W e : Nat → Int} {K S a b : Nat} {r : Int} (hK : D 83 0 = (K : Int)) (hS : D 83 2 = (S : Int)) (hcg : ∀ s : Nat, s < S → A s = D 84 s ∧ B s = D 85 s ∧ W s = D 86 s) (hg : eGr A B W K S) (hj : eJ A B W K S e) (hf : ∀ a c : Nat, a < K → c < K → D 91 (7 * a + c) = eD e (7 * a + c)) (ha : a < K) (hb : b < K) (h : ldS A B W e S a b r) : r = aNx D (a : Int) (b : Int) := by
  have hP : ∀ s : Nat, s < S → (ldP A B W e a b s ↔ aIs D (a : Int) (b : Int) s = true) := fun s hs => by
    rw [aIs_iff]
    obtain ⟨e1, e2, e3⟩ := hcg s hs
    have eo : aoth A B s (a : Int) = aOther D s (a : Int) := by
      unfold aoth aOther
      rw [e1, e2]
    have hin := aoth_in hg hs (a : Int)
    have hd : aDist D (a : Int) (b : Int) = eD e (7 * a + b) := by
      unfold aDist
      rw [show (7 * (a : Int) + (b : Int)).toNat = 7 * a + b by omega, hf a b ha hb]
    unfold ldP
    rw [← eo, hd, e3]
    generalize aoth A B s (a : Int) = o at hin
    have ba := (hj a b ha hb).1
    by_cases c1 : 0 ≤ o
    · obtain ⟨v, rfl⟩ : ∃ v : Nat, o = (v : Int) := ⟨o.toNat, by omega⟩
      have hvK : v < K := by omega
      have bv := (hj v b hvK hb).1
      have hd2 : aDist D (v : Int) (b : Int) = eD e (7 * v + b) := by
        unfold aDist
        rw [show (7 * (v : Int) + (b : Int)).toNat = 7 * v + b by omega, hf v b hvK hb]
      have hw := (hg.2.2 s hs).2.2.2
      rw [hd2, Int.toNat_natCast, ← e3]
      unfold eD
      constructor
      · intro ⟨q1, q2, q3⟩
        rw [if_pos q1, if_pos (by omega)]
        exact ⟨q2, by omega, q3⟩
      · intro ⟨q1, q2, q3⟩
        by_cases c2 : e (7 * a + b) < 1000
        · rw [if_pos c2] at q3
          by_cases c3 : e (7 * v + b) < 1000
          · rw [if_pos c3] at q3
            exact ⟨c2, q1, q3⟩
          · rw [if_neg c3] at q3; omega
        · rw [if_neg c2] at q2; omega
    · constructor
      · intro q; exact absurd q.2.1 c1
      · intro q; exact absurd q.1 c1
  rcases aNx_spec hc (a : Int) (b : Int) with ⟨z1, z2⟩ | ⟨s, z1, z2, z3, z4⟩
  · rcases h with ⟨q1, q2⟩ | ⟨s, q1, q2, q3, q4⟩
    · rw [q1, z1]
    · have := (hP s q1).mp q3
      rw [z2 s (by omega)] at this
      cases this
  · rcases h with ⟨q1, q2⟩ | ⟨s', q1, q2, q3, q4⟩
    · exact absurd ((hP s (by omega)).mpr z3) (q2 s (by omega))
    · have h1 := (hP s' q1).mp q3
      by_cases c1 : s' < s
      · rw [z4 s' c1] at h1; cases h1
      · by_cases c2 : s < s'
        · exact absurd ((hP s (by omega)).mpr z3) (q4 s c2)
        · rw [q2, z1, show s' = s by omega]
