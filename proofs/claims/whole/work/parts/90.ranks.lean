/- PURE: ranks given anew: the reference, and the call -/
def cu (P : Nat → Bool) : Nat → Nat
  | 0 => 0
  | n + 1 => cu P n + (if P n = true then 1 else 0)
theorem cu_congr {P Q : Nat → Bool} : ∀ n, (∀ k, k < n → P k = Q k) → cu P n = cu Q n := by
  intro n
  induction n with
  | zero => intro _; rfl
  | succ n ih => intro h; rw [cu, cu, ih (fun k hk => h k (by omega)), h n (by omega)]
theorem cu_del {P Q : Nat → Bool} {o : Nat} (ho : P o = true) (hq : Q o = false) (h : ∀ k, k ≠ o → Q k = P k) : ∀ n, o < n → cu Q n + 1 = cu P n := by
  intro n
  induction n with
  | zero => intro z; omega
  | succ n ih =>
    intro z
    rw [cu, cu]
    by_cases e : o = n
    · subst e
      rw [ho, hq, if_pos rfl, if_neg (by decide), cu_congr (P := Q) (Q := P) o (fun k hk => h k (by omega))]
    · have := ih (by omega)
      rw [h n (by omega)]
      omega
theorem cu_ex {P : Nat → Bool} : ∀ n, 0 < cu P n → ∃ k, k < n ∧ P k = true := by
  intro n
  induction n with
  | zero => intro z; exact absurd z (Nat.lt_irrefl 0)
  | succ n ih =>
    intro z
    by_cases c : P n = true
    · exact ⟨n, by omega, c⟩
    · rw [cu, if_neg c] at z
      obtain ⟨k, k1, k2⟩ := ih z
      exact ⟨k, by omega, k2⟩
theorem cu_0 {P : Nat → Bool} : ∀ n, cu P n = 0 → ∀ k, k < n → P k = false := by
  intro n
  induction n with
  | zero => intro _ k hk; omega
  | succ n ih =>
    intro z k hk
    rw [cu] at z
    by_cases e : k = n
    · subst e
      by_cases c : P k = true
      · rw [if_pos c] at z; omega
      · exact Bool.eq_false_iff.mpr c
    · exact ih (by omega) k (by omega)
theorem cu_z {P : Nat → Bool} : ∀ n, (∀ k, k < n → P k = false) → cu P n = 0 := by
  intro n
  induction n with
  | zero => intro _; rfl
  | succ n ih => intro h; rw [cu, ih (fun k hk => h k (by omega)), h n (by omega), if_neg (by decide)]
theorem cu_all : ∀ n, cu (fun _ => true) n = n := by
  intro n
  induction n with
  | zero => rfl
  | succ n ih => rw [cu, ih, if_pos rfl]
def unT (C : Nat) (a : Nat → Int) (v : Int) (T : Nat → Bool) : Nat := cu (fun o => !T o && decide (a o = v)) C
def ntT (C : Nat) (T : Nat → Bool) : Nat := cu (fun o => !T o) C
def inT (T : Nat → Bool) (o : Nat) : Nat → Bool := fun k => T k || decide (k = o)
theorem unT_in {C : Nat} {a : Nat → Int} {v : Int} {T : Nat → Bool} {o : Nat} (ho : o < C) (hT : T o = false) : unT C a v (inT T o) + (if a o = v then 1 else 0) = unT C a v T := by
  unfold unT inT
  by_cases c : a o = v
  · rw [if_pos c]
    refine cu_del (o := o) ?_ ?_ (fun k hk => ?_) C ho
    · simp [hT, c]
    · simp
    · simp [hk]
  · rw [if_neg c]
    refine cu_congr C (fun k hk => ?_)
    by_cases e : k = o
    · subst e; simp [c]
    · simp [e]
theorem ntT_in {C : Nat} {T : Nat → Bool} {o : Nat} (ho : o < C) (hT : T o = false) : ntT C (inT T o) + 1 = ntT C T := by
  unfold ntT inT
  refine cu_del (o := o) ?_ ?_ (fun k hk => ?_) C ho
  · simp [hT]
  · simp
  · simp [hk]
theorem unT_0 {C : Nat} {a : Nat → Int} {v : Int} : unT C a v (fun _ => false) = cnt v a C := by
  unfold unT
  induction C with
  | zero => rfl
  | succ C ih =>
    rw [cu, cnt, ih]
    by_cases c : a C = v <;> simp [c]
theorem sI_inT {m : Int} {T : Nat → Bool} {o : Nat} (ho : o < 6) (h : sI 6 m T) : sI 6 (gor m (gshl 1 (o : Int))) (inT T o) := by
  refine sI_ins h ho (by omega) ?_ (fun i hi _ => ?_)
  · unfold inT; simp
  · unfold inT; simp [hi]
theorem sI_bit {m : Int} {T : Nat → Bool} {o : Nat} (ho : o < 6) (h : sI 6 m T) : gand (gshr m (o : Int)) 1 = 1 ↔ T o = true := by
  obtain ⟨q, rfl, hq⟩ := sI_nat h
  rw [gb_at q hq o ho, h.2 o ho, decide_eq_true (show (o : Int) < 6 by omega), Bool.true_and]
def gBp (B : gH) (C : Nat) (a : Nat → Int) : Prop := B 83 6 = (C : Int) ∧ C ≤ 6 ∧ ∀ o, o < C → B 104 (20 + o) = a o
theorem m_gvS {B : gH} {C : Nat} {a : Nat → Int} (hB : gBp B C a) : ∀ (j f left : Nat) (mask : Int) (T : Nat → Bool) (G : Nat → Int), j ≤ C → j < f → left < 100000 → sI 6 mask T → ∃ r G', f_Mo_give_L12 (fun h5 => gd (gz 1) (some (h5, 1))) f (left : Int) mask ((j : Int) - 1) (grr B 107 G) = some (grr B 107 G', r) ∧ (r = 0 ∨ r = 1) ∧ (∀ y, j ≤ y → G' y = G y) ∧ (r = 1 → ∃ T', (∀ v, cnt v G' j + unT C a v T' = unT C a v T) ∧ j + ntT C T' = ntT C T) := by
  obtain ⟨b1, b2, b3⟩ := hB
  intro j
  induction j with
  | zero =>
    intro f left mask T G hj hf hl hm
    obtain ⟨f, rfl⟩ : ∃ f', f = f' + 1 := ⟨f - 1, by omega⟩
    exact ⟨1, G, by rw [f_Mo_give_L12, if_pos (by omega), gdz1], Or.inr rfl, fun _ _ => rfl, fun _ => ⟨T, fun v => by rw [cnt]; omega, by omega⟩⟩
  | succ j ih =>
    intro f left mask T G hj hf hl hm
    obtain ⟨f, rfl⟩ : ∃ f', f = f' + 1 := ⟨f - 1, by omega⟩
    have eo : grem (left : Int) 6 = ((left % 6 : Nat) : Int) := by rw [grem_eq (by omega) (by omega) (by decide) (by decide)]; omega
    have ed : gdiv (left : Int) 6 = ((left / 6 : Nat) : Int) := by rw [gdiv_eq (by omega) (by omega) (by decide) (by decide)]; omega
    have ho : left % 6 < 6 := Nat.mod_lt _ (by decide)
    have hl2 : left / 6 < 100000 := by omega
    rw [show ((j + 1 : Nat) : Int) - 1 = (j : Int) by omega, f_Mo_give_L12, if_neg (by omega), gdnz (by decide), gdnz (by decide), eo, ed, grr_ne (show 83 ≠ 107 by decide), b1]
    generalize left % 6 = o at ho
    generalize left / 6 = l2 at hl2
    by_cases c1 : (C : Int) ≤ (o : Int)
    · exact ⟨0, G, by rw [if_pos c1, gdz0], Or.inl rfl, fun _ _ => rfl, fun z => absurd z (by decide)⟩
    · rw [if_neg c1]
      by_cases c2 : gand (gshr mask (o : Int)) 1 = 1
      · exact ⟨0, G, by rw [if_pos c2, gdz0], Or.inl rfl, fun _ _ => rfl, fun z => absurd z (by decide)⟩
      · have hTo : T o = false := Bool.eq_false_iff.mpr (fun z => c2 ((sI_bit ho hm).mpr z))
        obtain ⟨r, G', q1, q2, q3, q4⟩ := ih f l2 (gor mask (gshl 1 (o : Int))) (inT T o) (nu G j (a o)) (by omega) (by omega) hl2 (sI_inT ho hm)
        refine ⟨r, G', ?_, q2, fun y hy => by rw [q3 y (by omega), nu_ne (by omega)], fun hr => ?_⟩
        · rw [if_neg c2, ga_20 (by omega), gdix (by omega) (by omega), gdix (by omega) (by omega), gs_s, Int.toNat_natCast, Int.toNat_natCast, grr_ne (show 104 ≠ 107 by decide), b3 o (by omega), grr_up, show gadd (j : Int) (-1) = (j : Int) - 1 by rw [gadd_eq (by omega) (by omega)]; omega]
          exact q1
        · obtain ⟨T', t1, t2⟩ := q4 hr
          refine ⟨T', fun v => ?_, ?_⟩
          · have h1 := t1 v
            have h2 := unT_in (a := a) (v := v) (show o < C by omega) hTo
            rw [cnt, q3 j (Nat.le_refl _), nu_at]
            omega
          · have h2 := ntT_in (show o < C by omega) hTo
            omega
theorem pow6 : ∀ j, j ≤ 6 → 6 ^ j ≤ 46656 := by decide
theorem m_gvC {C : Nat} {a : Nat → Int} (hC : C ≤ 6) (q : Nat → Int) : ∀ (j : Nat) (T : Nat → Bool), j ≤ C → (∀ v, cnt v q j ≤ unT C a v T) → ∃ left : Nat, left < 6 ^ j ∧ ∀ (B : gH) (f : Nat) (mask : Int) (G : Nat → Int), gBp B C a → j < f → sI 6 mask T → ∃ G', f_Mo_give_L12 (fun h5 => gd (gz 1) (some (h5, 1))) f (left : Int) mask ((j : Int) - 1) (grr B 107 G) = some (grr B 107 G', 1) ∧ (∀ y, j ≤ y → G' y = G y) ∧ ∀ k, k < j → G' k = q k := by
  intro j
  induction j with
  | zero =>
    intro T hj hv
    refine ⟨0, by decide, fun B f mask G hB hf hm => ?_⟩
    obtain ⟨f, rfl⟩ : ∃ f', f = f' + 1 := ⟨f - 1, by omega⟩
    exact ⟨G, by rw [f_Mo_give_L12, if_pos (by omega), gdz1], fun _ _ => rfl, fun k hk => by omega⟩
  | succ j ih =>
    intro T hj hv
    have h1 := hv (q j)
    rw [cnt, if_pos rfl] at h1
    obtain ⟨o, o1, o2⟩ := cu_ex C (show 0 < unT C a (q j) T by omega)
    have o2' : (!T o && decide (a o = q j)) = true := o2
    rw [Bool.and_eq_true, Bool.not_eq_true', decide_eq_true_eq] at o2'
    obtain ⟨hTo, hao⟩ := o2'
    obtain ⟨l2, l3, l4⟩ := ih (inT T o) (by omega) (fun v => by
      have h2 := hv v
      have h3 := unT_in (a := a) (v := v) o1 hTo
      rw [cnt] at h2
      rw [hao] at h3
      omega)
    have hp := pow6 j (by omega)
    refine ⟨6 * l2 + o, by rw [Nat.pow_succ]; omega, fun B f mask G hB hf hm => ?_⟩
    obtain ⟨f, rfl⟩ : ∃ f', f = f' + 1 := ⟨f - 1, by omega⟩
    obtain ⟨G', q1, q2, q3⟩ := l4 B f (gor mask (gshl 1 (o : Int))) (nu G j (a o)) hB (by omega) (sI_inT (by omega) hm)
    obtain ⟨b1, b2, b3⟩ := hB
    have eo : grem ((6 * l2 + o : Nat) : Int) 6 = (o : Int) := by rw [grem_eq (by omega) (by omega) (by decide) (by decide)]; omega
    have ed : gdiv ((6 * l2 + o : Nat) : Int) 6 = (l2 : Int) := by rw [gdiv_eq (by omega) (by omega) (by decide) (by decide)]; omega
    have c2 : ¬ gand (gshr mask (o : Int)) 1 = 1 := fun z => by
      have := (sI_bit (by omega) hm).mp z
      rw [hTo] at this
      exact absurd this (by decide)
    refine ⟨G', ?_, fun y hy => by rw [q2 y (by omega), nu_ne (by omega)], fun k hk => ?_⟩
    · rw [show ((j + 1 : Nat) : Int) - 1 = (j : Int) by omega, f_Mo_give_L12, if_neg (by omega), gdnz (by decide), gdnz (by decide), eo, ed, grr_ne (show 83 ≠ 107 by decide), b1, if_neg (by omega), if_neg c2, ga_20 (by omega), gdix (by omega) (by omega), gdix (by omega) (by omega), gs_s, Int.toNat_natCast, Int.toNat_natCast, grr_ne (show 104 ≠ 107 by decide), b3 o o1, grr_up, show gadd (j : Int) (-1) = (j : Int) - 1 by rw [gadd_eq (by omega) (by omega)]; omega]
      exact q1
    · by_cases e : k = j
      · subst e
        rw [q2 k (Nat.le_refl _), nu_at, hao]
      · exact q3 k (by omega)
def gv (C : Nat) (a : Nat → Int) (code : Nat) (q : Nat → Int) : Prop := ∀ (B : gH) (G : Nat → Int), gBp B C a → ∃ G', f_Mo_give (code : Int) (grr B 107 G) = some (grr B 107 G', 1) ∧ ∀ k, k < C → G' k = q k
theorem gv_all {C : Nat} {a q : Nat → Int} (hC : C ≤ 6) (hq : isP C a q) : ∃ code, code < 6 ^ C ∧ gv C a code q := by
  obtain ⟨l, l1, l2⟩ := m_gvC (a := a) hC q C (fun _ => false) (Nat.le_refl _) (fun v => by rw [unT_0, hq]; exact Nat.le_refl _)
  refine ⟨l, l1, fun B G hB => ?_⟩
  obtain ⟨G', q1, q2, q3⟩ := l2 B 50000 0 G hB (by omega) (sI_none (fun _ _ => rfl))
  refine ⟨G', ?_, q3⟩
  unfold f_Mo_give
  rw [grr_ne (show 83 ≠ 107 by decide), hB.1, gsub_eq (by omega) (by omega)]
  exact q1
theorem m_give {B : gH} {C : Nat} {a : Nat → Int} (hB : gBp B C a) {code : Nat} (hcode : code < 100000) (G : Nat → Int) : ∃ r G', f_Mo_give (code : Int) (grr B 107 G) = some (grr B 107 G', r) ∧ (r = 0 ∨ r = 1) ∧ (r = 1 → isP C a G') := by
  have hC := hB.2.1
  obtain ⟨r, G', q1, q2, q3, q4⟩ := m_gvS hB C 50000 code 0 (fun _ => false) G (Nat.le_refl _) (by omega) hcode (sI_none (fun _ _ => rfl))
  refine ⟨r, G', ?_, q2, fun hr v => ?_⟩
  · unfold f_Mo_give
    rw [grr_ne (show 83 ≠ 107 by decide), hB.1, gsub_eq (by omega) (by omega)]
    exact q1
  · obtain ⟨T', t1, t2⟩ := q4 hr
    have e1 : ntT C (fun _ => false) = C := cu_all C
    have e2 : ntT C T' = 0 := by omega
    have e3 := cu_0 C e2
    have e4 : unT C a v T' = 0 := cu_z C (fun k hk => by
      have h1 : (!T' k) = false := e3 k hk
      show (!T' k && decide (a k = v)) = false
      rw [h1, Bool.false_and])
    have := t1 v
    rw [e4, unT_0] at this
    omega
theorem gln_107 : gln 107 = 6 := by decide +kernel
theorem gln_108 : gln 108 = 6 := by decide +kernel
theorem m_isLessL {X : gH} {C : Nat} (hC : C ≤ 6) (h6 : X 83 6 = (C : Int)) : ∀ (d k f : Nat), k + d = C → d < f → (∀ i, i < k → X 107 i = X 108 i) → ∃ r : Int, f_Mo_isLess_L2 107 108 (fun h4 => gd (gz 0) (some (h4, 0))) f (k : Int) X = some (X, r) ∧ (r = 0 ∨ r = 1) ∧ (r = 1 ↔ lxT C (X 107) (X 108)) := by
  intro d
  induction d with
  | zero =>
    intro k f hk hf he
    obtain ⟨f, rfl⟩ : ∃ f', f = f' + 1 := ⟨f - 1, by omega⟩
    exact ⟨0, by rw [f_Mo_isLess_L2, h6, if_pos (by omega), gdz0], Or.inl rfl, fun z => absurd z (by decide), fun z => (lx_irr z (fun i hi => he i (by omega))).elim⟩
  | succ d ih =>
    intro k f hk hf he
    obtain ⟨f, rfl⟩ : ∃ f', f = f' + 1 := ⟨f - 1, by omega⟩
    rw [f_Mo_isLess_L2, h6, if_neg (by omega), gln_107, gln_108, gdix (by omega) (by omega), gdix (by omega) (by omega), Int.toNat_natCast]
    by_cases c : X 107 k = X 108 k
    · rw [if_pos c, ga_s (by omega)]
      refine ih (k + 1) f (by omega) (by omega) (fun i hi => ?_)
      by_cases e : i = k
      · subst e; exact c
      · exact he i (by omega)
    · rw [if_neg c, gdix (by omega) (by omega), gdix (by omega) (by omega)]
      by_cases c2 : X 108 k ≤ X 107 k
      · refine ⟨0, by rw [if_pos c2, gdz0], Or.inl rfl, fun z => absurd z (by decide), fun z => ?_⟩
        exfalso
        obtain ⟨j, j1, j2, j3⟩ := z
        by_cases e1 : j < k
        · have := he j e1; omega
        · by_cases e2 : j = k
          · subst e2; omega
          · exact c (j2 k (by omega))
      · exact ⟨1, by rw [if_neg c2, gdz1], Or.inr rfl, fun _ => ⟨k, by omega, he, by omega⟩, fun _ => rfl⟩
theorem lx_tr2 {C : Nat} {a b c : Nat → Int} (h1 : lxT C a b) (h2 : lxE C b c) : lxT C a c := by
  rcases h2 with h2 | h2
  · exact lx_tr (Or.inl h1) h2
  · obtain ⟨j, j1, j2, j3⟩ := h1
    exact ⟨j, j1, fun k hk => (j2 k hk).trans (h2 k (by omega)), by rw [← h2 j j1]; exact j3⟩
theorem lx_tot {C : Nat} {a b : Nat → Int} (h : ¬ lxT C a b) : lxE C b a := by
  rcases p_diff C a b with z | ⟨j, j1, j2, j3⟩
  · exact Or.inr (fun k hk => (z k hk).symm)
  · by_cases c : a j < b j
    · exact absurd ⟨j, j1, j2, c⟩ h
    · exact Or.inl ⟨j, j1, fun k hk => (j2 k hk).symm, by omega⟩
/- the reference's heap while it tries -/
def mZ (h H hh : gH) : Prop := (∀ x, x ≠ 104 → x ≠ 107 → x ≠ 108 → hh x = H x) ∧ ∀ y, y < 50 → hh 104 y = h 92 y
def rfS (D : gH) (N : Nat → Int) (n C : Nat) (a : Nat → Int) (code : Nat) (l : Int) (b : Nat → Int) : Prop := (∀ q, isP C a q → (∃ k, k < code ∧ gv C a k q) → 0 ≤ l ∧ l ≤ rkV D N n q ∧ (l = rkV D N n q → lxE C b q)) ∧ (l = -1 ∨ (0 ≤ l ∧ isP C a b ∧ l = rkV D N n b))
theorem rfS_keep {D : gH} {N : Nat → Int} {n C : Nat} {a : Nat → Int} {code : Nat} {l : Int} {b : Nat → Int} (h : rfS D N n C a code l b) (hk : ∀ q, isP C a q → gv C a code q → 0 ≤ l ∧ l ≤ rkV D N n q ∧ (l = rkV D N n q → lxE C b q)) : rfS D N n C a (code + 1) l b := by
  refine ⟨fun q hq ⟨k, k1, k2⟩ => ?_, h.2⟩
  by_cases e : k = code
  · subst e; exact hk q hq k2
  · exact h.1 q hq ⟨k, by omega, k2⟩
theorem m_rkL {h H : gH} {c : Nat} (g : GK h c) (hS : rS h H) {n : Nat} (hn : n ≤ 300) {C : Nat} (hC : h 83 6 = (C : Int)) (v2 : Int) (K : Int → gH → Option gO) {codes : Nat} (hcd : codes ≤ 46656) : ∀ (d code f : Nat) (l : Int) (hh : gH), code + d = codes → d < f → mZ h H hh → rfS (ct h) (h 92) n C (fun k => h 92 (20 + k)) code l (hh 108) → ∃ l' h', f_Mo_ranks_L66 (n : Int) v2 (codes : Int) K f l (code : Int) hh = K l' h' ∧ mZ h H h' ∧ rfS (ct h) (h 92) n C (fun k => h 92 (20 + k)) codes l' (h' 108) := by
  obtain ⟨w1, w2, w3, w4⟩ := g.2.2.2.1.2.2.1
  have hC6 : 0 ≤ h 83 6 ∧ h 83 6 ≤ 6 := g.1.2.2.1
  have g8 := g.2.2.2.2.1
  have hDC : (ct h 83 6).toNat = C := by rw [ct_83_6, hC, Int.toNat_natCast]
  intro d
  induction d with
  | zero =>
    intro code f l hh hd hf hZ hR
    obtain ⟨f, rfl⟩ : ∃ f', f = f' + 1 := ⟨f - 1, by omega⟩
    have e : code = codes := by omega
    subst e
    exact ⟨l, hh, by rw [f_Mo_ranks_L66, if_pos (by omega)], hZ, hR⟩
  | succ d ih =>
    intro code f l hh hd hf hZ hR
    obtain ⟨f, rfl⟩ : ∃ f', f = f' + 1 := ⟨f - 1, by omega⟩
    have x83 : hh 83 = h 83 := by rw [hZ.1 83 (by decide) (by decide) (by decide), hS 83 (by omega) (by omega)]
    have x92 : hh 92 = h 92 := by rw [hZ.1 92 (by decide) (by decide) (by decide), hS 92 (by omega) (by omega)]
    have hB : gBp hh C (fun k => h 92 (20 + k)) := ⟨by rw [x83, hC], by omega, fun o ho => hZ.2 (20 + o) (by omega)⟩
    obtain ⟨r, G, q1, q2, q3⟩ := m_give hB (code := code) (by omega) (hh 107)
    have hgv : ∀ q, gv C (fun k => h 92 (20 + k)) code q → r = 1 ∧ ∀ k, k < C → G k = q k := by
      intro q hq
      obtain ⟨G', e1, e2⟩ := hq hh (hh 107) hB
      have e3 := q1.symm.trans e1
      have e4 := congrArg (fun o : Option gO => (o.getD (hh, 0)).2) e3
      have e5 := congrArg (fun o : Option gO => (o.getD (hh, 0)).1 107) e3
      have e5' : G = G' := by
        have : grr hh 107 G 107 = grr hh 107 G' 107 := e5
        rw [grr_at, grr_at] at this
        exact this
      exact ⟨e4, fun k hk => by rw [e5']; exact e2 k hk⟩
    rw [grr_self] at q1
    rw [f_Mo_ranks_L66, if_neg (by omega), q1, gb_s]
    have hZ1 : mZ h H (grr hh 107 G) := ⟨fun x h1 h2 h3 => by rw [grr_ne h2]; exact hZ.1 x h1 h2 h3, fun y hy => by rw [grr_ne (by decide)]; exact hZ.2 y hy⟩
    by_cases c0 : r = 0
    · rw [if_pos c0]
      unfold f_Mo_ranks_J202
      rw [ga_s (by omega)]
      refine ih (code + 1) f l (grr hh 107 G) (by omega) (by omega) hZ1 ?_
      rw [grr_ne (show 108 ≠ 107 by decide)]
      exact rfS_keep hR (fun q hq hg => by have := (hgv q hg).1; omega)
    · have hG := q3 (by omega)
      have h19 := isP_19 w1 (p := G) (by rw [hDC]; exact hG)
      obtain ⟨p1, p2, p3, p4, p5⟩ := rk_ok g.1 w1 w2 w3 h19
      rw [hDC] at p1 p2 p3 p4 p5
      obtain ⟨b1, b2⟩ := rkV_in g.1 g.2.1 ⟨w1, w2, w3, w4⟩ h19 hn
      generalize hX : grr hh 107 G = X at hZ1
      have y83 : X 83 = h 83 := by rw [hZ1.1 83 (by decide) (by decide) (by decide), hS 83 (by omega) (by omega)]
      have y92 : X 92 = h 92 := by rw [hZ1.1 92 (by decide) (by decide) (by decide), hS 92 (by omega) (by omega)]
      have y107 : X 107 = G := by rw [← hX, grr_at]
      have y108 : X 108 = hh 108 := by rw [← hX, grr_ne (by decide)]
      have hct : ct X = ct h := ct_eq (fun x _ _ => by rw [hZ1.1 x (by omega) (by omega) (by omega), hS x (by omega) (by omega)]) (by rw [y83]) (by rw [y83]) (by rw [y83]) (by rw [y83])
      have L84 : ∀ (k : gH → Option gO) (e i f : Nat), i + e = C → e < f → f_Mo_ranks_L84 (n : Int) v2 (codes : Int) l (code : Int) k f (i : Int) (gnow X (rkN i (h 92) G)) = k (gnow X (rkN C (h 92) G)) := by
        intro k e
        induction e with
        | zero =>
          intro i f hi hf
          obtain ⟨f, rfl⟩ : ∃ f', f = f' + 1 := ⟨f - 1, by omega⟩
          have ei : i = C := by omega
          subst ei
          rw [f_Mo_ranks_L84, gnow_ne (show 83 ≠ 92 by decide), y83, hC, if_pos (by omega)]
        | succ e ihe =>
          intro i f hi hf
          obtain ⟨f, rfl⟩ : ∃ f', f = f' + 1 := ⟨f - 1, by omega⟩
          rw [f_Mo_ranks_L84, gnow_ne (show 83 ≠ 92 by decide), y83, hC, if_neg (by omega), ga_20 (by omega), gdix (by omega) (by omega), gdix (by omega) (by omega), gs_s, Int.toNat_natCast, Int.toNat_natCast, gnow_ne (show 107 ≠ 92 by decide), y107, gup_now, ← rkN_succ, ga_s (by omega)]
          exact ihe (i + 1) f (by omega) (by omega)
      have L84' : ∀ k : gH → Option gO, f_Mo_ranks_L84 (n : Int) v2 (codes : Int) l (code : Int) k 50000 0 X = k (gnow X (rkN C (h 92) G)) := fun k => by
        have := L84 k C 0 50000 (by omega) (by omega)
        have e0 : rkN 0 (h 92) G = X 92 := by rw [y92]; funext y; unfold rkN; rw [if_neg (by omega)]
        rw [e0, gnow_self] at this
        exact this
      have hgo : f_Mo_go (n : Int) (gnow X (rkN C (h 92) G)) = some (gnow X (aIt (ct h) (-1) n (rkN C (h 92) G)), 0) := by
        have hm : mW (gnow X (rkN C (h 92) G)) := by unfold mW; rw [ct_now, hct, gnow_92]; exact ⟨g.1, g.2.1, p1, p2⟩
        rw [m_go hm (by omega) (by rw [gnow_92, p4]; omega), ct_now, hct, gnow_92, gnow_gnow, gnow_ne (by decide), y83, g8]
      have hnn := (pW_it g.1 g.2.1 (-1) p1 p2 n (by rw [p4]; omega)).1
      have hmi : f_Mo_minutes (-1) (gnow X (aIt (ct h) (-1) n (rkN C (h 92) G))) = some (gnow X (aIt (ct h) (-1) n (rkN C (h 92) G)), rkV (ct h) (h 92) n G) := by
        rw [m_minutes (w := 0) (by rw [ct_now, hct]; exact g.1) (by rw [ct_now, hct, gnow_92]; exact hnn), ct_now, hct, gnow_92]
        unfold rkV
        rw [hDC]
      have hoff : ∀ y, 50 ≤ y → aIt (ct h) (-1) n (rkN C (h 92) G) y = h 92 y := off_it g.1 (-1) p1.1.1 p3 p5 n
      have hpb : f_Mo_putBack (gnow X (aIt (ct h) (-1) n (rkN C (h 92) G))) = some (X, 0) := by
        rw [m_putBack]
        refine congrArg some (congrArg (fun z => (z, (0 : Int))) ?_)
        funext x y
        unfold grw
        by_cases e : x = 92
        · subst e
          by_cases e2 : y < 50
          · rw [if_pos ⟨rfl, e2⟩, gnow_ne (by decide), hZ1.2 y e2, y92]
          · rw [if_neg (by omega), gnow_92, hoff y (by omega), y92]
        · rw [if_neg (by omega), gnow_ne e]
      rw [if_neg c0, L84', hgo, gb_s, hmi, gb_s, hpb, gb_s]
      generalize hV : rkV (ct h) (h 92) n G = V at b1 b2
      have hVq : ∀ q, gv C (fun k => h 92 (20 + k)) code q → rkV (ct h) (h 92) n q = V := fun q hq => by
        rw [← hV]; exact (rkV_cg (fun k hk => (hgv q hq).2 k (by omega))).symm
      have keep : 0 ≤ l → l ≤ V → (l = V → lxE C (hh 108) G) → ∃ l' h', f_Mo_ranks_J202 (f_Mo_ranks_L66 (n : Int) v2 (codes : Int) K f) (n : Int) v2 (codes : Int) l (code : Int) X = K l' h' ∧ mZ h H h' ∧ rfS (ct h) (h 92) n C (fun k => h 92 (20 + k)) codes l' (h' 108) := by
        intro k1 k2 k3
        unfold f_Mo_ranks_J202
        rw [ga_s (by omega)]
        refine ih (code + 1) f l X (by omega) (by omega) hZ1 ?_
        rw [y108]
        exact rfS_keep hR (fun q hq hg => by
          rw [hVq q hg]
          exact ⟨k1, k2, fun z => lx_cg (k3 z) (hgv q hg).2⟩)
      have renew : (l < 0 ∨ V < l ∨ (V = l ∧ lxT C G (hh 108))) → ∃ l' h', f_Mo_ranks_J166 (f_Mo_ranks_L66 (n : Int) v2 (codes : Int) K f) (n : Int) v2 (codes : Int) (code : Int) V X = K l' h' ∧ mZ h H h' ∧ rfS (ct h) (h 92) n C (fun k => h 92 (20 + k)) codes l' (h' 108) := by
        intro hu
        have L173 : ∀ (k : gH → Option gO) (e i f : Nat), i + e = C → e < f → f_Mo_ranks_L173 (n : Int) v2 (codes : Int) V (code : Int) k f (i : Int) (grw X 108 i G) = k (grw X 108 C G) := by
          intro k e
          induction e with
          | zero =>
            intro i f hi hf
            obtain ⟨f, rfl⟩ : ∃ f', f = f' + 1 := ⟨f - 1, by omega⟩
            have ei : i = C := by omega
            subst ei
            rw [f_Mo_ranks_L173, grw_ne (show 83 ≠ 108 by decide), y83, hC, if_pos (by omega)]
          | succ e ihe =>
            intro i f hi hf
            obtain ⟨f, rfl⟩ : ∃ f', f = f' + 1 := ⟨f - 1, by omega⟩
            rw [f_Mo_ranks_L173, grw_ne (show 83 ≠ 108 by decide), y83, hC, if_neg (by omega), gdix (by omega) (by omega), gdix (by omega) (by omega), gs_s, Int.toNat_natCast, grw_ne (show 107 ≠ 108 by decide), y107, grw_step, ga_s (by omega)]
            exact ihe (i + 1) f (by omega) (by omega)
        have L173' : ∀ k : gH → Option gO, f_Mo_ranks_L173 (n : Int) v2 (codes : Int) V (code : Int) k 50000 0 X = k (grw X 108 C G) := fun k => by
          have := L173 k C 0 50000 (by omega) (by omega)
          rw [grw_0] at this
          exact this
        unfold f_Mo_ranks_J166 f_Mo_ranks_J202
        rw [L173', ga_s (by omega)]
        have hb : ∀ k, k < C → grw X 108 C G 108 k = G k := fun k hk => by unfold grw; rw [if_pos ⟨rfl, hk⟩]
        refine ih (code + 1) f V (grw X 108 C G) (by omega) (by omega) ⟨fun x h1 h2 h3 => by rw [grw_ne h3]; exact hZ1.1 x h1 h2 h3, fun y hy => by rw [grw_ne (by decide)]; exact hZ1.2 y hy⟩ ⟨fun q hq ⟨k, k1, k2⟩ => ?_, Or.inr ⟨b1, fun v => by rw [cnt_congr (p := grw X 108 C G 108) (q := G) C hb]; exact hG v, by rw [← hV]; exact rkV_cg (fun k hk => (hb k (by omega)).symm)⟩⟩
        by_cases e : k = code
        · subst e
          rw [hVq q k2]
          exact ⟨b1, Int.le_refl _, fun _ => Or.inr (fun i hi => (hb i hi).trans ((hgv q k2).2 i hi))⟩
        · obtain ⟨z1, z2, z3⟩ := hR.1 q hq ⟨k, by omega, k2⟩
          rcases hu with u | u | ⟨u1, u2⟩
          · omega
          · exact ⟨b1, by omega, fun z => by omega⟩
          · refine ⟨b1, by omega, fun z => ?_⟩
            obtain ⟨j, j1, j2, j3⟩ := lx_tr2 u2 (z3 (by omega))
            exact Or.inl ⟨j, j1, fun i hi => (hb i (by omega)).trans (j2 i hi), by rw [hb j j1]; exact j3⟩
      by_cases l0 : l < 0
      · rw [if_pos l0]; exact renew (Or.inl l0)
      · rw [if_neg l0]
        by_cases l1 : V < l
        · rw [if_pos l1]; exact renew (Or.inr (Or.inl l1))
        · rw [if_neg l1]
          by_cases l2 : V = l
          · obtain ⟨r', e1, e2, e3⟩ := m_isLessL (X := X) (C := C) (by omega) (by rw [y83, hC]) C 0 50000 (by omega) (by omega) (fun i hi => by omega)
            have e1' : f_Mo_isLess 107 108 X = some (X, r') := e1
            rw [y107, y108] at e3
            rw [if_pos l2, e1', gb_s]
            by_cases r0 : r' = 0
            · rw [if_pos r0]
              exact keep (by omega) (by omega) (fun _ => lx_tot (fun z => by have := e3.mpr z; omega))
            · rw [if_neg r0]
              exact renew (Or.inr (Or.inr ⟨l2, e3.mp (by omega)⟩))
          · rw [if_neg l2]
            exact keep (by omega) (by omega) (fun z => by omega)
theorem m_rk40 {X : gH} {C : Nat} (hC : C ≤ 6) (h6 : X 83 6 = (C : Int)) (v1 v2 : Int) (K : Int → gH → Option gO) : f_Mo_ranks_L40 v1 v2 K 50000 1 0 X = K ((6 ^ C : Nat) : Int) X := by
  have key : ∀ (d i f : Nat), i + d = C → d < f → f_Mo_ranks_L40 v1 v2 K f ((6 ^ i : Nat) : Int) (i : Int) X = K ((6 ^ C : Nat) : Int) X := by
    intro d
    induction d with
    | zero =>
      intro i f hi hf
      obtain ⟨f, rfl⟩ : ∃ f', f = f' + 1 := ⟨f - 1, by omega⟩
      have e : i = C := by omega
      subst e
      rw [f_Mo_ranks_L40, h6, if_pos (by omega)]
    | succ d ih =>
      intro i f hi hf
      obtain ⟨f, rfl⟩ : ∃ f', f = f' + 1 := ⟨f - 1, by omega⟩
      have hp := pow6 i (by omega)
      have ih' := ih (i + 1) f (by omega) (by omega)
      rw [Nat.pow_succ] at ih'
      generalize 6 ^ i = P at hp ih' ⊢
      rw [f_Mo_ranks_L40, h6, if_neg (by omega), gmul_eq (by omega) (by omega), ga_s (by omega), show ((P : Nat) : Int) * 6 = ((P * 6 : Nat) : Int) by omega]
      exact ih'
  exact key C 0 50000 (by omega) (by omega)
theorem GK_rk {h h' : gH} {c : Nat} (g : GK h c) (hk : ∀ x, x < 83 → x < 37 ∨ 47 ≤ x → x < 72 ∨ 74 < x → h' x = h x) (hm : ∀ x, 83 ≤ x → x < 104 ∨ 108 < x → h' x = h x) (hs : GS (ct h) h') : GK h' c := by
  obtain ⟨g1, g2, ⟨g3, g4, g5, g6, gF⟩, g7, g8, g9, g10, g11, g12, g13⟩ := g
  have hct : ct h' = ct h := ct_eq (fun x _ _ => hm x (by omega) (by omega)) (by rw [hm 83 (by omega) (by omega)]) (by rw [hm 83 (by omega) (by omega)]) (by rw [hm 83 (by omega) (by omega)]) (by rw [hm 83 (by omega) (by omega)])
  have h83 := hm 83 (by omega) (by omega)
  have h92 := hm 92 (by omega) (by omega)
  unfold GK GC
  rw [hct, h83, h92, hk 0 (by omega) (by omega) (by omega)]
  exact ⟨g1, g2, ⟨g3, g4, g5, CR_c (fun x _ _ => hk x (by omega) (by omega) (by omega)) g6, gF⟩, GN_c (fun x _ _ => hk x (by omega) (by omega) (by omega)) g7, g8, GT_c (by rw [h83]) (by rw [h83]) (hk 25 (by omega) (by omega) (by omega)) (hk 26 (by omega) (by omega) (by omega)) (hm 93 (by omega) (by omega)) g9, GU_c (by rw [h83]) (fun x _ _ => hk x (by omega) (by omega) (by omega)) (fun x _ _ => hm x (by omega) (by omega)) g10, GB_c (by rw [h83]) (fun x _ _ => hk x (by omega) (by omega) (by omega)) (fun x _ _ => hm x (by omega) (by omega)) g11, GP_c (fun x _ _ => hk x (by omega) (by omega) (by omega)) (hm 114 (by omega) (by omega)) (hm 115 (by omega) (by omega)) g12, hs⟩
theorem op_ranks {h : gH} (g : GI h) (a b : Int) : gok (f_DS_ranks a b) (f_Mo_ranks a b) h := by
  obtain ⟨c, g⟩ := g
  have hgi : GI h := ⟨c, g⟩
  have hC6 : 0 ≤ h 83 6 ∧ h 83 6 ≤ 6 := g.1.2.2.1
  obtain ⟨C, hC⟩ : ∃ C : Nat, h 83 6 = (C : Int) := ⟨(h 83 6).toNat, by omega⟩
  have hDC : (ct h 83 6).toNat = C := by rw [ct_83_6, hC, Int.toNat_natCast]
  have kn := k_noCart g b
  have mn := m_isCart hC6 b
  by_cases cb : b = -1 ∨ (0 ≤ b ∧ b < h 83 6)
  · by_cases ca : 1 ≤ a ∧ a ≤ 300
    · obtain ⟨n, rfl⟩ : ∃ n : Nat, a = (n : Int) := ⟨a.toNat, by omega⟩
      obtain ⟨H, f1, f2, f3, f4⟩ := k_find g (n := n) (by omega)
      have x83 : H 83 = h 83 := f2 83 (by omega) (by omega)
      have x92 : H 92 = h 92 := f2 92 (by omega) (by omega)
      have hZ0 : mZ h H (bk H) := ⟨fun x h1 _ _ => bk_ne h1, fun y hy => by unfold bk grw; rw [if_pos ⟨rfl, hy⟩, x92]⟩
      have hp6 := pow6 C (by omega)
      have hR0 : rfS (ct h) (h 92) n C (fun k => h 92 (20 + k)) 0 (-1) (bk H 108) := ⟨fun q hq ⟨k, k1, k2⟩ => by omega, Or.inl rfl⟩
      obtain ⟨l, h', q1, q2, q3, q4⟩ := m_rkL g f2 (n := n) (by omega) hC b (fun v32 h33 => if b = (-1) then (some (h33, v32)) else (gd (gix 6 b) (some (h33, (h33 108 b.toNat))))) (codes := 6 ^ C) hp6 (6 ^ C) 0 50000 (-1) (bk H) (by omega) (by omega) hZ0 hR0
      have hS' : rkS (ct h) (h 92) n l (h' 108) := by
        have all : ∀ q, isP C (fun k => h 92 (20 + k)) q → 0 ≤ l ∧ l ≤ rkV (ct h) (h 92) n q ∧ (l = rkV (ct h) (h 92) n q → lxE C (h' 108) q) := fun q hq => q3 q hq (gv_all (by omega) hq)
        have l0 := (all (fun k => h 92 (20 + k)) (fun _ => rfl)).1
        rcases q4 with z | ⟨z1, z2, z3⟩
        · omega
        · unfold rkS
          rw [hDC]
          exact ⟨z2, z3, fun q hq => (all q hq).2⟩
      obtain ⟨u1, u2⟩ := rkS_one f4 hS'
      rw [hDC] at u2
      have kJ : f_DS_ranks_J16 (n : Int) b h = some (H, if b = -1 then l else h' 108 b.toNat) := by
        unfold f_DS_ranks_J16
        rw [k_out, gb_s, if_pos ca, if_pos rfl, f1, gb_s, u1]
        by_cases c1 : b = -1
        · rw [if_pos c1, if_pos c1]
        · rw [if_neg c1, if_neg c1, gdix (by omega) (by omega), u2 b.toNat (by omega)]
      have mJ : f_Mo_ranks_J16 (n : Int) b H = some (h', if b = -1 then l else h' 108 b.toNat) := by
        unfold f_Mo_ranks_J16
        rw [m_in, gb_s, if_pos ca, if_neg (by decide), m_saveB, gb_s, m_rk40 (C := C) (by omega) (by rw [bk_ne (by decide), x83, hC])]
        refine (show _ = _ from q1).trans ?_
        show (if b = (-1) then (some (h', l)) else (gd (gix 6 b) (some (h', (h' 108 b.toNat))))) = _
        by_cases c1 : b = -1
        · rw [if_pos c1, if_pos c1]
        · rw [if_neg c1, if_neg c1, gdix (by omega) (by omega)]
      have hG : GI h' := by
        refine ⟨c, GK_rk g (fun x h1 h2 h3 => by rw [q2.1 x (by omega) (by omega) (by omega)]; exact f2 x h2 h3) (fun x h1 h2 => by rw [q2.1 x (by omega) (by omega) (by omega)]; exact f2 x (by omega) (by omega)) (Or.inr ⟨n, by omega, ?_, ?_⟩)⟩
        · rw [q2.1 72 (by decide) (by decide) (by decide)]; exact f3
        · rw [q2.1 72 (by decide) (by decide) (by decide), q2.1 73 (by decide) (by decide) (by decide), q2.1 92 (by decide) (by decide) (by decide), x92]; exact f4
      refine ⟨H, if b = -1 then l else h' 108 b.toNat, h', ?_, ?_, hG⟩
      · unfold f_DS_ranks
        by_cases c1 : b = -1
        · rw [if_pos c1]; exact kJ
        · have c2 : 0 ≤ b ∧ b < h 83 6 := by omega
          rw [if_neg c1, kn, gb_s, if_pos c2, if_pos rfl]; exact kJ
      · unfold f_Mo_ranks
        by_cases c1 : b = -1
        · rw [if_pos c1]; exact mJ
        · have c2 : 0 ≤ b ∧ b < h 83 6 := by omega
          rw [if_neg c1, m_isCart (by rw [x83]; exact hC6), gb_s, x83, if_pos c2, if_neg (by decide)]; exact mJ
    · refine gok_id (r := -1000000002) hgi ?_ ?_
      · have kJ : f_DS_ranks_J16 a b h = some (h, -1000000002) := by unfold f_DS_ranks_J16; rw [k_out, gb_s, if_neg ca, if_neg (by decide)]
        unfold f_DS_ranks
        by_cases c1 : b = -1
        · rw [if_pos c1]; exact kJ
        · have c2 : 0 ≤ b ∧ b < h 83 6 := by omega
          rw [if_neg c1, kn, gb_s, if_pos c2, if_pos rfl]; exact kJ
      · have mJ : f_Mo_ranks_J16 a b h = some (h, -1000000002) := by unfold f_Mo_ranks_J16; rw [m_in, gb_s, if_neg ca, if_pos rfl]
        unfold f_Mo_ranks
        by_cases c1 : b = -1
        · rw [if_pos c1]; exact mJ
        · have c2 : 0 ≤ b ∧ b < h 83 6 := by omega
          rw [if_neg c1, mn, gb_s, if_pos c2, if_neg (by decide)]; exact mJ
  · have c1 : ¬ b = -1 := by omega
    have c2 : ¬ (0 ≤ b ∧ b < h 83 6) := by omega
    exact gok_id (r := -1000000001) hgi (by unfold f_DS_ranks; rw [if_neg c1, kn, gb_s, if_neg c2, if_neg (by decide)]) (by unfold f_Mo_ranks; rw [if_neg c1, mn, gb_s, if_neg c2, if_pos rfl])
