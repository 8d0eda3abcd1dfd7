/- PURE: the soonest, foreseen: class and reference -/
def WB (D : gH) (N : Nat → Int) (B : gH) (c : Nat) : Prop := CR D B c ∧ B 27 0 = (c : Int) ∧ ∀ s : Nat, (s : Int) < D 83 2 → B 28 s = N (2 + s)
theorem k_entry {D B : gH} (hc : cW D) {N : Nat → Int} {c : Nat} (hb : WB D N B c) {s : Nat} (hs : (s : Int) < D 83 2) {e t : Int} (h0 : 0 ≤ t) (h1 : t ≤ 1000000) (x : Nat → Int) : f_Way_entry (s : Int) e t (grr B 70 x) = some (grr B 70 x, yE D N s e t) := by
  have hS := hc.2.1
  obtain ⟨b1, b2, b3⟩ := hb
  obtain ⟨p1, p2⟩ := y_half hc hs
  obtain ⟨q1, q2, q3⟩ := yq (t := t) p1
  have d1 : 0 ≤ t / D 83 1 := Int.ediv_nonneg h0 (by omega)
  have d2 : t / D 83 1 ≤ t := Int.ediv_le_self _ h0
  have c7 : c ≠ 70 := by rcases b1.1 with e | e <;> omega
  have r28 : grr B 70 x 28 s = N (2 + s) := by rw [grr_ne (by decide)]; exact b3 s hs
  have r27 : grr B 70 x 27 0 = (c : Int) := by rw [grr_ne (by decide)]; exact b2
  have rc : grr B 70 x c 1 = D 83 1 := by rw [grr_ne c7]; exact b1.2.2.1
  unfold f_Way_entry yE
  rw [gdix (by omega) (by omega), Int.toNat_natCast, r28, r27, Int.toNat_natCast, rc]
  by_cases c4 : N (2 + s) = 4
  · rw [if_pos c4, if_pos c4]
    split <;> rfl
  · rw [if_neg c4, if_neg c4, gdix (by omega) (by omega)]
    by_cases c1 : N (2 + s) = 1
    · rw [if_pos c1, if_pos c1, gdcl (gsh_c b1.1), if_neg (by omega), gdcl (gsh_c b1.1), gdnz (by omega), gdnz (by decide), gdiv_eq h0 (by omega) p1 (by omega), grem_eq d1 (by omega) (by decide) (by decide)]
      by_cases cc : t / D 83 1 % 2 = e
      · rw [if_pos cc, if_pos cc]
      · rw [if_neg cc, if_neg cc, gdcl (gsh_c b1.1), gadd_eq (by omega) (by omega), gmul_eq (by rw [q3]; omega) (by rw [q3]; omega)]
    · rw [if_neg c1, if_neg c1]
theorem m_entry {B : gH} (hc : cW (ct B)) {s : Nat} (hs : (s : Int) < B 83 2) {e t : Int} (he : e = 0 ∨ e = 1) (h0 : 0 ≤ t) (h1 : t ≤ 1000000) (x : Nat → Int) : f_Mo_entry (s : Int) e t (grr B 105 x) = some (grr B 105 x, yE (ct B) (B 92) s e t) := by
  have hS : 0 ≤ B 83 2 ∧ B 83 2 ≤ 9 := hc.2.1
  obtain ⟨p1, p2⟩ := y_half hc hs
  obtain ⟨q1, q2, q3⟩ := yq (t := t) p1
  have d1 : 0 ≤ t / ct B 83 1 := Int.ediv_nonneg h0 (by omega)
  have d2 : t / ct B 83 1 ≤ t := Int.ediv_le_self _ h0
  unfold f_Mo_entry yE
  rw [grr_ne (show 92 ≠ 105 by decide), grr_ne (show 83 ≠ 105 by decide), ← ct_83_1 B, ga_2 (by omega), gdix (by omega) (by omega), Int.toNat_natCast]
  by_cases c1 : B 92 (2 + s) = 1
  · rw [if_pos c1, if_neg (show ¬ B 92 (2 + s) = 4 by omega), if_pos c1, gdnz (by omega), gdnz (by decide), gdiv_eq h0 (by omega) p1 (by omega), grem_eq d1 (by omega) (by decide) (by decide)]
    by_cases cc : t / ct B 83 1 % 2 = e
    · rw [if_pos cc, if_pos cc]
    · rw [if_neg cc, if_neg cc, gdnz (by omega), gadd_eq (by omega) (by omega), gmul_eq (by rw [q3]; omega) (by rw [q3]; omega)]
  · rw [if_neg c1, if_neg c1, gdix (by omega) (by omega)]
    by_cases c4 : B 92 (2 + s) = 4
    · rw [if_pos c4, if_pos c4]
      rcases he with rfl | rfl
      · rw [if_neg (by decide), if_pos rfl]
      · rw [if_pos rfl, if_neg (by decide)]
    · rw [if_neg c4, if_neg c4]
theorem k_reach {B : gH} {x : Nat → Int} (hx : yI x) {v : Nat} (hv : v < 7) (t : Int) : f_Way_reach (v : Int) t (grr B 70 x) = some (grr B 70 (if t < x v then nu x v t else x), if t < x v then 1 else 0) := by
  have := (hx v hv).2
  unfold f_Way_reach
  rw [gdix (by omega) (by omega), Int.toNat_natCast, grr_at]
  by_cases c : t < x v
  · rw [if_neg (by omega), if_pos (by omega), if_pos c, if_pos c, gdix (by omega) (by omega), gs_s, gdz1, grr_up]
  · rw [if_pos (by omega), gdz0, if_neg c, if_neg c]
theorem k_goBy {D B : gH} (hc : cW D) {N : Nat → Int} {c : Nat} (hb : WB D N B c) {s : Nat} (hs : (s : Int) < D 83 2) {e : Int} (he : e = 0 ∨ e = 1) {x : Nat → Int} (hx : yI x) : ∃ r : Int, f_Way_goBy (s : Int) e (grr B 70 x) = some (grr B 70 (yC D N s e x), r) ∧ (r = 0 ∨ r = 1) ∧ (r = 0 → yC D N s e x = x) := by
  have hS := hc.2.1
  obtain ⟨⟨a1, a2, a3, a4, a5⟩, a6, a7⟩ := yAZ hc hs he
  obtain ⟨v1, v2⟩ := yV_pos hc (N := N) hs he hx
  obtain ⟨u1, u2⟩ := hx _ a4
  obtain ⟨b1, b2, b3⟩ := id hb
  obtain ⟨s1, s2, s3⟩ := b1.2.2.2.2.2.1 s hs
  have hc13 : c ≤ 13 := by rcases b1.1 with e | e <;> omega
  have r27 : grr B 70 x 27 0 = (c : Int) := by rw [grr_ne (by decide)]; exact b2
  have r1 : grr B 70 x (c + 1) s = D 84 s := by rw [grr_ne (by omega)]; exact s1
  have r2 : grr B 70 x (c + 2) s = D 85 s := by rw [grr_ne (by omega)]; exact s2
  have r3 : grr B 70 x (c + 3) s = D 86 s := by rw [grr_ne (by omega)]; exact s3
  have st : f_Way_goBy (s : Int) e (grr B 70 x) = f_Way_goBy_J63 (s : Int) e (yA D s e : Int) (yZ D s e : Int) (grr B 70 x) := by
    rw [← a6, ← a7]
    unfold f_Way_goBy f_Way_goBy_J31
    rw [r27, Int.toNat_natCast, Int.toNat_natCast, r1, r2]
    rcases he with rfl | rfl
    · rw [if_pos rfl, if_pos rfl, if_pos rfl, if_pos rfl, gdcl (gsh_c b1.1), gdix (by omega) (by omega), gdcl (gsh_c b1.1), gdix (by omega) (by omega)]
    · rw [if_neg (by decide), if_neg (by decide), if_neg (by decide), if_neg (by decide), gdcl (gsh_c b1.1), gdix (by omega) (by omega), gdcl (gsh_c b1.1), gdix (by omega) (by omega)]
  rw [st]
  unfold f_Way_goBy_J63
  rw [gdix (by omega) (by omega), Int.toNat_natCast, grr_at]
  by_cases cu : x (yA D s e) < 1000000
  · rw [if_pos cu, gdix (by omega) (by omega), k_entry hc hb hs u1 u2, gb_s, r27, Int.toNat_natCast, gdcl (gsh_c b1.1), gdix (by omega) (by omega), Int.toNat_natCast, r3]
    have hV : yE D N s e (x (yA D s e)) + D 86 s = yV D N s e x := rfl
    rw [gadd_eq (by rw [hV]; omega) (by rw [hV]; omega), hV, k_reach hx a5, gb_s]
    by_cases cv : yV D N s e x < x (yZ D s e)
    · have ec : yC D N s e x = nu x (yZ D s e) (yV D N s e x) := if_pos ⟨cu, cv⟩
      exact ⟨1, by rw [if_pos cv, if_pos cv, gdz1, ec], Or.inr rfl, fun z => absurd z (by decide)⟩
    · have ec : yC D N s e x = x := if_neg (fun z => cv z.2)
      exact ⟨0, by rw [if_neg cv, if_neg cv, gdz0, ec], Or.inl rfl, fun _ => ec⟩
  · have ec : yC D N s e x = x := if_neg (fun z => cu z.1)
    exact ⟨0, by rw [if_neg cu, gdz0, ec], Or.inl rfl, fun _ => ec⟩
theorem gor01 {a b : Int} (ha : a = 0 ∨ a = 1) (hb : b = 0 ∨ b = 1) : (gor a b = 0 ∨ gor a b = 1) ∧ (gor a b = 0 → a = 0 ∧ b = 0) := by
  rcases ha with rfl | rfl <;> rcases hb with rfl | rfl <;> decide
theorem k_L18 {D B : gH} (hc : cW D) {N : Nat → Int} {c : Nat} (hb : WB D N B c) {x0 : Nat → Int} (hx : yI x0) (v2 : Int) (k : Int → gH → Option gO) : ∀ (m s f : Nat) (v1 : Int), (v1 = 0 ∨ v1 = 1) → (s : Int) + (m : Int) = D 83 2 → m < f → ∃ r : Int, f_Way_spread_L18 v2 k f v1 (s : Int) (grr B 70 (gfold (fun s x => yC D N s 1 (yC D N s 0 x)) s x0)) = k r (grr B 70 (yR D N x0)) ∧ (r = 0 ∨ r = 1) ∧ (r = 0 → v1 = 0 ∧ yR D N x0 = gfold (fun s x => yC D N s 1 (yC D N s 0 x)) s x0) := by
  have hS := hc.2.1
  obtain ⟨b1, b2, b3⟩ := id hb
  have hc13 : c ≤ 13 := by rcases b1.1 with e | e <;> omega
  intro m
  induction m with
  | zero =>
    intro s f v1 hv hs hf
    obtain ⟨f, rfl⟩ : ∃ f', f = f' + 1 := ⟨f - 1, by omega⟩
    have es : (D 83 2).toNat = s := by omega
    have e : yR D N x0 = gfold (fun s x => yC D N s 1 (yC D N s 0 x)) s x0 := by unfold yR; rw [es]
    refine ⟨v1, ?_, hv, fun z => ⟨z, e⟩⟩
    rw [← e, f_Way_spread_L18, grr_ne (show 27 ≠ 70 by decide), b2, Int.toNat_natCast, gdcl (gsh_c b1.1), grr_ne (by omega), b1.2.2.2.1, if_pos (by omega)]
  | succ m ih =>
    intro s f v1 hv hs hf
    obtain ⟨f, rfl⟩ : ∃ f', f = f' + 1 := ⟨f - 1, by omega⟩
    have hsD : (s : Int) < D 83 2 := by omega
    have hI : yI (gfold (fun s x => yC D N s 1 (yC D N s 0 x)) s x0) := gfold_inv (fun s x => yC D N s 1 (yC D N s 0 x)) (fun _ z => yI z) x0 hx (D 83 2).toNat (fun j z hj hz => yI_C hc (by omega) (Or.inr rfl) (yI_C hc (by omega) (Or.inl rfl) hz)) s (by omega)
    obtain ⟨r6, k1, k2, k3⟩ := k_goBy hc hb hsD (Or.inl rfl) hI
    obtain ⟨r8, j1, j2, j3⟩ := k_goBy hc hb hsD (Or.inr rfl) (yI_C hc (N := N) hsD (Or.inl rfl) hI)
    obtain ⟨o1, o2⟩ := gor01 hv k2
    obtain ⟨o3, o4⟩ := gor01 o1 j2
    obtain ⟨r, i1, i2, i3⟩ := ih (s + 1) f (gor (gor v1 r6) r8) o3 (by omega) (by omega)
    refine ⟨r, ?_, i2, fun z => ?_⟩
    · rw [f_Way_spread_L18, grr_ne (show 27 ≠ 70 by decide), b2, Int.toNat_natCast, gdcl (gsh_c b1.1), grr_ne (by omega), b1.2.2.2.1, if_neg (by omega), k1, gb_s, j1, gb_s, ga_s (by omega)]
      exact i1
    · obtain ⟨z1, z2⟩ := i3 z
      obtain ⟨z3, z4⟩ := o4 z1
      obtain ⟨z5, z6⟩ := o2 z3
      refine ⟨z5, z2.trans ?_⟩
      rw [gfold_succ]
      have e1 := j3 z4
      have e2 := k3 z6
      show yC D N s 1 (yC D N s 0 _) = _
      rw [e1, e2]
theorem k_L4 {D B : gH} (hc : cW D) {N : Nat → Int} {c : Nat} (hb : WB D N B c) : ∀ (d i f : Nat) (v1 : Int) (x : Nat → Int), i + d = 7 → d < f → yI x → (v1 = 0 → yR D N x = x) → ∃ j, f_Way_spread_L4 (fun h11 => some (h11, 0)) f v1 (i : Int) (grr B 70 x) = some (grr B 70 (yT D N j x), 0) ∧ (j = d ∨ yR D N (yT D N j x) = yT D N j x) := by
  have hS := hc.2.1
  intro d
  induction d with
  | zero =>
    intro i f v1 x hi hf hx hv
    obtain ⟨f, rfl⟩ : ∃ f', f = f' + 1 := ⟨f - 1, by omega⟩
    exact ⟨0, by rw [f_Way_spread_L4, if_pos (by omega)]; rfl, Or.inl rfl⟩
  | succ d ih =>
    intro i f v1 x hi hf hx hv
    obtain ⟨f, rfl⟩ : ∃ f', f = f' + 1 := ⟨f - 1, by omega⟩
    by_cases c0 : v1 = 0
    · exact ⟨0, by rw [f_Way_spread_L4, if_neg (by omega), if_pos c0]; rfl, Or.inr (hv c0)⟩
    · obtain ⟨r, q1, q2, q3⟩ := k_L18 hc hb hx (i : Int) (fun v9 h10 => f_Way_spread_L4 (fun h11 => some (h11, 0)) f v9 (gadd (i : Int) 1) h10) (D 83 2).toNat 0 50000 0 (Or.inl rfl) (by omega) (by omega)
      obtain ⟨j, p1, p2⟩ := ih (i + 1) f r (yR D N x) (by omega) (by omega) (yI_R hc hx) (fun z => by have := (q3 z).2; exact congrArg (yR D N) this)
      refine ⟨j + 1, ?_, ?_⟩
      · rw [f_Way_spread_L4, if_neg (by omega), if_neg c0, yT_shift]
        refine (show _ = _ from q1).trans ?_
        show f_Way_spread_L4 (fun h11 => some (h11, 0)) f r (gadd (i : Int) 1) (grr B 70 (yR D N x)) = _
        rw [ga_s (by omega)]
        exact p1
      · rw [yT_shift]
        rcases p2 with z | z
        · exact Or.inl (by omega)
        · exact Or.inr z
theorem k_spread {D B : gH} (hc : cW D) {N : Nat → Int} {c : Nat} (hb : WB D N B c) {x : Nat → Int} (hx : yI x) : ∃ j, f_Way_spread (grr B 70 x) = some (grr B 70 (yT D N j x), 0) ∧ yR D N (yT D N j x) = yT D N j x := by
  obtain ⟨j, q1, q2⟩ := k_L4 hc hb 7 0 50000 1 x rfl (by omega) hx (fun z => absurd z (by decide))
  refine ⟨j, q1, ?_⟩
  rcases q2 with z | z
  · rw [z]; exact y_conv7 hc hx
  · exact z
/- the start -/
def yX (a : Nat) (m : Int) (z : Nat → Int) : Nat → Int := fun y => if y = a then m else if y < 7 then 1000000 else z y
theorem k_setOut {h : gH} {a : Nat} (ha : a < 7) (m : Int) : f_Way_setOut (a : Int) m h = some (grr h 70 (yX a m (h 70)), 0) := by
  have key : ∀ (d i f : Nat), i + d = 7 → d < f → f_Way_setOut_L2 (a : Int) m (fun h3 => gd (gix 7 (a : Int)) (gs (gup h3 70 (a : Int).toNat m) (fun h4 => some (h4, 0)))) f (i : Int) (grw h 70 i (fun _ => 1000000)) = some (grr h 70 (yX a m (h 70)), 0) := by
    intro d
    induction d with
    | zero =>
      intro i f hi hf
      obtain ⟨f, rfl⟩ : ∃ f', f = f' + 1 := ⟨f - 1, by omega⟩
      have e7 : i = 7 := by omega
      subst e7
      rw [f_Way_setOut_L2, if_pos (by omega), gdix (by omega) (by omega), gs_s, Int.toNat_natCast]
      refine congrArg some (congrArg (fun z => (z, (0 : Int))) ?_)
      funext x y
      unfold gup grw grr yX
      by_cases hx : x = 70
      · subst hx
        by_cases hy : y = a
        · simp [hy]
        · by_cases h7 : y < 7 <;> simp [hy, h7]
      · simp [hx]
    | succ d ih =>
      intro i f hi hf
      obtain ⟨f, rfl⟩ : ∃ f', f = f' + 1 := ⟨f - 1, by omega⟩
      have e := grw_step h 70 i (fun _ => (1000000 : Int))
      rw [f_Way_setOut_L2, if_neg (by omega), gdix (by omega) (by omega), gs_s, Int.toNat_natCast, Int.toNat_natCast, e, ga_s (by omega)]
      exact ih (i + 1) f (by omega) (by omega)
  have := key 7 0 50000 rfl (by omega)
  rw [grw_0] at this
  exact this
theorem m_setOut {B : gH} {a : Nat} (ha : a < 7) (v2 m : Int) (k : gH → Option gO) : f_Mo_foreseen_L37 (a : Int) v2 m k 50000 0 B = k (grr B 105 (yX a m (B 105))) := by
  have key : ∀ (d i f : Nat), i + d = 7 → d < f → f_Mo_foreseen_L37 (a : Int) v2 m k f (i : Int) (grw B 105 i (fun y => if y = a then m else 1000000)) = k (grr B 105 (yX a m (B 105))) := by
    intro d
    induction d with
    | zero =>
      intro i f hi hf
      obtain ⟨f, rfl⟩ : ∃ f', f = f' + 1 := ⟨f - 1, by omega⟩
      have e7 : i = 7 := by omega
      subst e7
      rw [f_Mo_foreseen_L37, if_pos (by omega)]
      refine congrArg k ?_
      funext x y
      unfold grw grr yX
      by_cases hx : x = 105
      · subst hx
        by_cases hy : y = a
        · simp [hy, ha]
        · by_cases h7 : y < 7 <;> simp [hy, h7]
      · simp [hx]
    | succ d ih =>
      intro i f hi hf
      obtain ⟨f, rfl⟩ : ∃ f', f = f' + 1 := ⟨f - 1, by omega⟩
      have e := grw_step B 105 i (fun y => if y = a then m else (1000000 : Int))
      rw [f_Mo_foreseen_L37, if_neg (by omega)]
      unfold f_Mo_foreseen_J62
      rw [gdix (by omega) (by omega), gs_s, gs_s, Int.toNat_natCast, ga_s (by omega)]
      by_cases ci : i = a
      · rw [if_pos (by omega)]
        have e' : gup (grw B 105 i (fun y => if y = a then m else (1000000 : Int))) 105 i m = grw B 105 (i + 1) (fun y => if y = a then m else (1000000 : Int)) := by rw [← e, if_pos ci]
        rw [e']
        exact ih (i + 1) f (by omega) (by omega)
      · rw [if_neg (by omega), gdix (by omega) (by omega)]
        have e' : gup (grw B 105 i (fun y => if y = a then m else (1000000 : Int))) 105 i 1000000 = grw B 105 (i + 1) (fun y => if y = a then m else (1000000 : Int)) := by rw [← e, if_neg ci]
        rw [e']
        exact ih (i + 1) f (by omega) (by omega)
  have := key 7 0 50000 rfl (by omega)
  rw [grw_0] at this
  exact this
theorem m_come {B : gH} (hc : cW (ct B)) {s : Nat} (hs : (s : Int) < B 83 2) {e : Int} (he : e = 0 ∨ e = 1) {x : Nat → Int} (hx : yI x) : f_Mo_come (s : Int) e (grr B 105 x) = some (grr B 105 (yC (ct B) (B 92) s e x), 0) := by
  have hS : 0 ≤ B 83 2 ∧ B 83 2 ≤ 9 := hc.2.1
  obtain ⟨⟨a1, a2, a3, a4, a5⟩, a6, a7⟩ := yAZ hc hs he
  obtain ⟨v1, v2⟩ := yV_pos hc (N := B 92) hs he hx
  obtain ⟨u1, u2⟩ := hx _ a4
  have st : f_Mo_come (s : Int) e (grr B 105 x) = f_Mo_come_J39 (s : Int) e (yA (ct B) s e : Int) (yZ (ct B) s e : Int) (grr B 105 x) := by
    rw [← a6, ← a7]
    unfold f_Mo_come f_Mo_come_J19
    rw [Int.toNat_natCast, grr_ne (show 84 ≠ 105 by decide), grr_ne (show 85 ≠ 105 by decide), ct_84, ct_85]
    rcases he with rfl | rfl
    · rw [if_pos rfl, if_pos rfl, if_pos rfl, if_pos rfl, gdix (by omega) (by omega), gdix (by omega) (by omega)]
    · rw [if_neg (by decide), if_neg (by decide), if_neg (by decide), if_neg (by decide), gdix (by omega) (by omega), gdix (by omega) (by omega)]
  rw [st]
  unfold f_Mo_come_J39 f_Mo_come_J103
  rw [gdix (by omega) (by omega), Int.toNat_natCast, grr_at]
  by_cases cu : x (yA (ct B) s e) < 1000000
  · rw [if_neg (by omega), gdix (by omega) (by omega), m_entry hc hs he u1 u2, gb_s, gdix (by omega) (by omega), gdix (by omega) (by omega), Int.toNat_natCast, Int.toNat_natCast, grr_at, grr_ne (show 86 ≠ 105 by decide), ← ct_86 B]
    have hV : yE (ct B) (B 92) s e (x (yA (ct B) s e)) + ct B 86 s = yV (ct B) (B 92) s e x := rfl
    rw [gadd_eq (by rw [hV]; omega) (by rw [hV]; omega), hV]
    by_cases cv : yV (ct B) (B 92) s e x < x (yZ (ct B) s e)
    · have ec : yC (ct B) (B 92) s e x = nu x (yZ (ct B) s e) (yV (ct B) (B 92) s e x) := if_pos ⟨cu, cv⟩
      rw [if_neg (by omega), gdix (by omega) (by omega), gs_s, grr_up, ec]
    · have ec : yC (ct B) (B 92) s e x = x := if_neg (fun z => cv z.2)
      rw [if_pos (by omega), gdix (by omega) (by omega), gdix (by omega) (by omega), gs_s, grr_up, ec, nu_self]
  · have ec : yC (ct B) (B 92) s e x = x := if_neg (fun z => cu z.1)
    rw [if_pos (by omega), ec]
theorem m_L84 {B : gH} (hc : cW (ct B)) {x0 : Nat → Int} (hx : yI x0) (v2 v3 v4 : Int) (k : gH → Option gO) : ∀ (m s f : Nat), (s : Int) + (m : Int) = B 83 2 → m < f → f_Mo_foreseen_L84 v2 v3 v4 k f (s : Int) (grr B 105 (gfold (fun s x => yC (ct B) (B 92) s 1 (yC (ct B) (B 92) s 0 x)) s x0)) = k (grr B 105 (yR (ct B) (B 92) x0)) := by
  have hS : 0 ≤ B 83 2 ∧ B 83 2 ≤ 9 := hc.2.1
  intro m
  induction m with
  | zero =>
    intro s f hs hf
    obtain ⟨f, rfl⟩ : ∃ f', f = f' + 1 := ⟨f - 1, by omega⟩
    have es : (ct B 83 2).toNat = s := by rw [ct_83_2]; omega
    have e : yR (ct B) (B 92) x0 = gfold (fun s x => yC (ct B) (B 92) s 1 (yC (ct B) (B 92) s 0 x)) s x0 := by unfold yR; rw [es]
    rw [← e, f_Mo_foreseen_L84, grr_ne (show 83 ≠ 105 by decide), if_pos (by omega)]
  | succ m ih =>
    intro s f hs hf
    obtain ⟨f, rfl⟩ : ∃ f', f = f' + 1 := ⟨f - 1, by omega⟩
    have hsD : (s : Int) < ct B 83 2 := by rw [ct_83_2]; omega
    have hI : yI (gfold (fun s x => yC (ct B) (B 92) s 1 (yC (ct B) (B 92) s 0 x)) s x0) := gfold_inv (fun s x => yC (ct B) (B 92) s 1 (yC (ct B) (B 92) s 0 x)) (fun _ z => yI z) x0 hx (ct B 83 2).toNat (fun j z hj hz => yI_C hc (by omega) (Or.inr rfl) (yI_C hc (by omega) (Or.inl rfl) hz)) s (by omega)
    rw [f_Mo_foreseen_L84, grr_ne (show 83 ≠ 105 by decide), if_neg (by omega), m_come hc hsD (Or.inl rfl) hI, gb_s, m_come hc hsD (Or.inr rfl) (yI_C hc hsD (Or.inl rfl) hI), gb_s, ga_s (by omega)]
    exact ih (s + 1) f (by omega) (by omega)
theorem m_L72 {B : gH} (hc : cW (ct B)) {x0 : Nat → Int} (hx : yI x0) (v2 v3 : Int) (k : gH → Option gO) : ∀ (m i f : Nat), (i : Int) + (m : Int) = B 83 0 → m < f → f_Mo_foreseen_L72 v2 v3 k f (i : Int) (grr B 105 (yT (ct B) (B 92) i x0)) = k (grr B 105 (yT (ct B) (B 92) (B 83 0).toNat x0)) := by
  have hK : 0 ≤ B 83 0 ∧ B 83 0 ≤ 7 := hc.1
  have hS : 0 ≤ B 83 2 ∧ B 83 2 ≤ 9 := hc.2.1
  intro m
  induction m with
  | zero =>
    intro i f hi hf
    obtain ⟨f, rfl⟩ : ∃ f', f = f' + 1 := ⟨f - 1, by omega⟩
    rw [f_Mo_foreseen_L72, grr_ne (show 83 ≠ 105 by decide), if_pos (by omega), show (B 83 0).toNat = i by omega]
  | succ m ih =>
    intro i f hi hf
    obtain ⟨f, rfl⟩ : ∃ f', f = f' + 1 := ⟨f - 1, by omega⟩
    have e := m_L84 hc (yI_T hc (N := B 92) hx i) v2 v3 (i : Int) (fun h20 => f_Mo_foreseen_L72 v2 v3 k f (gadd (i : Int) 1) h20) (B 83 2).toNat 0 50000 (by omega) (by omega)
    rw [f_Mo_foreseen_L72, grr_ne (show 83 ≠ 105 by decide), if_neg (by omega)]
    refine (show _ = _ from e).trans ?_
    show f_Mo_foreseen_L72 v2 v3 k f (gadd (i : Int) 1) (grr B 105 (yT (ct B) (B 92) (i + 1) x0)) = _
    rw [ga_s (by omega)]
    exact ih (i + 1) f (by omega) (by omega)
theorem yX_I {a : Nat} {m : Int} (h0 : 0 ≤ m) (h1 : m ≤ 1000000) (z : Nat → Int) : yI (yX a m z) := by
  intro i hi
  unfold yX
  by_cases c : i = a
  · rw [if_pos c]; exact ⟨h0, h1⟩
  · rw [if_neg c, if_pos hi]; decide
theorem yX_conv {D : gH} (hc : cW D) {N : Nat → Int} {a : Nat} {m : Int} (h0 : 0 ≤ m) (h1 : m ≤ 1000000) (z : Nat → Int) (ha : (a : Int) < D 83 0) : yR D N (yT D N (D 83 0).toNat (yX a m z)) = yT D N (D 83 0).toNat (yX a m z) := by
  have hK := hc.1
  have far : ∀ (n u : Nat), D 83 0 ≤ (u : Int) → u < 7 → yT D N n (yX a m z) u = 1000000 := fun n u h1 h2 => by
    rw [yT_off hc _ h1]
    unfold yX
    rw [if_neg (by omega), if_pos h2]
  refine y_conv hc (yX_I h0 h1 z) (fun n v hv hl => ?_)
  by_cases cv : D 83 0 ≤ (v : Int)
  · rw [far n v cv hv] at hl; omega
  · have := yk_K (L := yT D N n (yX a m z)) (v := v) (K := (D 83 0).toNat) (by omega) (by omega) (fun u h1 h2 => by rw [far n u (by omega) h2]; omega)
    omega
theorem GK_WB {h : gH} {c : Nat} (g : GK h c) : WB (ct h) (h 92) h c := ⟨g.2.2.1.2.2.2.1, g.2.2.2.1.1.1, fun s hs => (g.2.2.2.1.1.2.2.1 s hs).1⟩
theorem op_foreseen {h : gH} (g : GI h) (a b m : Int) : gok (f_DS_foreseen a b m) (f_Mo_foreseen a b m) h := by
  obtain ⟨c, g⟩ := g
  have hgi : GI h := ⟨c, g⟩
  have hK : 0 ≤ h 83 0 ∧ h 83 0 ≤ 7 := g.1.1
  have ka := k_noCorner g
  have ma := m_isCorner hK
  by_cases ca : 0 ≤ a ∧ a < h 83 0
  · by_cases cb : 0 ≤ b ∧ b < h 83 0
    · by_cases cm : 0 ≤ m ∧ m ≤ 999
      · obtain ⟨p, rfl⟩ : ∃ p : Nat, a = (p : Int) := ⟨a.toNat, by omega⟩
        obtain ⟨q, rfl⟩ : ∃ q : Nat, b = (q : Int) := ⟨b.toNat, by omega⟩
        have hpD : (p : Int) < ct h 83 0 := by rw [ct_83_0]; omega
        obtain ⟨j, s1, s2⟩ := k_spread g.1 (GK_WB g) (yX_I (a := p) cm.1 (by omega) (h 70))
        generalize hH : grr h 70 (yT (ct h) (h 92) j (yX p m (h 70))) = H at s1
        have hx : ∀ x, x ≠ 70 → H x = h x := fun x hx => by rw [← hH, grr_ne hx]
        have x83 := hx 83 (by decide)
        have x92 := hx 92 (by decide)
        have hct : ct H = ct h := ct_eq (fun x _ _ => hx x (by omega)) (by rw [x83]) (by rw [x83]) (by rw [x83]) (by rw [x83])
        have hcH : cW (ct H) := by rw [hct]; exact g.1
        have x105 := hx 105 (by decide)
        have cv := yX_conv g.1 (N := h 92) cm.1 (show m ≤ 1000000 by omega) (h 70) hpD
        have e1 : yT (ct h) (h 92) j (yX p m (h 70)) = yT (ct h) (h 92) (h 83 0).toNat (yX p m (h 70)) := yT_one s2 cv
        have e2 : yT (ct h) (h 92) (h 83 0).toNat (yX p m (h 70)) q = yT (ct h) (h 92) (h 83 0).toNat (yX p m (h 105)) q := yT_cg g.1 (fun y hy => by
          unfold yX
          by_cases c1 : y = p
          · rw [if_pos c1, if_pos c1]
          · rw [if_neg c1, if_neg c1, if_pos hy, if_pos hy]) _ q (by omega)
        have hHq : H 70 q = yT (ct h) (h 92) (h 83 0).toNat (yX p m (h 105)) q := by rw [← hH, grr_at, e1, e2]
        generalize hX : yT (ct h) (h 92) (h 83 0).toNat (yX p m (h 105)) = X at hHq
        have kD : f_DS_foreseen (p : Int) (q : Int) m h = some (H, if m + 300 < X q then -1 else X q) := by
          unfold f_DS_foreseen
          rw [ka, gb_s, if_pos ca, if_pos rfl, ka, gb_s, if_pos cb, if_pos rfl, k_out, gb_s, if_pos cm, if_pos rfl, k_setOut (by omega), gb_s, s1, gb_s, gdix (by omega) (by omega), Int.toNat_natCast, hHq, gadd_eq (by omega) (by omega)]
          by_cases cz : m + 300 < X q
          · rw [if_pos cz, if_pos cz]
          · rw [if_neg cz, if_neg cz, gdix (by omega) (by omega)]
        have mL : ∀ k, f_Mo_foreseen_L72 (q : Int) m k 50000 0 (grr H 105 (yX p m (h 105))) = k (grr H 105 X) := fun k => by
          have := m_L72 hcH (yX_I (a := p) cm.1 (show m ≤ 1000000 by omega) (h 105)) (q : Int) m k (H 83 0).toNat 0 50000 (by rw [x83]; omega) (by rw [x83]; omega)
          rw [hct, x92, x83, hX] at this
          exact this
        have mD : f_Mo_foreseen (p : Int) (q : Int) m H = some (grr H 105 X, if m + 300 < X q then -1 else X q) := by
          unfold f_Mo_foreseen
          rw [m_isCorner (by rw [x83]; exact hK), gb_s, x83, if_pos ca, if_neg (by decide), m_isCorner (by rw [x83]; exact hK), gb_s, x83, if_pos cb, if_neg (by decide), m_in, gb_s, if_pos cm, if_neg (by decide), m_setOut (by omega), x105, mL, gdix (by omega) (by omega), Int.toNat_natCast, grr_at, gadd_eq (by omega) (by omega)]
          by_cases cz : m + 300 < X q
          · rw [if_pos cz, if_pos cz]
          · rw [if_neg cz, if_neg cz, gdix (by omega) (by omega)]
        exact ⟨H, _, grr H 105 X, kD, mD, c, GK_try g (fun x h1 h2 h3 h4 => by rw [grr_ne (by omega), hx x h3]) (fun x h1 h2 => by rw [grr_ne (by omega), hx x (by omega)])⟩
      · exact gok_id (r := -1000000002) hgi (by unfold f_DS_foreseen; rw [ka, gb_s, if_pos ca, if_pos rfl, ka, gb_s, if_pos cb, if_pos rfl, k_out, gb_s, if_neg cm, if_neg (by decide)]) (by unfold f_Mo_foreseen; rw [ma, gb_s, if_pos ca, if_neg (by decide), ma, gb_s, if_pos cb, if_neg (by decide), m_in, gb_s, if_neg cm, if_pos rfl])
    · exact gok_id (r := -1000000001) hgi (by unfold f_DS_foreseen; rw [ka, gb_s, if_pos ca, if_pos rfl, ka, gb_s, if_neg cb, if_neg (by decide)]) (by unfold f_Mo_foreseen; rw [ma, gb_s, if_pos ca, if_neg (by decide), ma, gb_s, if_neg cb, if_pos rfl])
  · exact gok_id (r := -1000000001) hgi (by unfold f_DS_foreseen; rw [ka, gb_s, if_neg ca, if_neg (by decide)]) (by unfold f_Mo_foreseen; rw [ma, gb_s, if_neg ca, if_pos rfl])
