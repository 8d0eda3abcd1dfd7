/- PURE: ways with turns foreseen, as functions of the soonest minutes -/
def yE (D : gH) (N : Nat → Int) (s : Nat) (e t : Int) : Int := if N (2 + s) = 4 then (if e = 0 then t else 1000000) else if N (2 + s) = 1 then (if t / D 83 1 % 2 = e then t else (t / D 83 1 + 1) * D 83 1) else t
def yA (D : gH) (s : Nat) (e : Int) : Nat := (if e = 0 then D 84 s else D 85 s).toNat
def yZ (D : gH) (s : Nat) (e : Int) : Nat := (if e = 0 then D 85 s else D 84 s).toNat
def yV (D : gH) (N : Nat → Int) (s : Nat) (e : Int) (x : Nat → Int) : Int := yE D N s e (x (yA D s e)) + D 86 s
def yC (D : gH) (N : Nat → Int) (s : Nat) (e : Int) (x : Nat → Int) : Nat → Int := if x (yA D s e) < 1000000 ∧ yV D N s e x < x (yZ D s e) then nu x (yZ D s e) (yV D N s e x) else x
def yR (D : gH) (N : Nat → Int) (x : Nat → Int) : Nat → Int := gfold (fun s x => yC D N s 1 (yC D N s 0 x)) (D 83 2).toNat x
def yT (D : gH) (N : Nat → Int) (n : Nat) (x : Nat → Int) : Nat → Int := gfold (fun _ x => yR D N x) n x
def yI (x : Nat → Int) : Prop := ∀ i, i < 7 → 0 ≤ x i ∧ x i ≤ 1000000
theorem yAZ {D : gH} (hc : cW D) {s : Nat} (hs : (s : Int) < D 83 2) {e : Int} (he : e = 0 ∨ e = 1) : ((yA D s e : Int) < D 83 0 ∧ (yZ D s e : Int) < D 83 0 ∧ yA D s e ≠ yZ D s e ∧ yA D s e < 7 ∧ yZ D s e < 7) ∧ (if e = 0 then D 84 s else D 85 s) = (yA D s e : Int) ∧ (if e = 0 then D 85 s else D 84 s) = (yZ D s e : Int) := by
  have hK := hc.1
  obtain ⟨⟨a1, a2⟩, ⟨b1, b2⟩, ab, w⟩ := hc.2.2.2.2.2.1 s hs
  unfold yA yZ
  rcases he with rfl | rfl
  · rw [if_pos rfl, if_pos rfl]
    exact ⟨⟨by omega, by omega, by omega, by omega, by omega⟩, by omega, by omega⟩
  · rw [if_neg (by decide), if_neg (by decide)]
    exact ⟨⟨by omega, by omega, by omega, by omega, by omega⟩, by omega, by omega⟩
theorem y_half {D : gH} (hc : cW D) {s : Nat} (hs : (s : Int) < D 83 2) : 0 < D 83 1 ∧ D 83 1 ≤ 60 := ⟨hc.2.2.2.2.1 (by omega), hc.2.2.2.1.2⟩
theorem y_wide {D : gH} (hc : cW D) {s : Nat} (hs : (s : Int) < D 83 2) : 1 ≤ D 86 s ∧ D 86 s ≤ 9 := (hc.2.2.2.2.2.1 s hs).2.2.2
theorem yq {p t : Int} (hp : 0 < p) : p * (t / p) ≤ t ∧ t < p * (t / p) + p ∧ (t / p + 1) * p = p * (t / p) + p := by
  have h1 := Int.emod_add_mul_ediv t p
  have h2 := Int.emod_nonneg t (show p ≠ 0 by omega)
  have h3 := Int.emod_lt_of_pos t hp
  have h4 : (t / p + 1) * p = p * (t / p) + p := by rw [Int.add_mul, Int.one_mul, Int.mul_comm]
  exact ⟨by omega, by omega, h4⟩
theorem yE_ge {D : gH} {N : Nat → Int} {s : Nat} {e t : Int} (hp : 0 < D 83 1) (h1 : t ≤ 1000000) : t ≤ yE D N s e t := by
  obtain ⟨q1, q2, q3⟩ := yq (t := t) hp
  unfold yE
  split
  · split <;> omega
  · split
    · split
      · omega
      · rw [q3]; omega
    · omega
theorem yE_le {D : gH} {N : Nat → Int} {s : Nat} {e t : Int} (hp : 0 < D 83 1) (hp2 : D 83 1 ≤ 60) (h1 : t ≤ 1000000) : yE D N s e t ≤ 1000060 := by
  obtain ⟨q1, q2, q3⟩ := yq (t := t) hp
  unfold yE
  split
  · split <;> omega
  · split
    · split
      · omega
      · rw [q3]; omega
    · omega
theorem yE_mono {D : gH} {N : Nat → Int} {s : Nat} {e t u : Int} (hp : 0 < D 83 1) (h : t ≤ u) (h1 : u ≤ 1000000) : yE D N s e t ≤ yE D N s e u := by
  obtain ⟨q1, q2, q3⟩ := yq (t := t) hp
  obtain ⟨r1, r2, r3⟩ := yq (t := u) hp
  unfold yE
  by_cases c4 : N (2 + s) = 4
  · rw [if_pos c4, if_pos c4]
    split <;> omega
  · rw [if_neg c4, if_neg c4]
    by_cases c1 : N (2 + s) = 1
    · rw [if_pos c1, if_pos c1]
      have hab : t / D 83 1 ≤ u / D 83 1 := Int.ediv_le_ediv hp h
      by_cases e0 : t / D 83 1 = u / D 83 1
      · rw [e0]
        by_cases c : u / D 83 1 % 2 = e
        · rw [if_pos c, if_pos c]; exact h
        · rw [if_neg c, if_neg c]; exact Int.le_refl _
      · have h3 : (t / D 83 1 + 1) * D 83 1 ≤ u / D 83 1 * D 83 1 := Int.mul_le_mul_of_nonneg_right (by omega) (by omega)
        rw [Int.mul_comm (u / D 83 1)] at h3
        have hL : (if t / D 83 1 % 2 = e then t else (t / D 83 1 + 1) * D 83 1) ≤ (t / D 83 1 + 1) * D 83 1 := by
          split
          · rw [q3]; omega
          · exact Int.le_refl _
        have hR : u ≤ (if u / D 83 1 % 2 = e then u else (u / D 83 1 + 1) * D 83 1) := by
          split
          · exact Int.le_refl _
          · rw [r3]; omega
        omega
    · rw [if_neg c1, if_neg c1]; exact h
def yO (D : gH) (N : Nat → Int) (s : Nat) (e t : Int) : Prop := (N (2 + s) = 4 → e = 0) ∧ (N (2 + s) = 1 → t / D 83 1 % 2 = e)
theorem yE_fix {D : gH} {N : Nat → Int} {s : Nat} {e t : Int} (h : yO D N s e t) : yE D N s e t = t := by
  unfold yE
  by_cases c4 : N (2 + s) = 4
  · rw [if_pos c4, if_pos (h.1 c4)]
  · rw [if_neg c4]
    by_cases c1 : N (2 + s) = 1
    · rw [if_pos c1, if_pos (h.2 c1)]
    · rw [if_neg c1]
theorem yE_open {D : gH} {N : Nat → Int} {s : Nat} {e t : Int} (hp : 0 < D 83 1) (he : e = 0 ∨ e = 1) (h : yE D N s e t < 1000000) : yO D N s e (yE D N s e t) := by
  unfold yE at h ⊢
  by_cases c4 : N (2 + s) = 4
  · rw [if_pos c4] at h ⊢
    by_cases c0 : e = 0
    · exact ⟨fun _ => c0, fun z => by omega⟩
    · rw [if_neg c0] at h; omega
  · rw [if_neg c4] at h ⊢
    by_cases c1 : N (2 + s) = 1
    · rw [if_pos c1] at h ⊢
      by_cases c : t / D 83 1 % 2 = e
      · rw [if_pos c]; exact ⟨fun z => by omega, fun _ => c⟩
      · rw [if_neg c]
        refine ⟨fun z => by omega, fun _ => ?_⟩
        rw [Int.mul_ediv_cancel _ (show D 83 1 ≠ 0 by omega)]
        omega
    · rw [if_neg c1]; exact ⟨fun z => by omega, fun z => by omega⟩
theorem yE_to {D : gH} {N : Nat → Int} {s : Nat} {e t u : Int} (hp : 0 < D 83 1) (h : t ≤ u) (h1 : u ≤ 1000000) (ho : yO D N s e u) : yE D N s e t ≤ u := by
  have := yE_mono (D := D) (N := N) (s := s) (e := e) hp h h1
  rw [yE_fix ho] at this
  exact this
/- one street -/
theorem yC_le (D : gH) (N : Nat → Int) (s : Nat) (e : Int) (x : Nat → Int) (y : Nat) : yC D N s e x y ≤ x y := by
  unfold yC
  by_cases c : x (yA D s e) < 1000000 ∧ yV D N s e x < x (yZ D s e)
  · rw [if_pos c]
    by_cases e0 : y = yZ D s e
    · rw [e0, nu_at]; omega
    · rw [nu_ne e0]; exact Int.le_refl _
  · rw [if_neg c]; exact Int.le_refl _
theorem yC_off {D : gH} {N : Nat → Int} {s : Nat} {e : Int} {x : Nat → Int} {y : Nat} (h : y ≠ yZ D s e) : yC D N s e x y = x y := by
  unfold yC
  split
  · exact nu_ne h
  · rfl
theorem yC_rel {D : gH} {N : Nat → Int} {s : Nat} {e : Int} {x : Nat → Int} (h : x (yA D s e) < 1000000) : yC D N s e x (yZ D s e) ≤ yV D N s e x := by
  unfold yC
  by_cases c : x (yA D s e) < 1000000 ∧ yV D N s e x < x (yZ D s e)
  · rw [if_pos c, nu_at]; exact Int.le_refl _
  · rw [if_neg c]; omega
theorem yV_pos {D : gH} (hc : cW D) {N : Nat → Int} {s : Nat} (hs : (s : Int) < D 83 2) {e : Int} (he : e = 0 ∨ e = 1) {x : Nat → Int} (hx : yI x) : x (yA D s e) + 1 ≤ yV D N s e x ∧ yV D N s e x ≤ 1000069 := by
  obtain ⟨p1, p2⟩ := y_half hc hs
  obtain ⟨w1, w2⟩ := y_wide hc hs
  obtain ⟨q1, q2⟩ := hx (yA D s e) (yAZ hc hs he).1.2.2.2.1
  have h1 := yE_ge (N := N) (s := s) (e := e) p1 q2
  have h2 := yE_le (N := N) (s := s) (e := e) p1 p2 q2
  unfold yV
  omega
theorem yI_C {D : gH} (hc : cW D) {N : Nat → Int} {s : Nat} (hs : (s : Int) < D 83 2) {e : Int} (he : e = 0 ∨ e = 1) {x : Nat → Int} (hx : yI x) : yI (yC D N s e x) := by
  intro i hi
  have hv := (yV_pos hc (N := N) hs he hx).1
  have hu := (hx (yA D s e) (yAZ hc hs he).1.2.2.2.1).1
  refine ⟨?_, Int.le_trans (yC_le D N s e x i) (hx i hi).2⟩
  unfold yC
  split
  · by_cases e0 : i = yZ D s e
    · rw [e0, nu_at]; omega
    · rw [nu_ne e0]; exact (hx i hi).1
  · exact (hx i hi).1
/- rounds -/
theorem yR_inv {D : gH} {N : Nat → Int} (P : (Nat → Int) → Prop) (hs : ∀ (s : Nat) (e : Int) (x : Nat → Int), (s : Int) < D 83 2 → (e = 0 ∨ e = 1) → P x → P (yC D N s e x)) {x : Nat → Int} (hx : P x) : P (yR D N x) := by
  unfold yR
  exact gfold_inv (fun s x => yC D N s 1 (yC D N s 0 x)) (fun _ z => P z) x hx (D 83 2).toNat (fun j z hj hz => hs j 1 _ (by omega) (Or.inr rfl) (hs j 0 _ (by omega) (Or.inl rfl) hz)) _ (Nat.le_refl _)
theorem yT_inv {D : gH} {N : Nat → Int} (P : (Nat → Int) → Prop) (hs : ∀ (s : Nat) (e : Int) (x : Nat → Int), (s : Int) < D 83 2 → (e = 0 ∨ e = 1) → P x → P (yC D N s e x)) {x : Nat → Int} (hx : P x) (n : Nat) : P (yT D N n x) := by
  unfold yT
  exact gfold_inv (fun _ x => yR D N x) (fun _ z => P z) x hx n (fun j z hj hz => yR_inv P hs hz) _ (Nat.le_refl _)
theorem yR_le (D : gH) (N : Nat → Int) (x : Nat → Int) (y : Nat) : yR D N x y ≤ x y := yR_inv (fun z => z y ≤ x y) (fun s e z _ _ hz => Int.le_trans (yC_le D N s e z y) hz) (Int.le_refl _)
theorem yI_R {D : gH} (hc : cW D) {N : Nat → Int} {x : Nat → Int} (hx : yI x) : yI (yR D N x) := yR_inv yI (fun _ _ _ hs he hz => yI_C hc hs he hz) hx
theorem yI_T {D : gH} (hc : cW D) {N : Nat → Int} {x : Nat → Int} (hx : yI x) (n : Nat) : yI (yT D N n x) := yT_inv yI (fun _ _ _ hs he hz => yI_C hc hs he hz) hx n
theorem yR_off {D : gH} (hc : cW D) {N : Nat → Int} (x : Nat → Int) {y : Nat} (hy : D 83 0 ≤ (y : Int)) : yR D N x y = x y := yR_inv (fun z => z y = x y) (fun s e z hs he hz => by
  have := (yAZ hc hs he).1.2.1
  rw [yC_off (by omega)]; exact hz) rfl
theorem yT_off {D : gH} (hc : cW D) {N : Nat → Int} (x : Nat → Int) {y : Nat} (hy : D 83 0 ≤ (y : Int)) (n : Nat) : yT D N n x y = x y := yT_inv (fun z => z y = x y) (fun s e z hs he hz => by
  have := (yAZ hc hs he).1.2.1
  rw [yC_off (by omega)]; exact hz) rfl n
theorem yT_succ (D : gH) (N : Nat → Int) (n : Nat) (x : Nat → Int) : yT D N (n + 1) x = yR D N (yT D N n x) := rfl
theorem yT_shift (D : gH) (N : Nat → Int) (n : Nat) (x : Nat → Int) : yT D N (n + 1) x = yT D N n (yR D N x) := by
  induction n with
  | zero => rfl
  | succ n ih => rw [yT_succ, ih, yT_succ]
theorem yT_mono (D : gH) (N : Nat → Int) (x : Nat → Int) (i d y : Nat) : yT D N (i + d) x y ≤ yT D N i x y := by
  induction d with
  | zero => exact Int.le_refl _
  | succ d ih => exact Int.le_trans (yR_le D N (yT D N (i + d) x) y) ih
theorem yT_fix {D : gH} {N : Nat → Int} {x : Nat → Int} {n : Nat} (h : yR D N (yT D N n x) = yT D N n x) (d : Nat) : yT D N (n + d) x = yT D N n x := by
  induction d with
  | zero => rfl
  | succ d ih =>
    show yR D N (yT D N (n + d) x) = yT D N n x
    rw [ih]; exact h
theorem yT_one {D : gH} {N : Nat → Int} {x : Nat → Int} {i j : Nat} (hi : yR D N (yT D N i x) = yT D N i x) (hj : yR D N (yT D N j x) = yT D N j x) : yT D N i x = yT D N j x := by
  by_cases c : i ≤ j
  · obtain ⟨d, rfl⟩ : ∃ d, j = i + d := ⟨j - i, by omega⟩
    exact (yT_fix hi d).symm
  · obtain ⟨d, rfl⟩ : ∃ d, i = j + d := ⟨i - j, by omega⟩
    exact yT_fix hj d
theorem yR_rel {D : gH} (hc : cW D) {N : Nat → Int} {x : Nat → Int} (hx : yI x) {s : Nat} (hs : (s : Int) < D 83 2) {e : Int} (he : e = 0 ∨ e = 1) (hu : x (yA D s e) < 1000000) : yR D N x (yZ D s e) ≤ yE D N s e (x (yA D s e)) + D 86 s := by
  have hS := hc.2.1
  obtain ⟨p1, p2⟩ := y_half hc hs
  have key := gfold_inv (fun s x => yC D N s 1 (yC D N s 0 x)) (fun j z => (∀ y, z y ≤ x y) ∧ yI z ∧ (s < j → z (yZ D s e) ≤ yE D N s e (x (yA D s e)) + D 86 s)) x ⟨fun _ => Int.le_refl _, hx, fun h => by omega⟩ (D 83 2).toNat (fun j z hj hz => by
    obtain ⟨z1, z2, z3⟩ := hz
    have hjS : (j : Int) < D 83 2 := by omega
    have i1 := yI_C hc (N := N) hjS (Or.inl rfl) z2
    have l1 : ∀ y, yC D N j 0 z y ≤ x y := fun y => Int.le_trans (yC_le D N j 0 z y) (z1 y)
    have step : ∀ w : Nat → Int, yI w → (∀ y, w y ≤ x y) → yC D N s e w (yZ D s e) ≤ yE D N s e (x (yA D s e)) + D 86 s := fun w hw hl => by
      have h1 := hl (yA D s e)
      have h2 := yC_rel (D := D) (N := N) (s := s) (e := e) (x := w) (by omega)
      have h3 := yE_mono (D := D) (N := N) (s := s) (e := e) p1 h1 (by omega)
      unfold yV at h2
      omega
    refine ⟨fun y => Int.le_trans (yC_le D N j 1 _ y) (l1 y), yI_C hc hjS (Or.inr rfl) i1, fun h => ?_⟩
    by_cases ej : j = s
    · subst ej
      rcases he with rfl | rfl
      · exact Int.le_trans (yC_le D N j 1 _ _) (step z z2 z1)
      · exact step _ i1 l1
    · exact Int.le_trans (yC_le D N j 1 _ _) (Int.le_trans (yC_le D N j 0 z _) (z3 (by omega)))) (D 83 2).toNat (Nat.le_refl _)
  exact key.2.2 (by omega)
theorem gfold_dn {f : Nat → (Nat → Int) → (Nat → Int)} (hf : ∀ j x y, f j x y ≤ x y) (a : Nat → Int) (j d y : Nat) : gfold f (j + d) a y ≤ gfold f j a y := by
  induction d with
  | zero => exact Int.le_refl _
  | succ d ih => exact Int.le_trans (hf (j + d) _ y) ih
def yK (D : gH) (N x : Nat → Int) : Prop := ∀ (s : Nat) (e : Int), (s : Int) < D 83 2 → (e = 0 ∨ e = 1) → x (yA D s e) < 1000000 → x (yZ D s e) ≤ yV D N s e x
theorem yR_closed {D : gH} {N : Nat → Int} {x : Nat → Int} (h : yR D N x = x) : yK D N x := by
  intro s e hs he hu
  have hf : ∀ (j : Nat) (z : Nat → Int) (y : Nat), yC D N j 1 (yC D N j 0 z) y ≤ z y := fun j z y => Int.le_trans (yC_le D N j 1 _ y) (yC_le D N j 0 z y)
  have hall : ∀ j, j ≤ (D 83 2).toNat → gfold (fun s x => yC D N s 1 (yC D N s 0 x)) j x = x := by
    intro j hj
    funext y
    have h1 := gfold_dn (f := fun s x => yC D N s 1 (yC D N s 0 x)) hf x 0 j y
    have h2 := gfold_dn (f := fun s x => yC D N s 1 (yC D N s 0 x)) hf x j ((D 83 2).toNat - j) y
    rw [show j + ((D 83 2).toNat - j) = (D 83 2).toNat by omega] at h2
    have h3 : gfold (fun s x => yC D N s 1 (yC D N s 0 x)) (D 83 2).toNat x = x := h
    rw [h3] at h2
    rw [Nat.zero_add] at h1
    have h1' : gfold (fun s x => yC D N s 1 (yC D N s 0 x)) j x y ≤ x y := h1
    omega
  have h4 := hall (s + 1) (by omega)
  rw [gfold_succ, hall s (by omega)] at h4
  have h4' : yC D N s 1 (yC D N s 0 x) = x := h4
  have h5 : yC D N s 0 x = x := by
    funext y
    have a1 := yC_le D N s 0 x y
    have a2 := yC_le D N s 1 (yC D N s 0 x) y
    rw [h4'] at a2
    omega
  rw [h5] at h4'
  have h6 : yC D N s e x = x := by
    rcases he with rfl | rfl
    · exact h5
    · exact h4'
  have := yC_rel (D := D) (N := N) (s := s) (e := e) (x := x) hu
  rw [h6] at this
  exact this
def yS (x : Nat → Int) : Int := x 0 + x 1 + x 2 + x 3 + x 4 + x 5 + x 6
theorem yR_less {D : gH} (hc : cW D) {N : Nat → Int} {x : Nat → Int} (h : yR D N x ≠ x) : yS (yR D N x) + 1 ≤ yS x := by
  have hK := hc.1
  have l := yR_le D N x
  have l0 := l 0
  have l1 := l 1
  have l2 := l 2
  have l3 := l 3
  have l4 := l 4
  have l5 := l 5
  have l6 := l 6
  unfold yS
  by_cases c : yR D N x 0 = x 0 ∧ yR D N x 1 = x 1 ∧ yR D N x 2 = x 2 ∧ yR D N x 3 = x 3 ∧ yR D N x 4 = x 4 ∧ yR D N x 5 = x 5 ∧ yR D N x 6 = x 6
  · exfalso
    refine h (funext (fun y => ?_))
    obtain ⟨c0, c1, c2, c3, c4, c5, c6⟩ := c
    by_cases hy : y < 7
    · have : y = 0 ∨ y = 1 ∨ y = 2 ∨ y = 3 ∨ y = 4 ∨ y = 5 ∨ y = 6 := by omega
      rcases this with rfl | rfl | rfl | rfl | rfl | rfl | rfl <;> assumption
    · exact yR_off hc x (by omega)
  · omega
theorem yS_nn {x : Nat → Int} (hx : yI x) : 0 ≤ yS x := by
  have h0 := hx 0 (by omega)
  have h1 := hx 1 (by omega)
  have h2 := hx 2 (by omega)
  have h3 := hx 3 (by omega)
  have h4 := hx 4 (by omega)
  have h5 := hx 5 (by omega)
  have h6 := hx 6 (by omega)
  unfold yS
  omega
theorem y_lim {D : gH} (hc : cW D) {N : Nat → Int} : ∀ (k : Nat) (x : Nat → Int), yI x → yS x ≤ (k : Int) → ∃ n, yR D N (yT D N n x) = yT D N n x := by
  intro k
  induction k with
  | zero =>
    intro x hx hk
    by_cases c : yR D N x = x
    · exact ⟨0, c⟩
    · have h1 := yR_less hc c
      have h2 := yS_nn (yI_R hc (N := N) hx)
      omega
  | succ k ih =>
    intro x hx hk
    by_cases c : yR D N x = x
    · exact ⟨0, c⟩
    · have h1 := yR_less hc c
      obtain ⟨n, hn⟩ := ih (yR D N x) (yI_R hc hx) (by omega)
      exact ⟨n + 1, by rw [yT_shift]; exact hn⟩
def yJ (D : gH) (N x0 x : Nat → Int) : Prop := ∀ v : Nat, v < 7 → x v = x0 v ∨ ∃ (s : Nat) (e t : Int), (s : Int) < D 83 2 ∧ (e = 0 ∨ e = 1) ∧ yZ D s e = v ∧ x (yA D s e) ≤ t ∧ t < 1000000 ∧ x v = yE D N s e t + D 86 s
theorem yJ_C {D : gH} (hc : cW D) {N x0 x : Nat → Int} {s : Nat} {e : Int} (hs : (s : Int) < D 83 2) (he : e = 0 ∨ e = 1) (hj : yJ D N x0 x) : yJ D N x0 (yC D N s e x) := by
  intro v hv
  by_cases c : x (yA D s e) < 1000000 ∧ yV D N s e x < x (yZ D s e)
  · have ec : yC D N s e x = nu x (yZ D s e) (yV D N s e x) := if_pos c
    by_cases ev : v = yZ D s e
    · refine Or.inr ⟨s, e, x (yA D s e), hs, he, ev.symm, yC_le D N s e x _, c.1, ?_⟩
      rw [ec, ev, nu_at]; rfl
    · rw [ec, nu_ne ev]
      rcases hj v hv with z | ⟨s', e', t, a1, a2, a3, a4, a5, a6⟩
      · exact Or.inl z
      · refine Or.inr ⟨s', e', t, a1, a2, a3, Int.le_trans ?_ a4, a5, a6⟩
        rw [← ec]; exact yC_le D N s e x _
  · have ec : yC D N s e x = x := if_neg c
    rw [ec]; exact hj v hv
def yk (L : Nat → Int) (v : Nat) : Nat := eN (fun y => L (y / 7)) 0 (L v) 7
theorem yk_lt {L : Nat → Int} {u v : Nat} (hu : u < 7) (h : L u < L v) : yk L u < yk L v := by
  have e : (7 * u + 0) / 7 = u := by omega
  refine eN_lt (v := u) (by omega) ?_ ?_ 7 hu
  · show ¬ L ((7 * u + 0) / 7) < L u
    rw [e]; omega
  · show L ((7 * u + 0) / 7) < L v
    rw [e]; exact h
theorem yk_K {L : Nat → Int} {v K : Nat} (hK : K ≤ 7) (hv : v < K) (h : ∀ u, K ≤ u → u < 7 → ¬ L u < L v) : yk L v < K := by
  have e1 : yk L v = eN (fun y => L (y / 7)) 0 (L v) K := by
    unfold yk eN
    refine gfold_stop hK (fun i x h1 h2 => ?_)
    have e : (7 * i + 0) / 7 = i := by omega
    show (if L ((7 * i + 0) / 7) < L v then x + 1 else x) = x
    rw [e, if_neg (h i h1 h2)]
  rw [e1]
  refine eN_k (a := v) ?_ K hv
  have e : (7 * v + 0) / 7 = v := by omega
  show ¬ L ((7 * v + 0) / 7) < L v
  rw [e]; omega
theorem y_settle {D : gH} (hc : cW D) {N x0 : Nat → Int} (hx : yI x0) {n : Nat} : ∀ (i v : Nat), v < 7 → yk (yT D N n x0) v ≤ i → yT D N i x0 v ≤ yT D N n x0 v := by
  have hI := yI_T hc (N := N) hx n
  have hJ : yJ D N x0 (yT D N n x0) := yT_inv (yJ D N x0) (fun s e z hs he hz => yJ_C hc hs he hz) (fun v hv => Or.inl rfl) n
  generalize yT D N n x0 = L at hI hJ ⊢
  have pre : ∀ v, v < 7 → L v = x0 v ∨ ∃ (s : Nat) (e : Int), (s : Int) < D 83 2 ∧ (e = 0 ∨ e = 1) ∧ yZ D s e = v ∧ L (yA D s e) < 1000000 ∧ L (yA D s e) < L v ∧ yE D N s e (L (yA D s e)) + D 86 s ≤ L v := by
    intro v hv
    rcases hJ v hv with z | ⟨s, e, t, a1, a2, a3, a4, a5, a6⟩
    · exact Or.inl z
    · obtain ⟨p1, p2⟩ := y_half hc a1
      obtain ⟨w1, w2⟩ := y_wide hc a1
      have h1 := yE_ge (N := N) (s := s) (e := e) p1 (show t ≤ 1000000 by omega)
      have h2 := yE_mono (D := D) (N := N) (s := s) (e := e) p1 a4 (by omega)
      exact Or.inr ⟨s, e, a1, a2, a3, by omega, by omega, by omega⟩
  intro i
  induction i with
  | zero =>
    intro v hv hk
    rcases pre v hv with z | ⟨s, e, a1, a2, a3, a4, a5, a6⟩
    · rw [z]; exact Int.le_refl _
    · have := yk_lt (L := L) (yAZ hc a1 a2).1.2.2.2.1 a5
      omega
  | succ i ih =>
    intro v hv hk
    rcases pre v hv with z | ⟨s, e, a1, a2, a3, a4, a5, a6⟩
    · rw [z]
      have := yT_mono D N x0 0 (i + 1) v
      rw [Nat.zero_add] at this
      exact this
    · have h7 := (yAZ hc a1 a2).1.2.2.2.1
      have hlt := yk_lt (L := L) h7 a5
      have hi := ih (yA D s e) h7 (by omega)
      obtain ⟨p1, p2⟩ := y_half hc a1
      have h1 := yR_rel hc (N := N) (yI_T hc (N := N) hx i) a1 a2 (by omega)
      have h2 := yE_mono (D := D) (N := N) (s := s) (e := e) p1 hi (by omega)
      rw [yT_succ, ← a3]
      rw [a3] at h1 ⊢
      omega
theorem y_conv {D : gH} (hc : cW D) {N x0 : Nat → Int} (hx : yI x0) {j : Nat} (hr : ∀ n v, v < 7 → yT D N n x0 v < 1000000 → yk (yT D N n x0) v ≤ j) : yR D N (yT D N j x0) = yT D N j x0 := by
  obtain ⟨n, hn⟩ := y_lim hc (N := N) (yS x0).toNat x0 hx (by have := yS_nn hx; omega)
  by_cases c : n ≤ j
  · obtain ⟨d, rfl⟩ : ∃ d, j = n + d := ⟨j - n, by omega⟩
    rw [yT_fix hn d]; exact hn
  · obtain ⟨d, rfl⟩ : ∃ d, n = j + d := ⟨n - j, by omega⟩
    have hK := hc.1
    have e : yT D N j x0 = yT D N (j + d) x0 := by
      funext v
      have h1 := yT_mono D N x0 j d v
      by_cases hv : v < 7
      · by_cases hL : yT D N (j + d) x0 v < 1000000
        · have := y_settle hc (N := N) hx (n := j + d) j v hv (hr _ v hv hL)
          omega
        · have := (yI_T hc (N := N) hx j v hv).2
          omega
      · rw [yT_off hc x0 (by omega), yT_off hc x0 (by omega)]
    rw [e]; exact hn
theorem y_conv7 {D : gH} (hc : cW D) {N x0 : Nat → Int} (hx : yI x0) : yR D N (yT D N 7 x0) = yT D N 7 x0 := y_conv hc hx (fun n v hv _ => by
  have := yk_K (L := yT D N n x0) (Nat.le_refl 7) hv (fun u h1 h2 => by omega)
  omega)
/- only the first seven count -/
theorem yC_cg {D : gH} (hc : cW D) {N x z : Nat → Int} {s : Nat} {e : Int} (hs : (s : Int) < D 83 2) (he : e = 0 ∨ e = 1) (h : ∀ y, y < 7 → x y = z y) : ∀ y, y < 7 → yC D N s e x y = yC D N s e z y := by
  obtain ⟨⟨-, -, -, a1, a2⟩, -⟩ := yAZ hc hs he
  intro y hy
  unfold yC yV
  rw [h _ a1, h _ a2]
  by_cases c : z (yA D s e) < 1000000 ∧ yE D N s e (z (yA D s e)) + D 86 s < z (yZ D s e)
  · rw [if_pos c, if_pos c]
    by_cases e0 : y = yZ D s e
    · rw [e0, nu_at, nu_at]
    · rw [nu_ne e0, nu_ne e0]; exact h y hy
  · rw [if_neg c, if_neg c]; exact h y hy
theorem yT_cg {D : gH} (hc : cW D) {N x z : Nat → Int} (h : ∀ y, y < 7 → x y = z y) (n : Nat) : ∀ y, y < 7 → yT D N n x y = yT D N n z y := by
  induction n with
  | zero => exact h
  | succ n ih =>
    rw [yT_succ, yT_succ]
    generalize yT D N n x = x at ih ⊢
    generalize yT D N n z = z at ih ⊢
    unfold yR
    have hS := hc.2.1
    exact gfold_inv (fun s x => yC D N s 1 (yC D N s 0 x)) (fun j w => ∀ y, y < 7 → w y = gfold (fun s x => yC D N s 1 (yC D N s 0 x)) j z y) x ih (D 83 2).toNat (fun j w hj hw => by
      rw [gfold_succ]
      exact yC_cg hc (by omega) (Or.inr rfl) (yC_cg hc (by omega) (Or.inl rfl) hw)) _ (Nat.le_refl _)
