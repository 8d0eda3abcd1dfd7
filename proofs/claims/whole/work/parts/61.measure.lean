/- PURE: the class's table of distances -/
def grr (h : gH) (r : Nat) (e : Nat → Int) : gH := fun x => if x = r then e else h x
theorem grr_at (h : gH) (r : Nat) (e : Nat → Int) : grr h r e r = e := if_pos rfl
theorem grr_ne {h : gH} {r : Nat} {e : Nat → Int} {x : Nat} (hx : x ≠ r) : grr h r e x = h x := if_neg hx
theorem grr_self (h : gH) (r : Nat) : grr h r (h r) = h := by
  funext x
  unfold grr
  by_cases e : x = r
  · rw [if_pos e, e]
  · rw [if_neg e]
theorem grr_up (h : gH) (r : Nat) (e : Nat → Int) (k : Nat) (v : Int) : gup (grr h r e) r k v = grr h r (nu e k v) := by
  funext x y
  unfold gup grr nu
  by_cases hx : x = r
  · subst hx
    by_cases hy : y = k
    · rw [if_pos ⟨rfl, hy⟩, if_pos rfl, if_pos hy]
    · rw [if_neg (fun q => hy q.2), if_pos rfl, if_pos rfl, if_neg hy]
  · rw [if_neg (fun q => hx q.1), if_neg hx, if_neg hx]
theorem g7 {a b : Nat} (ha : a < 7) (hb : b < 7) : gadd (gmul (a : Int) 7) (b : Int) = ((7 * a + b : Nat) : Int) := by
  rw [gmul_eq (by omega) (by omega), gadd_eq (by omega) (by omega)]; omega
def sh (e : Nat → Int) (a b : Nat) (v : Int) : Nat → Int := if v < e (7 * a + b) then nu e (7 * a + b) v else e
theorem c_dist {h : gH} {t : Nat} {e : Nat → Int} {a b : Nat} (ha : a < 7) (hb : b < 7) : f_City_distance t (a : Int) (b : Int) (grr h (t + 10) e) = some (grr h (t + 10) e, e (7 * a + b)) := by
  unfold f_City_distance
  rw [g7 ha hb, gdix (by omega) (by omega), Int.toNat_natCast, grr_at]
theorem c_short {h : gH} {t : Nat} {e : Nat → Int} {a b : Nat} (ha : a < 7) (hb : b < 7) (v : Int) : f_City_shorten t (a : Int) (b : Int) v (grr h (t + 10) e) = some (grr h (t + 10) (sh e a b v), 0) := by
  unfold f_City_shorten sh
  rw [c_dist ha hb, gb_s]
  by_cases c1 : e (7 * a + b) ≤ v
  · rw [if_pos c1, if_neg (by omega)]
  · rw [if_neg c1, if_pos (by omega), g7 ha hb, gdix (by omega) (by omega), gs_s, Int.toNat_natCast, grr_up]
theorem sh_le (e : Nat → Int) (a b : Nat) (v : Int) (y : Nat) : sh e a b v y ≤ e y := by
  unfold sh nu
  by_cases c1 : v < e (7 * a + b)
  · rw [if_pos c1]
    by_cases c2 : y = 7 * a + b
    · rw [if_pos c2, c2]; omega
    · rw [if_neg c2]; omega
  · rw [if_neg c1]; omega
theorem sh_at (e : Nat → Int) (a b : Nat) (v : Int) : sh e a b v (7 * a + b) ≤ v := by
  unfold sh
  by_cases c1 : v < e (7 * a + b)
  · rw [if_pos c1, nu_at]; omega
  · rw [if_neg c1]; omega
theorem eJ_sh {A B W : Nat → Int} {K S : Nat} {e : Nat → Int} (hK : K ≤ 7) (hj : eJ A B W K S e) {a b : Nat} (ha : a < K) (hb : b < K) {v : Int} (hv : 0 ≤ v) (hw : v < e (7 * a + b) → ∃ n, Wk A B W S n a b v) : eJ A B W K S (sh e a b v) := by
  unfold sh
  by_cases c1 : v < e (7 * a + b)
  · rw [if_pos c1]
    have hab : a ≠ b := fun q => by
      subst q
      have := (hj a a ha ha).2.1
      omega
    have hbd := (hj a b ha hb).1
    intro x y hx hy
    have h0 := hj x y hx hy
    have e1 : nu e (7 * a + b) v (7 * x + x) = e (7 * x + x) := nu_ne (by omega)
    rw [e1]
    by_cases c2 : 7 * x + y = 7 * a + b
    · have e2 : x = a := by omega
      have e3 : y = b := by omega
      subst e2 e3
      rw [nu_at]
      exact ⟨by omega, h0.2.1, fun _ => hw c1⟩
    · rw [nu_ne c2]; exact h0
  · rw [if_neg c1]; exact hj
/- first: nought and a thousand -/
theorem c_m1i {h : gH} {t K a : Nat} (hK : K ≤ 7) (ha : a < K) (h0 : h t 0 = (K : Int)) (k : gH → Option gO) (e : Nat → Int) : ∃ e', f_City_measure_L12 t (a : Int) k 50000 0 (grr h (t + 10) e) = k (grr h (t + 10) e') ∧ (∀ y, y < 7 * a ∨ 7 * a + 7 ≤ y → e' y = e y) ∧ ∀ b : Nat, b < K → e' (7 * a + b) = if a = b then 0 else 1000 := by
  have key := gloopI (S := Int × gH) (F := fun n x => f_City_measure_L12 t (a : Int) k n x.1 x.2) (K := fun x => k x.2) K (fun j x => x.1 = (j : Int) ∧ ∃ e', x.2 = grr h (t + 10) e' ∧ (∀ y, y < 7 * a ∨ 7 * a + 7 ≤ y → e' y = e y) ∧ ∀ b : Nat, b < j → e' (7 * a + b) = if a = b then 0 else 1000) ?_ ?_ 50000 (0, grr h (t + 10) e) ⟨rfl, e, rfl, fun _ _ => rfl, fun b hb => by omega⟩ (by omega)
  · obtain ⟨s', ⟨-, e', q1, q2, q3⟩, hs2⟩ := key
    rw [q1] at hs2
    exact ⟨e', hs2, q2, q3⟩
  · intro n j x hj hx
    obtain ⟨xi, xh⟩ := x
    obtain ⟨i1, e', i2, i3, i4⟩ := hx
    have i1' : xi = (j : Int) := i1
    have i2' : xh = grr h (t + 10) e' := i2
    subst i1' i2'
    show ∃ s', _ ∧ f_City_measure_L12 t (a : Int) k (n + 1) (j : Int) (grr h (t + 10) e') = _
    rw [f_City_measure_L12, grr_ne (by omega), h0, if_neg (by omega)]
    unfold f_City_measure_J42
    rw [g7 (by omega) (by omega), gdix (by omega) (by omega), gs_s, gs_s, Int.toNat_natCast, grr_up, grr_up, ga_s (by omega)]
    have fin : ∀ v : Int, v = (if a = j then 0 else 1000) → ∃ s' : Int × gH, (s'.1 = ((j + 1 : Nat) : Int) ∧ ∃ e', s'.2 = grr h (t + 10) e' ∧ (∀ y, y < 7 * a ∨ 7 * a + 7 ≤ y → e' y = e y) ∧ ∀ b : Nat, b < j + 1 → e' (7 * a + b) = if a = b then 0 else 1000) ∧ f_City_measure_L12 t (a : Int) k n ((j + 1 : Nat) : Int) (grr h (t + 10) (nu e' (7 * a + j) v)) = f_City_measure_L12 t (a : Int) k n s'.1 s'.2 := fun v hv => by
      refine ⟨(((j + 1 : Nat) : Int), grr h (t + 10) (nu e' (7 * a + j) v)), ⟨rfl, _, rfl, fun y hy => ?_, fun b hb => ?_⟩, rfl⟩
      · rw [nu_ne (by omega)]; exact i3 y hy
      · by_cases q : b = j
        · subst q; rw [nu_at]; exact hv
        · rw [nu_ne (by omega)]; exact i4 b (by omega)
    by_cases c1 : (a : Int) = (j : Int)
    · rw [if_pos c1]
      exact fin 0 (by rw [if_pos (by omega)])
    · rw [if_neg c1, gdix (by omega) (by omega)]
      exact fin 1000 (by rw [if_neg (by omega)])
  · intro n x hx
    obtain ⟨xi, xh⟩ := x
    obtain ⟨i1, e', i2, i3, i4⟩ := hx
    have i1' : xi = (K : Int) := i1
    have i2' : xh = grr h (t + 10) e' := i2
    subst i1' i2'
    show f_City_measure_L12 t (a : Int) k (n + 1) (K : Int) (grr h (t + 10) e') = k (grr h (t + 10) e')
    rw [f_City_measure_L12, grr_ne (by omega), h0, if_pos (by omega)]
theorem c_m1 {h : gH} {t K : Nat} (hK : K ≤ 7) (h0 : h t 0 = (K : Int)) (k : gH → Option gO) (e : Nat → Int) : ∃ e', f_City_measure_L2 t k 50000 0 (grr h (t + 10) e) = k (grr h (t + 10) e') ∧ ∀ a b : Nat, a < K → b < K → e' (7 * a + b) = if a = b then 0 else 1000 := by
  have key := gloopI (S := Int × gH) (F := fun n x => f_City_measure_L2 t k n x.1 x.2) (K := fun x => k x.2) K (fun j x => x.1 = (j : Int) ∧ ∃ e', x.2 = grr h (t + 10) e' ∧ ∀ a b : Nat, a < j → b < K → e' (7 * a + b) = if a = b then 0 else 1000) ?_ ?_ 50000 (0, grr h (t + 10) e) ⟨rfl, e, rfl, fun a b ha hb => by omega⟩ (by omega)
  · obtain ⟨s', ⟨-, e', q1, q2⟩, hs2⟩ := key
    rw [q1] at hs2
    exact ⟨e', hs2, q2⟩
  · intro n j x hj hx
    obtain ⟨xi, xh⟩ := x
    obtain ⟨i1, e', i2, i3⟩ := hx
    have i1' : xi = (j : Int) := i1
    have i2' : xh = grr h (t + 10) e' := i2
    subst i1' i2'
    show ∃ s', _ ∧ f_City_measure_L2 t k (n + 1) (j : Int) (grr h (t + 10) e') = _
    rw [f_City_measure_L2, grr_ne (by omega), h0, if_neg (by omega)]
    obtain ⟨e2, g1, g2, g3⟩ := c_m1i (a := j) hK hj h0 (fun h5 => f_City_measure_L2 t k n (gadd (j : Int) 1) h5) e'
    refine ⟨(((j + 1 : Nat) : Int), grr h (t + 10) e2), ⟨rfl, e2, rfl, fun a b ha hb => ?_⟩, ?_⟩
    · by_cases q : a = j
      · subst q; exact g3 b hb
      · rw [g2 _ (by omega)]; exact i3 a b (by omega) hb
    · rw [g1, ga_s (by omega)]
  · intro n x hx
    obtain ⟨xi, xh⟩ := x
    obtain ⟨i1, e', i2, i3⟩ := hx
    have i1' : xi = (K : Int) := i1
    have i2' : xh = grr h (t + 10) e' := i2
    subst i1' i2'
    show f_City_measure_L2 t k (n + 1) (K : Int) (grr h (t + 10) e') = k (grr h (t + 10) e')
    rw [f_City_measure_L2, grr_ne (by omega), h0, if_pos (by omega)]
/- then the streets -/
def eS (A B W : Nat → Int) (S : Nat) (e : Nat → Int) : Prop := ∀ s : Nat, s < S → e (7 * (A s).toNat + (B s).toNat) ≤ W s ∧ e (7 * (B s).toNat + (A s).toNat) ≤ W s
theorem c_m2 {h : gH} {t K S : Nat} (hg : eGr (h (t + 1)) (h (t + 2)) (h (t + 3)) K S) (h2 : h t 2 = (S : Int)) (k : gH → Option gO) (e : Nat → Int) (hj : eJ (h (t + 1)) (h (t + 2)) (h (t + 3)) K S e) : ∃ e', f_City_measure_L57 t k 50000 0 (grr h (t + 10) e) = k (grr h (t + 10) e') ∧ eJ (h (t + 1)) (h (t + 2)) (h (t + 3)) K S e' ∧ eS (h (t + 1)) (h (t + 2)) (h (t + 3)) S e' := by
  have hK := hg.1
  have hS := hg.2.1
  have key := gloopI (S := Int × gH) (F := fun n x => f_City_measure_L57 t k n x.1 x.2) (K := fun x => k x.2) S (fun j x => x.1 = (j : Int) ∧ ∃ e', x.2 = grr h (t + 10) e' ∧ eJ (h (t + 1)) (h (t + 2)) (h (t + 3)) K S e' ∧ eS (h (t + 1)) (h (t + 2)) (h (t + 3)) j e') ?_ ?_ 50000 (0, grr h (t + 10) e) ⟨rfl, e, rfl, hj, fun s hs => by omega⟩ (by omega)
  · obtain ⟨s', ⟨-, e', q1, q2, q3⟩, hs2⟩ := key
    rw [q1] at hs2
    exact ⟨e', hs2, q2, q3⟩
  · intro n j x hjS hx
    obtain ⟨xi, xh⟩ := x
    obtain ⟨i1, e', i2, i3, i4⟩ := hx
    have i1' : xi = (j : Int) := i1
    have i2' : xh = grr h (t + 10) e' := i2
    subst i1' i2'
    show ∃ s', _ ∧ f_City_measure_L57 t k (n + 1) (j : Int) (grr h (t + 10) e') = _
    obtain ⟨s1, s2, s3, s4⟩ := hg.2.2 j hjS
    obtain ⟨a, ha⟩ : ∃ a : Nat, h (t + 1) j = (a : Int) := ⟨(h (t + 1) j).toNat, by omega⟩
    obtain ⟨b, hb⟩ : ∃ b : Nat, h (t + 2) j = (b : Int) := ⟨(h (t + 2) j).toNat, by omega⟩
    have haK : a < K := by omega
    have hbK : b < K := by omega
    have w1 : Wk (h (t + 1)) (h (t + 2)) (h (t + 3)) S 1 a b (h (t + 3) j) := ⟨b, h (t + 3) j, ⟨j, hjS, rfl, Or.inl ⟨ha, hb⟩⟩, rfl, by omega⟩
    have w2 : Wk (h (t + 1)) (h (t + 2)) (h (t + 3)) S 1 b a (h (t + 3) j) := ⟨a, h (t + 3) j, ⟨j, hjS, rfl, Or.inr ⟨hb, ha⟩⟩, rfl, by omega⟩
    rw [f_City_measure_L57, grr_ne (show t ≠ t + 10 by omega), h2, if_neg (by omega)]
    simp (disch := omega) only [gdix, Int.toNat_natCast, grr_ne]
    rw [ha, hb, c_short (by omega) (by omega), gb_s]
    simp (disch := omega) only [grr_ne]
    rw [ha, hb, c_short (by omega) (by omega), gb_s, ga_s (by omega)]
    have j1 := eJ_sh hK i3 haK hbK (v := h (t + 3) j) (by omega) (fun _ => ⟨1, w1⟩)
    have j2 := eJ_sh hK j1 hbK haK (v := h (t + 3) j) (by omega) (fun _ => ⟨1, w2⟩)
    refine ⟨(((j + 1 : Nat) : Int), _), ⟨rfl, _, rfl, j2, fun s hs => ?_⟩, rfl⟩
    by_cases q : s = j
    · subst q
      rw [ha, hb, Int.toNat_natCast, Int.toNat_natCast]
      refine ⟨?_, sh_at _ _ _ _⟩
      have := sh_le (sh e' a b (h (t + 3) s)) b a (h (t + 3) s) (7 * a + b)
      have := sh_at e' a b (h (t + 3) s)
      omega
    · obtain ⟨z1, z2⟩ := i4 s (by omega)
      have y1 := sh_le (sh e' a b (h (t + 3) j)) b a (h (t + 3) j)
      have y2 := sh_le e' a b (h (t + 3) j)
      exact ⟨Int.le_trans (y1 _) (Int.le_trans (y2 _) z1), Int.le_trans (y1 _) (Int.le_trans (y2 _) z2)⟩
  · intro n x hx
    obtain ⟨xi, xh⟩ := x
    obtain ⟨i1, e', i2, i3⟩ := hx
    have i1' : xi = (S : Int) := i1
    have i2' : xh = grr h (t + 10) e' := i2
    subst i1' i2'
    show f_City_measure_L57 t k (n + 1) (S : Int) (grr h (t + 10) e') = k (grr h (t + 10) e')
    rw [f_City_measure_L57, grr_ne (by omega), h2, if_pos (by omega)]
/- then over each corner -/
def fw (e : Nat → Int) (m a b : Nat) : Int := if e (7 * a + m) + e (7 * m + b) < e (7 * a + b) then e (7 * a + m) + e (7 * m + b) else e (7 * a + b)
def stF (e0 : Nat → Int) (K m a j : Nat) (e : Nat → Int) : Prop := ∀ a' b' : Nat, a' < K → b' < K → e (7 * a' + b') = if a' < a ∨ (a' = a ∧ b' < j) then fw e0 m a' b' else e0 (7 * a' + b')
theorem stF_step {A B W : Nat → Int} {K S m a j : Nat} {e0 e : Nat → Int} (hK : K ≤ 7) (hj0 : eJ A B W K S e0) (hm : m < K) (ha : a < K) (hjK : j < K) (hs : stF e0 K m a j e) : e (7 * a + m) = e0 (7 * a + m) ∧ e (7 * m + j) = e0 (7 * m + j) ∧ stF e0 K m a (j + 1) (sh e a j (e (7 * a + m) + e (7 * m + j))) := by
  have hmm := (hj0 m m hm hm).2.1
  have q1 : ∀ a', a' < K → fw e0 m a' m = e0 (7 * a' + m) := fun a' ha' => by
    unfold fw
    rw [hmm, if_neg (by omega)]
  have q2 : ∀ b', b' < K → fw e0 m m b' = e0 (7 * m + b') := fun b' hb' => by
    unfold fw
    rw [hmm, if_neg (by omega)]
  have e1 : e (7 * a + m) = e0 (7 * a + m) := by
    rw [hs a m ha hm, q1 a ha]
    split <;> rfl
  have e2 : e (7 * m + j) = e0 (7 * m + j) := by
    rw [hs m j hm hjK, q2 j hjK]
    split <;> rfl
  refine ⟨e1, e2, ?_⟩
  rw [e1, e2]
  have e3 : e (7 * a + j) = e0 (7 * a + j) := by
    rw [hs a j ha hjK, if_neg (by omega)]
  intro a' b' ha' hb'
  by_cases c1 : a' = a ∧ b' = j
  · obtain ⟨z1, z2⟩ := c1
    subst z1 z2
    rw [if_pos (by omega)]
    unfold sh fw
    rw [e3]
    by_cases c2 : e0 (7 * a' + m) + e0 (7 * m + b') < e0 (7 * a' + b')
    · rw [if_pos c2, if_pos c2, nu_at]
    · rw [if_neg c2, if_neg c2, e3]
  · have : sh e a j (e0 (7 * a + m) + e0 (7 * m + j)) (7 * a' + b') = e (7 * a' + b') := by
      unfold sh
      split
      · exact nu_ne (by omega)
      · rfl
    rw [this, hs a' b' ha' hb']
    by_cases c2 : a' < a ∨ (a' = a ∧ b' < j)
    · rw [if_pos c2, if_pos (by omega)]
    · rw [if_neg c2, if_neg (by omega)]
def Rd (A B W : Nat → Int) (K S m : Nat) (e : Nat → Int) : Prop := eJ A B W K S e ∧ eS A B W S e ∧ ∀ x a b : Nat, x < m → a < K → b < K → e (7 * a + b) ≤ e (7 * a + x) + e (7 * x + b)
theorem fw_le (e : Nat → Int) (m a b : Nat) : fw e m a b ≤ e (7 * a + b) ∧ fw e m a b ≤ e (7 * a + m) + e (7 * m + b) := by
  unfold fw
  split <;> omega
theorem fw_or (e : Nat → Int) (m a b : Nat) : fw e m a b = e (7 * a + b) ∨ fw e m a b = e (7 * a + m) + e (7 * m + b) := by
  unfold fw
  split
  · exact Or.inr rfl
  · exact Or.inl rfl
theorem Rd_step {A B W : Nat → Int} {K S m : Nat} {e0 e : Nat → Int} (hg : eGr A B W K S) (hm : m < K) (hR : Rd A B W K S m e0) (hs : ∀ a b : Nat, a < K → b < K → e (7 * a + b) = fw e0 m a b) : Rd A B W K S (m + 1) e := by
  obtain ⟨hj, hS, hT⟩ := hR
  have hmm := (hj m m hm hm).2.1
  refine ⟨fun a b ha hb => ?_, fun s hsS => ?_, fun x a b hx ha hb => ?_⟩
  · have h1 := hj a b ha hb
    have h2 := hj a m ha hm
    have h3 := hj m b hm hb
    have h4 := fw_le e0 m a b
    have h5 := fw_le e0 m a a
    have h6 := hj a a ha ha
    have h7 := hj m a hm ha
    rw [hs a b ha hb, hs a a ha ha]
    refine ⟨⟨?_, by omega⟩, ?_, fun hlt => ?_⟩
    · rcases fw_or e0 m a b with q | q <;> omega
    · rcases fw_or e0 m a a with q | q
      · rw [q]; exact h6.2.1
      · omega
    · rcases fw_or e0 m a b with q | q
      · rw [q] at hlt ⊢
        exact h1.2.2 hlt
      · rw [q] at hlt ⊢
        obtain ⟨n1, w1⟩ := h2.2.2 (by omega)
        obtain ⟨n2, w2⟩ := h3.2.2 (by omega)
        exact ⟨n1 + n2, Wk_add n1 n2 a m b _ _ w1 w2⟩
  · obtain ⟨s1, s2, s3, s4⟩ := hg.2.2 s hsS
    obtain ⟨z1, z2⟩ := hS s hsS
    have hA : (A s).toNat < K := by omega
    have hB : (B s).toNat < K := by omega
    rw [hs _ _ hA hB, hs _ _ hB hA]
    exact ⟨Int.le_trans (fw_le e0 m _ _).1 z1, Int.le_trans (fw_le e0 m _ _).1 z2⟩
  · have hxK : x < K := by omega
    rw [hs a b ha hb, hs a x ha hxK, hs x b hxK hb]
    have p0 := fw_le e0 m a b
    by_cases c1 : x = m
    · subst c1
      have p1 : fw e0 x a x = e0 (7 * a + x) := by unfold fw; rw [hmm, if_neg (by omega)]
      have p2 : fw e0 x x b = e0 (7 * x + b) := by unfold fw; rw [hmm, if_neg (by omega)]
      rw [p1, p2]; exact p0.2
    · have t0 := hT x a b (by omega) ha hb
      have t1 := hT x m b (by omega) hm hb
      have t2 := hT x a m (by omega) ha hm
      have n1 := (hj m x hm hxK).1.1
      have n2 := (hj x m hxK hm).1.1
      rcases fw_or e0 m a x with q1 | q1 <;> rcases fw_or e0 m x b with q2 | q2 <;> omega
theorem Rd_eC {A B W : Nat → Int} {K S : Nat} {e : Nat → Int} (hg : eGr A B W K S) (hR : Rd A B W K S K e) : eC A B W K S e := by
  intro u v w h c hc
  obtain ⟨q1, q2, q3, q4, q5⟩ := eG_in hg h
  obtain ⟨s, h1, h2, h3⟩ := h
  have t0 := hR.2.2 v u c q2 q1 hc
  obtain ⟨z1, z2⟩ := hR.2.1 s h1
  rcases h3 with ⟨e1, e2⟩ | ⟨e1, e2⟩
  · rw [e1, e2, Int.toNat_natCast, Int.toNat_natCast] at z1
    omega
  · rw [e1, e2, Int.toNat_natCast, Int.toNat_natCast] at z2
    omega
theorem c_m3b {h : gH} {A B W : Nat → Int} {t K S m a : Nat} (hK : K ≤ 7) (h0 : h t 0 = (K : Int)) (hm : m < K) (ha : a < K) {e0 : Nat → Int} (hj : eJ A B W K S e0) (k : gH → Option gO) (e : Nat → Int) (hs : stF e0 K m a 0 e) : ∃ e', f_City_measure_L137 t (m : Int) (a : Int) k 50000 0 (grr h (t + 10) e) = k (grr h (t + 10) e') ∧ stF e0 K m a K e' := by
  have key := gloopI (S := Int × gH) (F := fun n x => f_City_measure_L137 t (m : Int) (a : Int) k n x.1 x.2) (K := fun x => k x.2) K (fun j x => x.1 = (j : Int) ∧ ∃ e', x.2 = grr h (t + 10) e' ∧ stF e0 K m a j e') ?_ ?_ 50000 (0, grr h (t + 10) e) ⟨rfl, e, rfl, hs⟩ (by omega)
  · obtain ⟨s', ⟨-, e', q1, q2⟩, hs2⟩ := key
    rw [q1] at hs2
    exact ⟨e', hs2, q2⟩
  · intro n j x hjK hx
    obtain ⟨xi, xh⟩ := x
    obtain ⟨i1, e', i2, i3⟩ := hx
    have i1' : xi = (j : Int) := i1
    have i2' : xh = grr h (t + 10) e' := i2
    subst i1' i2'
    show ∃ s', _ ∧ f_City_measure_L137 t (m : Int) (a : Int) k (n + 1) (j : Int) (grr h (t + 10) e') = _
    obtain ⟨z1, z2, z3⟩ := stF_step hK hj hm ha hjK i3
    have b1 := (hj a m ha hm).1
    have b2 := (hj m j hm hjK).1
    rw [f_City_measure_L137, grr_ne (show t ≠ t + 10 by omega), h0, if_neg (by omega), c_dist (by omega) (by omega), gb_s, c_dist (by omega) (by omega), gb_s, gadd_eq (by omega) (by omega), c_short (by omega) (by omega), gb_s, ga_s (by omega)]
    exact ⟨(((j + 1 : Nat) : Int), _), ⟨rfl, _, rfl, z3⟩, rfl⟩
  · intro n x hx
    obtain ⟨xi, xh⟩ := x
    obtain ⟨i1, e', i2, i3⟩ := hx
    have i1' : xi = (K : Int) := i1
    have i2' : xh = grr h (t + 10) e' := i2
    subst i1' i2'
    show f_City_measure_L137 t (m : Int) (a : Int) k (n + 1) (K : Int) (grr h (t + 10) e') = k (grr h (t + 10) e')
    rw [f_City_measure_L137, grr_ne (by omega), h0, if_pos (by omega)]
theorem c_m3a {h : gH} {A B W : Nat → Int} {t K S m : Nat} (hK : K ≤ 7) (h0 : h t 0 = (K : Int)) (hm : m < K) {e0 : Nat → Int} (hj : eJ A B W K S e0) (k : gH → Option gO) : ∃ e', f_City_measure_L127 t (m : Int) k 50000 0 (grr h (t + 10) e0) = k (grr h (t + 10) e') ∧ ∀ a b : Nat, a < K → b < K → e' (7 * a + b) = fw e0 m a b := by
  have key := gloopI (S := Int × gH) (F := fun n x => f_City_measure_L127 t (m : Int) k n x.1 x.2) (K := fun x => k x.2) K (fun j x => x.1 = (j : Int) ∧ ∃ e', x.2 = grr h (t + 10) e' ∧ stF e0 K m j 0 e') ?_ ?_ 50000 (0, grr h (t + 10) e0) ⟨rfl, e0, rfl, fun a' b' _ _ => by rw [if_neg (by omega)]⟩ (by omega)
  · obtain ⟨s', ⟨-, e', q1, q2⟩, hs2⟩ := key
    rw [q1] at hs2
    exact ⟨e', hs2, fun a b ha hb => by rw [q2 a b ha hb, if_pos (Or.inl ha)]⟩
  · intro n j x hjK hx
    obtain ⟨xi, xh⟩ := x
    obtain ⟨i1, e', i2, i3⟩ := hx
    have i1' : xi = (j : Int) := i1
    have i2' : xh = grr h (t + 10) e' := i2
    subst i1' i2'
    show ∃ s', _ ∧ f_City_measure_L127 t (m : Int) k (n + 1) (j : Int) (grr h (t + 10) e') = _
    obtain ⟨e2, z1, z2⟩ := c_m3b hK h0 hm hjK hj (fun h22 => f_City_measure_L127 t (m : Int) k n (gadd (j : Int) 1) h22) e' i3
    rw [f_City_measure_L127, grr_ne (show t ≠ t + 10 by omega), h0, if_neg (by omega), z1, ga_s (by omega)]
    refine ⟨(((j + 1 : Nat) : Int), _), ⟨rfl, _, rfl, fun a' b' ha' hb' => ?_⟩, rfl⟩
    rw [z2 a' b' ha' hb']
    by_cases c1 : a' < j + 1
    · rw [if_pos (by omega), if_pos (by omega)]
    · rw [if_neg (by omega), if_neg (by omega)]
  · intro n x hx
    obtain ⟨xi, xh⟩ := x
    obtain ⟨i1, e', i2, i3⟩ := hx
    have i1' : xi = (K : Int) := i1
    have i2' : xh = grr h (t + 10) e' := i2
    subst i1' i2'
    show f_City_measure_L127 t (m : Int) k (n + 1) (K : Int) (grr h (t + 10) e') = k (grr h (t + 10) e')
    rw [f_City_measure_L127, grr_ne (by omega), h0, if_pos (by omega)]
theorem c_m3 {h : gH} {A B W : Nat → Int} {t K S : Nat} (hg : eGr A B W K S) (h0 : h t 0 = (K : Int)) {e : Nat → Int} (hR : Rd A B W K S 0 e) (k : gH → Option gO) : ∃ e', f_City_measure_L117 t k 50000 0 (grr h (t + 10) e) = k (grr h (t + 10) e') ∧ Rd A B W K S K e' := by
  have hK := hg.1
  have key := gloopI (S := Int × gH) (F := fun n x => f_City_measure_L117 t k n x.1 x.2) (K := fun x => k x.2) K (fun j x => x.1 = (j : Int) ∧ ∃ e', x.2 = grr h (t + 10) e' ∧ Rd A B W K S j e') ?_ ?_ 50000 (0, grr h (t + 10) e) ⟨rfl, e, rfl, hR⟩ (by omega)
  · obtain ⟨s', ⟨-, e', q1, q2⟩, hs2⟩ := key
    rw [q1] at hs2
    exact ⟨e', hs2, q2⟩
  · intro n j x hjK hx
    obtain ⟨xi, xh⟩ := x
    obtain ⟨i1, e', i2, i3⟩ := hx
    have i1' : xi = (j : Int) := i1
    have i2' : xh = grr h (t + 10) e' := i2
    subst i1' i2'
    show ∃ s', _ ∧ f_City_measure_L117 t k (n + 1) (j : Int) (grr h (t + 10) e') = _
    obtain ⟨e2, z1, z2⟩ := c_m3a hK h0 hjK i3.1 (fun h23 => f_City_measure_L117 t k n (gadd (j : Int) 1) h23)
    rw [f_City_measure_L117, grr_ne (show t ≠ t + 10 by omega), h0, if_neg (by omega), z1, ga_s (by omega)]
    exact ⟨(((j + 1 : Nat) : Int), _), ⟨rfl, _, rfl, Rd_step hg hjK i3 z2⟩, rfl⟩
  · intro n x hx
    obtain ⟨xi, xh⟩ := x
    obtain ⟨i1, e', i2, i3⟩ := hx
    have i1' : xi = (K : Int) := i1
    have i2' : xh = grr h (t + 10) e' := i2
    subst i1' i2'
    show f_City_measure_L117 t k (n + 1) (K : Int) (grr h (t + 10) e') = k (grr h (t + 10) e')
    rw [f_City_measure_L117, grr_ne (by omega), h0, if_pos (by omega)]
