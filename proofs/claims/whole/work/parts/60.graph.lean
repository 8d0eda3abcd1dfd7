/- PURE: distances: what a table of them must be -/
def eG (A B W : Nat → Int) (S : Nat) (u v : Nat) (w : Int) : Prop := ∃ s : Nat, s < S ∧ W s = w ∧ ((A s = (u : Int) ∧ B s = (v : Int)) ∨ (B s = (u : Int) ∧ A s = (v : Int)))
def eGr (A B W : Nat → Int) (K S : Nat) : Prop := K ≤ 7 ∧ S ≤ 9 ∧ ∀ s : Nat, s < S → (0 ≤ A s ∧ A s < (K : Int)) ∧ (0 ≤ B s ∧ B s < (K : Int)) ∧ A s ≠ B s ∧ (1 ≤ W s ∧ W s ≤ 9)
theorem eG_in {A B W : Nat → Int} {K S u v : Nat} {w : Int} (hg : eGr A B W K S) (h : eG A B W S u v w) : u < K ∧ v < K ∧ u ≠ v ∧ 1 ≤ w ∧ w ≤ 9 := by
  obtain ⟨s, h1, h2, h3⟩ := h
  have := hg.2.2 s h1
  rcases h3 with ⟨e1, e2⟩ | ⟨e1, e2⟩
  · omega
  · omega
def Wk (A B W : Nat → Int) (S : Nat) : Nat → Nat → Nat → Int → Prop
  | 0, a, b, l => a = b ∧ l = 0
  | n + 1, a, b, l => ∃ v w, eG A B W S a v w ∧ Wk A B W S n v b (l - w)
theorem Wk_add {A B W : Nat → Int} {S : Nat} : ∀ n m a x b l r, Wk A B W S n a x l → Wk A B W S m x b r → Wk A B W S (n + m) a b (l + r) := by
  intro n
  induction n with
  | zero =>
    intro m a x b l r h1 h2
    obtain ⟨e1, e2⟩ := h1
    subst e1 e2
    rw [show 0 + m = m by omega, show (0 : Int) + r = r by omega]
    exact h2
  | succ n ih =>
    intro m a x b l r h1 h2
    obtain ⟨v, w, h3, h4⟩ := h1
    rw [show n + 1 + m = (n + m) + 1 by omega]
    refine ⟨v, w, h3, ?_⟩
    rw [show l + r - w = (l - w) + r by omega]
    exact ih m v x b (l - w) r h4 h2
theorem Wk_in {A B W : Nat → Int} {K S : Nat} (hg : eGr A B W K S) : ∀ n a b l, b < K → Wk A B W S n a b l → a < K := by
  intro n
  cases n with
  | zero =>
    intro a b l hb h
    obtain ⟨e, -⟩ := h
    omega
  | succ n =>
    intro a b l hb h
    obtain ⟨v, w, h3, h4⟩ := h
    exact (eG_in hg h3).1
/- a table of the class: a thousand where there is no way -/
def eJ (A B W : Nat → Int) (K S : Nat) (e : Nat → Int) : Prop := ∀ a b : Nat, a < K → b < K → (0 ≤ e (7 * a + b) ∧ e (7 * a + b) ≤ 1000) ∧ e (7 * a + a) = 0 ∧ (e (7 * a + b) < 1000 → ∃ n, Wk A B W S n a b (e (7 * a + b)))
def eC (A B W : Nat → Int) (K S : Nat) (e : Nat → Int) : Prop := ∀ u v w, eG A B W S u v w → ∀ c : Nat, c < K → e (7 * u + c) ≤ w + e (7 * v + c)
theorem eC_walk {A B W : Nat → Int} {K S : Nat} {e : Nat → Int} (hg : eGr A B W K S) (hj : eJ A B W K S e) (hc : eC A B W K S e) : ∀ n a b l, b < K → Wk A B W S n a b l → e (7 * a + b) ≤ l := by
  intro n
  induction n with
  | zero =>
    intro a b l hb h
    obtain ⟨e1, e2⟩ := h
    subst e1
    have := (hj a a hb hb).2.1
    omega
  | succ n ih =>
    intro a b l hb h
    obtain ⟨v, w, h3, h4⟩ := h
    have h5 := ih v b (l - w) hb h4
    have h6 := hc a v w h3 b hb
    omega
theorem eC_edge {A B W : Nat → Int} {K S : Nat} {e : Nat → Int} (hg : eGr A B W K S) (hj : eJ A B W K S e) (hc : eC A B W K S e) {a b : Nat} (ha : a < K) (hb : b < K) (hab : a ≠ b) (hf : e (7 * a + b) < 1000) : ∃ v w, eG A B W S a v w ∧ e (7 * a + b) = w + e (7 * v + b) := by
  obtain ⟨n, hn⟩ := (hj a b ha hb).2.2 hf
  cases n with
  | zero => exact absurd hn.1 hab
  | succ n =>
    obtain ⟨v, w, h3, h4⟩ := hn
    have h5 := eC_walk hg hj hc n v b _ hb h4
    have h6 := hc a v w h3 b hb
    exact ⟨v, w, h3, by omega⟩
/- how many are nearer -/
def eN (e : Nat → Int) (c : Nat) (x : Int) (K : Nat) : Nat := gfold (fun v n => if e (7 * v + c) < x then n + 1 else n) K 0
theorem eN_le {e : Nat → Int} {c : Nat} {x y : Int} (h : x ≤ y) : ∀ K, eN e c x K ≤ eN e c y K := by
  intro K
  induction K with
  | zero => exact Nat.le_refl _
  | succ K ih =>
    unfold eN at ih ⊢
    rw [gfold_succ, gfold_succ]
    generalize gfold (fun v n => if e (7 * v + c) < x then n + 1 else n) K 0 = p at ih ⊢
    generalize gfold (fun v n => if e (7 * v + c) < y then n + 1 else n) K 0 = q at ih ⊢
    show (if e (7 * K + c) < x then p + 1 else p) ≤ (if e (7 * K + c) < y then q + 1 else q)
    split <;> split <;> omega
theorem eN_lt {e : Nat → Int} {c v : Nat} {x y : Int} (h : x ≤ y) (h1 : ¬ e (7 * v + c) < x) (h2 : e (7 * v + c) < y) : ∀ K, v < K → eN e c x K < eN e c y K := by
  intro K
  induction K with
  | zero => intro hv; omega
  | succ K ih =>
    intro hv
    have hle := eN_le (e := e) (c := c) h K
    unfold eN at ih hle ⊢
    rw [gfold_succ, gfold_succ]
    generalize gfold (fun v n => if e (7 * v + c) < x then n + 1 else n) K 0 = p at ih hle ⊢
    generalize gfold (fun v n => if e (7 * v + c) < y then n + 1 else n) K 0 = q at ih hle ⊢
    show (if e (7 * K + c) < x then p + 1 else p) < (if e (7 * K + c) < y then q + 1 else q)
    by_cases e0 : v = K
    · subst e0
      rw [if_neg h1, if_pos h2]; omega
    · have := ih (by omega)
      split <;> split <;> omega
theorem eN_k {e : Nat → Int} {c a : Nat} {x : Int} (h : ¬ e (7 * a + c) < x) : ∀ K, a < K → eN e c x K < K := by
  have hle : ∀ K, eN e c x K ≤ K := by
    intro K
    induction K with
    | zero => exact Nat.le_refl _
    | succ K ih =>
      unfold eN at ih ⊢
      rw [gfold_succ]
      generalize gfold (fun v n => if e (7 * v + c) < x then n + 1 else n) K 0 = p at ih ⊢
      show (if e (7 * K + c) < x then p + 1 else p) ≤ K + 1
      split <;> omega
  intro K
  induction K with
  | zero => intro hv; omega
  | succ K ih =>
    intro hv
    have h2 := hle K
    unfold eN at ih h2 ⊢
    rw [gfold_succ]
    generalize gfold (fun v n => if e (7 * v + c) < x then n + 1 else n) K 0 = p at ih h2 ⊢
    show (if e (7 * K + c) < x then p + 1 else p) < K + 1
    by_cases e0 : a = K
    · subst e0
      rw [if_neg h]; omega
    · have := ih (by omega)
      split <;> omega
theorem eC_rank {A B W : Nat → Int} {K S : Nat} {e : Nat → Int} (hg : eGr A B W K S) (hj : eJ A B W K S e) (hc : eC A B W K S e) {c : Nat} (hcK : c < K) : ∀ m a : Nat, a < K → e (7 * a + c) < 1000 → e (7 * a + c) ≤ (m : Int) → e (7 * a + c) ≤ 9 * (eN e c (e (7 * a + c)) K : Int) := by
  intro m
  induction m with
  | zero =>
    intro a ha h1 h2
    omega
  | succ m ih =>
    intro a ha h1 h2
    by_cases hac : a = c
    · subst hac
      rw [(hj a a ha ha).2.1]; omega
    · obtain ⟨v, w, h3, h4⟩ := eC_edge hg hj hc ha hcK hac h1
      obtain ⟨q1, q2, q3, q4, q5⟩ := eG_in hg h3
      have h5 := ih v q2 (by omega) (by omega)
      have h6 := eN_lt (e := e) (c := c) (v := v) (x := e (7 * v + c)) (y := e (7 * a + c)) (by omega) (by omega) (by omega) K q2
      omega
theorem eC_54 {A B W : Nat → Int} {K S : Nat} {e : Nat → Int} (hg : eGr A B W K S) (hj : eJ A B W K S e) (hc : eC A B W K S e) {a c : Nat} (ha : a < K) (hcK : c < K) (h1 : e (7 * a + c) < 1000) : e (7 * a + c) ≤ 54 := by
  have h0 := (hj a c ha hcK).1.1
  have h2 := eC_rank hg hj hc hcK (e (7 * a + c)).toNat a ha h1 (by omega)
  have h3 := eN_k (e := e) (c := c) (a := a) (x := e (7 * a + c)) (by omega) K ha
  have := hg.1
  omega
/- the table of the reference: a million where there is no way -/
def eD (e : Nat → Int) (y : Nat) : Int := if e y < 1000 then e y else 1000000
theorem eD_edge {A B W : Nat → Int} {K S : Nat} {e : Nat → Int} (hg : eGr A B W K S) (hj : eJ A B W K S e) (hc : eC A B W K S e) {u v : Nat} {w : Int} (h : eG A B W S u v w) {c : Nat} (hcK : c < K) : eD e (7 * u + c) ≤ w + eD e (7 * v + c) := by
  obtain ⟨q1, q2, q3, q4, q5⟩ := eG_in hg h
  have h1 := hc u v w h c hcK
  have h2 := (hj u c q1 hcK).1
  unfold eD
  by_cases c1 : e (7 * v + c) < 1000
  · have := eC_54 hg hj hc q2 hcK c1
    rw [if_pos c1, if_pos (by omega)]; omega
  · rw [if_neg c1]
    split <;> omega
