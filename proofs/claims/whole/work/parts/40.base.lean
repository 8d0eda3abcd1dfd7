/- PURE: numbers, guards, loops, sets of carts -/
theorem gd_t {c : Bool} {x : Option gO} (h : c = true) : gd c x = x := by rw [gd, if_pos h]
theorem gix_t {n : Nat} {i : Int} (h0 : 0 ≤ i) (h1 : i < (n : Int)) : gix n i = true := by
  unfold gix
  rw [decide_eq_true h0, decide_eq_true h1]; rfl
theorem gdix {n : Nat} {i : Int} {x : Option gO} (h0 : 0 ≤ i) (h1 : i < (n : Int)) : gd (gix n i) x = x := gd_t (gix_t h0 h1)
theorem gdnz {b : Int} {x : Option gO} (h : b ≠ 0) : gd (gnz b) x = x := gd_t (decide_eq_true h)
theorem gdz0 {x : Option gO} : gd (gz 0) x = x := rfl
theorem gdz1 {x : Option gO} : gd (gz 1) x = x := rfl
theorem gdz {r : Int} {x : Option gO} (h : r = 0 ∨ r = 1) : gd (gz r) x = x := gd_t (decide_eq_true h)
theorem gdcl {i ci : Nat} {x : Option gO} (h : gsh i = .inr ci) : gd (gcl i ci) x = x := gd_t (decide_eq_true h)
theorem gb_s (h : gH) (r : Int) (k : gH → Int → Option gO) : gb (some (h, r)) k = k h r := rfl
theorem gs_s (h : gH) (k : gH → Option gO) : gs h k = k h := rfl
theorem gadd_eq {a b : Int} (h1 : -2147483648 ≤ a + b) (h2 : a + b ≤ 2147483647) : gadd a b = a + b := by
  unfold gadd
  rw [← Int32.ofInt_add]
  exact g32 ⟨h1, h2⟩
theorem gsub_eq {a b : Int} (h1 : -2147483648 ≤ a - b) (h2 : a - b ≤ 2147483647) : gsub a b = a - b := by
  unfold gsub
  rw [← Int32.ofInt_sub]
  exact g32 ⟨h1, h2⟩
theorem gmul_eq {a b : Int} (h1 : -2147483648 ≤ a * b) (h2 : a * b ≤ 2147483647) : gmul a b = a * b := by
  unfold gmul
  rw [← Int32.ofInt_mul]
  exact g32 ⟨h1, h2⟩
theorem gdiv_eq {a b : Int} (ha : 0 ≤ a) (ha2 : a ≤ 2147483647) (hb : 0 < b) (hb2 : b ≤ 2147483647) : gdiv a b = a / b := by
  unfold gdiv
  have e : Int32.ofInt a / Int32.ofInt b = Int32.ofInt (a / b) := by
    rw [← Int32.toInt_inj, Int32.toInt_div, g32 ⟨by omega, by omega⟩, g32 ⟨by omega, by omega⟩, Int.tdiv_eq_ediv_of_nonneg ha, Int32.toInt_ofInt]
  rw [e]
  have h1 : 0 ≤ a / b := Int.ediv_nonneg ha (by omega)
  have h2 : a / b ≤ a := Int.ediv_le_self _ ha
  exact g32 ⟨by omega, by omega⟩
theorem grem_eq {a b : Int} (ha : 0 ≤ a) (ha2 : a ≤ 2147483647) (hb : 0 < b) (hb2 : b ≤ 2147483647) : grem a b = a % b := by
  unfold grem
  have e := gdiv_eq ha ha2 hb hb2
  unfold gdiv at e
  have e2 : Int32.ofInt a / Int32.ofInt b = Int32.ofInt (a / b) := by rw [← e, Int32.ofInt_toInt]
  rw [e2, ← Int32.ofInt_mul, ← Int32.ofInt_sub]
  have h3 : a - a / b * b = a % b := by have := Int.emod_add_mul_ediv a b; rw [Int.mul_comm]; omega
  rw [h3]
  have h1 := Int.emod_nonneg a (show b ≠ 0 by omega)
  have h2 := Int.emod_lt_of_pos a hb
  exact g32 ⟨by omega, by omega⟩
theorem gupd {h : gH} {a k : Nat} {v : Int} {x y : Nat} : gup h a k v x y = if x = a ∧ y = k then v else h x y := rfl
/- loops -/
theorem gloop {S : Type} (F : Nat → S → Option gO) (K : S → Option gO) (B : Nat) (σ : Nat → S) (hs : ∀ n j, j < B → F (n + 1) (σ j) = F n (σ (j + 1))) (he : ∀ n, F (n + 1) (σ B) = K (σ B)) : ∀ n, B < n → F n (σ 0) = K (σ B) := by
  have key : ∀ m j, j + m = B → ∀ n, m < n → F n (σ j) = K (σ B) := by
    intro m
    induction m with
    | zero =>
      intro j hj n hn
      have : j = B := by omega
      subst this
      obtain ⟨n', rfl⟩ : ∃ n', n = n' + 1 := ⟨n - 1, by omega⟩
      exact he n'
    | succ m ih =>
      intro j hj n hn
      obtain ⟨n', rfl⟩ : ∃ n', n = n' + 1 := ⟨n - 1, by omega⟩
      rw [hs n' j (by omega)]
      exact ih (j + 1) (by omega) n' (by omega)
  intro n hn
  exact key B 0 (by omega) n hn
theorem gloopI {S : Type} (F : Nat → S → Option gO) (K : S → Option gO) (B : Nat) (I : Nat → S → Prop) (hs : ∀ n j s, j < B → I j s → ∃ s', I (j + 1) s' ∧ F (n + 1) s = F n s') (he : ∀ n s, I B s → F (n + 1) s = K s) : ∀ n s, I 0 s → B < n → ∃ s', I B s' ∧ F n s = K s' := by
  have key : ∀ m j, j + m = B → ∀ n s, I j s → m < n → ∃ s', I B s' ∧ F n s = K s' := by
    intro m
    induction m with
    | zero =>
      intro j hj n s hi hn
      have : j = B := by omega
      subst this
      obtain ⟨n', rfl⟩ : ∃ n', n = n' + 1 := ⟨n - 1, by omega⟩
      exact ⟨s, hi, he n' s hi⟩
    | succ m ih =>
      intro j hj n s hi hn
      obtain ⟨n', rfl⟩ : ∃ n', n = n' + 1 := ⟨n - 1, by omega⟩
      obtain ⟨s', h1, h2⟩ := hs n' j s (by omega) hi
      rw [h2]
      exact ih (j + 1) (by omega) n' s' h1 (by omega)
  intro n s hi hn
  exact key B 0 (by omega) n s hi hn
def gfold {α : Type} (f : Nat → α → α) : Nat → α → α
  | 0, a => a
  | n + 1, a => f n (gfold f n a)
/- sets of at most six carts, as ints below 64 -/
def gbit (m : Int) (k : Nat) : Bool := m.toNat.testBit k
def gset6 (m : Int) : Prop := 0 ≤ m ∧ m < 64
theorem gb_shl : ∀ k : Nat, k < 6 → gshl 1 (k : Int) = ((2 ^ k : Nat) : Int) := by decide +kernel
theorem gb_or : ∀ m : Nat, m < 64 → ∀ k : Nat, k < 6 → gset6 (gor (m : Int) (gshl 1 (k : Int))) ∧ ∀ j : Nat, j < 6 → gbit (gor (m : Int) (gshl 1 (k : Int))) j = (gbit (m : Int) j || decide (j = k)) := by
  unfold gset6
  decide +kernel
theorem gb_clr : ∀ m : Nat, m < 64 → ∀ k : Nat, k < 6 → gset6 (gand (m : Int) (gxor (gshl 1 (k : Int)) (-1))) ∧ ∀ j : Nat, j < 6 → gbit (gand (m : Int) (gxor (gshl 1 (k : Int)) (-1))) j = (gbit (m : Int) j && !decide (j = k)) := by
  unfold gset6
  decide +kernel
theorem gb_at : ∀ m : Nat, m < 64 → ∀ k : Nat, k < 6 → (gand (gshr (m : Int) (k : Int)) 1 = 1 ↔ gbit (m : Int) k = true) := by decide +kernel
theorem gb_sh0 : ∀ m : Nat, m < 64 → ∀ k : Nat, k < 7 → (gshr (m : Int) (k : Int) = 0 ↔ ∀ j : Nat, j < 6 → k ≤ j → gbit (m : Int) j = false) := by decide +kernel
theorem gb_ext : ∀ m : Nat, m < 64 → ∀ m' : Nat, m' < 64 → (∀ j : Nat, j < 6 → gbit (m : Int) j = gbit (m' : Int) j) → m = m' := by decide +kernel
theorem gb_or0 : ∀ m : Nat, m < 64 → ∀ m' : Nat, m' < 64 → (gor (m : Int) (m' : Int) = 0 ↔ ∀ j : Nat, j < 6 → gbit (m : Int) j = false ∧ gbit (m' : Int) j = false) := by decide +kernel
theorem gb_orm : ∀ m : Nat, m < 64 → ∀ m' : Nat, m' < 64 → gset6 (gor (m : Int) (m' : Int)) ∧ ∀ j : Nat, j < 6 → gbit (gor (m : Int) (m' : Int)) j = (gbit (m : Int) j || gbit (m' : Int) j) := by
  unfold gset6
  decide +kernel
theorem gb_zero : ∀ j : Nat, gbit 0 j = false := fun j => Nat.zero_testBit j
def gcnt (m : Int) : Int := (if gbit m 0 then 1 else 0) + (if gbit m 1 then 1 else 0) + (if gbit m 2 then 1 else 0) + (if gbit m 3 then 1 else 0) + (if gbit m 4 then 1 else 0) + (if gbit m 5 then 1 else 0)
def gbc (a0 : Int) : Int := gand (gadd (gadd (gand (gadd (gadd (gand (gsub a0 (gand (gushr a0 1) 1431655765)) 858993459) (gand (gushr (gsub a0 (gand (gushr a0 1) 1431655765)) 2) 858993459)) (gushr (gadd (gand (gsub a0 (gand (gushr a0 1) 1431655765)) 858993459) (gand (gushr (gsub a0 (gand (gushr a0 1) 1431655765)) 2) 858993459)) 4)) 252645135) (gushr (gand (gadd (gadd (gand (gsub a0 (gand (gushr a0 1) 1431655765)) 858993459) (gand (gushr (gsub a0 (gand (gushr a0 1) 1431655765)) 2) 858993459)) (gushr (gadd (gand (gsub a0 (gand (gushr a0 1) 1431655765)) 858993459) (gand (gushr (gsub a0 (gand (gushr a0 1) 1431655765)) 2) 858993459)) 4)) 252645135) 8)) (gushr (gadd (gand (gadd (gadd (gand (gsub a0 (gand (gushr a0 1) 1431655765)) 858993459) (gand (gushr (gsub a0 (gand (gushr a0 1) 1431655765)) 2) 858993459)) (gushr (gadd (gand (gsub a0 (gand (gushr a0 1) 1431655765)) 858993459) (gand (gushr (gsub a0 (gand (gushr a0 1) 1431655765)) 2) 858993459)) 4)) 252645135) (gushr (gand (gadd (gadd (gand (gsub a0 (gand (gushr a0 1) 1431655765)) 858993459) (gand (gushr (gsub a0 (gand (gushr a0 1) 1431655765)) 2) 858993459)) (gushr (gadd (gand (gsub a0 (gand (gushr a0 1) 1431655765)) 858993459) (gand (gushr (gsub a0 (gand (gushr a0 1) 1431655765)) 2) 858993459)) 4)) 252645135) 8)) 16)) 63
theorem gbc_val : ∀ m : Nat, m < 64 → gbc (m : Int) = gcnt (m : Int) := by decide +kernel
