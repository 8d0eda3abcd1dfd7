/- PURE: the city as the reference has it, the minutes as functions of the 50 numbers of 'now' -/
def ct (h : gH) : gH := fun x y => if 84 ≤ x ∧ x ≤ 91 then h x y else if x = 83 then (if y = 0 ∨ y = 1 ∨ y = 2 ∨ y = 6 then h 83 y else 0) else 0
def gnow (h : gH) (N : Nat → Int) : gH := fun x => if x = 92 then N else h x
def nu (N : Nat → Int) (k : Nat) (v : Int) : Nat → Int := fun j => if j = k then v else N j
theorem ct_83_0 (h : gH) : ct h 83 0 = h 83 0 := rfl
theorem ct_83_1 (h : gH) : ct h 83 1 = h 83 1 := rfl
theorem ct_83_2 (h : gH) : ct h 83 2 = h 83 2 := rfl
theorem ct_83_6 (h : gH) : ct h 83 6 = h 83 6 := rfl
theorem ct_84 (h : gH) (y : Nat) : ct h 84 y = h 84 y := rfl
theorem ct_85 (h : gH) (y : Nat) : ct h 85 y = h 85 y := rfl
theorem ct_86 (h : gH) (y : Nat) : ct h 86 y = h 86 y := rfl
theorem ct_87 (h : gH) (y : Nat) : ct h 87 y = h 87 y := rfl
theorem ct_88 (h : gH) (y : Nat) : ct h 88 y = h 88 y := rfl
theorem ct_89 (h : gH) (y : Nat) : ct h 89 y = h 89 y := rfl
theorem ct_90 (h : gH) (y : Nat) : ct h 90 y = h 90 y := rfl
theorem ct_91 (h : gH) (y : Nat) : ct h 91 y = h 91 y := rfl
theorem ct_now (h : gH) (N : Nat → Int) : ct (gnow h N) = ct h := by
  funext x y
  unfold ct gnow
  by_cases h1 : 84 ≤ x ∧ x ≤ 91
  · rw [if_pos h1, if_pos h1, if_neg (by omega)]
  · rw [if_neg h1, if_neg h1]
    by_cases h2 : x = 83
    · rw [if_pos h2, if_pos h2]; rfl
    · rw [if_neg h2, if_neg h2]
theorem gnow_92 (h : gH) (N : Nat → Int) : gnow h N 92 = N := if_pos rfl
theorem gnow_ne {h : gH} {N : Nat → Int} {x : Nat} (hx : x ≠ 92) : gnow h N x = h x := if_neg hx
theorem gnow_self (h : gH) : gnow h (h 92) = h := by
  funext x
  unfold gnow
  split
  · rename_i e; rw [e]
  · rfl
theorem gnow_gnow (h : gH) (N N' : Nat → Int) : gnow (gnow h N) N' = gnow h N' := by
  funext x
  unfold gnow
  split <;> rfl
theorem gup_now (h : gH) (N : Nat → Int) (k : Nat) (v : Int) : gup (gnow h N) 92 k v = gnow h (nu N k v) := by
  funext x y
  unfold gup gnow nu
  by_cases hx : x = 92
  · subst hx
    by_cases hy : y = k <;> simp [hy]
  · simp [hx]
theorem nu_at (N : Nat → Int) (k : Nat) (v : Int) : nu N k v k = v := if_pos rfl
theorem nu_ne {N : Nat → Int} {k : Nat} {v : Int} {j : Nat} (h : j ≠ k) : nu N k v j = N j := if_neg h
def aOther (c : gH) (s : Nat) (a : Int) : Int := if c 84 s = a then c 85 s else if c 85 s = a then c 84 s else -1
def aDist (c : gH) (a b : Int) : Int := c 91 (7 * a + b).toNat
def aIs (c : gH) (a b : Int) (s : Nat) : Bool := decide (0 ≤ aOther c s a) && (decide (aDist c a b < 1000000) && decide (c 86 s + aDist c (aOther c s a) b = aDist c a b))
def aNxF (c : gH) (a b : Int) (S : Nat) (j : Nat) (best : Int) : Int := if aIs c a b (S - 1 - j) = true then ((S - 1 - j : Nat) : Int) else best
def aNx (c : gH) (a b : Int) : Int := gfold (aNxF c a b (c 83 2).toNat) (c 83 2).toNat (-1)
def aNk (c : gH) (N : Nat → Int) (k : Nat) : Int := if N (26 + k) = 1 then aNx c (N (32 + k)) (c 88 k) else -1
def aW (c : gH) (N : Nat → Int) (s : Nat) (side : Int) (k : Nat) : Bool := decide (aNk c N k = (s : Int)) && decide (N (32 + k) = (if side = 0 then c 84 s else c 85 s))
def aAh (N : Nat → Int) (k q : Nat) : Bool := if N (20 + k) = N (20 + q) then (if N (38 + k) = N (38 + q) then decide (k < q) else decide (N (38 + k) < N (38 + q))) else decide (N (20 + q) < N (20 + k))
def aForeF (c : gH) (N : Nat → Int) (s : Nat) (side : Int) (k : Nat) (best : Int) : Int := if (aW c N s side k && (decide (best < 0) || aAh N k best.toNat)) = true then (k : Int) else best
def aFore (c : gH) (N : Nat → Int) (s : Nat) (side : Int) : Int := gfold (aForeF c N s side) (c 83 6).toNat (-1)
def aLongF (c : gH) (N : Nat → Int) (s : Nat) (side : Int) (k : Nat) (least : Int) : Int := if (aW c N s side k && decide (N (38 + k) < least)) = true then N (38 + k) else least
def aLong (c : gH) (N : Nat → Int) (s : Nat) (side : Int) : Int := gfold (aLongF c N s side) (c 83 6).toNat 1000000
def aCntF (c : gH) (N : Nat → Int) (s : Nat) (side : Int) (k : Nat) (n : Int) : Int := if aW c N s side k = true then n + 1 else n
def aCnt (c : gH) (N : Nat → Int) (s : Nat) (side : Int) : Int := gfold (aCntF c N s side) (c 83 6).toNat 0
def aMskF (P : Nat → Bool) (k : Nat) (m : Int) : Int := if P k = true then gor m (gshl 1 (k : Int)) else gor m 0
def aMsk (C : Nat) (P : Nat → Bool) : Int := gfold (aMskF P) C 0
def aOnB (N : Nat → Int) (s : Nat) (k : Nat) : Bool := decide (N (26 + k) = 2) && decide (N (32 + k) = (s : Int))
def aOn (c : gH) (N : Nat → Int) (s : Nat) : Int := aMsk (c 83 6).toNat (aOnB N s)
def aThat (c : gH) (N : Nat → Int) (how : Int) : Int := aMsk (c 83 6).toNat (fun k => decide (N (26 + k) = how))
def aSide (a b g : Int) : Int := if a ≤ b then (if b ≤ a then g else 1) else 0
def aRk (N : Nat → Int) (k : Int) : Int := if 0 ≤ k then N (20 + k.toNat) else 0
def aGoes (c : gH) (N : Nat → Int) (s : Nat) : Int :=
  if N (2 + s) = 0 then (if aLong c N s 0 = 1000000 ∧ aLong c N s 1 = 1000000 then N (11 + s) else if aLong c N s 1 < aLong c N s 0 then 1 else 0)
  else if N (2 + s) = 1 then N 0 / c 83 1 % 2
  else if N (2 + s) = 2 then aSide (aCnt c N s 0) (aCnt c N s 1) (N (11 + s))
  else if N (2 + s) = 3 then aSide (aRk N (aFore c N s 0)) (aRk N (aFore c N s 1)) (N (11 + s))
  else 0
def aEnd (c : gH) (N : Nat → Int) (s : Nat) : Int := if N (11 + s) = 0 then c 85 s else c 84 s
def aArr (c : gH) (k : Nat) (N : Nat → Int) : Nat → Int :=
  if N (26 + k) = 2 ∧ N 0 - N (38 + k) = c 86 (N (32 + k)).toNat then nu (nu (nu N (32 + k) (aEnd c N (N (32 + k)).toNat)) (38 + k) (N 0)) (26 + k) (if aEnd c N (N (32 + k)).toNat = c 88 k then 3 else 1) else N
def aSta (c : gH) (ab : Int) (k : Nat) (N : Nat → Int) : Nat → Int :=
  if N (26 + k) = 0 ∧ c 89 k = N 0 ∧ ¬ (k : Int) = ab then nu (nu N (38 + k) (N 0)) (26 + k) (if 0 ≤ aNx c (c 87 k) (c 88 k) then 1 else 4) else N
def aTrn (c : gH) (N : Nat → Int) (s : Nat) : Nat → Int := nu N (11 + s) (if aOn c N s = 0 then aGoes c N s else N (11 + s))
def aLet (c : gH) (N : Nat → Int) (s : Nat) : Nat → Int := if aFore c N s (N (11 + s)) < 0 then N else nu (nu (nu N (26 + (aFore c N s (N (11 + s))).toNat) 2) (32 + (aFore c N s (N (11 + s))).toNat) (s : Int)) (38 + (aFore c N s (N (11 + s))).toNat) (N 0)
def aEnt (c : gH) (s : Nat) (N : Nat → Int) : Nat → Int := aLet c (aTrn c N s) s
def aTir (c : gH) (k : Nat) (N : Nat → Int) : Nat → Int :=
  if N (26 + k) = 1 then (if N (44 + k) + 1 ≤ c 90 k then nu (nu N (44 + k) (N (44 + k) + 1)) 1 (N 1 + 1) else nu (nu (nu (nu N (44 + k) (N (44 + k) + 1)) 1 (N 1 + 1)) (26 + k) 4) (38 + k) (N 0)) else N
def aPh1 (c : gH) (N : Nat → Int) : Nat → Int := gfold (aArr c) (c 83 6).toNat N
def aPh2 (c : gH) (ab : Int) (N : Nat → Int) : Nat → Int := gfold (aSta c ab) (c 83 6).toNat (aPh1 c N)
def aPh3 (c : gH) (ab : Int) (N : Nat → Int) : Nat → Int := gfold (aEnt c) (c 83 2).toNat (aPh2 c ab N)
def aPh4 (c : gH) (ab : Int) (N : Nat → Int) : Nat → Int := gfold (aTir c) (c 83 6).toNat (aPh3 c ab N)
def aPass (c : gH) (ab : Int) (N : Nat → Int) : Nat → Int := nu (aPh4 c ab N) 0 (aPh4 c ab N 0 + 1)
def aGo (c : gH) (ab : Int) : Nat → (Nat → Int) → Nat → Int
  | 0, N => N
  | n + 1, N => aGo c ab n (aPass c ab N)
/- what is known of a city -/
def cW (c : gH) : Prop := (0 ≤ c 83 0 ∧ c 83 0 ≤ 7) ∧ (0 ≤ c 83 2 ∧ c 83 2 ≤ 9) ∧ (0 ≤ c 83 6 ∧ c 83 6 ≤ 6) ∧ (0 ≤ c 83 1 ∧ c 83 1 ≤ 60) ∧ (0 < c 83 2 → 0 < c 83 1) ∧
  (∀ s : Nat, (s : Int) < c 83 2 → (0 ≤ c 84 s ∧ c 84 s < c 83 0) ∧ (0 ≤ c 85 s ∧ c 85 s < c 83 0) ∧ c 84 s ≠ c 85 s ∧ (1 ≤ c 86 s ∧ c 86 s ≤ 9)) ∧
  (∀ k : Nat, (k : Int) < c 83 6 → (0 ≤ c 87 k ∧ c 87 k < c 83 0) ∧ (0 ≤ c 88 k ∧ c 88 k < c 83 0) ∧ c 87 k ≠ c 88 k ∧ (0 ≤ c 89 k ∧ c 89 k ≤ 200) ∧ (0 ≤ c 90 k ∧ c 90 k ≤ 99)) ∧
  (∀ y : Nat, y < 49 → 0 ≤ c 91 y ∧ c 91 y ≤ 1000000)
/- of the numbers of now, at the beginning of a minute (w = 0), behind the arrivals (w = 1) -/
def nW (c : gH) (w : Int) (N : Nat → Int) : Prop := (0 ≤ N 0 ∧ N 0 ≤ 100000) ∧ (0 ≤ N 1 ∧ N 1 ≤ 1000000) ∧
  (∀ s : Nat, (s : Int) < c 83 2 → (0 ≤ N (2 + s) ∧ N (2 + s) ≤ 4) ∧ (N (11 + s) = 0 ∨ N (11 + s) = 1)) ∧
  (∀ k : Nat, (k : Int) < c 83 6 → (1 ≤ N (20 + k) ∧ N (20 + k) ≤ 9) ∧ (0 ≤ N (26 + k) ∧ N (26 + k) ≤ 4) ∧ (-1 ≤ N (38 + k) ∧ N (38 + k) ≤ N 0) ∧ (0 ≤ N (44 + k) ∧ N (44 + k) ≤ 100) ∧
    (N (26 + k) = 0 → N (32 + k) = c 87 k ∧ N (44 + k) ≤ c 90 k) ∧
    (N (26 + k) = 1 → (0 ≤ N (32 + k) ∧ N (32 + k) < c 83 0) ∧ N (44 + k) ≤ c 90 k ∧ 0 ≤ aNx c (N (32 + k)) (c 88 k)) ∧
    (N (26 + k) = 2 → (0 ≤ N (32 + k) ∧ N (32 + k) < c 83 2) ∧ N 0 - N (38 + k) + w ≤ c 86 (N (32 + k)).toNat ∧ (aEnd c N (N (32 + k)).toNat = c 88 k ∨ 0 ≤ aNx c (aEnd c N (N (32 + k)).toNat) (c 88 k)) ∧ N (44 + k) ≤ c 90 k))
