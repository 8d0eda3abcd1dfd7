def gnu (nl : Nat → Nat → Bool) (i k : Nat) : Nat → Nat → Bool := fun x y => if x = i ∧ y = k then false else nl x y
def g2v (b i : Nat) (h : gH) (nl : Nat → Nat → Bool) (k : Nat) (q : Nat × Nat) : Value := if nl i k = true ∧ 2 ≤ q.1 then .null else gfv b i h k q
def g2E (G : gG) (b : Nat) (h : gH) (nl : Nat → Nat → Bool) (i : Nat) : va_E := match gsh i with
  | .inl (0, n) => .inl (G.1, n, .inl (fun j => Int32.ofInt (h i j)))
  | .inl (1, n) => .inl (G.2.1, n, .inl (fun j => Int32.ofInt (h i j)))
  | .inl (_, n) => .inl (G.2.2, n, .inr (.inr (.inr (.inr (fun j => if nl i j = true then none else some (b + (i + 1 + 10 * j)))))))
  | .inr ci => .inr (ci, (gfk ci).mapIdx (fun k q => g2v b i h nl k q))
def g2W (Z : gZ) (n : Nat) (h : gH) (nl : Nat → Nat → Bool) : va_W := (List.range n).map (fun i => (zb Z + i, g2E (zG Z) (zb Z) h nl i))
def gsz (i : Nat) : Nat := match gsh i with
  | .inl (_, n) => n
  | .inr ci => (gfk ci).length
def gsum : Nat → Nat
  | 0 => 0
  | n + 1 => gsum n + gsz n
theorem gsum_mono {a b : Nat} (h : a ≤ b) : gsum a ≤ gsum b := by
  induction b with
  | zero => rw [Nat.le_zero.mp h]; exact Nat.le_refl _
  | succ b ih =>
    by_cases e : a = b + 1
    · rw [e]; exact Nat.le_refl _
    · exact Nat.le_trans (ih (by omega)) (Nat.le_add_right _ _)
def gBA (Z : gZ) : Nat → Prop := fun q => zb Z ≤ q
abbrev gTr : String := "DecreedStreets$Traffic"
def g2Wd (Z : gZ) (n : Nat) (h : gH) (nl : Nat → Nat → Bool) (U : State) : Prop := U.heap.size = zb Z + n ∧ va_P (zD Z) gcls (g2W Z n h nl) U.heap ∧ va_K (zD Z) gcls (gTy Z) U ∧ va_AO gTr U
def g2K (M : gM) (X : gX) : Prop :=
  (xp X).tables.exec = Jvm.exec ∧ (xc X).code = M.1 ∧ ((xc X).maxLocals = xn X ∧ xn X = M.2.2.2.2) ∧ (xs X).vm.findClass M.2.1 = some (xm X).cls ∧ (∀ w ∈ gtbl, w.before (xa X) (xs X) = true) ∧ va_K (zD (xZ X)) gcls (gTy (xZ X)) (xs X) ∧ M.2.2.1 ≤ (xR X).frames ∧ M.2.2.2.1 ≤ (xR X).locals ∧ va_AO gTr (xs X) ∧ zb (xZ X) ≤ (xH X).size ∧ xsl X - xce X ≤ (xR X).cells ∧ gsum (xsl X) - gsum (xce X) ≤ (xR X).slots ∧ (xs X).heap.size = zb (xZ X) + xce X
def gkW (X : gX) (n : Nat) (H : Heap) (locs : List Loc) (pc : Nat) (ls : Array Slot) (st : List Value) : Prop :=
  W (xp X) (zl (xZ X)) (xe X) (xR X) (xs X) (xm X) (xa X) (xb X) (xme X) (xc X) H locs (n - xce X) (gsum n - gsum (xce X)) (xQ X) (F0 (xm X) pc ls st)
def gkS (X : gX) (n : Nat) (h : gH) (nl : Nat → Nat → Bool) (lv : List (Nat × Value)) (H : Heap) (locs : List Loc) (ls : Array Slot) : Prop :=
  H.size = zb (xZ X) + n ∧ va_P (zD (xZ X)) gcls (g2W (xZ X) n h nl) H ∧ va_S (gBA (xZ X)) (xH X) H locs ∧ lv_has ls (xn X) lv ∧ xce X ≤ n
def gk (M : gM) (X : gX) (n : Nat) (h : gH) (nl : Nat → Nat → Bool) (pc : Nat) (lv : List (Nat × Value)) (st : List Value) : Prop :=
  g2K M X → ∀ (H : Heap) (locs : List Loc) (ls : Array Slot), gkS X n h nl lv H locs ls → gkW X n H locs pc ls st
theorem g2D {Z : gZ} (n : Nat) (h : gH) (nl : Nat → Nat → Bool) : va_D (gBA Z) (g2W Z n h nl) := by
  refine ⟨fun i j p q hp hq e => ?_, fun k q hq => ?_⟩
  · rw [g2W, List.getElem?_map, List.getElem?_range] at hp hq
    · cases hp; cases hq; exact Nat.add_left_cancel e
    · apply Decidable.byContradiction
      intro hn
      rw [List.getElem?_eq_none (by rw [List.length_range]; omega)] at hq
      cases hq
    · apply Decidable.byContradiction
      intro hn
      rw [List.getElem?_eq_none (by rw [List.length_range]; omega)] at hp
      cases hp
  · obtain ⟨i, -, rfl⟩ := List.mem_map.mp (List.mem_of_getElem? hq)
    exact Nat.le_add_right _ _
theorem g2W_at {Z : gZ} {n : Nat} (h : gH) (nl : Nat → Nat → Bool) {i : Nat} (hi : i < n) : (g2W Z n h nl)[i]? = some (zb Z + i, g2E (zG Z) (zb Z) h nl i) := by
  rw [g2W, List.getElem?_map, List.getElem?_range hi]; rfl
theorem g2W_len (Z : gZ) (n : Nat) (h : gH) (nl : Nat → Nat → Bool) : (g2W Z n h nl).length = n := by rw [g2W, List.length_map, List.length_range]
theorem g2W_set {Z : gZ} {n : Nat} {h h' : gH} {nl nl' : Nat → Nat → Bool} {i : Nat} (hi : i < n) (hh : ∀ j, j ≠ i → g2E (zG Z) (zb Z) h' nl' j = g2E (zG Z) (zb Z) h nl j) : (g2W Z n h nl).set i (zb Z + i, g2E (zG Z) (zb Z) h' nl' i) = g2W Z n h' nl' := by
  apply List.ext_getElem?
  intro k
  rw [List.getElem?_set, g2W_len]
  by_cases hk : i = k
  · subst hk
    rw [if_pos rfl, if_pos hi, g2W_at h' nl' hi]
  · rw [if_neg hk]
    by_cases hn : k < n
    · rw [g2W_at h nl hn, g2W_at h' nl' hn, hh k (fun e => hk e.symm)]
    · rw [List.getElem?_eq_none (by rw [g2W_len]; omega), List.getElem?_eq_none (by rw [g2W_len]; omega)]
theorem g2W_push (Z : gZ) (n : Nat) (h : gH) (nl : Nat → Nat → Bool) : g2W Z (n + 1) h nl = g2W Z n h nl ++ [(zb Z + n, g2E (zG Z) (zb Z) h nl n)] := by
  rw [g2W, List.range_succ, List.map_append]; rfl
theorem g2E_o {G : gG} {b : Nat} {h : gH} {nl : Nat → Nat → Bool} {i ci : Nat} (hs : gsh i = .inr ci) : g2E G b h nl i = .inr (ci, (gfk ci).mapIdx (fun k q => g2v b i h nl k q)) := by unfold g2E; rw [hs]
theorem g2E_i {G : gG} {b : Nat} {h : gH} {nl : Nat → Nat → Bool} {i n : Nat} (hs : gsh i = .inl (0, n)) : g2E G b h nl i = .inl (G.1, n, .inl (fun j => Int32.ofInt (h i j))) := by unfold g2E; rw [hs]; rfl
theorem g2E_z {G : gG} {b : Nat} {h : gH} {nl : Nat → Nat → Bool} {i n : Nat} (hs : gsh i = .inl (1, n)) : g2E G b h nl i = .inl (G.2.1, n, .inl (fun j => Int32.ofInt (h i j))) := by unfold g2E; rw [hs]; rfl
theorem g2E_q {G : gG} {b : Nat} {h : gH} {nl : Nat → Nat → Bool} {i n : Nat} (hs : gsh i = .inl (2, n)) : g2E G b h nl i = .inl (G.2.2, n, .inr (.inr (.inr (.inr (fun j => if nl i j = true then none else some (b + (i + 1 + 10 * j))))))) := by unfold g2E; rw [hs]; rfl
theorem g2E_congr {G : gG} {b : Nat} {h h' : gH} {nl nl' : Nat → Nat → Bool} {i : Nat} (e : ∀ y, h' i y = h i y) (e2 : ∀ y, nl' i y = nl i y) : g2E G b h' nl' i = g2E G b h nl i := by
  have e' : h' i = h i := funext e
  have e2' : nl' i = nl i := funext e2
  unfold g2E
  rcases hs : gsh i with ⟨t, n⟩ | ci
  · rcases t with _ | t
    · simp only [e']
    · rcases t with _ | t <;> simp only [e', e2']
  · simp only []
    congr 2
    congr 1
    funext k q
    unfold g2v gfv
    rw [e', e2']
theorem g2E_full {G : gG} {b : Nat} {h : gH} {nl : Nat → Nat → Bool} {i ci : Nat} (hs : gsh i = .inr ci) (hn : ∀ k q, (gfk ci)[k]? = some q → 2 ≤ q.1 → nl i k = false) : g2E G b h nl i = gE G b h i := by
  rw [g2E_o hs, gE_o hs]
  congr 2
  apply List.ext_getElem?
  intro k
  rw [List.getElem?_mapIdx, List.getElem?_mapIdx]
  cases hk : (gfk ci)[k]? with
  | none => rfl
  | some q =>
    show some (g2v b i h nl k q) = some (gfv b i h k q)
    unfold g2v
    by_cases h2 : 2 ≤ q.1
    · rw [if_neg (by rw [hn k q hk h2]; intro z; cases z.1)]
    · rw [if_neg (fun z => h2 z.2)]
theorem gword {M : gM} {X : gX} (hK : g2K M X) {w : Cond} (hw : w ∈ gtbl) : w.before (xa X) (xs X) = true := hK.2.2.2.2.1 w hw
theorem arrV_congr {cA : ClassId} {N : Nat} {f g : Nat → Value} (e : ∀ j, j < N → f j = g j) : arrV cA N f = arrV cA N g := by
  unfold arrV
  congr 2
  funext j
  exact e j.val j.isLt
theorem gnu_at (nl : Nat → Nat → Bool) (i k : Nat) : gnu nl i k i k = false := if_pos ⟨rfl, rfl⟩
section GK
variable {M : gM} {X : gX} {n : Nat} {h : gH} {nl : Nat → Nat → Bool} {pc : Nat} {lv : List (Nat × Value)} {st : List Value}
theorem k_aload_n {kk : Fin 4} {i a : Nat} (hd : decode M.1 pc = .ok (.aload_n kk, 1)) (hi : (kk : Nat) = i) (q : Nat) (hq : lv[q]? = some (i, .ref a)) (pc' : Nat) (hp : pc + 1 = pc') (k : gk M X n h nl pc' lv (.ref a :: st)) : gk M X n h nl pc lv st := by
  subst hp
  exact fun hK H locs ls hS => lv_aload_n hK.1 hK.2.1 hd hi (lv_at hS.2.2.2.1 q hq) (k hK H locs ls hS)
theorem k_iload_n {kk : Fin 4} {i : Nat} {v : Int32} (hd : decode M.1 pc = .ok (.iload_n kk, 1)) (hi : (kk : Nat) = i) (q : Nat) (hq : lv[q]? = some (i, .int v)) (pc' : Nat) (hp : pc + 1 = pc') (k : gk M X n h nl pc' lv (.int v :: st)) : gk M X n h nl pc lv st := by
  subst hp
  exact fun hK H locs ls hS => lv_iload_n hK.1 hK.2.1 hd hi (lv_at hS.2.2.2.1 q hq) (k hK H locs ls hS)
theorem k_iconst {z : Int} (v : Int32) (hd : decode M.1 pc = .ok (.iconst z, 1)) (hv : Int32.ofInt z = v) (pc' : Nat) (hp : pc + 1 = pc') (k : gk M X n h nl pc' lv (.int v :: st)) : gk M X n h nl pc lv st := by
  subst hp
  exact fun hK H locs ls hS => lv_iconst hK.1 hK.2.1 hd hv (k hK H locs ls hS)
theorem k_bipush {z : Int} (v : Int32) (hd : decode M.1 pc = .ok (.bipush z, 2)) (hv : (Int8.ofInt z).toInt32 = v) (pc' : Nat) (hp : pc + 2 = pc') (k : gk M X n h nl pc' lv (.int v :: st)) : gk M X n h nl pc lv st := by
  subst hp
  exact fun hK H locs ls hS => lv_bipush hK.1 hK.2.1 hd hv (k hK H locs ls hS)
theorem k_sipush {z : Int} (v : Int32) (hd : decode M.1 pc = .ok (.sipush z, 3)) (hv : (Int16.ofInt z).toInt32 = v) (pc' : Nat) (hp : pc + 3 = pc') (k : gk M X n h nl pc' lv (.int v :: st)) : gk M X n h nl pc lv st := by
  subst hp
  exact fun hK H locs ls hS => lv_sipush hK.1 hK.2.1 hd hv (k hK H locs ls hS)
theorem k_dup {v : Value} (hd : decode M.1 pc = .ok (.dup, 1)) (hv : v.category = 1) (pc' : Nat) (hp : pc + 1 = pc') (k : gk M X n h nl pc' lv (v :: v :: st)) : gk M X n h nl pc lv (v :: st) := by
  subst hp
  exact fun hK H locs ls hS => lv_dup hK.1 hK.2.1 hd hv (k hK H locs ls hS)
theorem k_astore_n {kk : Fin 4} {i a : Nat} (lv' : List (Nat × Value)) (hd : decode M.1 pc = .ok (.astore_n kk, 1)) (hi : (kk : Nat) = i) (hn : i < M.2.2.2.2) (hl : (i, Value.ref a) :: lv.filter (fun q => !(q.1 == i) && !(q.1 + 1 == i && q.2.category == 2)) = lv') (pc' : Nat) (hp : pc + 1 = pc') (k : gk M X n h nl pc' lv' st) : gk M X n h nl pc lv (.ref a :: st) := by
  subst hp
  exact fun hK H locs ls hS => lv_astore_n hK.1 hK.2.1 hd hi hS.2.2.2.1 (by rw [hK.2.2.1.2]; exact hn) hl (fun ls' h' => k hK H locs ls' ⟨hS.1, hS.2.1, hS.2.2.1, h', hS.2.2.2.2⟩)
theorem k_objInit {idx a : Nat} (hd : decode M.1 pc = .ok (.invokespecial idx, 3)) (h1 : Cond.methodLink M.2.1 idx Lib.objectInit ∈ gtbl) (h2 : Cond.instanceMethod Lib.objectInit ∈ gtbl) (h3 : Cond.code Lib.objectInit ⟨#[0xb1]⟩ 1 none ∈ gtbl) (hroom : 1 ≤ M.2.2.1 ∧ 20 ≤ M.2.2.2.1) (hcat : (st.map fun v => v.category).sum ≤ 8) (pc' : Nat) (hp : pc + 3 = pc') (k : gk M X n h nl pc' lv st) : gk M X n h nl pc lv (.ref a :: st) := by
  subst hp
  intro hK H locs ls hS
  have e1 := hroom.1
  have e2 := hroom.2
  have e3 := hK.2.2.2.2.2.2.1
  have e4 := hK.2.2.2.2.2.2.2.1
  exact W.objInit hK.1 hK.2.1 hK.2.2.2.1 (gword hK h1) (gword hK h2) (gword hK h3) rfl (by rw [hK.2.2.1.1]; exact hS.2.2.2.1.1) rfl hd (by omega) (by show 2 * 0 + _ + 12 ≤ _; omega) (k hK H locs ls hS)
theorem gsum_s {n n0 N : Nat} (hn : n0 ≤ n) (hz : gsz n = N) : gsum n - gsum n0 + N = gsum (n + 1) - gsum n0 := by
  have h1 := gsum_mono hn
  show _ = gsum n + gsz n - gsum n0
  omega
theorem k_new {idx ci N : Nat} {C : String} {T : u_T} (ty : Nat → FieldType) (hd : decode M.1 pc = .ok (.new idx, 3)) (hcl : Cond.classLink M.2.1 idx C ∈ gtbl) (hins : Cond.instantiable C N ∈ gtbl) (hini : Cond.initialized C ∈ gtbl) (hsh : gsh n = .inr ci) (hci : gcls[ci]? = some (C, T, N)) (hin : ∀ w ∈ u_ws C T N, w ∈ gtbl) (hty : ∀ k, k < N → parseFieldDescriptor (T k).2.2.1 = some (ty k)) (hlen : (gfk ci).length = N) (hdef : ∀ j, j < N → defaultValue (ty j) = if ((gfk ci).getD j (0, 0)).1 = 0 then .int 0 else .null) (hz : ∀ k, h n k = 0) (hnl : ∀ k, nl n k = true) (n' : Nat) (hn' : n + 1 = n') (hend : n' ≤ xsl X) (pc' : Nat) (hp : pc + 3 = pc') (k : gk M X n' h nl pc' lv (.ref (zb (xZ X) + n) :: st)) : gk M X n h nl pc lv st := by
  subst hn'
  subst hp
  intro hK H locs ls hS
  obtain ⟨s1, s2, s3, s4, s5⟩ := hS
  have hKn := hK.2.2.2.2.2.1.1 ci _ hci
  have hgz : gsz n = N := by unfold gsz; rw [hsh]; exact hlen
  have r1 := hK.2.2.2.2.2.2.2.2.2.2.1
  have r2 := hK.2.2.2.2.2.2.2.2.2.2.2.1
  have m1 := gsum_mono hend
  have m0 := gsum_s (N := N) s5 hgz
  refine W.newcK hK.1 hK.2.1 hK.2.2.2.1 (gword hK hcl) (gword hK hins) (gword hK hini) rfl hd (by omega) (by rw [m0]; omega) hKn.2.1 s1 fun H1 kC hkC e1 z1 o1 => ?_
  rw [m0, show n - xce X + 1 = n + 1 - xce X by omega]
  have hk : ∀ (k : Nat) (x : Nat × va_E), (g2W (xZ X) n h nl)[k]? = some x → H1[x.1]? = H[x.1]? := fun k x hx => o1 x.1 (by rw [← s1]; exact (s2 k x hx).lt)
  refine k hK H1 locs ls ⟨by rw [z1]; rfl, ?_, ⟨Nat.le_trans s3.1 (by omega), fun x h1 h2 => (o1 x (by have := s3.1; omega)).trans (s3.2.1 x h1 h2), s3.2.2⟩, s4, by omega⟩
  rw [g2W_push]
  refine (s2.kept hk).app (fun k x hx => ?_)
  have hz1 : k < 1 := (List.getElem?_eq_some_iff.mp hx).1
  rw [show k = 0 by omega] at hx
  cases hx
  rw [g2E_o hsh]
  refine ⟨_, hci, (u_born ty hK.2.2.2.2.1 hin hKn hkC e1 hty).to (fun j hj => ?_)⟩
  rw [hdef j hj]
  have hj' : j < (gfk ci).length := by rw [hlen]; exact hj
  show _ = ((gfk ci).mapIdx (fun k q => g2v (zb (xZ X)) n h nl k q)).getD j .null
  rw [List.getD_eq_getElem?_getD, List.getD_eq_getElem?_getD, List.getElem?_mapIdx, List.getElem?_eq_getElem hj']
  show _ = g2v (zb (xZ X)) n h nl j (gfk ci)[j]
  show (if (gfk ci)[j].1 = 0 then _ else _) = _
  unfold g2v gfv
  rw [hz j]
  rcases hq : (gfk ci)[j] with ⟨a, b⟩
  rcases a with _ | a
  · rw [if_pos rfl, if_neg (fun z => by have := z.2; simp at this)]; rfl
  · rw [if_neg (by simp)]
    rcases a with _ | a
    · rw [if_neg (fun z => by have := z.2; simp at this)]; rfl
    · rw [if_pos ⟨hnl j, by simp⟩]
theorem k_newi {N : Nat} {z : Int32} (hd : decode M.1 pc = .ok (.newarray .int, 2)) (harr : Cond.arrayClass .int ∈ gtbl) (hsh : gsh n = .inl (0, N)) (hzz : ∀ k, h n k = 0) (hneg : ¬ z < 0) (hN : z.toNatClampNeg = N) (hbig : N * 4 ≤ 536870912) (n' : Nat) (hn' : n + 1 = n') (hend : n' ≤ xsl X) (pc' : Nat) (hp : pc + 2 = pc') (k : gk M X n' h nl pc' lv (.ref (zb (xZ X) + n) :: st)) : gk M X n h nl pc lv (.int z :: st) := by
  subst hn'
  subst hp
  intro hK H locs ls hS
  obtain ⟨s1, s2, s3, s4, s5⟩ := hS
  have hgz : gsz n = N := by unfold gsz; rw [hsh]
  have r1 := hK.2.2.2.2.2.2.2.2.2.2.1
  have r2 := hK.2.2.2.2.2.2.2.2.2.2.2.1
  have m1 := gsum_mono hend
  have m0 := gsum_s (N := N) s5 hgz
  refine va_newaK hK.1 hK.2.1 (atype := .int) (gword hK harr) rfl hd rfl hneg hN hbig (by omega) (by rw [m0]; omega) s1 fun H1 cA e1 z1 o1 _ hcA => ?_
  have ecA : cA = (zG (xZ X)).1 := Option.some.inj (hcA.symm.trans (hK.2.2.2.2.2.1.2 0 _ rfl).2)
  subst ecA
  rw [m0, show n - xce X + 1 = n + 1 - xce X by omega]
  have hk : ∀ (k : Nat) (x : Nat × va_E), (g2W (xZ X) n h nl)[k]? = some x → H1[x.1]? = H[x.1]? := fun k x hx => o1 x.1 (by rw [← s1]; exact (s2 k x hx).lt)
  refine k hK H1 locs ls ⟨by rw [z1]; rfl, ?_, ⟨Nat.le_trans s3.1 (by omega), fun x h1 h2 => (o1 x (by have := s3.1; omega)).trans (s3.2.1 x h1 h2), s3.2.2⟩, s4, by omega⟩
  rw [g2W_push]
  refine (s2.kept hk).app (fun k x hx => ?_)
  have hz1 : k < 1 := (List.getElem?_eq_some_iff.mp hx).1
  rw [show k = 0 by omega] at hx
  cases hx
  rw [g2E_i hsh]
  show H1[(zb (xZ X) + n : Nat)]? = some (vp_cell _ _)
  rw [vp_cell_i, e1]
  exact congrArg some (arrV_congr (fun j _ => by rw [hzz j]; rfl))
theorem k_newz {N : Nat} {z : Int32} (hd : decode M.1 pc = .ok (.newarray .boolean, 2)) (harr : Cond.arrayClass .boolean ∈ gtbl) (hsh : gsh n = .inl (1, N)) (hzz : ∀ k, h n k = 0) (hneg : ¬ z < 0) (hN : z.toNatClampNeg = N) (hbig : N * 1 ≤ 536870912) (n' : Nat) (hn' : n + 1 = n') (hend : n' ≤ xsl X) (pc' : Nat) (hp : pc + 2 = pc') (k : gk M X n' h nl pc' lv (.ref (zb (xZ X) + n) :: st)) : gk M X n h nl pc lv (.int z :: st) := by
  subst hn'
  subst hp
  intro hK H locs ls hS
  obtain ⟨s1, s2, s3, s4, s5⟩ := hS
  have hgz : gsz n = N := by unfold gsz; rw [hsh]
  have r1 := hK.2.2.2.2.2.2.2.2.2.2.1
  have r2 := hK.2.2.2.2.2.2.2.2.2.2.2.1
  have m1 := gsum_mono hend
  have m0 := gsum_s (N := N) s5 hgz
  refine va_newaK hK.1 hK.2.1 (atype := .boolean) (gword hK harr) rfl hd rfl hneg hN hbig (by omega) (by rw [m0]; omega) s1 fun H1 cA e1 z1 o1 _ hcA => ?_
  have ecA : cA = (zG (xZ X)).2.1 := Option.some.inj (hcA.symm.trans (hK.2.2.2.2.2.1.2 1 _ rfl).2)
  subst ecA
  rw [m0, show n - xce X + 1 = n + 1 - xce X by omega]
  have hk : ∀ (k : Nat) (x : Nat × va_E), (g2W (xZ X) n h nl)[k]? = some x → H1[x.1]? = H[x.1]? := fun k x hx => o1 x.1 (by rw [← s1]; exact (s2 k x hx).lt)
  refine k hK H1 locs ls ⟨by rw [z1]; rfl, ?_, ⟨Nat.le_trans s3.1 (by omega), fun x h1 h2 => (o1 x (by have := s3.1; omega)).trans (s3.2.1 x h1 h2), s3.2.2⟩, s4, by omega⟩
  rw [g2W_push]
  refine (s2.kept hk).app (fun k x hx => ?_)
  have hz1 : k < 1 := (List.getElem?_eq_some_iff.mp hx).1
  rw [show k = 0 by omega] at hx
  cases hx
  rw [g2E_z hsh]
  show H1[(zb (xZ X) + n : Nat)]? = some (vp_cell _ _)
  rw [vp_cell_i, e1]
  exact congrArg some (arrV_congr (fun j _ => by rw [hzz j]; rfl))
theorem k_newq {idx N : Nat} {z : Int32} (hd : decode M.1 pc = .ok (.anewarray idx, 3)) (hcl : Cond.classLink M.2.1 idx gTr ∈ gtbl) (hsh : gsh n = .inl (2, N)) (hnl : ∀ k, k < N → nl n k = true) (hneg : ¬ z < 0) (hN : z.toNatClampNeg = N) (hbig : N * 4 ≤ 536870912) (n' : Nat) (hn' : n + 1 = n') (hend : n' ≤ xsl X) (pc' : Nat) (hp : pc + 3 = pc') (k : gk M X n' h nl pc' lv (.ref (zb (xZ X) + n) :: st)) : gk M X n h nl pc lv (.int z :: st) := by
  subst hn'
  subst hp
  subst hN
  intro hK H locs ls hS
  obtain ⟨s1, s2, s3, s4, s5⟩ := hS
  have hgz : gsz n = z.toNatClampNeg := by unfold gsz; rw [hsh]
  have r1 := hK.2.2.2.2.2.2.2.2.2.2.1
  have r2 := hK.2.2.2.2.2.2.2.2.2.2.2.1
  have m1 := gsum_mono hend
  have m0 := gsum_s (N := z.toNatClampNeg) s5 hgz
  refine W.anew hK.1 hK.2.1 hK.2.2.2.1 (gword hK hcl) (va_AO.use hK.2.2.2.2.2.2.2.2.1) rfl hd rfl hneg hbig (by omega) (by rw [m0]; omega) fun cA kA comp f1 f2 f3 f4 => ?_
  obtain ⟨kA', comp', g1, g2, g3, g4⟩ := (hK.2.2.2.2.2.1.2 2 _ rfl).2
  have ecA : cA = (zG (xZ X)).2.2 := Option.some.inj (f1.symm.trans g4)
  subst ecA
  rw [m0, show n - xce X + 1 = n + 1 - xce X by omega]
  generalize hH1 : H.push ({ cls := (zG (xZ X)).2.2, slots := Array.replicate z.toNatClampNeg .null, vm := .none } : Cell) = H1
  have z1 : H1.size = H.size + 1 := by rw [← hH1, Array.size_push]
  have e1 : H1[H.size]? = some (arrV (zG (xZ X)).2.2 z.toNatClampNeg (fun _ => .null)) := by rw [← hH1, Array.getElem?_push_size, ← arrV_new]
  have o1 : ∀ q : Nat, q < H.size → H1[q]? = H[q]? := fun q hq => by rw [← hH1, Array.getElem?_push, if_neg (Nat.ne_of_lt hq)]
  rw [s1] at e1 z1
  have hk : ∀ (k : Nat) (x : Nat × va_E), (g2W (xZ X) n h nl)[k]? = some x → H1[x.1]? = H[x.1]? := fun k x hx => o1 x.1 ((s2 k x hx).lt)
  show W _ _ _ _ _ _ _ _ _ _ _ _ _ _ _ (F0 (xm X) (pc + 3) ls (.ref H.size :: st))
  rw [s1]
  refine k hK H1 locs ls ⟨by rw [z1]; rfl, ?_, ⟨Nat.le_trans s3.1 (by omega), fun x h1 h2 => (o1 x (by have := s3.1; omega)).trans (s3.2.1 x h1 h2), s3.2.2⟩, s4, by omega⟩
  rw [g2W_push]
  refine (s2.kept hk).app (fun k x hx => ?_)
  have hz1 : k < 1 := (List.getElem?_eq_some_iff.mp hx).1
  rw [show k = 0 by omega] at hx
  cases hx
  rw [g2E_q hsh]
  show H1[(zb (xZ X) + n : Nat)]? = some (vp_cell _ _)
  rw [vp_cell_q, e1]
  refine congrArg some (arrV_congr (fun j hj => ?_))
  rw [if_pos (hnl j hj)]
  rfl
theorem g2fs_at {b i : Nat} {h : gH} {nl : Nat → Nat → Bool} {ci k : Nat} {q : Nat × Nat} (hk : (gfk ci)[k]? = some q) : ((gfk ci).mapIdx (fun k q => g2v b i h nl k q))[k]? = some (g2v b i h nl k q) := by rw [List.getElem?_mapIdx, hk]; rfl
/- putting a field: the memory and the nulls behind it -/
theorem g2fs_set {b i : Nat} {h h' : gH} {nl nl' : Nat → Nat → Bool} {ci k : Nat} {q : Nat × Nat} (hk : (gfk ci)[k]? = some q) (hh : ∀ y, y ≠ k → h' i y = h i y ∧ nl' i y = nl i y) : ((gfk ci).mapIdx (fun k q => g2v b i h nl k q)).set k (g2v b i h' nl' k q) = (gfk ci).mapIdx (fun k q => g2v b i h' nl' k q) := by
  apply List.ext_getElem?
  intro j
  rw [List.getElem?_set, List.getElem?_mapIdx, List.getElem?_mapIdx, List.length_mapIdx]
  by_cases e : k = j
  · subst e
    rw [if_pos rfl, if_pos (List.getElem?_eq_some_iff.mp hk).1, hk]; rfl
  · rw [if_neg e]
    cases (gfk ci)[j]? with
    | none => rfl
    | some r =>
      show some _ = some _
      congr 1
      obtain ⟨e1, e2⟩ := hh j (fun z => e z.symm)
      show g2v b i h nl j r = g2v b i h' nl' j r
      unfold g2v gfv
      rw [e1, e2]
/- a final field of the own class, in its constructor: value, kind -/
def gFf (own : String) (idx ci k : Nat) (ty : FieldType) : Prop := ∃ (C : String) (T : u_T) (N : Nat) (ty0 : Nat → FieldType), gcls[ci]? = some (C, T, N) ∧ k < N ∧ Cond.fieldLink own idx (T k).1 (T k).2.1 (T k).2.2.1 ∈ gtbl ∧ (∀ w ∈ u_ws C T N, w ∈ gtbl) ∧ (∀ k, k < N → parseFieldDescriptor (T k).2.2.1 = some (ty0 k)) ∧ (∀ a, a < N → ∀ b, b < N → a ≠ b → (T a).2.1 ≠ (T b).2.1) ∧ (T k).2.2.2 = true ∧ (T k).1 = own ∧ parseFieldDescriptor (T k).2.2.1 = some ty
theorem g2wb {n i : Nat} {h h' : gH} {nl nl' : Nat → Nat → Bool} {X : gX} {H H1 : Heap} {e' : va_E} (hi : i < n) (hP : va_P (zD (xZ X)) gcls (g2W (xZ X) n h nl) H) (he : e' = g2E (zG (xZ X)) (zb (xZ X)) h' nl' i) (hat : va_at (zD (xZ X)) gcls (zb (xZ X) + i, e') H1) (oq : ∀ q : Nat, q ≠ zb (xZ X) + i → H1[q]? = H[q]?) (hh : ∀ j, j ≠ i → ∀ y, h' j y = h j y ∧ nl' j y = nl j y) : va_P (zD (xZ X)) gcls (g2W (xZ X) n h' nl') H1 := by
  rw [← g2W_set hi (fun j hj => g2E_congr (fun y => (hh j hj y).1) (fun y => (hh j hj y).2)), ← he]
  exact hP.set (g2D n h nl) (g2W_at h nl hi) hat oq
theorem k_putF {idx ci k i r : Nat} {q : Nat × Nat} {ty : FieldType} (hd : decode M.1 pc = .ok (.putfield idx, 3)) (hf : gFf M.2.1 idx ci k ty) (hin : (xme X).name = "<init>") (hsh : gsh i = .inr ci) (hk : (gfk ci)[k]? = some q) (hi : i < n) (hq : (q.1 = 2 ∧ i + q.2 = r) ∨ (q.1 = 3 ∧ q.2 = r)) (hn : ∀ a, narrow ty (.ref a) = .ref a) (hfit : ∀ a, fits ty (.ref a) = true) (pc' : Nat) (hp : pc + 3 = pc') (kk : gk M X n h (gnu nl i k) pc' lv st) : gk M X n h nl pc lv (.ref (zb (xZ X) + r) :: .ref (zb (xZ X) + i) :: st) := by
  subst hp
  intro hK H locs ls hS
  obtain ⟨s1, s2, s3, s4, s5⟩ := hS
  obtain ⟨C, T, N, ty0, h1, h2, h3, h4, h5, h6, h7, h8, h9⟩ := hf
  have hat := s2 i _ (g2W_at h nl hi)
  rw [g2E_o hsh] at hat
  obtain ⟨rr, hr1, cell, c1, c2, c3, c4⟩ := hat
  obtain rfl : rr = (C, T, N) := Option.some.inj (hr1.symm.trans h1)
  have hlen : k < ((gfk ci).mapIdx (fun k q => g2v (zb (xZ X)) i h nl k q)).length := by
    rw [List.length_mapIdx]; exact (List.getElem?_eq_some_iff.mp hk).1
  have hKn := hK.2.2.2.2.2.1.1 ci _ h1
  have hap := va_apart (own := M.2.1) hK.2.2.2.2.1 h4 ty0 h5 h6 hK.2.2.2.2.2.1 h1
  obtain ⟨hsl0, hfc, kC, hkC, hkind⟩ := hKn
  obtain ⟨cf, kf, fi, f, hfi, hslot⟩ := hsl0 k h2
  have hlay := hK.2.2.2.2.1 _ (h4 _ (u_in_lay h2))
  unfold u_lay at hlay
  rw [if_pos h7] at hlay
  have hcf : (xm X).cls = cf := by
    obtain ⟨_, _, c', _, _, _, -, -, hf', -, -, -, hown2, -⟩ := Cond.laysFinal_spec hlay
    have e1 : c' = cf := by have e0 := hfi.symm.trans hf'; simp at e0; exact e0.1.symm
    rw [h8] at hown2
    rw [← e1]; exact Option.some.inj (hK.2.2.2.1.symm.trans hown2)
  refine W.putFinK hK.1 hK.2.1 hK.2.2.2.1 (gword hK h3) hfi (u_facts hfc hkC (u_lays hK.2.2.2.2.1 h4 h2) hfi).1 hcf hin (by rw [c2]; exact u_fits hfc hkC hkind (Or.inr hlay) hfi h9 (hn _) (hfit _)) c1 c3 (by rw [hslot]; exact k2_hasslot (c4 k h2)) rfl rfl hd fun H1 e1 e2 e3 => ?_
  rw [hslot] at e1 ⊢
  have ev : (Value.ref (zb (xZ X) + r)) = g2v (zb (xZ X)) i h (gnu nl i k) k q := by
    unfold g2v gfv
    rw [gnu_at, if_neg (fun z => by cases z.1)]
    rcases hq with ⟨w1, w2⟩ | ⟨w1, w2⟩
    · rw [w1, ← w2]; rfl
    · rw [w1, ← w2]; rfl
  refine kk hK H1 _ ls ⟨by rw [e2]; exact s1, g2wb hi s2 (g2E_o hsh).symm ⟨_, h1, t_OB.to (V := updV (vp_V _) k _) ⟨_, e1, c2, c3, t_set c4 hap h2 _⟩ (fun j _ => ?_)⟩ e3 (fun j hj y => ⟨rfl, if_neg (fun z => hj z.1)⟩), s3.put e2 e3 (Nat.le_add_right _ _), s4, s5⟩
  rw [vp_updV_set hlen, ev, g2fs_set hk (fun y hy => ⟨rfl, if_neg (fun z => hy z.2)⟩)]
theorem k_put {idx ci k i : Nat} {q : Nat × Nat} {v : Int} {w : Value} {ty : FieldType} (hd : decode M.1 pc = .ok (.putfield idx, 3)) (hf : gFp M.2.1 idx ci k ty) (hsh : gsh i = .inr ci) (hk : (gfk ci)[k]? = some q) (hq : q.1 < 2) (hi : i < n) (ev : w = gfv (zb (xZ X)) i (gup h i k v) k q) (hn : narrow ty w = w) (hfit : fits ty w = true) (pc' : Nat) (hp : pc + 3 = pc') (kk : gk M X n (gup h i k v) nl pc' lv st) : gk M X n h nl pc lv (w :: .ref (zb (xZ X) + i) :: st) := by
  subst hp
  intro hK H locs ls hS
  obtain ⟨s1, s2, s3, s4, s5⟩ := hS
  obtain ⟨C, T, N, ty0, h1, h2, h3, h4, h5, h6, h7, h9⟩ := hf
  have hat := s2 i _ (g2W_at h nl hi)
  rw [g2E_o hsh] at hat
  obtain ⟨rr, hr1, cell, c1, c2, c3, c4⟩ := hat
  obtain rfl : rr = (C, T, N) := Option.some.inj (hr1.symm.trans h1)
  have hlen : k < ((gfk ci).mapIdx (fun k q => g2v (zb (xZ X)) i h nl k q)).length := by
    rw [List.length_mapIdx]; exact (List.getElem?_eq_some_iff.mp hk).1
  have hKn := hK.2.2.2.2.2.1.1 ci _ h1
  have hap := va_apart (own := M.2.1) hK.2.2.2.2.1 h4 ty0 h5 h6 hK.2.2.2.2.2.1 h1
  obtain ⟨hsl0, hfc, kC, hkC, hkind⟩ := hKn
  obtain ⟨cf, kf, fi, f, hfi, hslot⟩ := hsl0 k h2
  have hlay := hK.2.2.2.2.1 _ (h4 _ (u_in_lay h2))
  unfold u_lay at hlay
  rw [if_neg (by rw [h7]; decide)] at hlay
  refine W.putK hK.1 hK.2.1 (f := f) ⟨hK.2.2.2.1, gword hK h3, ⟨_, _, _, hfi⟩, (u_facts hfc hkC (u_lays hK.2.2.2.2.1 h4 h2) hfi).1⟩ (by rw [c2]; exact u_store hfc hkC hkind hlay hfi h9 hn hfit) c1 c3 (by rw [hslot]; exact k2_hasslot (c4 k h2)) rfl rfl hd fun H1 e1 e2 e3 => ?_
  rw [hslot] at e1 ⊢
  have ev2 : w = g2v (zb (xZ X)) i (gup h i k v) nl k q := by
    unfold g2v
    rw [if_neg (fun z => by have := z.2; omega)]
    exact ev
  refine kk hK H1 _ ls ⟨by rw [e2]; exact s1, g2wb hi s2 (g2E_o hsh).symm ⟨_, h1, t_OB.to (V := updV (vp_V _) k _) ⟨_, e1, c2, c3, t_set c4 hap h2 _⟩ (fun j _ => ?_)⟩ e3 (fun j hj y => ⟨gup_ne (fun z => hj z.1), rfl⟩), s3.put e2 e3 (Nat.le_add_right _ _), s4, s5⟩
  rw [vp_updV_set hlen, ev2, g2fs_set hk (fun y hy => ⟨gup_ne (fun z => hy z.2), rfl⟩)]
theorem k_get {idx ci k i : Nat} {q : Nat × Nat} (w : Value) (hd : decode M.1 pc = .ok (.getfield idx, 3)) (hf : gFl M.2.1 idx ci k) (hsh : gsh i = .inr ci) (hk : (gfk ci)[k]? = some q) (hi : i < n) (ev : g2v (zb (xZ X)) i h nl k q = w) (pc' : Nat) (hp : pc + 3 = pc') (kk : gk M X n h nl pc' lv (w :: st)) : gk M X n h nl pc lv (.ref (zb (xZ X) + i) :: st) := by
  subst hp
  intro hK H locs ls hS
  obtain ⟨C, T, N, h1, h2, h3, h4⟩ := hf
  have hat := g2W_at (Z := xZ X) h nl hi
  rw [g2E_o hsh] at hat
  refine va_get hK.1 hK.2.1 hK.2.2.2.2.1 h4 hK.2.2.2.1 hK.2.2.2.2.2.1 hS.2.1 i hat h1 k h2 (gword hK h3) (fun _ z => z) (g2fs_at hk) hd ?_
  rw [ev]
  exact kk hK H locs ls hS
theorem k_aast {i j v N : Nat} {z : Int32} (hd : decode M.1 pc = .ok (.aastore, 1)) (hsh : gsh i = .inl (2, N)) (hi : i < n) (hv : v < n) (hshv : gsh v = .inr 4) (hz : z = Int32.ofNat j) (hj : j < N) (hN : N < 1000) (hvj : v = i + 1 + 10 * j) (pc' : Nat) (hp : pc + 1 = pc') (kk : gk M X n h (gnu nl i j) pc' lv st) : gk M X n h nl pc lv (.ref (zb (xZ X) + v) :: .int z :: .ref (zb (xZ X) + i) :: st) := by
  subst hp
  subst hz
  intro hK H locs ls hS
  obtain ⟨s1, s2, s3, s4, s5⟩ := hS
  have hat := s2 i _ (g2W_at h nl hi)
  rw [g2E_q hsh] at hat
  have hatv := s2 v _ (g2W_at h nl hv)
  rw [g2E_o hshv] at hatv
  obtain ⟨rr, hr1, cell, c1, c2, c3, -⟩ := hatv
  have hc4 : gcls[4]? = some (gR_4, gT_4, 12) := rfl
  obtain rfl : rr = (gR_4, gT_4, 12) := Option.some.inj (hr1.symm.trans hc4)
  have hcls := (hK.2.2.2.2.2.1.1 4 _ hc4).2
  obtain ⟨kA, comp, k1, k2, k3, -⟩ := (hK.2.2.2.2.2.1.2 2 _ rfl).2
  have hcomp : comp = (zD (xZ X)).1 4 := Option.some.inj (k3.symm.trans hcls.1)
  subst hcomp
  obtain ⟨kC, hkC, -⟩ := hcls.2
  have ejn : (Int32.ofNat j).toNatClampNeg = j := by
    show (Int32.ofInt (j : Int)).toInt.toNat = j
    rw [g32 ⟨by omega, by omega⟩]; rfl
  have ej0 : ¬ (Int32.ofNat j) < 0 := by
    show ¬ (Int32.ofInt (j : Int)) < 0
    rw [gof0, glt ⟨by omega, by omega⟩ gR0]; omega
  refine W.aast hK.1 hK.2.1 hat (fun q h => by cases h) (fun h => by cases h) k1 k2 rfl hkC ⟨ej0, by show _ < (arrV _ _ _).slots.size; rw [arrV_size, ejn]; exact hj⟩ c1 (fun q h => by rw [c3] at h; cases h) (by rw [c2]; exact hkC) (by rw [c2]; exact va_assign hcls) rfl rfl hd fun H1 e1 e2 e3 => ?_
  refine kk hK H1 _ ls ⟨by rw [e2]; exact s1, g2wb hi s2 (g2E_q hsh).symm ?_ e3 (fun x hx y => ⟨rfl, if_neg (fun z => hx z.1)⟩), s3.put e2 e3 (Nat.le_add_right _ _), s4, s5⟩
  show H1[(zb (xZ X) + i : Nat)]? = some (vp_cell _ _)
  rw [e1, ejn, vp_cell_q, vp_cell_q, arrV_store]
  congr 1
  refine arrV_congr (fun y hy => ?_)
  unfold updV
  by_cases hyj : y = j
  · subst hyj
    rw [if_pos rfl, gnu_at, hvj]
    rfl
  · rw [if_neg hyj, show gnu nl i j i y = nl i y from if_neg (fun z => hyj z.2)]
end GK
/- a constructor's contract: from n cells, memory h, nulls nl to n', h', nl' -/
def g2Rm (fr lo n n' : Nat) : Room := { frames := fr, cells := n' - n, slots := gsum n' - gsum n, locals := lo }
def gC2 (Z : gZ) (y : MethodName) (cc : ByteArray) (nL fr lo : Nat) (as : List Value) (n : Nat) (h : gH) (nl : Nat → Nat → Bool) (n' : Nat) (h' : gH) (nl' : Nat → Nat → Bool) : Prop :=
  Met (zl Z) y (.code y cc nL none :: gtbl) (g2Rm fr lo n n') (va_Pc as (g2Wd Z n h nl)) (fun _ st oc t => oc = .returned none ∧ g2Wd Z n' h' nl' t ∧ va_F (gBA Z) st t) (n' - n) (gsum n' - gsum n) (gBA Z)
theorem gC2_of {Z : gZ} {y : MethodName} {cc : ByteArray} {nL fr lo : Nat} {as : List Value} {n n' : Nat} {h h' : gH} {nl nl' : Nat → Nat → Bool} {own : String} {lv : List (Nat × Value)} (hy : plainName y.cls = true) (hown : y.cls = own) (hyn : y.name = "<init>") (hlen : (lg_sl as).length ≤ nL) (hlv : lv_args 0 as = lv)
    (k : ∀ X : gX, xZ X = Z → (xme X).name = "<init>" → xsl X = n' → xce X = n → (∀ (H : Heap) (locs : List Loc) (ls : Array Slot) (pc : Nat), decode cc pc = .ok (.return_, 1) → gkS X n' h' nl' [] H locs ls → g2K (cc, own, fr, lo, nL) X → gkW X n' H locs pc ls []) → gk (cc, own, fr, lo, nL) X n h nl 0 lv []) : gC2 Z y cc nL fr lo as n h nl n' h' nl' := by
  refine Met.ofW (cc := cc) (maxL := nL) (ret := none) hy rfl ?_
  intro p e s m args below meth c s₁ B hml hv
  obtain ⟨rfl, hsz, hP, hK, hAO⟩ := hv
  have hts := atoms_spec (ws := .code y cc nL none :: gtbl) B.pre
  have hown' : s.vm.findClass own = some m.cls := by rw [← hown]; exact findClass_of_methodNamed B.named
  have hin : meth.name = "<init>" := by rw [← hyn]; exact (name_of_methodNamed B.named B.method).1
  have hl := lv_entry as (n := nL) hlen
  rw [lg_entry_eq]
  generalize (lg_sl as ++ List.replicate (nL - (lg_sl as).length) Slot.unset).toArray = ls at hl ⊢
  rw [hlv] at hl
  have hfin : ∀ (H : Heap) (locs : List Loc) (ls : Array Slot) (pc : Nat), decode cc pc = .ok (.return_, 1) → gkS (Z, p, e, g2Rm fr lo n n', s, m, as.toArray, below, meth, c, nL, n, n', MQ below (fun _ st oc t => oc = .returned none ∧ g2Wd Z n' h' nl' t ∧ va_F (gBA Z) st t) as.toArray s (n' - n) (gsum n' - gsum n) (gBA Z), s.heap) n' h' nl' [] H locs ls → g2K (cc, own, fr, lo, nL) (Z, p, e, g2Rm fr lo n n', s, m, as.toArray, below, meth, c, nL, n, n', MQ below (fun _ st oc t => oc = .returned none ∧ g2Wd Z n' h' nl' t ∧ va_F (gBA Z) st t) as.toArray s (n' - n) (gsum n' - gsum n) (gBA Z), s.heap) → gkW (Z, p, e, g2Rm fr lo n n', s, m, as.toArray, below, meth, c, nL, n, n', MQ below (fun _ st oc t => oc = .returned none ∧ g2Wd Z n' h' nl' t ∧ va_F (gBA Z) st t) as.toArray s (n' - n) (gsum n' - gsum n) (gBA Z), s.heap) n' H locs pc ls [] := by
    intro H locs ls pc hd hS _
    show W p (zl Z) e (g2Rm fr lo n n') s m as.toArray below meth c H locs (n' - n) (gsum n' - gsum n) (MQ below (fun _ st oc t => oc = .returned none ∧ g2Wd Z n' h' nl' t ∧ va_F (gBA Z) st t) as.toArray s (n' - n) (gsum n' - gsum n) (gBA Z)) (F0 m pc ls [])
    exact W.vret B.exec B.bytes B.returns (fun t ht hW => ⟨rfl, ⟨by rw [ht]; exact hS.1, by rw [ht]; exact hS.2.1, va_K.moved hW.alike hK, va_AO.moved hW.alike hAO⟩, va_S.F hS.2.2.1 ht⟩) hS.2.2.1.2.2 hd B.notSynchronized
  have q := k (Z, p, e, g2Rm fr lo n n', s, m, as.toArray, below, meth, c, nL, n, n', MQ below (fun _ st oc t => oc = .returned none ∧ g2Wd Z n' h' nl' t ∧ va_F (gBA Z) st t) as.toArray s (n' - n) (gsum n' - gsum n) (gBA Z), s.heap) rfl hin rfl rfl hfin ⟨B.exec, B.bytes, ⟨hml, rfl⟩, hown', fun w hw => hts w (List.mem_cons_of_mem _ hw), hK, Nat.le_refl _, Nat.le_refl _, hAO, by show zb Z ≤ s.heap.size; rw [hsz]; exact Nat.le_add_right _ _, Nat.le_refl _, Nat.le_refl _, hsz⟩ s.heap [] ls ⟨hsz, hP, va_S.rf, hl, Nat.le_refl _⟩
  have e0 : n - n = 0 := Nat.sub_self n
  have e1 : gsum n - gsum n = 0 := Nat.sub_self _
  unfold gkW at q
  dsimp only [xce] at q
  rw [e0, e1] at q
  exact q
theorem k_ret {M : gM} {X : gX} {n : Nat} {h : gH} {nl nl' : Nat → Nat → Bool} {pc : Nat} {lv : List (Nat × Value)} (hd : decode M.1 pc = .ok (.return_, 1)) (hw : ∀ Z : gZ, g2W Z n h nl = g2W Z n h nl') (hF : ∀ (H : Heap) (locs : List Loc) (ls : Array Slot) (pc : Nat), decode M.1 pc = .ok (.return_, 1) → gkS X n h nl' [] H locs ls → g2K M X → gkW X n H locs pc ls []) : gk M X n h nl pc lv [] := by
  intro hK H locs ls hS
  exact hF H locs ls pc hd ⟨hS.1, by rw [← hw]; exact hS.2.1, hS.2.2.1, ⟨hS.2.2.2.1.1, hS.2.2.2.1.2.1, fun q h => by cases h⟩, hS.2.2.2.2⟩ hK
theorem k_callI {M : gM} {X : gX} {n n' : Nat} {h h' : gH} {nl nl' : Nat → Nat → Bool} {pc : Nat} {lv : List (Nat × Value)} {st : List Value} {idx fr lo nL' : Nat} {yy : MethodName} {cc' : ByteArray} {as stk : List Value} {a : Nat} (hd : decode M.1 pc = .ok (.invokespecial idx, 3)) (hst : stk = as.reverse ++ .ref a :: st) (hy : gCy M.2.1 idx yy cc' nL' none as.length) (hyn : yy.name = "<init>") (hin : Cond.instanceMethod yy ∈ gtbl) (hroom : fr + 1 ≤ M.2.2.1 ∧ 8 + (nL' + 11) + lo ≤ M.2.2.2.1) (hcat : (st.map fun v => v.category).sum ≤ 8) (hnn : n ≤ n') (hend : n' ≤ xsl X) (hc : gC2 (xZ X) yy cc' nL' fr lo (.ref a :: as) n h nl n' h' nl') (pc' : Nat) (hp : pc + 3 = pc') (k : gk M X n' h' nl' pc' lv st) : gk M X n h nl pc lv stk := by
  subst hp
  subst hst
  intro hK H locs ls hS
  obtain ⟨s1, s2, s3, s4, s5⟩ := hS
  obtain ⟨hy1, hy2, hy3, hy4⟩ := hy
  have r1 := hK.2.2.2.2.2.2.2.2.2.2.1
  have r2 := hK.2.2.2.2.2.2.2.2.2.2.2.1
  have m1 := gsum_mono hend
  have m2 := gsum_mono hnn
  have m3 := gsum_mono s5
  have cw : CallB (xR X) (xs X) (xa X) M.2.1 idx yy cc' nL' none (.code yy cc' nL' none :: gtbl) (g2Rm fr lo n n') (n' - n) (gsum n' - gsum n) as.length ∧ yy.name = "<init>" ∧ (Cond.instanceMethod yy).before (xa X) (xs X) = true :=
    ⟨callB_of _ hK.2.2.2.2.1 (gGood hy3) rfl rfl rfl (gword hK hy2) (gword hK hy1) hy4 ⟨Nat.le_trans hroom.1 hK.2.2.2.2.2.2.1, Nat.le_trans hroom.2 hK.2.2.2.2.2.2.2.1⟩, hyn, gword hK hin⟩
  have run := va_runI (cc := M.1) (nL := xn X) (Ts := gtbl) (own := M.2.1) (e := xe X) (below := xb X) (meth := xme X) (H := H) (locs := locs) (cells := n - xce X) (slots := gsum n - gsum (xce X)) (As := as) (rest := st) (g := F0 (xm X) pc ls (as.reverse ++ .ref a :: st)) ⟨hK.1, hK.2.1, hK.2.2.1.1, hK.2.2.2.1, hK.2.2.2.2.1⟩ hc cw (b := a)
    ⟨fun _ U g mk q => ⟨q.1, q.2.1, q.2.2.1, va_K.moved (u := U) (Vm.Alike.refl U.vm) q.2.2.2.1, va_AO.moved (u := U) (Vm.Alike.refl U.vm) q.2.2.2.2⟩, fun U hU hW => ⟨rfl, by rw [hU]; exact s1, by rw [hU]; exact s2, va_K.moved hW.alike hK.2.2.2.2.2.1, va_AO.moved hW.alike hK.2.2.2.2.2.2.2.2.1⟩⟩ rfl rfl s4.1 rfl (Nat.le_trans (Nat.le_of_eq (Nat.zero_add _)) hcat) hd ⟨by omega, by omega⟩
  intro T hT X'
  obtain ⟨v, st₀, t, T', L, h0, X'', hL, e1, e2, ⟨hv, ⟨w1, w2, w3, w4⟩, hF⟩, stp⟩ := run T hT X'
  have hv' : v = none := by cases hv; rfl
  subst hv'
  rw [show n - xce X + (n' - n) = n' - xce X by omega, show gsum n - gsum (xce X) + (gsum n' - gsum n) = gsum n' - gsum (xce X) by omega] at X''
  have hz : H.size ≤ T'.heap.size := by rw [e1, ← h0]; exact hF.1
  have hkeep : ∀ q : Nat, q < H.size → ¬ gBA (xZ X) q → T'.heap[q]? = H[q]? := fun q h1 h2 => by
    rw [e1, hF.2 q (by rw [h0]; exact h1) h2, h0]
  have hS1 : va_S (gBA (xZ X)) (xH X) T'.heap (locs ++ L) := by
    refine ⟨Nat.le_trans s3.1 hz, fun q h1 h2 => ?_, fun q hq => ?_⟩
    · rw [hkeep q (Nat.lt_of_lt_of_le h1 s3.1) h2]
      exact s3.2.1 q h1 h2
    · rcases List.mem_append.mp hq with h | h
      · exact s3.2.2 q h
      · exact hL q h
  obtain ⟨t2, a1, b1⟩ := k hK T'.heap (locs ++ L) ls ⟨by rw [e1]; exact w1, by rw [e1]; exact w2, hS1, s4, by omega⟩ T' rfl X''
  exact ⟨t2, stp t2 a1, b1⟩
/- begin, called while things are made, over the cells of the object and of the city -/
theorem k_begin {M : gM} {X : gX} {n : Nat} {h : gH} {nl : Nat → Nat → Bool} {pc : Nat} {lv : List (Nat × Value)} {st : List Value} {idx t c : Nat} {o : gO} (L : List Nat) (hL1 : L.Nodup) (hL2 : ∀ i ∈ L, i < n) (hlt : ∀ k, k < 10 → t + k ∈ L) (hlp : ∀ c, gsh c = .inr 0 → ∀ k, k < 12 → c + k ∈ L) (hfull : ∀ i ∈ L, ∀ (G : gG) (b : Nat) (h : gH), g2E G b h nl i = gE G b h i) (hd : decode M.1 pc = .ok (.invokevirtual idx, 3)) (hy : gCy M.2.1 idx gy_Traffic_begin gc_Traffic_begin 3 none 1) (hin : Cond.instanceMethod gy_Traffic_begin ∈ gtbl) (hse : Cond.selects gy_Traffic_begin.cls gy_Traffic_begin gy_Traffic_begin ∈ gtbl) (hroom : 1 ≤ M.2.2.1 ∧ 22 ≤ M.2.2.2.1) (hcat : (st.map fun v => v.category).sum ≤ 8) (hend : n ≤ xsl X) (ht : gsh t = .inr 4) (hc : gsh c = .inr 0) (hg : gRg h) (hx : f_Traffic_begin t c h = some o) (ho : ∀ i, i ∉ L → o.1 i = h i) (pc' : Nat) (hp : pc + 3 = pc') (k : gk M X n o.1 nl pc' lv st) : gk M X n h nl pc lv (.ref (zb (xZ X) + c) :: .ref (zb (xZ X) + t) :: st) := by
  subst hp
  intro hK H locs ls hS
  obtain ⟨s1, s2, s3, s4, s5⟩ := hS
  obtain ⟨hy1, hy2, hy3, hy4⟩ := hy
  generalize hZ' : ((zl (xZ X), zD (xZ X), zb (xZ X), L, zG (xZ X)) : gZ) = Z'
  have e1 : zl Z' = zl (xZ X) := by rw [← hZ']
  have e2 : zD Z' = zD (xZ X) := by rw [← hZ']
  have e3 : zb Z' = zb (xZ X) := by rw [← hZ']
  have e4 : zL Z' = L := by rw [← hZ']
  have e5 : zG Z' = zG (xZ X) := by rw [← hZ']
  have eT : gTy Z' = gTy (xZ X) := by rw [← hZ']; rfl
  have hM : gC Z' gy_Traffic_begin gc_Traffic_begin 3 none 0 0 [.inr (.inr t), .inr (.inr c)] h o := c2_Traffic_begin (by rw [e4]; exact hlt) (by rw [e4]; exact hlp) (by rw [e4]; exact hL1) ht hc hg (fun v hv => by
    rcases List.mem_cons.mp hv with rfl | hv
    · trivial
    · rcases List.mem_cons.mp hv with rfl | hv
      · trivial
      · cases hv) hx
  unfold gC at hM
  rw [e1] at hM
  have htL : t ∈ L := hlt 0 (by decide)
  have hPw : ∀ {h : gH} {H : Heap}, va_P (zD (xZ X)) gcls (g2W (xZ X) n h nl) H → va_P (zD Z') gcls (gW Z' h) H := by
    intro h H hP k q hq
    rw [gW, List.getElem?_map, e4] at hq
    cases hi : L[k]? with
    | none => rw [hi] at hq; cases hq
    | some i =>
      rw [hi] at hq
      cases hq
      have hm := List.mem_of_getElem? hi
      have := hP i _ (g2W_at h nl (hL2 i hm))
      rw [hfull i hm] at this
      rw [e2, e3, e5]
      exact this
  have hrec : ∃ cellB : Cell, H[zb (xZ X) + t]? = some cellB ∧ cellB.vm.isStatics = false ∧ (xs X).vm.findClass gy_Traffic_begin.cls = some cellB.cls := by
    have hat := g2W_at (Z := xZ X) h nl (hL2 t htL)
    rw [g2E_o ht] at hat
    exact va_recv hK.2.2.2.2.2.1 s2 (q := (gR_4, gT_4, 12)) rfl hat
  have cw : CallW (xR X) (xs X) (xa X) M.2.1 gy_Traffic_begin.cls idx gy_Traffic_begin gc_Traffic_begin 3 none (.code gy_Traffic_begin gc_Traffic_begin 3 none :: gtbl) (gRm 0 0) 0 0 1 :=
    ⟨callB_of _ hK.2.2.2.2.1 (gGood hy3) rfl rfl rfl (gword hK hy2) (gword hK hy1) hy4 ⟨Nat.le_trans hroom.1 hK.2.2.2.2.2.2.1, Nat.le_trans hroom.2 hK.2.2.2.2.2.2.2.1⟩, gword hK hin, gword hK hse⟩
  have r1 := hK.2.2.2.2.2.2.2.2.2.2.1
  have r2 := hK.2.2.2.2.2.2.2.2.2.2.2.1
  have r3 := hK.2.2.2.2.2.2.2.2.2.2.2.2
  have m1 := gsum_mono hend
  have run := va_runV (cc := M.1) (nL := xn X) (Ts := gtbl) (own := M.2.1) (e := xe X) (below := xb X) (meth := xme X) (H := H) (locs := locs) (cells := n - xce X) (slots := gsum n - gsum (xce X)) (As := [.ref (zb (xZ X) + c)]) (rest := st) (g := F0 (xm X) pc ls (.ref (zb (xZ X) + c) :: .ref (zb (xZ X) + t) :: st)) ⟨hK.1, hK.2.1, hK.2.2.1.1, hK.2.2.2.1, hK.2.2.2.2.1⟩ hM cw (b := zb (xZ X) + t)
    ⟨gBlind _ _ _, hrec, fun U hU hW => ⟨by rw [← hZ']; rfl, by rw [hU]; exact hPw s2, by rw [e2, eT]; exact va_K.moved hW.alike hK.2.2.2.2.2.1⟩⟩ rfl rfl s4.1 rfl (Nat.le_trans (Nat.le_of_eq (Nat.zero_add _)) hcat) hd ⟨by show n - xce X + 0 ≤ _; omega, by show gsum n - gsum (xce X) + 0 ≤ _; omega⟩
  intro T hT X'
  obtain ⟨v, st₀, t', T', Lc, h0, X'', hLc, f1, f2, ⟨hv, ⟨hg1, hr1⟩, ⟨hP1, hK1⟩, hF⟩, stp⟩ := run T hT X'
  have hv' : v = none := by cases hv; rfl
  subst hv'
  have hA : ∀ i, i ∉ L → ¬ gA Z' (zb (xZ X) + i) := fun i hi z => by
    obtain ⟨j, hj, e⟩ := z
    rw [e3] at e
    rw [e4] at hj
    have : i = j := Nat.add_left_cancel e
    subst this
    exact hi hj
  have hsub : ∀ q, gA Z' q → gBA (xZ X) q := fun q z => by
    obtain ⟨j, hj, e⟩ := z
    rw [e, e3]
    exact Nat.le_add_right _ _
  have hz1 : H.size ≤ T'.heap.size := by rw [f1, ← h0]; exact hF.1
  have hz2 : T'.heap.size ≤ zb (xZ X) + n := by
    have := X''.same.2.2.1
    have e : (T'.setVm (xs X).vm).heap.size = T'.heap.size := rfl
    rw [e, r3] at this
    omega
  have hkeep : ∀ q : Nat, q < H.size → ¬ gA Z' q → T'.heap[q]? = H[q]? := fun q h1 h2 => by
    rw [f1, hF.2 q (by rw [h0]; exact h1) h2, h0]
  have hS1 : va_S (gBA (xZ X)) (xH X) T'.heap (locs ++ Lc) := by
    refine ⟨Nat.le_trans s3.1 hz1, fun q h1 h2 => ?_, fun q hq => ?_⟩
    · rw [hkeep q (Nat.lt_of_lt_of_le h1 s3.1) (fun z => h2 (hsub q z))]
      exact s3.2.1 q h1 h2
    · rcases List.mem_append.mp hq with h | h
      · exact s3.2.2 q h
      · exact hsub _ (hLc q h)
  have hP2 : va_P (zD (xZ X)) gcls (g2W (xZ X) n o.1 nl) T'.heap := by
    intro k q hq
    have hkn : k < n := by
      have := (List.getElem?_eq_some_iff.mp hq).1
      rw [g2W_len] at this
      exact this
    rw [g2W_at o.1 nl hkn] at hq
    cases hq
    by_cases hm : k ∈ L
    · obtain ⟨j, hj⟩ := List.getElem?_of_mem hm
      have hw := hP1 j (zb Z' + k, gE (zG Z') (zb Z') o.1 k) (gW_at o.1 (by rw [e4]; exact hj))
      rw [e2, e3, e5, ← f1, ← hfull k hm] at hw
      exact hw
    · rw [g2E_congr (h := h) (h' := o.1) (nl := nl) (nl' := nl) (fun y => by rw [ho k hm]) (fun _ => rfl)]
      refine (s2 k _ (g2W_at h nl hkn)).kept ?_
      exact hkeep _ (by rw [s1]; exact Nat.add_lt_add_left hkn _) (hA k hm)
  obtain ⟨t2, a1, b1⟩ := k hK T'.heap (locs ++ Lc) ls ⟨by rw [s1] at hz1; exact Nat.le_antisymm hz2 hz1, hP2, hS1, s4, s5⟩ T' rfl X''
  exact ⟨t2, stp t2 a1, b1⟩
