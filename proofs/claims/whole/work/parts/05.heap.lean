theorem gup_at (h : gH) (a k : Nat) (v : Int) : gup h a k v a k = v := if_pos ⟨rfl, rfl⟩
theorem gup_ne {h : gH} {a k : Nat} {v : Int} {x y : Nat} (hn : ¬ (x = a ∧ y = k)) : gup h a k v x y = h x y := if_neg hn
theorem gRg_up {h : gH} {a k : Nat} {v : Int} (hg : gRg h) (hv : gR32 v) : gRg (gup h a k v) := by
  intro x y
  unfold gup
  split
  · exact hv
  · exact hg x y
theorem gsh_lt {i : Nat} {k : gK} (h : gsh i = k) (hk : k ≠ .inl (9, 0)) : i < gN := by
  apply Decidable.byContradiction
  intro hn
  have hl : gtab.length ≤ i := by
    have : gtab.length = gN := by decide +kernel
    omega
  unfold gsh at h
  rw [List.getD_eq_getElem?_getD, List.getElem?_eq_none hl] at h
  exact hk h.symm
abbrev gLive (Z : gZ) : Prop := ∀ i, i < gN → i ∈ zL Z
theorem gli {Z : gZ} (hL : gLive Z) {i ci : Nat} (h : gsh i = .inr ci) : i ∈ zL Z := hL i (gsh_lt h (by intro q; cases q))
theorem glj {Z : gZ} (hL : gLive Z) {i t n : Nat} (h : gsh i = .inl (t, n)) (ht : t ≠ 9) : i ∈ zL Z := hL i (gsh_lt h (by intro q; cases q; exact ht rfl))
theorem gE_congr {G : gG} {b : Nat} {h h' : gH} {i : Nat} (e : ∀ y, h' i y = h i y) : gE G b h' i = gE G b h i := by
  have e' : h' i = h i := funext e
  unfold gE
  rcases hs : gsh i with ⟨t, n⟩ | ci
  · rcases t with _ | t
    · simp only [e']
    · rcases t with _ | t <;> simp only [e']
  · simp only []
    congr 2
    congr 1
    funext k q
    unfold gfv
    rw [e']
theorem gnd {L : List Nat} (hn : L.Nodup) {i j a : Nat} (hi : L[i]? = some a) (hj : L[j]? = some a) : i = j := by
  have hp := List.pairwise_iff_getElem.mp hn
  obtain ⟨l1, e1⟩ := List.getElem?_eq_some_iff.mp hi
  obtain ⟨l2, e2⟩ := List.getElem?_eq_some_iff.mp hj
  rcases Nat.lt_trichotomy i j with h | h | h
  · exact absurd (e1.trans e2.symm) (hp i j l1 l2 h)
  · exact h
  · exact absurd (e2.trans e1.symm) (hp j i l2 l1 h)
theorem gW_len (Z : gZ) (h : gH) : (gW Z h).length = (zL Z).length := by rw [gW, List.length_map]
theorem gW_at {Z : gZ} (h : gH) {q i : Nat} (hq : (zL Z)[q]? = some i) : (gW Z h)[q]? = some (zb Z + i, gE (zG Z) (zb Z) h i) := by
  rw [gW, List.getElem?_map, hq]; rfl
theorem gW_set {Z : gZ} (hn : (zL Z).Nodup) {h h' : gH} {q i : Nat} (hq : (zL Z)[q]? = some i) (hh : ∀ j, j ≠ i → ∀ y, h' j y = h j y) : (gW Z h).set q (zb Z + i, gE (zG Z) (zb Z) h' i) = gW Z h' := by
  apply List.ext_getElem?
  intro k
  rw [List.getElem?_set, gW_len]
  by_cases hk : q = k
  · subst hk
    rw [if_pos rfl, gW_at h' hq, if_pos (List.getElem?_eq_some_iff.mp hq).1]
  · rw [if_neg hk]
    cases hz : (zL Z)[k]? with
    | none => rw [gW, gW, List.getElem?_map, List.getElem?_map, hz]; rfl
    | some j =>
      rw [gW_at h hz, gW_at h' hz]
      have hj : j ≠ i := by
        intro e
        subst e
        exact hk (gnd hn hq hz)
      rw [gE_congr (hh j hj)]
theorem gD {Z : gZ} (hn : (zL Z).Nodup) (h : gH) : va_D (gA Z) (gW Z h) := by
  refine ⟨fun i j p q hp hq e => ?_, fun k q hq => ?_⟩
  · rw [gW, List.getElem?_map] at hp hq
    cases h1 : (zL Z)[i]? with
    | none => rw [h1] at hp; cases hp
    | some a =>
      cases h2 : (zL Z)[j]? with
      | none => rw [h2] at hq; cases hq
      | some b =>
        rw [h1] at hp
        rw [h2] at hq
        cases hp
        cases hq
        have e' : a = b := Nat.add_left_cancel e
        subst e'
        exact gnd hn h1 h2
  · rw [gW, List.getElem?_map] at hq
    cases h1 : (zL Z)[k]? with
    | none => rw [h1] at hq; cases hq
    | some a =>
      rw [h1] at hq
      cases hq
      exact ⟨a, List.mem_of_getElem? h1, rfl⟩
theorem gE_i {G : gG} {b : Nat} {h : gH} {i n : Nat} (hs : gsh i = .inl (0, n)) : gE G b h i = .inl (G.1, n, .inl (fun j => Int32.ofInt (h i j))) := by unfold gE; rw [hs]; rfl
theorem gE_z {G : gG} {b : Nat} {h : gH} {i n : Nat} (hs : gsh i = .inl (1, n)) : gE G b h i = .inl (G.2.1, n, .inl (fun j => Int32.ofInt (h i j))) := by unfold gE; rw [hs]; rfl
theorem gE_q {G : gG} {b : Nat} {h : gH} {i n : Nat} (hs : gsh i = .inl (2, n)) : gE G b h i = .inl (G.2.2, n, .inr (.inr (.inr (.inr (fun j => some (b + (i + 1 + 10 * j))))))) := by unfold gE; rw [hs]; rfl
theorem gE_o {G : gG} {b : Nat} {h : gH} {i ci : Nat} (hs : gsh i = .inr ci) : gE G b h i = .inr (ci, (gfk ci).mapIdx (fun k q => gfv b i h k q)) := by unfold gE; rw [hs]
/- a field that an instruction names: class ci, number k -/
def gFl (own : String) (idx ci k : Nat) : Prop := ∃ (C : String) (T : u_T) (N : Nat), gcls[ci]? = some (C, T, N) ∧ k < N ∧ Cond.fieldLink own idx (T k).1 (T k).2.1 (T k).2.2.1 ∈ gtbl ∧ ∀ w ∈ u_ws C T N, w ∈ gtbl
def gFp (own : String) (idx ci k : Nat) (ty : FieldType) : Prop := ∃ (C : String) (T : u_T) (N : Nat) (ty0 : Nat → FieldType), gcls[ci]? = some (C, T, N) ∧ k < N ∧ Cond.fieldLink own idx (T k).1 (T k).2.1 (T k).2.2.1 ∈ gtbl ∧ (∀ w ∈ u_ws C T N, w ∈ gtbl) ∧ (∀ k, k < N → parseFieldDescriptor (T k).2.2.1 = some (ty0 k)) ∧ (∀ a, a < N → ∀ b, b < N → a ≠ b → (T a).2.1 ≠ (T b).2.1) ∧ (T k).2.2.2 = false ∧ parseFieldDescriptor (T k).2.2.1 = some ty
theorem gfs_at {b i : Nat} {h : gH} {ci k : Nat} {q : Nat × Nat} (hk : (gfk ci)[k]? = some q) : ((gfk ci).mapIdx (fun k q => gfv b i h k q))[k]? = some (gfv b i h k q) := by rw [List.getElem?_mapIdx, hk]; rfl
theorem gvin {n : Nat} {i : Int} (ri : gR32 i) (hi : gix n i = true) : vp_in (Int32.ofInt i) n ∧ (Int32.ofInt i).toNatClampNeg = i.toNat := by
  have e : (Int32.ofInt i).toNatClampNeg = i.toNat := by
    show ((Int32.ofInt i).toInt).toNat = i.toNat
    rw [g32 ri]
  unfold gix at hi
  rw [Bool.and_eq_true, decide_eq_true_eq, decide_eq_true_eq] at hi
  refine ⟨fun q => ?_, e⟩
  rcases q with q | q
  · rw [gof0, glt ri gR0] at q; omega
  · rw [e] at q; omega
theorem gupd_eq {h : gH} {a : Nat} {k : Nat} {v : Int} : (fun j => Int32.ofInt (gup h a k v a j)) = upd (fun j => Int32.ofInt (h a j)) k (Int32.ofInt v) := by
  funext j
  unfold gup upd
  by_cases e : j = k
  · subst e; simp
  · simp [e]
theorem gfs_set {b i : Nat} {h : gH} {ci k : Nat} {v : Int} {q : Nat × Nat} (hk : (gfk ci)[k]? = some q) : ((gfk ci).mapIdx (fun k q => gfv b i h k q)).set k (gfv b i (gup h i k v) k q) = (gfk ci).mapIdx (fun k' q' => gfv b i (gup h i k v) k' q') := by
  apply List.ext_getElem?
  intro j
  rw [List.getElem?_set, List.getElem?_mapIdx, List.getElem?_mapIdx, List.length_mapIdx]
  by_cases e : k = j
  · subst e
    rw [if_pos rfl, if_pos (List.getElem?_eq_some_iff.mp hk).1, hk]; rfl
  · rw [if_neg e]
    cases (gfk ci)[j]? with
    | none => rfl
    | some r =>
      show some _ = some _
      congr 1
      show gfv b i h j r = gfv b i (gup h i k v) j r
      unfold gfv
      rw [gup_ne (fun q => e q.2.symm)]
section GH
variable {x y : Option gO} {o : gO} {M : gM} {X : gX} {h : gH} {pc : Nat} {lv : gL} {st : List gV}
theorem gget {idx ci k a : Nat} {q : Nat × Nat} {w : gV} (hd : decode M.1 pc = .ok (.getfield idx, 3)) (pc' : Nat) (hp : pc + 3 = pc') (hf : gFl M.2.1 idx ci k) (hsh : gsh a = .inr ci) (hk : (gfk ci)[k]? = some q) (hi : a ∈ zL (xZ X)) (hw : gRg h → gRv w) (he : gfv (zb (xZ X)) a h k q = gem (zb (xZ X)) w) (kk : gr x o M X h pc' lv (w :: st)) : gr x o M X h pc lv (.inr (.inr a) :: st) := by
  subst hp
  intro hx hK hs H locs ls hS
  obtain ⟨C, T, N, h1, h2, h3, h4⟩ := hf
  obtain ⟨q0, hq0⟩ := List.getElem?_of_mem hi
  have hat := gW_at h hq0
  rw [gE_o hsh] at hat
  refine va_get hK.1 hK.2.1 hK.2.2.2.2.1 h4 hK.2.2.2.1 hK.2.2.2.2.2.1 hS.2.2.1 q0 hat h1 k h2 (hK.2.2.2.2.1 _ h3) (fun _ z => z) (gfs_at hk) hd ?_
  rw [he]
  exact kk hx hK (gRl_c (hw hS.1) (gRl_t hs)) H locs ls hS
theorem gr_geti {idx ci k a z : Nat} (hd : decode M.1 pc = .ok (.getfield idx, 3)) (pc' : Nat) (hp : pc + 3 = pc') (hf : gFl M.2.1 idx ci k) (hsh : gsh a = .inr ci) (hk : (gfk ci)[k]? = some (0, z)) (hi : a ∈ zL (xZ X)) (kk : gr x o M X h pc' lv (.inl (h a k) :: st)) : gr x o M X h pc lv (.inr (.inr a) :: st) :=
  gget (w := .inl (h a k)) hd pc' hp hf hsh hk hi (fun hg => hg a k) rfl kk
theorem gsh0 : gsh 0 = .inr 6 := by decide +kernel
theorem gnz_of {v : Int} {ci : Nat} (hc : gsh v.toNat = .inr ci) (h6 : ci ≠ 6) : v ≠ 0 := by
  intro e
  subst e
  have h0 : gsh 0 = .inr ci := hc
  rw [gsh0] at h0
  exact h6 (Sum.inr.inj h0).symm
theorem gr_getd {idx ci k a z : Nat} (hd : decode M.1 pc = .ok (.getfield idx, 3)) (pc' : Nat) (hp : pc + 3 = pc') (hf : gFl M.2.1 idx ci k) (hsh : gsh a = .inr ci) (hk : (gfk ci)[k]? = some (1, z)) (hi : a ∈ zL (xZ X)) (kk : gcl (h a k).toNat 0 = true → gr x o M X h pc' lv (.inr (.inr (h a k).toNat) :: st)) : gr (gd (gcl (h a k).toNat 0) x) o M X h pc lv (.inr (.inr a) :: st) := by
  refine gr_gd fun hc => ?_
  refine gget (w := .inr (.inr (h a k).toNat)) hd pc' hp hf hsh hk hi (fun _ => trivial) ?_ (kk hc)
  show (if h a k = 0 then Value.null else Value.ref _) = Value.ref _
  rw [if_neg (gnz_of (of_decide_eq_true hc) (by decide))]
theorem gr_getr {idx ci k a z : Nat} (hd : decode M.1 pc = .ok (.getfield idx, 3)) (pc' : Nat) (hp : pc + 3 = pc') (hf : gFl M.2.1 idx ci k) (hsh : gsh a = .inr ci) (hk : (gfk ci)[k]? = some (2, z)) (hi : a ∈ zL (xZ X)) (r : Nat) (hr : a + z = r) (kk : gr x o M X h pc' lv (.inr (.inr r) :: st)) : gr x o M X h pc lv (.inr (.inr a) :: st) :=
  gget (w := .inr (.inr r)) hd pc' hp hf hsh hk hi (fun _ => trivial) (by rw [← hr]; rfl) kk
theorem gr_geta {idx ci k a z : Nat} (hd : decode M.1 pc = .ok (.getfield idx, 3)) (pc' : Nat) (hp : pc + 3 = pc') (hf : gFl M.2.1 idx ci k) (hsh : gsh a = .inr ci) (hk : (gfk ci)[k]? = some (3, z)) (hi : a ∈ zL (xZ X)) (kk : gr x o M X h pc' lv (.inr (.inr z) :: st)) : gr x o M X h pc lv (.inr (.inr a) :: st) :=
  gget (w := .inr (.inr z)) hd pc' hp hf hsh hk hi (fun _ => trivial) rfl kk
theorem gput {idx ci k a : Nat} {q : Nat × Nat} {v : Int} {w : gV} {ty : FieldType} (hd : decode M.1 pc = .ok (.putfield idx, 3)) (pc' : Nat) (hp : pc + 3 = pc') (hf : gFp M.2.1 idx ci k ty) (hsh : gsh a = .inr ci) (hk : (gfk ci)[k]? = some q) (hi : a ∈ zL (xZ X)) (hv : gRl (w :: .inr (.inr a) :: st) → gR32 v) (he : gem (zb (xZ X)) w = gfv (zb (xZ X)) a (gup h a k v) k q) (hn : narrow ty (gem (zb (xZ X)) w) = gem (zb (xZ X)) w) (hfit : fits ty (gem (zb (xZ X)) w) = true) (kk : gr x o M X (gup h a k v) pc' lv st) : gr x o M X h pc lv (w :: .inr (.inr a) :: st) := by
  subst hp
  intro hx hK hs H locs ls hS
  obtain ⟨C, T, N, ty0, h1, h2, h3, h4, h5, h6, h7, h8⟩ := hf
  obtain ⟨q0, hq0⟩ := List.getElem?_of_mem hi
  have hat := gW_at h hq0
  rw [gE_o hsh] at hat
  have hlen : k < ((gfk ci).mapIdx (fun k q => gfv (zb (xZ X)) a h k q)).length := by
    rw [List.length_mapIdx]; exact (List.getElem?_eq_some_iff.mp hk).1
  refine va_put hK.1 hK.2.1 hK.2.2.2.2.1 h4 ty0 h5 h6 hK.2.2.2.1 hK.2.2.2.2.2.1 hS.2.2.1 (gD hK.2.2.2.2.2.2.2.2.2.2 h) hS.2.2.2.1 q0 hat h1 k h2 (hK.2.2.2.2.1 _ h3) (fun _ z => z) h7 h8 hn hfit hlen hd (fun H1 locs1 hP1 _ hS1 => ?_)
  rw [he, gfs_set hk, ← gE_o (G := zG (xZ X)) (b := zb (xZ X)) (h := gup h a k v) hsh, gW_set hK.2.2.2.2.2.2.2.2.2.2 hq0 (fun j hj y => gup_ne (fun q => hj q.1))] at hP1
  exact kk hx hK (gRl_t (gRl_t hs)) H1 locs1 ls ⟨gRg_up hS.1 (hv hs), hS.2.1, hP1, hS1, hS.2.2.2.2⟩
theorem gr_puti {idx ci k a z : Nat} {v : Int} (hd : decode M.1 pc = .ok (.putfield idx, 3)) (pc' : Nat) (hp : pc + 3 = pc') (hf : gFp M.2.1 idx ci k .int) (hsh : gsh a = .inr ci) (hk : (gfk ci)[k]? = some (0, z)) (hi : a ∈ zL (xZ X)) {kk : gH → Option gO} (k1 : ∀ h1, h1 = gup h a k v → gr (kk h1) o M X h1 pc' lv st) : gr (gs (gup h a k v) kk) o M X h pc lv (.inl v :: .inr (.inr a) :: st) :=
  gput hd pc' hp hf hsh hk hi (fun hs => gRl_h hs) (by show Value.int _ = Value.int _; rw [gup_at]) rfl rfl (k1 _ rfl)
theorem gr_putd {idx ci k a c z : Nat} {C : String} (hd : decode M.1 pc = .ok (.putfield idx, 3)) (pc' : Nat) (hp : pc + 3 = pc') (hf : gFp M.2.1 idx ci k (.object C)) (hsh : gsh a = .inr ci) (hk : (gfk ci)[k]? = some (1, z)) (hi : a ∈ zL (xZ X)) (hc : gsh c = .inr 0) {kk : gH → Option gO} (k1 : ∀ h1, h1 = gup h a k (c : Int) → gr (kk h1) o M X h1 pc' lv st) : gr (gs (gup h a k (c : Int)) kk) o M X h pc lv (.inr (.inr c) :: .inr (.inr a) :: st) := by
  have hl : c < gN := gsh_lt hc (by intro q; cases q)
  have hl2 : c < 116 := hl
  have hnz : ¬ ((c : Int) = 0) := gnz_of (v := (c : Int)) (ci := 0) hc (by decide)
  refine gput hd pc' hp hf hsh hk hi (fun _ => ⟨by omega, by omega⟩) ?_ rfl rfl (k1 _ rfl)
  show Value.ref _ = (if gup h a k (c : Int) a k = 0 then Value.null else Value.ref _)
  rw [gup_at, if_neg hnz]
  rfl
theorem gr_iald {a n : Nat} {i : Int} (hd : decode M.1 pc = .ok (.iaload, 1)) (pc' : Nat) (hp : pc + 1 = pc') (hsh : gsh a = .inl (0, n)) (hi : a ∈ zL (xZ X)) (kk : gr x o M X h pc' lv (.inl (h a i.toNat) :: st)) : gr (gd (gix n i) x) o M X h pc lv (.inl i :: .inr (.inr a) :: st) := by
  subst hp
  refine gr_gd fun hc => ?_
  intro hx hK hs H locs ls hS
  obtain ⟨q0, hq0⟩ := List.getElem?_of_mem hi
  have hat := gW_at h hq0
  rw [gE_i hsh] at hat
  have hv := gvin (gRl_h hs) hc
  refine va_iald hK.1 hK.2.1 hK.2.2.2.2.2.1 hS.2.2.1 q0 0 hat rfl hv.1 hd ?_
  rw [hv.2]
  exact kk hx hK (gRl_c (hS.1 _ _) (gRl_t (gRl_t hs))) H locs ls hS
theorem gr_zald {a n : Nat} {i : Int} (hd : decode M.1 pc = .ok (.baload, 1)) (pc' : Nat) (hp : pc + 1 = pc') (hsh : gsh a = .inl (1, n)) (hi : a ∈ zL (xZ X)) (kk : gr x o M X h pc' lv (.inl (h a i.toNat) :: st)) : gr (gd (gix n i) x) o M X h pc lv (.inl i :: .inr (.inr a) :: st) := by
  subst hp
  refine gr_gd fun hc => ?_
  intro hx hK hs H locs ls hS
  obtain ⟨q0, hq0⟩ := List.getElem?_of_mem hi
  have hat := gW_at h hq0
  rw [gE_z hsh] at hat
  have hv := gvin (gRl_h hs) hc
  refine va_zald hK.1 hK.2.1 hK.2.2.2.2.2.1 hS.2.2.1 q0 1 hat rfl hv.1 hd ?_
  rw [hv.2]
  exact kk hx hK (gRl_c (hS.1 _ _) (gRl_t (gRl_t hs))) H locs ls hS
theorem gr_qald {a n : Nat} {i : Int} (hd : decode M.1 pc = .ok (.aaload, 1)) (pc' : Nat) (hp : pc + 1 = pc') (hsh : gsh a = .inl (2, n)) (hi : a ∈ zL (xZ X)) (kk : gr x o M X h pc' lv (.inr (.inr (a + 1 + 10 * i.toNat)) :: st)) : gr (gd (gix n i) x) o M X h pc lv (.inl i :: .inr (.inr a) :: st) := by
  subst hp
  refine gr_gd fun hc => ?_
  intro hx hK hs H locs ls hS
  obtain ⟨q0, hq0⟩ := List.getElem?_of_mem hi
  have hat := gW_at h hq0
  rw [gE_q hsh] at hat
  have hv := gvin (gRl_h hs) hc
  refine va_aldq hK.1 hK.2.1 hK.2.2.2.2.2.1 hS.2.2.1 q0 2 hat rfl hv.1 hd ?_
  rw [hv.2]
  exact kk hx hK (gRl_c trivial (gRl_t (gRl_t hs))) H locs ls hS
theorem gr_alen {a t n : Nat} (hd : decode M.1 pc = .ok (.arraylength, 1)) (pc' : Nat) (hp : pc + 1 = pc') (hsh : gsh a = .inl (t, n)) (ht : t = 0) (hi : a ∈ zL (xZ X)) (hn : n < 2147483647) (kk : gr x o M X h pc' lv (.inl (n : Int) :: st)) : gr x o M X h pc lv (.inr (.inr a) :: st) := by
  subst hp
  subst ht
  intro hx hK hs H locs ls hS
  obtain ⟨q0, hq0⟩ := List.getElem?_of_mem hi
  have hat := gW_at h hq0
  rw [gE_i hsh] at hat
  refine va_alen hK.1 hK.2.1 hK.2.2.2.2.2.1 hS.2.2.1 q0 0 hat rfl (v := Int32.ofInt (n : Int)) ?_ hd (kk hx hK (gRl_c ⟨by omega, by omega⟩ (gRl_t hs)) H locs ls hS)
  rfl
theorem gr_iast {a n : Nat} {i v : Int} (hd : decode M.1 pc = .ok (.iastore, 1)) (pc' : Nat) (hp : pc + 1 = pc') (hsh : gsh a = .inl (0, n)) (hi : a ∈ zL (xZ X)) {kk : gH → Option gO} (k1 : ∀ h1, h1 = gup h a i.toNat v → gr (kk h1) o M X h1 pc' lv st) : gr (gd (gix n i) (gs (gup h a i.toNat v) kk)) o M X h pc lv (.inl v :: .inl i :: .inr (.inr a) :: st) := by
  subst hp
  refine gr_gd fun hc => ?_
  intro hx hK hs H locs ls hS
  obtain ⟨q0, hq0⟩ := List.getElem?_of_mem hi
  have hat := gW_at h hq0
  rw [gE_i hsh] at hat
  have hv := gvin (gRl_h (gRl_t hs)) hc
  refine va_iast hK.1 hK.2.1 hK.2.2.2.2.2.1 hS.2.2.1 (gD hK.2.2.2.2.2.2.2.2.2.2 h) hS.2.2.2.1 q0 0 hat rfl hv.1 hd (fun H1 locs1 hP1 _ hS1 => ?_)
  rw [hv.2, ← gupd_eq, ← gE_i (G := zG (xZ X)) (b := zb (xZ X)) hsh, gW_set hK.2.2.2.2.2.2.2.2.2.2 hq0 (fun j hj y => gup_ne (fun q => hj q.1))] at hP1
  exact k1 _ rfl hx hK (gRl_t (gRl_t (gRl_t hs))) H1 locs1 ls ⟨gRg_up hS.1 (gRl_h hs), hS.2.1, hP1, hS1, hS.2.2.2.2⟩
theorem gr_zast {a n : Nat} {i v : Int} (hd : decode M.1 pc = .ok (.bastore, 1)) (hz : v = 0 ∨ v = 1) (pc' : Nat) (hp : pc + 1 = pc') (hsh : gsh a = .inl (1, n)) (hi : a ∈ zL (xZ X)) {kk : gH → Option gO} (k1 : ∀ h1, h1 = gup h a i.toNat v → gr (kk h1) o M X h1 pc' lv st) : gr (gd (gix n i) (gs (gup h a i.toNat v) kk)) o M X h pc lv (.inl v :: .inl i :: .inr (.inr a) :: st) := by
  subst hp
  refine gr_gd fun hc => ?_
  intro hx hK hs H locs ls hS
  obtain ⟨q0, hq0⟩ := List.getElem?_of_mem hi
  have hat := gW_at h hq0
  rw [gE_z hsh] at hat
  have hv := gvin (gRl_h (gRl_t hs)) hc
  have hnz : vp_nar .boolean (Int32.ofInt v) = Int32.ofInt v := by rcases hz with rfl | rfl <;> decide
  refine va_zast hK.1 hK.2.1 hK.2.2.2.2.2.1 hS.2.2.1 (gD hK.2.2.2.2.2.2.2.2.2.2 h) hS.2.2.2.1 q0 1 hat rfl hv.1 hd (fun H1 locs1 hP1 _ hS1 => ?_)
  rw [hv.2, hnz, ← gupd_eq, ← gE_z (G := zG (xZ X)) (b := zb (xZ X)) hsh, gW_set hK.2.2.2.2.2.2.2.2.2.2 hq0 (fun j hj y => gup_ne (fun q => hj q.1))] at hP1
  exact k1 _ rfl hx hK (gRl_t (gRl_t (gRl_t hs))) H1 locs1 ls ⟨gRg_up hS.1 (gRl_h hs), hS.2.1, hP1, hS1, hS.2.2.2.2⟩
end GH
