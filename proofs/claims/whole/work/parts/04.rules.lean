theorem g32 {x : Int} (h : gR32 x) : (Int32.ofInt x).toInt = x := Int32.toInt_ofInt_of_le (by have := h.1; omega) (by have := h.2; omega)
theorem g64 {x : Int} (h : gR64 x) : (Int64.ofInt x).toInt = x := Int64.toInt_ofInt_of_le (by have := h.1; omega) (by have := h.2; omega)
theorem gR_t (z : Int32) : gR32 z.toInt := ⟨by have := Int32.le_toInt z; omega, by have := Int32.toInt_lt z; omega⟩
theorem gR_t64 (z : Int64) : gR64 z.toInt := ⟨by have := Int64.le_toInt z; omega, by have := Int64.toInt_lt z; omega⟩
theorem glt {a b : Int} (ha : gR32 a) (hb : gR32 b) : Int32.ofInt a < Int32.ofInt b ↔ a < b := by rw [Int32.lt_iff_toInt_lt, g32 ha, g32 hb]
theorem gle {a b : Int} (ha : gR32 a) (hb : gR32 b) : Int32.ofInt a ≤ Int32.ofInt b ↔ a ≤ b := by rw [Int32.le_iff_toInt_le, g32 ha, g32 hb]
theorem geq {a b : Int} (ha : gR32 a) (hb : gR32 b) : Int32.ofInt a = Int32.ofInt b ↔ a = b := by rw [← Int32.toInt_inj, g32 ha, g32 hb]
theorem gR0 : gR32 0 := ⟨by decide, by decide⟩
theorem gof0 : (0 : Int32) = Int32.ofInt 0 := by decide
theorem gRl_c {v : gV} {st : List gV} (h1 : gRv v) (h2 : gRl st) : gRl (v :: st) := fun u hu => by
  rcases List.mem_cons.mp hu with rfl | hu
  · exact h1
  · exact h2 u hu
theorem gRl_h {v : gV} {st : List gV} (h : gRl (v :: st)) : gRv v := h v List.mem_cons_self
theorem gRl_t {v : gV} {st : List gV} (h : gRl (v :: st)) : gRl st := fun u hu => h u (List.mem_cons_of_mem _ hu)
theorem gRl_at {lv : gL} {k i : Nat} {v : gV} (h : gRl (lv.map Prod.snd)) (hk : lv[k]? = some (i, v)) : gRv v := h v (List.mem_map.mpr ⟨(i, v), List.mem_of_getElem? hk, rfl⟩)
theorem gEL_at {b : Nat} {lv : gL} {k i : Nat} {v : gV} (hk : lv[k]? = some (i, v)) : (gEL b lv)[k]? = some (i, gem b v) := by
  rw [gEL, List.getElem?_map, hk]; rfl
/- storing a local of one word -/
def gst (i : Nat) (v : gV) (lv : gL) : gL := (i, v) :: lv.filter (fun q => !(q.1 == i) && !(q.1 + 1 == i && (match q.2 with
  | .inr (.inl _) => true
  | _ => false)))
theorem gcat (b : Nat) (v : gV) : ((gem b v).category == 2) = (match v with
  | .inr (.inl _) => true
  | _ => false) := by
  rcases v with x | x | x <;> rfl
theorem gEL_st (b i : Nat) (v : gV) (lv : gL) : (i, gem b v) :: (gEL b lv).filter (fun q => !(q.1 == i) && !(q.1 + 1 == i && q.2.category == 2)) = gEL b (gst i v lv) := by
  rw [gst, gEL, gEL, List.map_cons, List.filter_map]
  congr 2
  apply List.filter_congr
  intro q _
  simp only [Function.comp, gcat]
theorem gRl_st {i : Nat} {v : gV} {lv : gL} (h1 : gRv v) (h2 : gRl (lv.map Prod.snd)) : gRl ((gst i v lv).map Prod.snd) := by
  intro u hu
  rw [gst, List.map_cons] at hu
  rcases List.mem_cons.mp hu with rfl | hu
  · exact h1
  · obtain ⟨q, hq, rfl⟩ := List.mem_map.mp hu
    exact h2 _ (List.mem_map.mpr ⟨q, (List.mem_filter.mp hq).1, rfl⟩)
theorem gr_ite {x y : Option gO} {o : gO} {M : gM} {X : gX} {h : gH} {pc : Nat} {lv : gL} {st : List gV} {c : Prop} {inst : Decidable c} (kt : c → gr x o M X h pc lv st) (kf : ¬ c → gr y o M X h pc lv st) : gr (@ite _ c inst x y) o M X h pc lv st := by
  by_cases hc : c
  · rw [if_pos hc]; exact kt hc
  · rw [if_neg hc]; exact kf hc
theorem gr_gd {x : Option gO} {o : gO} {M : gM} {X : gX} {h : gH} {pc : Nat} {lv : gL} {st : List gV} {c : Bool} (k : c = true → gr x o M X h pc lv st) : gr (gd c x) o M X h pc lv st := by
  intro hx
  cases c with
  | true => exact k rfl hx
  | false => cases hx
theorem gr_none {o : gO} {M : gM} {X : gX} {h : gH} {pc : Nat} {lv : gL} {st : List gV} : gr none o M X h pc lv st := fun hx => by cases hx
section GR
variable {x y : Option gO} {o : gO} {M : gM} {X : gX} {h : gH} {pc : Nat} {lv : gL} {st : List gV}
theorem gr_iconst {n v : Int} (hd : decode M.1 pc = .ok (.iconst n, 1)) (hv : Int32.ofInt n = Int32.ofInt v) (hr : gR32 v) (pc' : Nat) (hp : pc + 1 = pc') (k : gr x o M X h pc' lv (.inl v :: st)) : gr x o M X h pc lv st := by
  subst hp
  intro hx hK hs H locs ls hS
  exact lv_iconst hK.1 hK.2.1 hd hv (k hx hK (gRl_c hr hs) H locs ls hS)
theorem gr_bipush {n v : Int} (hd : decode M.1 pc = .ok (.bipush n, 2)) (hv : (Int8.ofInt n).toInt32 = Int32.ofInt v) (hr : gR32 v) (pc' : Nat) (hp : pc + 2 = pc') (k : gr x o M X h pc' lv (.inl v :: st)) : gr x o M X h pc lv st := by
  subst hp
  intro hx hK hs H locs ls hS
  exact lv_bipush hK.1 hK.2.1 hd hv (k hx hK (gRl_c hr hs) H locs ls hS)
theorem gr_sipush {n v : Int} (hd : decode M.1 pc = .ok (.sipush n, 3)) (hv : (Int16.ofInt n).toInt32 = Int32.ofInt v) (hr : gR32 v) (pc' : Nat) (hp : pc + 3 = pc') (k : gr x o M X h pc' lv (.inl v :: st)) : gr x o M X h pc lv st := by
  subst hp
  intro hx hK hs H locs ls hS
  exact lv_sipush hK.1 hK.2.1 hd hv (k hx hK (gRl_c hr hs) H locs ls hS)
theorem gr_lconst {n : Fin 2} {v : Int} (hd : decode M.1 pc = .ok (.lconst n, 1)) (hv : Int64.ofNat (n : Nat) = Int64.ofInt v) (hr : gR64 v) (pc' : Nat) (hp : pc + 1 = pc') (k : gr x o M X h pc' lv (.inr (.inl v) :: st)) : gr x o M X h pc lv st := by
  subst hp
  intro hx hK hs H locs ls hS
  exact lv_lconst hK.1 hK.2.1 hd hv (k hx hK (gRl_c hr hs) H locs ls hS)
theorem gr_ldc {index : Nat} {v : Int} (hd : decode M.1 pc = .ok (.ldc index, 2)) (hc : Cond.constant M.2.1 index (Int32.ofInt v) ∈ gtbl) (hr : gR32 v) (pc' : Nat) (hp : pc + 2 = pc') (k : gr x o M X h pc' lv (.inl v :: st)) : gr x o M X h pc lv st := by
  subst hp
  intro hx hK hs H locs ls hS
  exact lv_ldc hK.1 hK.2.1 hK.2.2.2.1 (hK.2.2.2.2.1 _ hc) hd (k hx hK (gRl_c hr hs) H locs ls hS)
theorem gr_ldc_w {index : Nat} {v : Int} (hd : decode M.1 pc = .ok (.ldc_w index, 3)) (hc : Cond.constant M.2.1 index (Int32.ofInt v) ∈ gtbl) (hr : gR32 v) (pc' : Nat) (hp : pc + 3 = pc') (k : gr x o M X h pc' lv (.inl v :: st)) : gr x o M X h pc lv st := by
  subst hp
  intro hx hK hs H locs ls hS
  exact lv_ldcw hK.1 hK.2.1 hK.2.2.2.1 (hK.2.2.2.2.1 _ hc) hd (k hx hK (gRl_c hr hs) H locs ls hS)
theorem gr_ldc2_w {index : Nat} {v : Int} (hd : decode M.1 pc = .ok (.ldc2_w index, 3)) (hc : Cond.constantLong M.2.1 index (Int64.ofInt v) ∈ gtbl) (hr : gR64 v) (pc' : Nat) (hp : pc + 3 = pc') (k : gr x o M X h pc' lv (.inr (.inl v) :: st)) : gr x o M X h pc lv st := by
  subst hp
  intro hx hK hs H locs ls hS
  exact lv_ldc2 hK.1 hK.2.1 hK.2.2.2.1 (hK.2.2.2.2.1 _ hc) hd (k hx hK (gRl_c hr hs) H locs ls hS)
theorem gr_iload_n {kk : Fin 4} {i : Nat} {a : Int} (hd : decode M.1 pc = .ok (.iload_n kk, 1)) (hi : (kk : Nat) = i) (q : Nat) (hq : lv[q]? = some (i, .inl a)) (pc' : Nat) (hp : pc + 1 = pc') (k : gr x o M X h pc' lv (.inl a :: st)) : gr x o M X h pc lv st := by
  subst hp
  intro hx hK hs H locs ls hS
  exact lv_iload_n hK.1 hK.2.1 hd hi (lv_at hS.2.2.2.2 q (gEL_at hq)) (k hx hK (gRl_c (gRl_at hS.2.1 hq) hs) H locs ls hS)
theorem gr_iload {i : Nat} {a : Int} (hd : decode M.1 pc = .ok (.iload i, 2)) (q : Nat) (hq : lv[q]? = some (i, .inl a)) (pc' : Nat) (hp : pc + 2 = pc') (k : gr x o M X h pc' lv (.inl a :: st)) : gr x o M X h pc lv st := by
  subst hp
  intro hx hK hs H locs ls hS
  exact lv_iload hK.1 hK.2.1 hd (lv_at hS.2.2.2.2 q (gEL_at hq)) (k hx hK (gRl_c (gRl_at hS.2.1 hq) hs) H locs ls hS)
theorem gr_lload_n {kk : Fin 4} {i : Nat} {a : Int} (hd : decode M.1 pc = .ok (.lload_n kk, 1)) (hi : (kk : Nat) = i) (q : Nat) (hq : lv[q]? = some (i, .inr (.inl a))) (pc' : Nat) (hp : pc + 1 = pc') (k : gr x o M X h pc' lv (.inr (.inl a) :: st)) : gr x o M X h pc lv st := by
  subst hp
  intro hx hK hs H locs ls hS
  exact lv_lload_n hK.1 hK.2.1 hd hi (lv_at hS.2.2.2.2 q (gEL_at hq)) (k hx hK (gRl_c (gRl_at hS.2.1 hq) hs) H locs ls hS)
theorem gr_lload {i : Nat} {a : Int} (hd : decode M.1 pc = .ok (.lload i, 2)) (q : Nat) (hq : lv[q]? = some (i, .inr (.inl a))) (pc' : Nat) (hp : pc + 2 = pc') (k : gr x o M X h pc' lv (.inr (.inl a) :: st)) : gr x o M X h pc lv st := by
  subst hp
  intro hx hK hs H locs ls hS
  exact lv_lload hK.1 hK.2.1 hd (lv_at hS.2.2.2.2 q (gEL_at hq)) (k hx hK (gRl_c (gRl_at hS.2.1 hq) hs) H locs ls hS)
theorem gr_aload_n {kk : Fin 4} {i : Nat} {a : Nat} (hd : decode M.1 pc = .ok (.aload_n kk, 1)) (hi : (kk : Nat) = i) (q : Nat) (hq : lv[q]? = some (i, .inr (.inr a))) (pc' : Nat) (hp : pc + 1 = pc') (k : gr x o M X h pc' lv (.inr (.inr a) :: st)) : gr x o M X h pc lv st := by
  subst hp
  intro hx hK hs H locs ls hS
  exact lv_aload_n hK.1 hK.2.1 hd hi (lv_at hS.2.2.2.2 q (gEL_at hq)) (k hx hK (gRl_c (gRl_at hS.2.1 hq) hs) H locs ls hS)
theorem gr_aload {i : Nat} {a : Nat} (hd : decode M.1 pc = .ok (.aload i, 2)) (q : Nat) (hq : lv[q]? = some (i, .inr (.inr a))) (pc' : Nat) (hp : pc + 2 = pc') (k : gr x o M X h pc' lv (.inr (.inr a) :: st)) : gr x o M X h pc lv st := by
  subst hp
  intro hx hK hs H locs ls hS
  exact lv_aload hK.1 hK.2.1 hd (lv_at hS.2.2.2.2 q (gEL_at hq)) (k hx hK (gRl_c (gRl_at hS.2.1 hq) hs) H locs ls hS)
theorem gr_istore_n {kk : Fin 4} {i : Nat} {a : Int} {lv' : gL} (hd : decode M.1 pc = .ok (.istore_n kk, 1)) (hi : (kk : Nat) = i) (hn : i < M.2.2.2.2) (hl : gst i (.inl a) lv = lv') (pc' : Nat) (hp : pc + 1 = pc') (k : gr x o M X h pc' lv' st) : gr x o M X h pc lv (.inl a :: st) := by
  subst hp
  subst hl
  intro hx hK hs H locs ls hS
  exact lv_istore_n hK.1 hK.2.1 hd hi hS.2.2.2.2 (by rw [hK.2.2.1.2]; exact hn) (gEL_st (zb (xZ X)) i (.inl a) lv) (fun ls' h' => k hx hK (gRl_t hs) H locs ls' ⟨hS.1, gRl_st (gRl_h hs) hS.2.1, hS.2.2.1, hS.2.2.2.1, h'⟩)
theorem gr_istore {kk : Fin 4} {i : Nat} {a : Int} {lv' : gL} (hd : decode M.1 pc = .ok (.istore i, 2)) (hn : i < M.2.2.2.2) (hl : gst i (.inl a) lv = lv') (pc' : Nat) (hp : pc + 2 = pc') (k : gr x o M X h pc' lv' st) : gr x o M X h pc lv (.inl a :: st) := by
  subst hp
  subst hl
  intro hx hK hs H locs ls hS
  exact lv_istore hK.1 hK.2.1 hd hS.2.2.2.2 (by rw [hK.2.2.1.2]; exact hn) (gEL_st (zb (xZ X)) i (.inl a) lv) (fun ls' h' => k hx hK (gRl_t hs) H locs ls' ⟨hS.1, gRl_st (gRl_h hs) hS.2.1, hS.2.2.1, hS.2.2.2.1, h'⟩)
theorem gr_astore_n {kk : Fin 4} {i : Nat} {a : Nat} {lv' : gL} (hd : decode M.1 pc = .ok (.astore_n kk, 1)) (hi : (kk : Nat) = i) (hn : i < M.2.2.2.2) (hl : gst i (.inr (.inr a)) lv = lv') (pc' : Nat) (hp : pc + 1 = pc') (k : gr x o M X h pc' lv' st) : gr x o M X h pc lv (.inr (.inr a) :: st) := by
  subst hp
  subst hl
  intro hx hK hs H locs ls hS
  exact lv_astore_n hK.1 hK.2.1 hd hi hS.2.2.2.2 (by rw [hK.2.2.1.2]; exact hn) (gEL_st (zb (xZ X)) i (.inr (.inr a)) lv) (fun ls' h' => k hx hK (gRl_t hs) H locs ls' ⟨hS.1, gRl_st (gRl_h hs) hS.2.1, hS.2.2.1, hS.2.2.2.1, h'⟩)
theorem gr_astore {kk : Fin 4} {i : Nat} {a : Nat} {lv' : gL} (hd : decode M.1 pc = .ok (.astore i, 2)) (hn : i < M.2.2.2.2) (hl : gst i (.inr (.inr a)) lv = lv') (pc' : Nat) (hp : pc + 2 = pc') (k : gr x o M X h pc' lv' st) : gr x o M X h pc lv (.inr (.inr a) :: st) := by
  subst hp
  subst hl
  intro hx hK hs H locs ls hS
  exact lv_astore hK.1 hK.2.1 hd hS.2.2.2.2 (by rw [hK.2.2.1.2]; exact hn) (gEL_st (zb (xZ X)) i (.inr (.inr a)) lv) (fun ls' h' => k hx hK (gRl_t hs) H locs ls' ⟨hS.1, gRl_st (gRl_h hs) hS.2.1, hS.2.2.1, hS.2.2.2.1, h'⟩)
theorem gr_iinc {i : Nat} {n a v : Int} {lv' : gL} (hd : decode M.1 pc = .ok (.iinc i n, 3)) (q : Nat) (hq : lv[q]? = some (i, .inl a)) (hv : gadd a n = v) (hn : i < M.2.2.2.2) (hl : gst i (.inl v) lv = lv') (pc' : Nat) (hp : pc + 3 = pc') (k : gr x o M X h pc' lv' st) : gr x o M X h pc lv st := by
  subst hp
  subst hl
  subst hv
  intro hx hK hs H locs ls hS
  exact lv_iinc hK.1 hK.2.1 hd hS.2.2.2.2 (gEL_at (k := q) hq) (v := Int32.ofInt (gadd a n)) (by rw [gadd, Int32.ofInt_toInt]) (by rw [hK.2.2.1.2]; exact hn) (gEL_st (zb (xZ X)) i (.inl (gadd a n)) lv) (fun ls' h' => k hx hK hs H locs ls' ⟨hS.1, gRl_st (gR_t _) hS.2.1, hS.2.2.1, hS.2.2.2.1, h'⟩)
theorem gr_iadd {a b : Int} (hd : decode M.1 pc = .ok (.iadd, 1)) (pc' : Nat) (hp : pc + 1 = pc') (k : gr x o M X h pc' lv (.inl (gadd a b) :: st)) : gr x o M X h pc lv (.inl b :: .inl a :: st) := by
  subst hp
  intro hx hK hs H locs ls hS
  have q := k hx hK (gRl_c (gR_t _) (gRl_t (gRl_t hs))) H locs ls hS
  rw [gWW, List.map_cons, gem, gadd, Int32.ofInt_toInt] at q
  exact lv_iadd hK.1 hK.2.1 hd q
theorem gr_isub {a b : Int} (hd : decode M.1 pc = .ok (.isub, 1)) (pc' : Nat) (hp : pc + 1 = pc') (k : gr x o M X h pc' lv (.inl (gsub a b) :: st)) : gr x o M X h pc lv (.inl b :: .inl a :: st) := by
  subst hp
  intro hx hK hs H locs ls hS
  have q := k hx hK (gRl_c (gR_t _) (gRl_t (gRl_t hs))) H locs ls hS
  rw [gWW, List.map_cons, gem, gsub, Int32.ofInt_toInt] at q
  exact lv_isub hK.1 hK.2.1 hd q
theorem gr_imul {a b : Int} (hd : decode M.1 pc = .ok (.imul, 1)) (pc' : Nat) (hp : pc + 1 = pc') (k : gr x o M X h pc' lv (.inl (gmul a b) :: st)) : gr x o M X h pc lv (.inl b :: .inl a :: st) := by
  subst hp
  intro hx hK hs H locs ls hS
  have q := k hx hK (gRl_c (gR_t _) (gRl_t (gRl_t hs))) H locs ls hS
  rw [gWW, List.map_cons, gem, gmul, Int32.ofInt_toInt] at q
  exact lv_imul hK.1 hK.2.1 hd q
theorem gr_iand {a b : Int} (hd : decode M.1 pc = .ok (.iand, 1)) (pc' : Nat) (hp : pc + 1 = pc') (k : gr x o M X h pc' lv (.inl (gand a b) :: st)) : gr x o M X h pc lv (.inl b :: .inl a :: st) := by
  subst hp
  intro hx hK hs H locs ls hS
  have q := k hx hK (gRl_c (gR_t _) (gRl_t (gRl_t hs))) H locs ls hS
  rw [gWW, List.map_cons, gem, gand, Int32.ofInt_toInt] at q
  exact lv_iand hK.1 hK.2.1 hd q
theorem gr_ior {a b : Int} (hd : decode M.1 pc = .ok (.ior, 1)) (pc' : Nat) (hp : pc + 1 = pc') (k : gr x o M X h pc' lv (.inl (gor a b) :: st)) : gr x o M X h pc lv (.inl b :: .inl a :: st) := by
  subst hp
  intro hx hK hs H locs ls hS
  have q := k hx hK (gRl_c (gR_t _) (gRl_t (gRl_t hs))) H locs ls hS
  rw [gWW, List.map_cons, gem, gor, Int32.ofInt_toInt] at q
  exact lv_ior hK.1 hK.2.1 hd q
theorem gr_ixor {a b : Int} (hd : decode M.1 pc = .ok (.ixor, 1)) (pc' : Nat) (hp : pc + 1 = pc') (k : gr x o M X h pc' lv (.inl (gxor a b) :: st)) : gr x o M X h pc lv (.inl b :: .inl a :: st) := by
  subst hp
  intro hx hK hs H locs ls hS
  have q := k hx hK (gRl_c (gR_t _) (gRl_t (gRl_t hs))) H locs ls hS
  rw [gWW, List.map_cons, gem, gxor, Int32.ofInt_toInt] at q
  exact lv_ixor hK.1 hK.2.1 hd q
theorem gr_ishl {a b : Int} (hd : decode M.1 pc = .ok (.ishl, 1)) (pc' : Nat) (hp : pc + 1 = pc') (k : gr x o M X h pc' lv (.inl (gshl a b) :: st)) : gr x o M X h pc lv (.inl b :: .inl a :: st) := by
  subst hp
  intro hx hK hs H locs ls hS
  have q := k hx hK (gRl_c (gR_t _) (gRl_t (gRl_t hs))) H locs ls hS
  rw [gWW, List.map_cons, gem, gshl, Int32.ofInt_toInt] at q
  exact lv_ishl hK.1 hK.2.1 hd q
theorem gr_ishr {a b : Int} (hd : decode M.1 pc = .ok (.ishr, 1)) (pc' : Nat) (hp : pc + 1 = pc') (k : gr x o M X h pc' lv (.inl (gshr a b) :: st)) : gr x o M X h pc lv (.inl b :: .inl a :: st) := by
  subst hp
  intro hx hK hs H locs ls hS
  have q := k hx hK (gRl_c (gR_t _) (gRl_t (gRl_t hs))) H locs ls hS
  rw [gWW, List.map_cons, gem, gshr, Int32.ofInt_toInt] at q
  exact lv_ishr hK.1 hK.2.1 hd q
theorem gr_iushr {a b : Int} (hd : decode M.1 pc = .ok (.iushr, 1)) (pc' : Nat) (hp : pc + 1 = pc') (k : gr x o M X h pc' lv (.inl (gushr a b) :: st)) : gr x o M X h pc lv (.inl b :: .inl a :: st) := by
  subst hp
  intro hx hK hs H locs ls hS
  have q := k hx hK (gRl_c (gR_t _) (gRl_t (gRl_t hs))) H locs ls hS
  rw [gWW, List.map_cons, gem, gushr, Int32.ofInt_toInt] at q
  exact lv_iushr hK.1 hK.2.1 hd rfl q
theorem gr_idiv {a b : Int} (hd : decode M.1 pc = .ok (.idiv, 1)) (pc' : Nat) (hp : pc + 1 = pc') (k : gr x o M X h pc' lv (.inl (gdiv a b) :: st)) : gr (gd (gnz b) x) o M X h pc lv (.inl b :: .inl a :: st) := by
  subst hp
  refine gr_gd fun hc => ?_
  intro hx hK hs H locs ls hS
  have q := k hx hK (gRl_c (gR_t _) (gRl_t (gRl_t hs))) H locs ls hS
  rw [gWW, List.map_cons, gem, gdiv, Int32.ofInt_toInt] at q
  refine lv_idiv hK.1 hK.2.1 hd (fun e => ?_) q
  rw [gof0, geq (gRl_h hs) gR0] at e
  exact (of_decide_eq_true hc) e
theorem gr_irem {a b : Int} (hd : decode M.1 pc = .ok (.irem, 1)) (pc' : Nat) (hp : pc + 1 = pc') (k : gr x o M X h pc' lv (.inl (grem a b) :: st)) : gr (gd (gnz b) x) o M X h pc lv (.inl b :: .inl a :: st) := by
  subst hp
  refine gr_gd fun hc => ?_
  intro hx hK hs H locs ls hS
  have q := k hx hK (gRl_c (gR_t _) (gRl_t (gRl_t hs))) H locs ls hS
  rw [gWW, List.map_cons, gem, grem, Int32.ofInt_toInt] at q
  refine lv_irem hK.1 hK.2.1 hd (fun e => ?_) q
  rw [gof0, geq (gRl_h hs) gR0] at e
  exact (of_decide_eq_true hc) e
theorem gr_ladd {a b : Int} (hd : decode M.1 pc = .ok (.ladd, 1)) (pc' : Nat) (hp : pc + 1 = pc') (k : gr x o M X h pc' lv (.inr (.inl (gladd a b)) :: st)) : gr x o M X h pc lv (.inr (.inl b) :: .inr (.inl a) :: st) := by
  subst hp
  intro hx hK hs H locs ls hS
  have q := k hx hK (gRl_c (gR_t64 _) (gRl_t (gRl_t hs))) H locs ls hS
  rw [gWW, List.map_cons, gem, gladd, Int64.ofInt_toInt] at q
  exact lv_ladd hK.1 hK.2.1 hd q
theorem gr_lmul {a b : Int} (hd : decode M.1 pc = .ok (.lmul, 1)) (pc' : Nat) (hp : pc + 1 = pc') (k : gr x o M X h pc' lv (.inr (.inl (glmul a b)) :: st)) : gr x o M X h pc lv (.inr (.inl b) :: .inr (.inl a) :: st) := by
  subst hp
  intro hx hK hs H locs ls hS
  have q := k hx hK (gRl_c (gR_t64 _) (gRl_t (gRl_t hs))) H locs ls hS
  rw [gWW, List.map_cons, gem, glmul, Int64.ofInt_toInt] at q
  exact lv_lmul hK.1 hK.2.1 hd q
theorem gr_land {a b : Int} (hd : decode M.1 pc = .ok (.land, 1)) (pc' : Nat) (hp : pc + 1 = pc') (k : gr x o M X h pc' lv (.inr (.inl (gland a b)) :: st)) : gr x o M X h pc lv (.inr (.inl b) :: .inr (.inl a) :: st) := by
  subst hp
  intro hx hK hs H locs ls hS
  have q := k hx hK (gRl_c (gR_t64 _) (gRl_t (gRl_t hs))) H locs ls hS
  rw [gWW, List.map_cons, gem, gland, Int64.ofInt_toInt] at q
  exact lv_land hK.1 hK.2.1 hd q
theorem geq64 {a b : Int} (ha : gR64 a) (hb : gR64 b) : Int64.ofInt a = Int64.ofInt b ↔ a = b := by rw [← Int64.toInt_inj, g64 ha, g64 hb]
theorem glt64 {a b : Int} (ha : gR64 a) (hb : gR64 b) : Int64.ofInt a < Int64.ofInt b ↔ a < b := by rw [Int64.lt_iff_toInt_lt, g64 ha, g64 hb]
theorem gr_lrem {a b : Int} (hd : decode M.1 pc = .ok (.lrem, 1)) (pc' : Nat) (hp : pc + 1 = pc') (k : gr x o M X h pc' lv (.inr (.inl (glrem a b)) :: st)) : gr (gd (gnz b) x) o M X h pc lv (.inr (.inl b) :: .inr (.inl a) :: st) := by
  subst hp
  refine gr_gd fun hc => ?_
  intro hx hK hs H locs ls hS
  have q := k hx hK (gRl_c (gR_t64 _) (gRl_t (gRl_t hs))) H locs ls hS
  rw [gWW, List.map_cons, gem, glrem, Int64.ofInt_toInt] at q
  refine lv_lrem hK.1 hK.2.1 hd (fun e => ?_) q
  rw [show (0 : Int64) = Int64.ofInt 0 by decide, geq64 (gRl_h hs) ⟨by decide, by decide⟩] at e
  exact (of_decide_eq_true hc) e
theorem gr_i2l {a : Int} (hd : decode M.1 pc = .ok (.i2l, 1)) (pc' : Nat) (hp : pc + 1 = pc') (k : gr x o M X h pc' lv (.inr (.inl a) :: st)) : gr x o M X h pc lv (.inl a :: st) := by
  subst hp
  intro hx hK hs H locs ls hS
  have ra : gR32 a := gRl_h hs
  have ra' : gR64 a := ⟨by have := ra.1; omega, by have := ra.2; omega⟩
  refine lv_i2l hK.1 hK.2.1 hd (v := Int64.ofInt a) ?_ (k hx hK (gRl_c ra' (gRl_t hs)) H locs ls hS)
  rw [← Int64.toInt_inj, Int32.toInt_toInt64, g32 ra, g64 ra']
theorem gr_l2i {a : Int} (hd : decode M.1 pc = .ok (.l2i, 1)) (pc' : Nat) (hp : pc + 1 = pc') (k : gr x o M X h pc' lv (.inl (gl2i a) :: st)) : gr x o M X h pc lv (.inr (.inl a) :: st) := by
  subst hp
  intro hx hK hs H locs ls hS
  refine lv_l2i hK.1 hK.2.1 hd (v := Int32.ofInt (gl2i a)) (by rw [gl2i, Int32.ofInt_toInt]) (k hx hK (gRl_c (gR_t _) (gRl_t hs)) H locs ls hS)
theorem gr_lcmp {a b : Int} (hd : decode M.1 pc = .ok (.lcmp, 1)) (pc' : Nat) (hp : pc + 1 = pc') (k : gr x o M X h pc' lv (.inl (glcmp a b) :: st)) : gr x o M X h pc lv (.inr (.inl b) :: .inr (.inl a) :: st) := by
  subst hp
  intro hx hK hs H locs ls hS
  have rb : gR64 b := gRl_h hs
  have ra : gR64 a := gRl_h (gRl_t hs)
  have e : lg_cmp (Int64.ofInt a) (Int64.ofInt b) = Int32.ofInt (glcmp a b) := by
    unfold lg_cmp glcmp
    by_cases c1 : b < a
    · rw [if_pos (show Int64.ofInt a > Int64.ofInt b from (glt64 rb ra).mpr c1), if_pos c1]; rfl
    · rw [if_neg (show ¬ Int64.ofInt a > Int64.ofInt b from fun q => c1 ((glt64 rb ra).mp q)), if_neg c1]
      by_cases c2 : a = b
      · rw [if_pos ((geq64 ra rb).mpr c2), if_pos c2]; rfl
      · rw [if_neg (fun q => c2 ((geq64 ra rb).mp q)), if_neg c2]; rfl
  have rg : gR32 (glcmp a b) := by
    unfold glcmp gR32
    split <;> first | (split <;> omega) | omega
  have q := k hx hK (gRl_c rg (gRl_t (gRl_t hs))) H locs ls hS
  rw [gWW, List.map_cons, gem, ← e] at q
  exact W.lcmp hK.1 hK.2.1 hd q
theorem gcat1 (b : Nat) {v : gV} (hv : ∀ z, v ≠ .inr (.inl z)) : (gem b v).category = 1 := by
  rcases v with z | z | z
  · rfl
  · exact absurd rfl (hv z)
  · rfl
theorem gr_dup {v : gV} (hd : decode M.1 pc = .ok (.dup, 1)) (hv : ∀ z, v ≠ .inr (.inl z)) (pc' : Nat) (hp : pc + 1 = pc') (k : gr x o M X h pc' lv (v :: v :: st)) : gr x o M X h pc lv (v :: st) := by
  subst hp
  intro hx hK hs H locs ls hS
  exact lv_dup hK.1 hK.2.1 hd (gcat1 _ hv) (k hx hK (gRl_c (gRl_h hs) hs) H locs ls hS)
theorem gr_pop {v : gV} (hd : decode M.1 pc = .ok (.pop, 1)) (hv : ∀ z, v ≠ .inr (.inl z)) (pc' : Nat) (hp : pc + 1 = pc') (k : gr x o M X h pc' lv st) : gr x o M X h pc lv (v :: st) := by
  subst hp
  intro hx hK hs H locs ls hS
  exact lv_pop hK.1 hK.2.1 hd (gcat1 _ hv) (k hx hK (gRl_t hs) H locs ls hS)
theorem gr_dup2 {v u : gV} (hd : decode M.1 pc = .ok (.dup2, 1)) (hv : ∀ z, v ≠ .inr (.inl z)) (hu : ∀ z, u ≠ .inr (.inl z)) (pc' : Nat) (hp : pc + 1 = pc') (k : gr x o M X h pc' lv (v :: u :: v :: u :: st)) : gr x o M X h pc lv (v :: u :: st) := by
  subst hp
  intro hx hK hs H locs ls hS
  exact lv_dup2_11 hK.1 hK.2.1 hd (gcat1 _ hv) (gcat1 _ hu) (k hx hK (gRl_c (gRl_h hs) (gRl_c (gRl_h (gRl_t hs)) hs)) H locs ls hS)
theorem gr_goto {off : Int} (hd : decode M.1 pc = .ok (.goto off, 3)) (tgt : Nat) (ht : (pc : Int) + off = (tgt : Int)) (k : gr x o M X h tgt lv st) : gr x o M X h pc lv st := by
  intro hx hK hs H locs ls hS
  exact lv_goto hK.1 hK.2.1 hd ht (k hx hK hs H locs ls hS)
theorem gr_icmp_eq {a b off : Int} (hd : decode M.1 pc = .ok (.if_icmp .eq off, 3)) (tgt pc' : Nat) (ht : (pc : Int) + off = (tgt : Int)) (hp : pc + 3 = pc') (kt : a = b → gr x o M X h tgt lv st) (kf : ¬ (a = b) → gr y o M X h pc' lv st) : gr (if a = b then x else y) o M X h pc lv (.inl b :: .inl a :: st) := by
  subst hp
  intro hx hK hs H locs ls hS
  have rb : gR32 b := gRl_h hs
  have ra : gR32 a := gRl_h (gRl_t hs)
  refine lv_icmp_eq hK.1 hK.2.1 hd ht (fun c => ?_) (fun c => ?_)
  · have c' := (geq ra rb).mp c
    rw [if_pos c'] at hx
    exact kt c' hx hK (gRl_t (gRl_t hs)) H locs ls hS
  · have c' := fun q => c ((geq ra rb).mpr q)
    rw [if_neg c'] at hx
    exact kf c' hx hK (gRl_t (gRl_t hs)) H locs ls hS
theorem gr_if_eq {a off : Int} (hd : decode M.1 pc = .ok (.ifCond .eq off, 3)) (tgt pc' : Nat) (ht : (pc : Int) + off = (tgt : Int)) (hp : pc + 3 = pc') (kt : a = 0 → gr x o M X h tgt lv st) (kf : ¬ (a = 0) → gr y o M X h pc' lv st) : gr (if a = 0 then x else y) o M X h pc lv (.inl a :: st) := by
  subst hp
  intro hx hK hs H locs ls hS
  have ra : gR32 a := gRl_h hs
  refine lv_if_eq hK.1 hK.2.1 hd ht (fun c => ?_) (fun c => ?_)
  · rw [gof0] at c
    have c' := (geq ra gR0).mp c
    rw [if_pos c'] at hx
    exact kt c' hx hK (gRl_t hs) H locs ls hS
  · rw [gof0] at c
    have c' := fun q => c ((geq ra gR0).mpr q)
    rw [if_neg c'] at hx
    exact kf c' hx hK (gRl_t hs) H locs ls hS
theorem gr_icmp_lt {a b off : Int} (hd : decode M.1 pc = .ok (.if_icmp .lt off, 3)) (tgt pc' : Nat) (ht : (pc : Int) + off = (tgt : Int)) (hp : pc + 3 = pc') (kt : a < b → gr x o M X h tgt lv st) (kf : ¬ (a < b) → gr y o M X h pc' lv st) : gr (if a < b then x else y) o M X h pc lv (.inl b :: .inl a :: st) := by
  subst hp
  intro hx hK hs H locs ls hS
  have rb : gR32 b := gRl_h hs
  have ra : gR32 a := gRl_h (gRl_t hs)
  refine lv_icmp_lt hK.1 hK.2.1 hd ht (fun c => ?_) (fun c => ?_)
  · have c' := (glt ra rb).mp c
    rw [if_pos c'] at hx
    exact kt c' hx hK (gRl_t (gRl_t hs)) H locs ls hS
  · have c' := fun q => c ((glt ra rb).mpr q)
    rw [if_neg c'] at hx
    exact kf c' hx hK (gRl_t (gRl_t hs)) H locs ls hS
theorem gr_if_lt {a off : Int} (hd : decode M.1 pc = .ok (.ifCond .lt off, 3)) (tgt pc' : Nat) (ht : (pc : Int) + off = (tgt : Int)) (hp : pc + 3 = pc') (kt : a < 0 → gr x o M X h tgt lv st) (kf : ¬ (a < 0) → gr y o M X h pc' lv st) : gr (if a < 0 then x else y) o M X h pc lv (.inl a :: st) := by
  subst hp
  intro hx hK hs H locs ls hS
  have ra : gR32 a := gRl_h hs
  refine lv_if_lt hK.1 hK.2.1 hd ht (fun c => ?_) (fun c => ?_)
  · rw [gof0] at c
    have c' := (glt ra gR0).mp c
    rw [if_pos c'] at hx
    exact kt c' hx hK (gRl_t hs) H locs ls hS
  · rw [gof0] at c
    have c' := fun q => c ((glt ra gR0).mpr q)
    rw [if_neg c'] at hx
    exact kf c' hx hK (gRl_t hs) H locs ls hS
theorem gr_icmp_ge {a b off : Int} (hd : decode M.1 pc = .ok (.if_icmp .ge off, 3)) (tgt pc' : Nat) (ht : (pc : Int) + off = (tgt : Int)) (hp : pc + 3 = pc') (kt : b ≤ a → gr x o M X h tgt lv st) (kf : ¬ (b ≤ a) → gr y o M X h pc' lv st) : gr (if b ≤ a then x else y) o M X h pc lv (.inl b :: .inl a :: st) := by
  subst hp
  intro hx hK hs H locs ls hS
  have rb : gR32 b := gRl_h hs
  have ra : gR32 a := gRl_h (gRl_t hs)
  refine lv_icmp_ge hK.1 hK.2.1 hd ht (fun c => ?_) (fun c => ?_)
  · have c' := (gle rb ra).mp c
    rw [if_pos c'] at hx
    exact kt c' hx hK (gRl_t (gRl_t hs)) H locs ls hS
  · have c' := fun q => c ((gle rb ra).mpr q)
    rw [if_neg c'] at hx
    exact kf c' hx hK (gRl_t (gRl_t hs)) H locs ls hS
theorem gr_if_ge {a off : Int} (hd : decode M.1 pc = .ok (.ifCond .ge off, 3)) (tgt pc' : Nat) (ht : (pc : Int) + off = (tgt : Int)) (hp : pc + 3 = pc') (kt : 0 ≤ a → gr x o M X h tgt lv st) (kf : ¬ (0 ≤ a) → gr y o M X h pc' lv st) : gr (if 0 ≤ a then x else y) o M X h pc lv (.inl a :: st) := by
  subst hp
  intro hx hK hs H locs ls hS
  have ra : gR32 a := gRl_h hs
  refine lv_if_ge hK.1 hK.2.1 hd ht (fun c => ?_) (fun c => ?_)
  · rw [gof0] at c
    have c' := (gle gR0 ra).mp c
    rw [if_pos c'] at hx
    exact kt c' hx hK (gRl_t hs) H locs ls hS
  · rw [gof0] at c
    have c' := fun q => c ((gle gR0 ra).mpr q)
    rw [if_neg c'] at hx
    exact kf c' hx hK (gRl_t hs) H locs ls hS
theorem gr_icmp_gt {a b off : Int} (hd : decode M.1 pc = .ok (.if_icmp .gt off, 3)) (tgt pc' : Nat) (ht : (pc : Int) + off = (tgt : Int)) (hp : pc + 3 = pc') (kt : b < a → gr x o M X h tgt lv st) (kf : ¬ (b < a) → gr y o M X h pc' lv st) : gr (if b < a then x else y) o M X h pc lv (.inl b :: .inl a :: st) := by
  subst hp
  intro hx hK hs H locs ls hS
  have rb : gR32 b := gRl_h hs
  have ra : gR32 a := gRl_h (gRl_t hs)
  refine lv_icmp_gt hK.1 hK.2.1 hd ht (fun c => ?_) (fun c => ?_)
  · have c' := (glt rb ra).mp c
    rw [if_pos c'] at hx
    exact kt c' hx hK (gRl_t (gRl_t hs)) H locs ls hS
  · have c' := fun q => c ((glt rb ra).mpr q)
    rw [if_neg c'] at hx
    exact kf c' hx hK (gRl_t (gRl_t hs)) H locs ls hS
theorem gr_if_gt {a off : Int} (hd : decode M.1 pc = .ok (.ifCond .gt off, 3)) (tgt pc' : Nat) (ht : (pc : Int) + off = (tgt : Int)) (hp : pc + 3 = pc') (kt : 0 < a → gr x o M X h tgt lv st) (kf : ¬ (0 < a) → gr y o M X h pc' lv st) : gr (if 0 < a then x else y) o M X h pc lv (.inl a :: st) := by
  subst hp
  intro hx hK hs H locs ls hS
  have ra : gR32 a := gRl_h hs
  refine lv_if_gt hK.1 hK.2.1 hd ht (fun c => ?_) (fun c => ?_)
  · rw [gof0] at c
    have c' := (glt gR0 ra).mp c
    rw [if_pos c'] at hx
    exact kt c' hx hK (gRl_t hs) H locs ls hS
  · rw [gof0] at c
    have c' := fun q => c ((glt gR0 ra).mpr q)
    rw [if_neg c'] at hx
    exact kf c' hx hK (gRl_t hs) H locs ls hS
theorem gr_icmp_le {a b off : Int} (hd : decode M.1 pc = .ok (.if_icmp .le off, 3)) (tgt pc' : Nat) (ht : (pc : Int) + off = (tgt : Int)) (hp : pc + 3 = pc') (kt : a ≤ b → gr x o M X h tgt lv st) (kf : ¬ (a ≤ b) → gr y o M X h pc' lv st) : gr (if a ≤ b then x else y) o M X h pc lv (.inl b :: .inl a :: st) := by
  subst hp
  intro hx hK hs H locs ls hS
  have rb : gR32 b := gRl_h hs
  have ra : gR32 a := gRl_h (gRl_t hs)
  refine lv_icmp_le hK.1 hK.2.1 hd ht (fun c => ?_) (fun c => ?_)
  · have c' := (gle ra rb).mp c
    rw [if_pos c'] at hx
    exact kt c' hx hK (gRl_t (gRl_t hs)) H locs ls hS
  · have c' := fun q => c ((gle ra rb).mpr q)
    rw [if_neg c'] at hx
    exact kf c' hx hK (gRl_t (gRl_t hs)) H locs ls hS
theorem gr_if_le {a off : Int} (hd : decode M.1 pc = .ok (.ifCond .le off, 3)) (tgt pc' : Nat) (ht : (pc : Int) + off = (tgt : Int)) (hp : pc + 3 = pc') (kt : a ≤ 0 → gr x o M X h tgt lv st) (kf : ¬ (a ≤ 0) → gr y o M X h pc' lv st) : gr (if a ≤ 0 then x else y) o M X h pc lv (.inl a :: st) := by
  subst hp
  intro hx hK hs H locs ls hS
  have ra : gR32 a := gRl_h hs
  refine lv_if_le hK.1 hK.2.1 hd ht (fun c => ?_) (fun c => ?_)
  · rw [gof0] at c
    have c' := (gle ra gR0).mp c
    rw [if_pos c'] at hx
    exact kt c' hx hK (gRl_t hs) H locs ls hS
  · rw [gof0] at c
    have c' := fun q => c ((gle ra gR0).mpr q)
    rw [if_neg c'] at hx
    exact kf c' hx hK (gRl_t hs) H locs ls hS
theorem gr_icmp_ne {a b off : Int} (hd : decode M.1 pc = .ok (.if_icmp .ne off, 3)) (tgt pc' : Nat) (ht : (pc : Int) + off = (tgt : Int)) (hp : pc + 3 = pc') (kt : ¬ a = b → gr x o M X h tgt lv st) (kf : a = b → gr y o M X h pc' lv st) : gr (if a = b then y else x) o M X h pc lv (.inl b :: .inl a :: st) := by
  subst hp
  intro hx hK hs H locs ls hS
  have rb : gR32 b := gRl_h hs
  have ra : gR32 a := gRl_h (gRl_t hs)
  refine lv_icmp_ne hK.1 hK.2.1 hd ht (fun c => ?_) (fun c => ?_)
  · have c' : ¬ a = b := fun q => c (by rw [q])
    rw [if_neg c'] at hx
    exact kt c' hx hK (gRl_t (gRl_t hs)) H locs ls hS
  · have c' : a = b := (geq ra rb).mp (by rw [c])
    rw [if_pos c'] at hx
    exact kf c' hx hK (gRl_t (gRl_t hs)) H locs ls hS
theorem gr_if_ne {a off : Int} (hd : decode M.1 pc = .ok (.ifCond .ne off, 3)) (tgt pc' : Nat) (ht : (pc : Int) + off = (tgt : Int)) (hp : pc + 3 = pc') (kt : ¬ a = 0 → gr x o M X h tgt lv st) (kf : a = 0 → gr y o M X h pc' lv st) : gr (if a = 0 then y else x) o M X h pc lv (.inl a :: st) := by
  subst hp
  intro hx hK hs H locs ls hS
  have rb : gR32 0 := gR0
  have ra : gR32 a := gRl_h hs
  refine lv_if_ne hK.1 hK.2.1 hd ht (fun c => ?_) (fun c => ?_)
  · have c' : ¬ a = 0 := fun q => c (by rw [gof0, q])
    rw [if_neg c'] at hx
    exact kt c' hx hK (gRl_t hs) H locs ls hS
  · have c' : a = 0 := (geq ra rb).mp (by rw [c]; exact gof0)
    rw [if_pos c'] at hx
    exact kf c' hx hK (gRl_t hs) H locs ls hS
theorem gr_tswIn {a dflt lo hi off : Int} {offs : Array Int} {len : Nat} (hd : decode M.1 pc = .ok (.tableswitch dflt lo hi offs, len)) (v : Int) (he : a = v) (h1 : ¬ v < lo) (h2 : ¬ hi < v) (ho : offs[(v - lo).toNat]? = some off) (tgt : Nat) (ht : (pc : Int) + off = (tgt : Int)) (k : gr x o M X h tgt lv st) : gr x o M X h pc lv (.inl a :: st) := by
  subst he
  intro hx hK hs H locs ls hS
  have ra : gR32 a := gRl_h hs
  exact lv_tableIn hK.1 hK.2.1 hd (by rw [g32 ra]; exact h1) (by rw [g32 ra]; exact h2) (by rw [g32 ra]; exact ho) ht (k hx hK (gRl_t hs) H locs ls hS)
theorem gr_tswOut {a dflt lo hi : Int} {offs : Array Int} {len : Nat} (hd : decode M.1 pc = .ok (.tableswitch dflt lo hi offs, len)) {h' : gH} (h : a < lo ∨ hi < a) (tgt : Nat) (ht : (pc : Int) + dflt = (tgt : Int)) (k : gr x o M X h' tgt lv st) : gr x o M X h' pc lv (.inl a :: st) := by
  intro hx hK hs H locs ls hS
  have ra : gR32 a := gRl_h hs
  exact lv_tableOut hK.1 hK.2.1 hd (by rw [g32 ra]; exact h) ht (k hx hK (gRl_t hs) H locs ls hS)
end GR
