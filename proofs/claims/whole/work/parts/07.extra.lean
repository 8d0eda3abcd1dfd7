def gmax (a b : Int) : Int := if a < b then b else a
theorem gr_mmax {x : Option gO} {o : gO} {M : gM} {X : gX} {h : gH} {pc : Nat} {lv : gL} {st : List gV} {idx : Nat} {a b : Int} (hd : decode M.1 pc = .ok (.invokestatic idx, 3)) (pc' : Nat) (hp : pc + 3 = pc') (h1 : Cond.methodLink M.2.1 idx Lib.Math.max.name ∈ gtbl) (h2 : Cond.static Lib.Math.max.name ∈ gtbl) (h3 : Cond.initialized "java/lang/Math" ∈ gtbl) (h4 : Cond.code Lib.Math.max.name Lib.Math.max.code 2 (some .int) ∈ gtbl) (hroom : 1 ≤ M.2.2.1 ∧ 21 ≤ M.2.2.2.1) (hcat : (st.map gCat).sum ≤ 8) (k : gr x o M X h pc' lv (.inl (gmax a b) :: st)) : gr x o M X h pc lv (.inl b :: .inl a :: st) := by
  subst hp
  intro hx hK hs H locs ls hS
  have rb : gR32 b := gRl_h hs
  have ra : gR32 a := gRl_h (gRl_t hs)
  have rg : gR32 (gmax a b) := by unfold gmax; split <;> assumption
  have q := k hx hK (gRl_c rg (gRl_t (gRl_t hs))) H locs ls hS
  refine va_mmax hK.1 hK.2.1 (hK.2.2.1.1.trans hS.2.2.2.2.1.symm) hK.2.2.2.1 (hK.2.2.2.2.1 _ h1) (hK.2.2.2.2.1 _ h2) (hK.2.2.2.2.1 _ h3) (hK.2.2.2.2.1 _ h4) (Nat.le_trans hroom.1 hK.2.2.2.2.2.2.1) (by rw [gCat_eq]; have := hroom.2; have := hK.2.2.2.2.2.2.2.1; omega) hK.2.2.2.2.2.2.2.2.1 hK.2.2.2.2.2.2.2.2.2.1 hd ?_
  have e : (if Int32.ofInt a < Int32.ofInt b then Int32.ofInt b else Int32.ofInt a) = Int32.ofInt (gmax a b) := by
    unfold gmax
    by_cases c : a < b
    · rw [if_pos ((glt ra rb).mpr c), if_pos c]
    · rw [if_neg (fun q => c ((glt ra rb).mp q)), if_neg c]
  rw [e]
  exact q
def gmin (a b : Int) : Int := if b < a then b else a
theorem gr_mmin {x : Option gO} {o : gO} {M : gM} {X : gX} {h : gH} {pc : Nat} {lv : gL} {st : List gV} {idx : Nat} {a b : Int} (hd : decode M.1 pc = .ok (.invokestatic idx, 3)) (pc' : Nat) (hp : pc + 3 = pc') (h1 : Cond.methodLink M.2.1 idx Lib.Math.min.name ∈ gtbl) (h2 : Cond.static Lib.Math.min.name ∈ gtbl) (h3 : Cond.initialized "java/lang/Math" ∈ gtbl) (h4 : Cond.code Lib.Math.min.name Lib.Math.min.code 2 (some .int) ∈ gtbl) (hroom : 1 ≤ M.2.2.1 ∧ 21 ≤ M.2.2.2.1) (hcat : (st.map gCat).sum ≤ 8) (k : gr x o M X h pc' lv (.inl (gmin a b) :: st)) : gr x o M X h pc lv (.inl b :: .inl a :: st) := by
  subst hp
  intro hx hK hs H locs ls hS
  have rb : gR32 b := gRl_h hs
  have ra : gR32 a := gRl_h (gRl_t hs)
  have rg : gR32 (gmin a b) := by unfold gmin; split <;> assumption
  have q := k hx hK (gRl_c rg (gRl_t (gRl_t hs))) H locs ls hS
  refine va_mmin hK.1 hK.2.1 (hK.2.2.1.1.trans hS.2.2.2.2.1.symm) hK.2.2.2.1 (hK.2.2.2.2.1 _ h1) (hK.2.2.2.2.1 _ h2) (hK.2.2.2.2.1 _ h3) (hK.2.2.2.2.1 _ h4) (Nat.le_trans hroom.1 hK.2.2.2.2.2.2.1) (by rw [gCat_eq]; have := hroom.2; have := hK.2.2.2.2.2.2.2.1; omega) hK.2.2.2.2.2.2.2.2.1 hK.2.2.2.2.2.2.2.2.2.1 hd ?_
  have e : (if Int32.ofInt b < Int32.ofInt a then Int32.ofInt b else Int32.ofInt a) = Int32.ofInt (gmin a b) := by
    unfold gmin
    by_cases c : b < a
    · rw [if_pos ((glt rb ra).mpr c), if_pos c]
    · rw [if_neg (fun q => c ((glt rb ra).mp q)), if_neg c]
  rw [e]
  exact q
theorem gr_sub {x : Option gO} {o : gO} {M : gM} {X : gX} {h : gH} {pc : Nat} {lv : gL} {st : List gV} {lv' : gL} (ks : List Nat) (hl : ks.filterMap (fun k => lv[k]?) = lv') (k : gr x o M X h pc lv' st) : gr x o M X h pc lv st := by
  intro hx hK hs H locs ls hS
  have hm : ∀ q, q ∈ lv' → q ∈ lv := fun q hq => by
    rw [← hl] at hq
    obtain ⟨i, -, hi⟩ := List.mem_filterMap.mp hq
    exact List.mem_of_getElem? hi
  refine k hx hK hs H locs ls ⟨hS.1, fun v hv => ?_, hS.2.2.1, hS.2.2.2.1, hS.2.2.2.2.1, hS.2.2.2.2.2.1, fun q hq => ?_⟩
  · obtain ⟨q, hq, rfl⟩ := List.mem_map.mp hv
    exact hS.2.1 _ (List.mem_map.mpr ⟨q, hm q hq, rfl⟩)
  · obtain ⟨r, hr, rfl⟩ := List.mem_map.mp hq
    exact hS.2.2.2.2.2.2 _ (List.mem_map.mpr ⟨r, hm r hr, rfl⟩)
theorem gclE {i ci : Nat} (h : gcl i ci = true) : gsh i = .inr ci := of_decide_eq_true h
theorem gsmall {i ci : Nat} (h : gsh i = .inr ci) : i < 2147483647 := Nat.lt_trans (gsh_lt h (by intro q; cases q)) (by decide)
theorem giaE {i : Nat} (h : gia i = true) : gsh i = .inl (0, gln i) := by
  unfold gia at h
  unfold gln
  rcases hs : gsh i with ⟨t, n⟩ | c
  · rcases t with _ | t
    · rfl
    · rw [hs] at h; cases h
  · rw [hs] at h; cases h
theorem gia_of {i n : Nat} (h : gsh i = .inl (0, n)) : gia i = true := by unfold gia; rw [h]; rfl
theorem gr_ialdP {x : Option gO} {o : gO} {M : gM} {X : gX} {h : gH} {pc : Nat} {lv : gL} {st : List gV} {a : Nat} {i : Int} (hd : decode M.1 pc = .ok (.iaload, 1)) (pc' : Nat) (hp : pc + 1 = pc') (hia : gia a = true) (hL : gLive (xZ X)) (kk : gr x o M X h pc' lv (.inl (h a i.toNat) :: st)) : gr (gd (gix (gln a) i) x) o M X h pc lv (.inl i :: .inr (.inr a) :: st) := gr_iald hd pc' hp (giaE hia) (glj hL (giaE hia) (by decide)) kk
theorem gr_iastP {o : gO} {M : gM} {X : gX} {h : gH} {pc : Nat} {lv : gL} {st : List gV} {a : Nat} {i v : Int} (hd : decode M.1 pc = .ok (.iastore, 1)) (pc' : Nat) (hp : pc + 1 = pc') (hia : gia a = true) (hL : gLive (xZ X)) {kk : gH → Option gO} (k1 : ∀ h1, h1 = gup h a i.toNat v → gr (kk h1) o M X h1 pc' lv st) : gr (gd (gix (gln a) i) (gs (gup h a i.toNat v) kk)) o M X h pc lv (.inl v :: .inl i :: .inr (.inr a) :: st) := gr_iast hd pc' hp (giaE hia) (glj hL (giaE hia) (by decide)) k1
theorem gln_small (i : Nat) : gln i < 2147483647 := by
  by_cases hi : i < gN
  · have : ∀ i, i < gN → gln i < 2147483647 := by decide +kernel
    exact this i hi
  · have hl : gtab.length ≤ i := by
      have : gtab.length = gN := by decide +kernel
      omega
    unfold gln gsh
    rw [List.getD_eq_getElem?_getD, List.getElem?_eq_none hl]
    decide
theorem gr_alenP {x : Option gO} {o : gO} {M : gM} {X : gX} {h : gH} {pc : Nat} {lv : gL} {st : List gV} {a : Nat} (hd : decode M.1 pc = .ok (.arraylength, 1)) (pc' : Nat) (hp : pc + 1 = pc') (hia : gia a = true) (hL : gLive (xZ X)) (kk : gr x o M X h pc' lv (.inl ((gln a : Nat) : Int) :: st)) : gr x o M X h pc lv (.inr (.inr a) :: st) := gr_alen hd pc' hp (giaE hia) rfl (glj hL (giaE hia) (by decide)) (gln_small a) kk
theorem gr_callVi {o : gO} {M : gM} {X : gX} {h : gH} {pc : Nat} {lv : gL} {st : List gV} {idx fr lo nL' : Nat} {ci a N : Nat} {T : u_T} {yy : MethodName} {cc' : ByteArray} {ty : FieldType} {as stk : List gV} {fx : Option gO} {kk : gH → Int → Option gO} (hd : decode M.1 pc = .ok (.invokevirtual idx, 3)) (pc' : Nat) (hp : pc + 3 = pc') (hst : stk = as.reverse ++ .inr (.inr a) :: st) (hy : gCy M.2.1 idx yy cc' nL' (some ty) as.length) (hin : Cond.instanceMethod yy ∈ gtbl) (hse : Cond.selects yy.cls yy yy ∈ gtbl) (hroom : fr + 1 ≤ M.2.2.1 ∧ 8 + (nL' + 11) + lo ≤ M.2.2.2.1) (hcat : (st.map gCat).sum ≤ 8) (hsh : gsh a = .inr ci) (hci : gcls[ci]? = some (yy.cls, T, N)) (hi : a ∈ zL (xZ X))
    (hc : ∀ o1, gRg h → gRl (.inr (.inr a) :: as) → fx = some o1 → gC (xZ X) yy cc' nL' (some ty) fr lo (.inr (.inr a) :: as) h o1) (k : ∀ h1 r, fx = some (h1, r) → gr (kk h1 r) o M X h1 pc' lv (.inl r :: st)) : gr (gb fx kk) o M X h pc lv stk := gr_callV hd pc' hp hst hy hin hse hroom hcat hsh hci hi hc k
theorem gr_callVv {o : gO} {M : gM} {X : gX} {h : gH} {pc : Nat} {lv : gL} {st : List gV} {idx fr lo nL' : Nat} {ci a N : Nat} {T : u_T} {yy : MethodName} {cc' : ByteArray}  {as stk : List gV} {fx : Option gO} {kk : gH → Int → Option gO} (hd : decode M.1 pc = .ok (.invokevirtual idx, 3)) (pc' : Nat) (hp : pc + 3 = pc') (hst : stk = as.reverse ++ .inr (.inr a) :: st) (hy : gCy M.2.1 idx yy cc' nL' none as.length) (hin : Cond.instanceMethod yy ∈ gtbl) (hse : Cond.selects yy.cls yy yy ∈ gtbl) (hroom : fr + 1 ≤ M.2.2.1 ∧ 8 + (nL' + 11) + lo ≤ M.2.2.2.1) (hcat : (st.map gCat).sum ≤ 8) (hsh : gsh a = .inr ci) (hci : gcls[ci]? = some (yy.cls, T, N)) (hi : a ∈ zL (xZ X))
    (hc : ∀ o1, gRg h → gRl (.inr (.inr a) :: as) → fx = some o1 → gC (xZ X) yy cc' nL' none fr lo (.inr (.inr a) :: as) h o1) (k : ∀ h1 r, fx = some (h1, r) → gr (kk h1 r) o M X h1 pc' lv (st)) : gr (gb fx kk) o M X h pc lv stk := gr_callV hd pc' hp hst hy hin hse hroom hcat hsh hci hi hc k
theorem gr_callSi {o : gO} {M : gM} {X : gX} {h : gH} {pc : Nat} {lv : gL} {st : List gV} {idx fr lo nL' : Nat}  {yy : MethodName} {cc' : ByteArray} {ty : FieldType} {as stk : List gV} {fx : Option gO} {kk : gH → Int → Option gO} (hd : decode M.1 pc = .ok (.invokestatic idx, 3)) (pc' : Nat) (hp : pc + 3 = pc') (hst : stk = as.reverse ++ st) (hy : gCy M.2.1 idx yy cc' nL' (some ty) as.length) (hin : Cond.static yy ∈ gtbl) (hroom : fr + 1 ≤ M.2.2.1 ∧ 8 + (nL' + 11) + lo ≤ M.2.2.2.1) (hcat : (st.map gCat).sum ≤ 8) 
    (hc : ∀ o1, gRg h → gRl (as) → fx = some o1 → gC (xZ X) yy cc' nL' (some ty) fr lo (as) h o1) (k : ∀ h1 r, fx = some (h1, r) → gr (kk h1 r) o M X h1 pc' lv (.inl r :: st)) : gr (gb fx kk) o M X h pc lv stk := gr_callS hd pc' hp hst hy hin hroom hcat hc k
theorem gr_callSv {o : gO} {M : gM} {X : gX} {h : gH} {pc : Nat} {lv : gL} {st : List gV} {idx fr lo nL' : Nat}  {yy : MethodName} {cc' : ByteArray}  {as stk : List gV} {fx : Option gO} {kk : gH → Int → Option gO} (hd : decode M.1 pc = .ok (.invokestatic idx, 3)) (pc' : Nat) (hp : pc + 3 = pc') (hst : stk = as.reverse ++ st) (hy : gCy M.2.1 idx yy cc' nL' none as.length) (hin : Cond.static yy ∈ gtbl) (hroom : fr + 1 ≤ M.2.2.1 ∧ 8 + (nL' + 11) + lo ≤ M.2.2.2.1) (hcat : (st.map gCat).sum ≤ 8) 
    (hc : ∀ o1, gRg h → gRl (as) → fx = some o1 → gC (xZ X) yy cc' nL' none fr lo (as) h o1) (k : ∀ h1 r, fx = some (h1, r) → gr (kk h1 r) o M X h1 pc' lv (st)) : gr (gb fx kk) o M X h pc lv stk := gr_callS hd pc' hp hst hy hin hroom hcat hc k
theorem gsh_0 : gsh 0 = .inr 6 := by decide +kernel
theorem gsh_1 : gsh 1 = .inr 0 := by decide +kernel
theorem gsh_2 : gsh 2 = .inl (0, 9) := by decide +kernel
theorem gsh_3 : gsh 3 = .inl (0, 9) := by decide +kernel
theorem gsh_4 : gsh 4 = .inl (0, 9) := by decide +kernel
theorem gsh_5 : gsh 5 = .inl (0, 9) := by decide +kernel
theorem gsh_6 : gsh 6 = .inl (0, 6) := by decide +kernel
theorem gsh_7 : gsh 7 = .inl (0, 6) := by decide +kernel
theorem gsh_8 : gsh 8 = .inl (0, 6) := by decide +kernel
theorem gsh_9 : gsh 9 = .inl (0, 6) := by decide +kernel
theorem gsh_10 : gsh 10 = .inl (0, 6) := by decide +kernel
theorem gsh_11 : gsh 11 = .inl (0, 49) := by decide +kernel
theorem gsh_12 : gsh 12 = .inl (0, 49) := by decide +kernel
theorem gsh_13 : gsh 13 = .inr 0 := by decide +kernel
theorem gsh_14 : gsh 14 = .inl (0, 9) := by decide +kernel
theorem gsh_15 : gsh 15 = .inl (0, 9) := by decide +kernel
theorem gsh_16 : gsh 16 = .inl (0, 9) := by decide +kernel
theorem gsh_17 : gsh 17 = .inl (0, 9) := by decide +kernel
theorem gsh_18 : gsh 18 = .inl (0, 6) := by decide +kernel
theorem gsh_19 : gsh 19 = .inl (0, 6) := by decide +kernel
theorem gsh_20 : gsh 20 = .inl (0, 6) := by decide +kernel
theorem gsh_21 : gsh 21 = .inl (0, 6) := by decide +kernel
theorem gsh_22 : gsh 22 = .inl (0, 6) := by decide +kernel
theorem gsh_23 : gsh 23 = .inl (0, 49) := by decide +kernel
theorem gsh_24 : gsh 24 = .inl (0, 49) := by decide +kernel
theorem gsh_25 : gsh 25 = .inr 2 := by decide +kernel
theorem gsh_26 : gsh 26 = .inl (0, 250) := by decide +kernel
theorem gsh_27 : gsh 27 = .inr 4 := by decide +kernel
theorem gsh_28 : gsh 28 = .inl (0, 9) := by decide +kernel
theorem gsh_29 : gsh 29 = .inl (0, 9) := by decide +kernel
theorem gsh_30 : gsh 30 = .inl (0, 9) := by decide +kernel
theorem gsh_31 : gsh 31 = .inl (0, 18) := by decide +kernel
theorem gsh_32 : gsh 32 = .inl (0, 6) := by decide +kernel
theorem gsh_33 : gsh 33 = .inl (0, 6) := by decide +kernel
theorem gsh_34 : gsh 34 = .inl (0, 6) := by decide +kernel
theorem gsh_35 : gsh 35 = .inl (0, 6) := by decide +kernel
theorem gsh_36 : gsh 36 = .inl (0, 6) := by decide +kernel
theorem gsh_37 : gsh 37 = .inr 4 := by decide +kernel
theorem gsh_38 : gsh 38 = .inl (0, 9) := by decide +kernel
theorem gsh_39 : gsh 39 = .inl (0, 9) := by decide +kernel
theorem gsh_40 : gsh 40 = .inl (0, 9) := by decide +kernel
theorem gsh_41 : gsh 41 = .inl (0, 18) := by decide +kernel
theorem gsh_42 : gsh 42 = .inl (0, 6) := by decide +kernel
theorem gsh_43 : gsh 43 = .inl (0, 6) := by decide +kernel
theorem gsh_44 : gsh 44 = .inl (0, 6) := by decide +kernel
theorem gsh_45 : gsh 45 = .inl (0, 6) := by decide +kernel
theorem gsh_46 : gsh 46 = .inl (0, 6) := by decide +kernel
theorem gsh_47 : gsh 47 = .inl (2, 2) := by decide +kernel
theorem gsh_48 : gsh 48 = .inr 4 := by decide +kernel
theorem gsh_49 : gsh 49 = .inl (0, 9) := by decide +kernel
theorem gsh_50 : gsh 50 = .inl (0, 9) := by decide +kernel
theorem gsh_51 : gsh 51 = .inl (0, 9) := by decide +kernel
theorem gsh_52 : gsh 52 = .inl (0, 18) := by decide +kernel
theorem gsh_53 : gsh 53 = .inl (0, 6) := by decide +kernel
theorem gsh_54 : gsh 54 = .inl (0, 6) := by decide +kernel
theorem gsh_55 : gsh 55 = .inl (0, 6) := by decide +kernel
theorem gsh_56 : gsh 56 = .inl (0, 6) := by decide +kernel
theorem gsh_57 : gsh 57 = .inl (0, 6) := by decide +kernel
theorem gsh_58 : gsh 58 = .inr 4 := by decide +kernel
theorem gsh_59 : gsh 59 = .inl (0, 9) := by decide +kernel
theorem gsh_60 : gsh 60 = .inl (0, 9) := by decide +kernel
theorem gsh_61 : gsh 61 = .inl (0, 9) := by decide +kernel
theorem gsh_62 : gsh 62 = .inl (0, 18) := by decide +kernel
theorem gsh_63 : gsh 63 = .inl (0, 6) := by decide +kernel
theorem gsh_64 : gsh 64 = .inl (0, 6) := by decide +kernel
theorem gsh_65 : gsh 65 = .inl (0, 6) := by decide +kernel
theorem gsh_66 : gsh 66 = .inl (0, 6) := by decide +kernel
theorem gsh_67 : gsh 67 = .inl (0, 6) := by decide +kernel
theorem gsh_68 : gsh 68 = .inl (1, 2) := by decide +kernel
theorem gsh_69 : gsh 69 = .inr 5 := by decide +kernel
theorem gsh_70 : gsh 70 = .inl (0, 7) := by decide +kernel
theorem gsh_71 : gsh 71 = .inl (0, 7) := by decide +kernel
theorem gsh_72 : gsh 72 = .inr 3 := by decide +kernel
theorem gsh_73 : gsh 73 = .inl (0, 6) := by decide +kernel
theorem gsh_74 : gsh 74 = .inl (0, 6) := by decide +kernel
theorem gsh_75 : gsh 75 = .inr 1 := by decide +kernel
theorem gsh_76 : gsh 76 = .inl (0, 8) := by decide +kernel
theorem gsh_77 : gsh 77 = .inl (0, 8) := by decide +kernel
theorem gsh_78 : gsh 78 = .inl (0, 8) := by decide +kernel
theorem gsh_79 : gsh 79 = .inr 1 := by decide +kernel
theorem gsh_80 : gsh 80 = .inl (0, 15) := by decide +kernel
theorem gsh_81 : gsh 81 = .inl (0, 15) := by decide +kernel
theorem gsh_82 : gsh 82 = .inl (0, 15) := by decide +kernel
theorem gsh_83 : gsh 83 = .inr 7 := by decide +kernel
theorem gsh_84 : gsh 84 = .inl (0, 9) := by decide +kernel
theorem gsh_85 : gsh 85 = .inl (0, 9) := by decide +kernel
theorem gsh_86 : gsh 86 = .inl (0, 9) := by decide +kernel
theorem gsh_87 : gsh 87 = .inl (0, 6) := by decide +kernel
theorem gsh_88 : gsh 88 = .inl (0, 6) := by decide +kernel
theorem gsh_89 : gsh 89 = .inl (0, 6) := by decide +kernel
theorem gsh_90 : gsh 90 = .inl (0, 6) := by decide +kernel
theorem gsh_91 : gsh 91 = .inl (0, 49) := by decide +kernel
theorem gsh_92 : gsh 92 = .inl (0, 50) := by decide +kernel
theorem gsh_93 : gsh 93 = .inl (0, 250) := by decide +kernel
theorem gsh_94 : gsh 94 = .inl (0, 2) := by decide +kernel
theorem gsh_95 : gsh 95 = .inl (0, 9) := by decide +kernel
theorem gsh_96 : gsh 96 = .inl (0, 9) := by decide +kernel
theorem gsh_97 : gsh 97 = .inl (0, 9) := by decide +kernel
theorem gsh_98 : gsh 98 = .inl (0, 9) := by decide +kernel
theorem gsh_99 : gsh 99 = .inl (0, 6) := by decide +kernel
theorem gsh_100 : gsh 100 = .inl (0, 6) := by decide +kernel
theorem gsh_101 : gsh 101 = .inl (0, 6) := by decide +kernel
theorem gsh_102 : gsh 102 = .inl (0, 6) := by decide +kernel
theorem gsh_103 : gsh 103 = .inl (0, 6) := by decide +kernel
theorem gsh_104 : gsh 104 = .inl (0, 50) := by decide +kernel
theorem gsh_105 : gsh 105 = .inl (0, 7) := by decide +kernel
theorem gsh_106 : gsh 106 = .inl (0, 2107) := by decide +kernel
theorem gsh_107 : gsh 107 = .inl (0, 6) := by decide +kernel
theorem gsh_108 : gsh 108 = .inl (0, 6) := by decide +kernel
theorem gsh_109 : gsh 109 = .inl (0, 8) := by decide +kernel
theorem gsh_110 : gsh 110 = .inl (0, 8) := by decide +kernel
theorem gsh_111 : gsh 111 = .inl (0, 8) := by decide +kernel
theorem gsh_112 : gsh 112 = .inl (0, 15) := by decide +kernel
theorem gsh_113 : gsh 113 = .inl (0, 15) := by decide +kernel
theorem gsh_114 : gsh 114 = .inl (0, 102) := by decide +kernel
theorem gsh_115 : gsh 115 = .inl (1, 2) := by decide +kernel
theorem gsC_1 {t : Nat} (ht : gsh t = .inr 0) : gsh (t + 1) = .inl (0, 9) := by
  have q : ∀ t, t < gN → gsh t = .inr 0 → gsh (t + 1) = .inl (0, 9) := by decide +kernel
  exact q t (gsh_lt ht (by intro z; cases z)) ht
theorem gsC_2 {t : Nat} (ht : gsh t = .inr 0) : gsh (t + 2) = .inl (0, 9) := by
  have q : ∀ t, t < gN → gsh t = .inr 0 → gsh (t + 2) = .inl (0, 9) := by decide +kernel
  exact q t (gsh_lt ht (by intro z; cases z)) ht
theorem gsC_3 {t : Nat} (ht : gsh t = .inr 0) : gsh (t + 3) = .inl (0, 9) := by
  have q : ∀ t, t < gN → gsh t = .inr 0 → gsh (t + 3) = .inl (0, 9) := by decide +kernel
  exact q t (gsh_lt ht (by intro z; cases z)) ht
theorem gsC_4 {t : Nat} (ht : gsh t = .inr 0) : gsh (t + 4) = .inl (0, 9) := by
  have q : ∀ t, t < gN → gsh t = .inr 0 → gsh (t + 4) = .inl (0, 9) := by decide +kernel
  exact q t (gsh_lt ht (by intro z; cases z)) ht
theorem gsC_5 {t : Nat} (ht : gsh t = .inr 0) : gsh (t + 5) = .inl (0, 6) := by
  have q : ∀ t, t < gN → gsh t = .inr 0 → gsh (t + 5) = .inl (0, 6) := by decide +kernel
  exact q t (gsh_lt ht (by intro z; cases z)) ht
theorem gsC_6 {t : Nat} (ht : gsh t = .inr 0) : gsh (t + 6) = .inl (0, 6) := by
  have q : ∀ t, t < gN → gsh t = .inr 0 → gsh (t + 6) = .inl (0, 6) := by decide +kernel
  exact q t (gsh_lt ht (by intro z; cases z)) ht
theorem gsC_7 {t : Nat} (ht : gsh t = .inr 0) : gsh (t + 7) = .inl (0, 6) := by
  have q : ∀ t, t < gN → gsh t = .inr 0 → gsh (t + 7) = .inl (0, 6) := by decide +kernel
  exact q t (gsh_lt ht (by intro z; cases z)) ht
theorem gsC_8 {t : Nat} (ht : gsh t = .inr 0) : gsh (t + 8) = .inl (0, 6) := by
  have q : ∀ t, t < gN → gsh t = .inr 0 → gsh (t + 8) = .inl (0, 6) := by decide +kernel
  exact q t (gsh_lt ht (by intro z; cases z)) ht
theorem gsC_9 {t : Nat} (ht : gsh t = .inr 0) : gsh (t + 9) = .inl (0, 6) := by
  have q : ∀ t, t < gN → gsh t = .inr 0 → gsh (t + 9) = .inl (0, 6) := by decide +kernel
  exact q t (gsh_lt ht (by intro z; cases z)) ht
theorem gsC_10 {t : Nat} (ht : gsh t = .inr 0) : gsh (t + 10) = .inl (0, 49) := by
  have q : ∀ t, t < gN → gsh t = .inr 0 → gsh (t + 10) = .inl (0, 49) := by decide +kernel
  exact q t (gsh_lt ht (by intro z; cases z)) ht
theorem gsC_11 {t : Nat} (ht : gsh t = .inr 0) : gsh (t + 11) = .inl (0, 49) := by
  have q : ∀ t, t < gN → gsh t = .inr 0 → gsh (t + 11) = .inl (0, 49) := by decide +kernel
  exact q t (gsh_lt ht (by intro z; cases z)) ht
theorem gsT_1 {t : Nat} (ht : gsh t = .inr 4) : gsh (t + 1) = .inl (0, 9) := by
  have q : ∀ t, t < gN → gsh t = .inr 4 → gsh (t + 1) = .inl (0, 9) := by decide +kernel
  exact q t (gsh_lt ht (by intro z; cases z)) ht
theorem gsT_2 {t : Nat} (ht : gsh t = .inr 4) : gsh (t + 2) = .inl (0, 9) := by
  have q : ∀ t, t < gN → gsh t = .inr 4 → gsh (t + 2) = .inl (0, 9) := by decide +kernel
  exact q t (gsh_lt ht (by intro z; cases z)) ht
theorem gsT_3 {t : Nat} (ht : gsh t = .inr 4) : gsh (t + 3) = .inl (0, 9) := by
  have q : ∀ t, t < gN → gsh t = .inr 4 → gsh (t + 3) = .inl (0, 9) := by decide +kernel
  exact q t (gsh_lt ht (by intro z; cases z)) ht
theorem gsT_4 {t : Nat} (ht : gsh t = .inr 4) : gsh (t + 4) = .inl (0, 18) := by
  have q : ∀ t, t < gN → gsh t = .inr 4 → gsh (t + 4) = .inl (0, 18) := by decide +kernel
  exact q t (gsh_lt ht (by intro z; cases z)) ht
theorem gsT_5 {t : Nat} (ht : gsh t = .inr 4) : gsh (t + 5) = .inl (0, 6) := by
  have q : ∀ t, t < gN → gsh t = .inr 4 → gsh (t + 5) = .inl (0, 6) := by decide +kernel
  exact q t (gsh_lt ht (by intro z; cases z)) ht
theorem gsT_6 {t : Nat} (ht : gsh t = .inr 4) : gsh (t + 6) = .inl (0, 6) := by
  have q : ∀ t, t < gN → gsh t = .inr 4 → gsh (t + 6) = .inl (0, 6) := by decide +kernel
  exact q t (gsh_lt ht (by intro z; cases z)) ht
theorem gsT_7 {t : Nat} (ht : gsh t = .inr 4) : gsh (t + 7) = .inl (0, 6) := by
  have q : ∀ t, t < gN → gsh t = .inr 4 → gsh (t + 7) = .inl (0, 6) := by decide +kernel
  exact q t (gsh_lt ht (by intro z; cases z)) ht
theorem gsT_8 {t : Nat} (ht : gsh t = .inr 4) : gsh (t + 8) = .inl (0, 6) := by
  have q : ∀ t, t < gN → gsh t = .inr 4 → gsh (t + 8) = .inl (0, 6) := by decide +kernel
  exact q t (gsh_lt ht (by intro z; cases z)) ht
theorem gsT_9 {t : Nat} (ht : gsh t = .inr 4) : gsh (t + 9) = .inl (0, 6) := by
  have q : ∀ t, t < gN → gsh t = .inr 4 → gsh (t + 9) = .inl (0, 6) := by decide +kernel
  exact q t (gsh_lt ht (by intro z; cases z)) ht
theorem gsN_1 {t : Nat} (ht : gsh t = .inr 1) : gia (t + 1) = true := by
  have q : ∀ t, t < gN → gsh t = .inr 1 → gia (t + 1) = true := by decide +kernel
  exact q t (gsh_lt ht (by intro z; cases z)) ht
theorem gsN_2 {t : Nat} (ht : gsh t = .inr 1) : gia (t + 2) = true := by
  have q : ∀ t, t < gN → gsh t = .inr 1 → gia (t + 2) = true := by decide +kernel
  exact q t (gsh_lt ht (by intro z; cases z)) ht
theorem gsN_3 {t : Nat} (ht : gsh t = .inr 1) : gia (t + 3) = true := by
  have q : ∀ t, t < gN → gsh t = .inr 1 → gia (t + 3) = true := by decide +kernel
  exact q t (gsh_lt ht (by intro z; cases z)) ht
