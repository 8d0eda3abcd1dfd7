def R_law : String := "DecreedStreetsLaw"
def lw_P (b : Addr) (xs : List Int32) (args : Array Value) (s : State) : Prop := args = #[.ref b] ∧ s.IntsAt b xs ∧ xs.length ≤ 2560 ∧ (Jvm.Cond.and given_1 narrow_1).before args s = true
def lw_Q (_ : Array Value) (s : State) (o : Outcome) (t : State) : Prop := o = .returned (some (.int 1)) ∧ Framed s o t [] 600000 7302250
def lw_Z (below : List Frame) (a : Array Value) (s : State) : State → Prop := fun t => ∃ o, t.status = .running ∧ Ended t below o ∧ lw_Q a s o t
/-- the law's own end, with 1 on the stack, nothing written that was there before, its room as the claim has it -/
theorem lw_ret {p : Program} {l : Launch} {e : Env} {s : State} {m : MethodId} {below : List Frame} {meth : Method} {c : Code} {b : Nat} (hx : p.tables.exec = Jvm.exec) (hb : c.code = code) (hr : meth.sig.returnType = ret) (hlocks : meth.locks = false) {pc : Nat} {H : Heap} {ls : Array Slot} (hdg : decode code pc = .ok (.ireturn, 1)) : W p l e room_1 s m #[Value.ref b] below meth c H [] 600000 7302250 (lw_Z below #[Value.ref b] s) (F0 m pc ls [.int 1]) := by
  intro T hT X
  obtain ⟨fs, hret, hrun, hended, hW, hframe⟩ := X.leave (v := some (.int 1)) (hlocks := hlocks) (fun h => by rw [hr] at h; cases h)
  have hmeth' : T.vm.method? m = some meth := X.method'
  refine ⟨T.setFrames fs, ?_, .returned (some (.int 1)), hrun, hended, rfl, ⟨_, rfl⟩, hW, hframe⟩
  jvm_step X.here [X.here.top, hx, hb, hdg, hmeth', hr, ret, narrow_b1]
  (try refine ⟨rfl, ?_⟩); (try refine ⟨rfl, ?_⟩)
  first | (intro acts; rw [hret _ acts rfl rfl rfl]) | rw [hret _ _ rfl rfl rfl]
  exact Steps.refl _
/-- what holds at the law's entry: the machine, the code, the tables' words (any of lw_tbl by 'hts w (by decide +kernel)'), the script of L ints xs at the cell b, what the Statement gives of the start (any of its parts by flat_of_before) -/
def lw_At (p : Program) (s : State) (m : MethodId) (meth : Method) (c : Code) (b L : Nat) (xs : Nat → Int32) : Prop :=
  p.tables.exec = Jvm.exec ∧ c.code = code ∧ meth.sig.returnType = ret ∧ c.maxLocals = 4 ∧ s.vm.findClass R_law = some m.cls ∧ (∀ w ∈ lw_tbl, w.before #[Value.ref b] s = true) ∧ va_X b L xs s s.heap ∧ b < s.heap.size ∧ meth.locks = false ∧ (Jvm.Cond.and given_1 narrow_1).before #[Value.ref b] s = true
def gMo (h : gH) : gH := gup (gup (gup h 83 16 (-1)) 83 32 (-1)) 83 0 0
def gpure (sc : Nat → Int32) (Ln : Nat) : Prop := ∃ (o1 o2 o3 o4 : gO) (h' : gH), gRg gI3 ∧ f_Traffic_begin 27 1 gI3 = some o1 ∧ (∀ i, i ∉ gBL 27 → o1.1 i = gI3 i) ∧ gRg o1.1 ∧ f_Traffic_begin 37 1 o1.1 = some o2 ∧ (∀ i, i ∉ gBL 37 → o2.1 i = o1.1 i) ∧ gRg o2.1 ∧ f_Traffic_begin 48 1 o2.1 = some o3 ∧ (∀ i, i ∉ gBL 48 → o3.1 i = o2.1 i) ∧ gRg o3.1 ∧ f_Traffic_begin 58 1 o3.1 = some o4 ∧ (∀ i, i ∉ gBL 58 → o4.1 i = o3.1 i) ∧ gRg o4.1 ∧ f_law sc Ln 600 0 (gMo o4.1) = some (h', 1)
abbrev gNF : Nat → Nat → Bool := gclr gN22 83 [3, 4, 5, 7, 8, 9, 10, 11, 12, 14, 20, 22, 23, 24, 25, 27, 28, 29, 30, 31, 33, 34, 35, 36, 37, 39, 40, 41, 43, 44, 45, 46]
theorem gNF_o : ∀ i, i < 116 → ∀ k, k < 47 → (match gsh i with
  | .inr ci => decide (2 ≤ ((gfk ci).getD k (0, 0)).1)
  | .inl (2, _) => decide (k < 2)
  | _ => false) = true → gNF i k = false := by decide +kernel
theorem gfk_len : ∀ ci, (gfk ci).length ≤ 47 := fun ci => by
  match ci with
  | 0 => decide
  | 1 => decide
  | 2 => decide
  | 3 => decide
  | 4 => decide
  | 5 => decide
  | 6 => decide
  | _ + 7 => exact Nat.le_of_ble_eq_true rfl
theorem gNF_at {D : va_G} {H : Heap} {G : gG} {b i : Nat} {h : gH} (hi : i < 116) (hv : va_at D gcls (b + i, g2E G b h gNF i) H) : va_at D gcls (b + i, gE G b h i) H := by
  have hn := gNF_o i hi
  rcases hs : gsh i with ⟨t, n⟩ | ci
  · rcases t with _ | t
    · rw [g2E_i hs] at hv; rw [gE_i hs]; exact hv
    · rcases t with _ | t
      · rw [g2E_z hs] at hv; rw [gE_z hs]; exact hv
      · have h47 : ∀ i, i < 116 → ∀ t n, gsh i = .inl (t + 2, n) → t = 0 ∧ n = 2 := by
          intro i hi t n hs
          have hd : ∀ i, i < 116 → (match gsh i with
            | .inl (t + 2, n) => decide (t = 0 ∧ n = 2)
            | _ => true) = true := by decide +kernel
          have := hd i hi
          rw [hs] at this
          exact of_decide_eq_true this
        obtain ⟨rfl, rfl⟩ := h47 i hi t n hs
        rw [hs] at hn
        rw [g2E_q hs] at hv
        rw [gE_q hs]
        have hv' : H[(b + i : Nat)]? = some (vp_cell _ _) := hv
        show H[(b + i : Nat)]? = some (vp_cell _ _)
        rw [hv', vp_cell_q, vp_cell_q]
        refine congrArg some (arrV_congr (fun j hj => ?_))
        rw [if_neg (by rw [hn j (by omega) (decide_eq_true hj)]; intro q; cases q)]
  · rw [← g2E_full hs (fun k q hq h2 => ?_)]
    · exact hv
    · rw [hs] at hn
      have hl := (List.getElem?_eq_some_iff.mp hq).1
      refine hn k (Nat.lt_of_lt_of_le hl (gfk_len ci)) (decide_eq_true ?_)
      rw [List.getD_eq_getElem?_getD, hq]
      exact h2
theorem gcl_L7 : Cond.classLink "DecreedStreetsLaw" 7 gR_6 ∈ gtbl := (gtab_at 12 (by decide +kernel) rfl)
theorem gcl_L10 : Cond.classLink "DecreedStreetsLaw" 10 gR_7 ∈ gtbl := (gtab_at 728 (by decide +kernel) rfl)
theorem gis_6 : Cond.instantiable gR_6 11 ∈ gtbl := (gtab_at 13 (by decide +kernel) rfl)
theorem gii_6 : Cond.initialized gR_6 ∈ gtbl := (gtab_at 1 (by decide +kernel) rfl)
theorem gis_7 : Cond.instantiable gR_7 47 ∈ gtbl := (gtab_at 729 (by decide +kernel) rfl)
theorem gii_7 : Cond.initialized gR_7 ∈ gtbl := (gtab_at 8 (by decide +kernel) rfl)
set_option maxRecDepth 20000 in
theorem gcy_L9 : gCy "DecreedStreetsLaw" 9 gy_DS_init gc_DS_init 1 none 0 := ⟨(gtab_at 14 (by decide +kernel) rfl), (gtab_at 1 (by decide +kernel) rfl), (gtab_at 16 rfl rfl), by decide, by decide, by decide +kernel⟩
theorem gim_DS_init : Cond.instanceMethod gy_DS_init ∈ gtbl := (gtab_at 15 (by decide +kernel) rfl)
set_option maxRecDepth 20000 in
theorem gcy_L12 : gCy "DecreedStreetsLaw" 12 gy_Mo_init gc_Mo_init 1 none 0 := ⟨(gtab_at 730 (by decide +kernel) rfl), (gtab_at 8 (by decide +kernel) rfl), (gtab_at 732 rfl rfl), by decide, by decide, by decide +kernel⟩
theorem gim_Mo_init : Cond.instanceMethod gy_Mo_init ∈ gtbl := (gtab_at 731 (by decide +kernel) rfl)
theorem gN22_hi : ∀ j, 83 ≤ j → ∀ k, gN22 j k = true := by
  intro j hj k
  have e : gN22 j k = gN0 j k := by
    simp [gN22, gN21, gN20, gN19, gN18, gN17, gN16, gN15, gN14, gN13, gN12, gN11, gN10, gN9, gN8, gN7, gN6, gN5, gN4, gN3, gN2, gN1, gclr, gnu, show ¬ j = 0 by omega, show ¬ j = 1 by omega, show ¬ j = 13 by omega, show ¬ j = 25 by omega, show ¬ j = 27 by omega, show ¬ j = 37 by omega, show ¬ j = 47 by omega, show ¬ j = 48 by omega, show ¬ j = 58 by omega, show ¬ j = 69 by omega, show ¬ j = 72 by omega, show ¬ j = 75 by omega, show ¬ j = 79 by omega]
  rw [e]
  rfl
theorem gend_ret {p : Program} {e : Env} {s : State} {m : MethodId} {below : List Frame} {meth : Method} {c : Code} {b L : Nat} {sc : Nat → Int32} {Z : gZ} {h' : gH} (hx : p.tables.exec = Jvm.exec) (hb : c.code = code) (hr : meth.sig.returnType = ret) (hlocks : meth.locks = false) (zb0 : zb Z = s.heap.size) (h : gH) (i : Nat) : gy (some (h, 1)) (h', 1) (Z, p, e, room_1, s, m, #[Value.ref b], below, meth, c, 4, 116 - 0, gsum 116 - gsum 0, lw_Z below #[Value.ref b] s, s.heap) b L sc h 994 i [] := by
  intro _ hK H locs ls hS
  show W p (zl Z) e room_1 s m #[Value.ref b] below meth c H locs (116 - 0) (gsum 116 - gsum 0) (lw_Z below #[Value.ref b] s) (F0 m 994 ls [])
  refine va_forget (fun q hq => by obtain ⟨j, hj, e9⟩ := hS.2.2.1.2.2 q hq; have e8 : q.base = zb Z + j := e9; show s.heap.size ≤ q.base; rw [e8, zb0]; exact Nat.le_add_right _ _) ?_
  refine lv_iconst hx hb dl_994 (v := 1) rfl ?_
  refine W.widen (k := 600000) (n := 7302250) (by decide) (by decide +kernel) ?_
  exact lw_ret hx hb hr hlocks dl_995
theorem pure_law (sc : Nat → Int32) (Ln : Nat) (hLn : Ln ≤ 2560) : gpure sc Ln := pure_all sc Ln hLn
set_option maxRecDepth 20000 in
theorem whole_start {p : Program} {e : Env} {s : State} {m : MethodId} {below : List Frame} {meth : Method} {c : Code} (l : Launch) {b L : Nat} {xs : Nat → Int32} (hL : L ≤ 2560) (C0 : lw_At p s m meth c b L xs) : W p l e room_1 s m #[Value.ref b] below meth c s.heap [] 0 0 (lw_Z below #[Value.ref b] s) (entryFrame m ([Value.ref b] : List Value).toArray 4) := by
  obtain ⟨hx, hb, hr, hml, hown, hts, hX, hbl, hlocks, hgv⟩ := id C0
  obtain ⟨o1, o2, o3, o4, h', p1, p2, p3, p4, p5, p6, p7, p8, p9, p10, p11, p12, p13, p14⟩ := pure_law xs L hL
  have htg : ∀ w ∈ gtbl, w.before #[Value.ref b] s = true := fun w hw => hts w (gtbl_in w hw)
  obtain ⟨c0, iS0, hKn0⟩ := u_known (C := gR_0) (T := gT_0) (N := 15) (n := 15) htg gin_0 (htg _ gis_0)
  obtain ⟨c1, iS1, hKn1⟩ := u_known (C := gR_1) (T := gT_1) (N := 4) (n := 4) htg gin_1 (htg _ gis_1)
  obtain ⟨c2, iS2, hKn2⟩ := u_known (C := gR_2) (T := gT_2) (N := 6) (n := 6) htg gin_2 (htg _ gis_2)
  obtain ⟨c3, iS3, hKn3⟩ := u_known (C := gR_3) (T := gT_3) (N := 6) (n := 6) htg gin_3 (htg _ gis_3)
  obtain ⟨c4, iS4, hKn4⟩ := u_known (C := gR_4) (T := gT_4) (N := 12) (n := 12) htg gin_4 (htg _ gis_4)
  obtain ⟨c5, iS5, hKn5⟩ := u_known (C := gR_5) (T := gT_5) (N := 3) (n := 3) htg gin_5 (htg _ gis_5)
  obtain ⟨c6, iS6, hKn6⟩ := u_known (C := gR_6) (T := gT_6) (N := 11) (n := 11) htg gin_6 (htg _ gis_6)
  obtain ⟨c7, iS7, hKn7⟩ := u_known (C := gR_7) (T := gT_7) (N := 47) (n := 47) htg gin_7 (htg _ gis_7)
  obtain ⟨dC, dI, hKc⟩ : ∃ (dC : Nat → ClassId) (dI : Nat → Nat → Nat), ∀ (k : Nat) (q : vw_C), gcls[k]? = some q → u_Kn s q.1 q.2.1 q.2.2 (dC k) (dI k) := by
    refine ⟨fun k => match k with | 0 => c0 | 1 => c1 | 2 => c2 | 3 => c3 | 4 => c4 | 5 => c5 | 6 => c6 | _ => c7, fun k => match k with | 0 => iS0 | 1 => iS1 | 2 => iS2 | 3 => iS3 | 4 => iS4 | 5 => iS5 | 6 => iS6 | _ => iS7, ?_⟩
    intro k q hq
    match k, hq with
    | 0, hq => cases hq; exact hKn0
    | 1, hq => cases hq; exact hKn1
    | 2, hq => cases hq; exact hKn2
    | 3, hq => cases hq; exact hKn3
    | 4, hq => cases hq; exact hKn4
    | 5, hq => cases hq; exact hKn5
    | 6, hq => cases hq; exact hKn6
    | 7, hq => cases hq; exact hKn7
    | k + 8, hq => simp [gcls] at hq
  obtain ⟨cI, kI, cmI, i1, i2, i3⟩ := Cond.arrayClass_spec (htg (.arrayClass .int) gac_int)
  obtain ⟨cZ, kZ, cmZ, j1, j2, j3⟩ := Cond.arrayClass_spec (htg (.arrayClass .boolean) gac_bool)
  have hAO0 : (Cond.arrayOver (.object gTr)).before #[Value.ref b] s = true := hts _ (by decide +kernel)
  have hAO : va_AO gTr s := va_AO.of hAO0
  obtain ⟨cmT, cT, kT, t1, t2, t3, t4, t5⟩ := Cond.arrayOver_spec hAO0
  generalize hZ : ((l, (dC, dI), s.heap.size, List.range 116, (cI, cZ, cT)) : gZ) = Z
  have hK : va_K (zD Z) gcls (gTy Z) s := by
    rw [← hZ]
    refine ⟨hKc, fun k q hq => ?_⟩
    match k, hq with
    | 0, hq => cases hq; exact ⟨fun N z => ⟨(fun k h => by cases h), kI, i2, cmI, i3⟩, i1⟩
    | 1, hq => cases hq; exact ⟨fun N z => ⟨(fun k h => by cases h), kZ, j2, cmZ, j3⟩, j1⟩
    | 2, hq => cases hq; exact ⟨fun N z => ⟨(fun k h => by cases h), kT, t3, cmT, t4⟩, ⟨kT, cmT, t3, t4, t1, t5⟩⟩
    | k + 3, hq => simp [gTy] at hq
  have zl0 : zl Z = l := by rw [← hZ]
  have zb0 : zb Z = s.heap.size := by rw [← hZ]
  have zL0 : zL Z = List.range 116 := by rw [← hZ]
  have hnd : (zL Z).Nodup := by rw [zL0]; exact List.nodup_range
  have hlv : gLive Z := fun i hi => by rw [zL0]; exact List.mem_range.mpr hi
  clear hZ
  subst zl0
  have hl := lv_entry ([.ref b]) (n := 4) (Nat.le_of_ble_eq_true rfl)
  rw [lg_entry_eq]
  generalize (lg_sl ([.ref b]) ++ List.replicate (4 - (lg_sl ([.ref b])).length) Slot.unset).toArray = ls at hl ⊢
  have hl : lv_has ls 4 [(0, .ref b)] := hl
  generalize hX1 : ((Z, p, e, room_1, s, m, #[Value.ref b], below, meth, c, 4, 0, 116, lw_Z below #[Value.ref b] s, s.heap) : gX) = X1
  have k2 : g2K gm_law X1 := by
    rw [← hX1]
    exact ⟨hx, hb, ⟨hml, rfl⟩, hown, htg, hK, Nat.le_refl _, Nat.le_refl _, hAO, by show zb Z ≤ s.heap.size; omega, by show 116 - 0 ≤ 600000; decide, by show gsum 116 - gsum 0 ≤ 7302250; decide +kernel, by show s.heap.size = zb Z + 0; omega⟩
  have x1 : xZ X1 = Z := by rw [← hX1]
  have x2 : xsl X1 = 116 := by rw [← hX1]
  have x3 : xce X1 = 0 := by rw [← hX1]
  have goal : gk gm_law X1 0 gI0 gN0 0 [(0, .ref b)] [] := by
    refine k_new (M := gm_law) gt_6 dl_0 gcl_L7 gis_6 gii_6 gsh_0 rfl gin_6 gto_6 rfl gdf_6 (fun _ => rfl) (fun _ => rfl) 1 rfl (by rw [x2]; decide) 3 rfl ?_
    refine k_dup (M := gm_law) dl_3 rfl 4 rfl ?_
    refine k_callI (M := gm_law) (as := []) dl_4 rfl gcy_L9 rfl gim_DS_init ⟨by decide, by decide⟩ (Nat.le_of_ble_eq_true rfl) (by decide) (by rw [x2]; decide) (c2_DS p1 p2 p3 p4 p5 p6 p7 p8 p9 p10 p11 p12) 7 rfl ?_
    refine k_astore_n (M := gm_law) [(1, .ref (zb (xZ X1) + 0)), (0, .ref b)] dl_7 rfl (by decide) rfl 8 rfl ?_
    have zz : ∀ j, 83 ≤ j → ∀ k, o4.1 j k = 0 := fun j hj k => by
      rw [p12 j (fun hq => by rcases gBL_in hq with q | q <;> omega), p9 j (fun hq => by rcases gBL_in hq with q | q <;> omega), p6 j (fun hq => by rcases gBL_in hq with q | q <;> omega), p3 j (fun hq => by rcases gBL_in hq with q | q <;> omega)]
      exact (gup_ne (fun q => by omega)).trans ((gup_ne (fun q => by omega)).trans (gup_ne (fun q => by omega)))
    have nn : ∀ j, 83 ≤ j → ∀ k, gN22 j k = true := fun j hj k => gN22_hi j hj k
    refine k_new (M := gm_law) gt_7 dl_8 gcl_L10 gis_7 gii_7 gsh_83 rfl gin_7 gto_7 rfl gdf_7 (zz 83 (by decide)) (nn 83 (by decide)) 84 rfl (by rw [x2]; decide) 11 rfl ?_
    refine k_dup (M := gm_law) dl_11 rfl 12 rfl ?_
    refine k_callI (M := gm_law) (as := []) dl_12 rfl gcy_L12 rfl gim_Mo_init ⟨by decide, by decide⟩ (Nat.le_of_ble_eq_true rfl) (by decide) (by rw [x2]; decide) (c2_Mo_83 (fun j hj => zz j (by omega)) (fun j hj => nn j (by omega))) 15 rfl ?_
    refine k_astore_n (M := gm_law) [(2, .ref (zb (xZ X1) + 83)), (1, .ref (zb (xZ X1) + 0)), (0, .ref b)] dl_15 rfl (by decide) rfl 16 rfl ?_
    intro _ H locs ls hS
    obtain ⟨s1, s2, s3, s4, s5⟩ := hS
    rw [x1] at s1 s2 s3 s4
    subst hX1
    have s3' : va_S (gBA Z) s.heap H locs := s3
    refine va_forget (fun q hq => by have h9 : zb Z ≤ q.base := s3'.2.2 q hq; show s.heap.size ≤ q.base; rw [← zb0]; exact h9) ?_
    show W p (zl Z) e room_1 s m #[Value.ref b] below meth c H [] (116 - 0) (gsum 116 - gsum 0) (lw_Z below #[Value.ref b] s) (F0 m 16 ls [])
    refine lv_iconst hx hb dl_16 (v := Int32.ofNat 0) rfl ?_
    refine lv_istore_n (lv' := [(3, .int (Int32.ofNat 0)), (2, .ref (zb Z + 83)), (1, .ref (zb Z + 0)), (0, .ref b)]) hx hb dl_17 rfl s4 (show 3 < 4 by decide) rfl (fun ls' h9 => ?_)
    have hwl := w_law (X := (Z, p, e, room_1, s, m, #[Value.ref b], below, meth, c, 4, 116 - 0, gsum 116 - gsum 0, lw_Z below #[Value.ref b] s, s.heap)) (bs := b) (Ln := L) (sc := xs) (h' := h') ?_ ?_ 600 0 (gMo o4.1) (Nat.zero_le _) p14
      ⟨⟨hx, hb, ⟨hml, rfl⟩, hown, htg, hK, Nat.le_refl _, Nat.le_refl _, by show 116 - 0 ≤ 600000; decide, by show gsum 116 - gsum 0 ≤ 7302250; decide +kernel, hnd⟩, hX, hbl, fun hq => by obtain ⟨j, hj, e9⟩ := hq; have e8 : b = zb Z + j := e9; omega, hL, hlv, rfl⟩ H [] ls'
      ⟨?_, ?_, ⟨s3'.1, fun q h1 h2 => s3'.2.1 q h1 (fun z => by have h7 : zb Z ≤ q := z; have h8 : q < s.heap.size := h1; omega), fun _ h => by cases h⟩, h9⟩
    · exact hwl
    · exact fun h => gend_ret hx hb hr hlocks zb0 h 0
    · exact fun h i => gend_ret hx hb hr hlocks zb0 h i
    · exact gRg_up (gRg_up (gRg_up p13 ⟨by decide, by decide⟩) ⟨by decide, by decide⟩) gR0
    · intro k q hq
      have hk : k < 116 := by
        have := (List.getElem?_eq_some_iff.mp hq).1
        rw [gW_len, show zL Z = List.range 116 from zL0, List.length_range] at this
        exact this
      have hq2 := gW_at (Z := Z) (gMo o4.1) (q := k) (i := k) (by rw [zL0, List.getElem?_range hk])
      rw [hq2] at hq
      cases hq
      exact gNF_at hk (s2 k _ (g2W_at _ _ hk))
  have fin := goal k2 s.heap [] ls
  rw [← hX1] at fin
  exact fin ⟨by show s.heap.size = zb Z + 0; omega, fun k q hq => by simp [g2W] at hq, va_S.rf, hl, Nat.le_refl _⟩
set_option maxHeartbeats 4000000 in
theorem lw_walk (l : Launch) (b : Addr) (xs : List Int32) : MetFree l x (headSpec (Jvm.Cond.code x code maxLocals ret :: tables_1) room_1) (lw_P b xs) (fun _ _ _ _ _ => True) lw_Q := by
  refine MetFree.of_bodyS (code := code) (maxLocals := maxLocals) (ret := ret) (by decide) ?_ ?_
  · intro args s m h hn
    obtain ⟨meth, c, h1, h2, h3, h4, h5, h6, -, -⟩ := Cond.code_spec hn (atoms_spec (ws := Jvm.Cond.code x code maxLocals ret :: tables_1) h _ List.mem_cons_self)
    exact ⟨meth, c, h1, h2, h3, h4, h5, h6⟩
  · intro p e s m args below meth c s₁ B hml0 hP _
    obtain ⟨rfl, hx, hbd, hgv⟩ := hP
    obtain ⟨scr, harrAt, hlist, hof, hsmall⟩ := hx
    obtain ⟨hcb, hkn, -, -⟩ := State.arrayAt?_spec harrAt
    have hown : s.vm.findClass R_law = some m.cls := findClass_of_methodNamed B.named
    have hts0 : ∀ c ∈ (Jvm.Cond.code x code maxLocals ret :: tables_1), c.before #[Value.ref b] s = true := atoms_spec (ws := Jvm.Cond.code x code maxLocals ret :: tables_1) B.pre
    have hts : ∀ w ∈ lw_tbl, w.before #[Value.ref b] s = true := k2_hts_sels lw_privs (fun w hw => hts0 w (List.mem_cons_of_mem _ hw)) lw_privs_ok
    have hml : c.maxLocals = 4 := B.maxLocals_eq (hts0 _ List.mem_cons_self)
    have X₀ : Stand p l e room_1 s m #[Value.ref b] below meth c s₁ [] 0 0 := Stand.of_body B
    have hh0 : s₁.heap = s.heap := by rw [B.state]; rfl
    have hsz : scr.slots.size = xs.length := by rw [← Array.length_toList, hlist, List.length_map]
    have hval : ∀ j : Nat, j < xs.length → scr.slots[j]? = some (.int (xs.getD j 0)) := fun j hj => by
      rw [← Array.getElem?_toList, hlist]
      simp [hj]
    have hbl : b < s.heap.size := (Array.getElem?_eq_some_iff.mp hcb).1
    have hX : va_X b xs.length (fun j => xs.getD j 0) s s.heap := ⟨scr, hcb, hof, hkn, hsz, hval⟩
    have K : W p l e room_1 s m #[Value.ref b] below meth c s₁.heap [] 0 0 (lw_Z below #[Value.ref b] s) (entryFrame m ([Value.ref b] : List Value).toArray 4) := by
      rw [hh0]
      exact whole_start l hbd ⟨B.exec, B.bytes, B.returns, hml, hown, hts, hX, hbl, B.notSynchronized, hgv⟩
    obtain ⟨t, a1, o, b1, b2, b3⟩ := K s₁ rfl X₀
    exact ⟨t, o, a1, b1, b2, b3⟩
theorem lw_pre_spec {args : Array Value} {s : State} (h : (Jvm.Cond.and given_1 narrow_1).before args s = true) (hr : rest_1_c.before args s = true) : ∃ (b : Addr) (xs : List Int32), lw_P b xs args s := by
  have hs := flat_of_before _ h
  have hq := flat_of_before _ hr
  have hc : (Cond.count 1).before args s = true := hs _ (by decide +kernel)
  have harr : (Cond.arrayOf (.arg 0) .int).before args s = true := hs _ (by decide +kernel)
  have hle : (Cond.le (.length (.arg 0)) (.int 2560)).before args s = true := hs _ (by decide +kernel)
  have hlen : (Cond.isInt (.length (.arg 0))).before args s = true := hq _ (by decide +kernel)
  have hall : (Cond.all (.arg 0) (.isInt (.elem (.arg 0) (.index 0)))).before args s = true := hq _ (by decide +kernel)
  obtain ⟨b, xs, hb, hx⟩ := State.ints_of_pre rfl harr hlen hall
  have hsm : xs.length < 2 ^ 31 := hx.choose_spec.2.2.2
  have hev : (Term.length (.arg 0)).eval args s none [] s = some (.int xs.length.toInt32) := hx.length_eval hb
  have hv := Cond.le_ints hev (show (Term.int 2560).eval args s none [] s = some (.int 2560) from rfl)
  have hd : xs.length.toInt32 ≤ 2560 := by
    simpa [Cond.before, Cond.holds, hv] using hle
  have hN : xs.length ≤ 2560 := (Int32.ofNat_le_ofNat hsm (by decide)).mp (show Int32.ofNat xs.length ≤ Int32.ofNat 2560 from hd)
  exact ⟨b, xs, Cond.one_arg hc (show args[0]? = some (.ref b) from hb), hx, hN, h⟩
theorem lw_comes (l : Launch) : Comes l x (Jvm.Cond.code x code maxLocals ret :: tables_1) room_1 (fun tb e args s => Calls_1 tb e args s ∧ rest_1 tb e args s ∧ Pre_1 tb e args s)
    (fun _ _ args s o t => lw_Q args s o t) := by
  intro p e ha hc hk s m args below hf hfit hheap happ hpre
  obtain ⟨b, xs, hP⟩ := lw_pre_spec hpre.2.2 hpre.2.1
  obtain ⟨k, o, h1, h2, h3, hQ⟩ := lw_walk l b xs p e ha hc hk s m args below hf ((Spec.applies_iff_loose hf).mp happ).1 hP trivial
  exact ⟨k, o, h1, h2, h3, hQ⟩
theorem lw_frame {s t : State} {o : Outcome} {args : Array Value} (h : Framed s o t [] 600000 7302250) :
    Framed s o t (fieldLocs frame_1_writes args s ++ arrayLocs frame_1_arrays args s ++ staticLocs frame_1_statics s) 600000 7302250 := h
theorem lw_limb (L : Cond) (hL : ∀ (args : Array Value) (s t : State), L.after args s (.returned (some (.int 1))) t = true) :
    ArmFor flags0 classFile x code maxLocals ret World_1 tables_1 room_1 Calls_1 rest_1 Pre_1
      (fun tb e a s o t => postC L tb e a s o t ∧ Framed s o t (fieldLocs frame_1_writes a s ++ arrayLocs frame_1_arrays a s ++ staticLocs frame_1_statics s) 600000 7302250) := by
  intro l _ _ _ p e ha hc hk s m args below hf hfit hheap happ hpre
  obtain ⟨k, o, h1, h2, h3, rfl, hF⟩ := lw_comes l p e ha hc hk s m args below hf hfit hheap happ hpre
  exact ⟨k, _, h1, h2, h3, hL args s _, lw_frame hF⟩
theorem i_vc : Claimed_1_1 ∧ Claimed_1_2 := ⟨lw_limb limb_1_1 (fun args s t => by simp [limb_1_1, Cond.after, Cond.holds, Cond.value]), lw_limb limb_1_2 (fun args s t => Cond.after_iff.mpr (by
  first | (rw [show limb_1_2 = Cond.eq .result (.int 1) from rfl, Cond.eq_ints (x := 1) (y := 1) rfl rfl]; simp; done) | (simp [limb_1_2, Cond.value, Term.eval]; done)))⟩
