-- DS_isOutside
theorem dq_DS_isOutside_0 : decode gc_DS_isOutside 0 = .ok (.iload_n 0, 1) := by decide +kernel
theorem dq_DS_isOutside_1 : decode gc_DS_isOutside 1 = .ok (.iload_n 1, 1) := by decide +kernel
theorem dq_DS_isOutside_2 : decode gc_DS_isOutside 2 = .ok (.if_icmp .lt 8, 3) := by decide +kernel
theorem dq_DS_isOutside_5 : decode gc_DS_isOutside 5 = .ok (.iload_n 0, 1) := by decide +kernel
theorem dq_DS_isOutside_6 : decode gc_DS_isOutside 6 = .ok (.iload_n 2, 1) := by decide +kernel
theorem dq_DS_isOutside_7 : decode gc_DS_isOutside 7 = .ok (.if_icmp .le 7, 3) := by decide +kernel
theorem dq_DS_isOutside_10 : decode gc_DS_isOutside 10 = .ok (.iconst 1, 1) := by decide +kernel
theorem dq_DS_isOutside_11 : decode gc_DS_isOutside 11 = .ok (.goto 4, 3) := by decide +kernel
theorem dq_DS_isOutside_14 : decode gc_DS_isOutside 14 = .ok (.iconst 0, 1) := by decide +kernel
theorem dq_DS_isOutside_15 : decode gc_DS_isOutside 15 = .ok (.ireturn, 1) := by decide +kernel
abbrev gm_DS_isOutside : gM := (gc_DS_isOutside, gR_6, 0, 0, 3)
def f_DS_isOutside_J10    (h : gH) : Option gO := gd (gz 1) (some (h, 1))
theorem w_DS_isOutside_J10 {o : gO} {X : gX} (hL : gLive (xZ X)) (hn : (zL (xZ X)).Nodup) (hF : gFin X (some .boolean) o)      {h : gH}  : gr (f_DS_isOutside_J10    h) o gm_DS_isOutside X h 10 [] [] := by
  unfold f_DS_isOutside_J10
  refine gr_iconst (M := gm_DS_isOutside) (v := 1) dq_DS_isOutside_10 rfl ⟨by decide, by decide⟩ 11 rfl ?_
  refine gr_goto (M := gm_DS_isOutside) dq_DS_isOutside_11 15 rfl ?_
  exact gr_zreturn (M := gm_DS_isOutside) dq_DS_isOutside_15 hF

def f_DS_isOutside (a0 : Int) (a1 : Int) (a2 : Int) (h : gH) : Option gO := if a0 < a1 then (f_DS_isOutside_J10    h) else (if a0 ≤ a2 then (gd (gz 0) (some (h, 0))) else (f_DS_isOutside_J10    h))
theorem c_DS_isOutside {Z : gZ} (hL : gLive Z) (hn : (zL Z).Nodup) {a0 : Int} {a1 : Int} {a2 : Int}  {h : gH} {o : gO} (hg : gRg h) (ha : gRl [.inl a0, .inl a1, .inl a2]) (hx : f_DS_isOutside a0 a1 a2 h = some o) : gC Z gy_DS_isOutside gc_DS_isOutside 3 (some .boolean) 0 0 [.inl a0, .inl a1, .inl a2] h o := by
  unfold f_DS_isOutside at hx
  refine gC_of (lv := [(0, .inl a0), (1, .inl a1), (2, .inl a2)]) (own := gR_6) (by decide +kernel) rfl (Nat.le_of_ble_eq_true rfl) rfl rfl hn hg ha hx (fun X hZ hF => ?_)
  subst hZ
  show gr _ o gm_DS_isOutside X h 0 _ _
  refine gr_iload_n (M := gm_DS_isOutside) dq_DS_isOutside_0 rfl 0 rfl 1 rfl ?_
  refine gr_iload_n (M := gm_DS_isOutside) dq_DS_isOutside_1 rfl 1 rfl 2 rfl ?_
  refine gr_icmp_lt (M := gm_DS_isOutside) dq_DS_isOutside_2 10 5 rfl rfl (fun c1 => ?_) (fun c1 => ?_)
  · refine gr_sub (M := gm_DS_isOutside) (lv' := []) [] rfl ?_
    exact w_DS_isOutside_J10 hL hn hF   
  refine gr_iload_n (M := gm_DS_isOutside) dq_DS_isOutside_5 rfl 0 rfl 6 rfl ?_
  refine gr_iload_n (M := gm_DS_isOutside) dq_DS_isOutside_6 rfl 2 rfl 7 rfl ?_
  refine gr_icmp_le (M := gm_DS_isOutside) dq_DS_isOutside_7 14 10 rfl rfl (fun c2 => ?_) (fun c2 => ?_)
  · refine gr_iconst (M := gm_DS_isOutside) (v := 0) dq_DS_isOutside_14 rfl ⟨by decide, by decide⟩ 15 rfl ?_
    exact gr_zreturn (M := gm_DS_isOutside) dq_DS_isOutside_15 hF
  refine gr_sub (M := gm_DS_isOutside) (lv' := []) [] rfl ?_
  exact w_DS_isOutside_J10 hL hn hF   

-- DS_feed
theorem dq_DS_feed_0 : decode gc_DS_feed 0 = .ok (.iload_n 1, 1) := by decide +kernel
theorem dq_DS_feed_1 : decode gc_DS_feed 1 = .ok (.iconst 0, 1) := by decide +kernel
theorem dq_DS_feed_2 : decode gc_DS_feed 2 = .ok (.sipush 255, 3) := by decide +kernel
theorem dq_DS_feed_5 : decode gc_DS_feed 5 = .ok (.invokestatic 76, 3) := by decide +kernel
theorem dq_DS_feed_8 : decode gc_DS_feed 8 = .ok (.ifCond .eq 6, 3) := by decide +kernel
theorem dq_DS_feed_11 : decode gc_DS_feed 11 = .ok (.ldc 80, 2) := by decide +kernel
theorem dq_DS_feed_13 : decode gc_DS_feed 13 = .ok (.ireturn, 1) := by decide +kernel
theorem dq_DS_feed_14 : decode gc_DS_feed 14 = .ok (.aload_n 0, 1) := by decide +kernel
theorem dq_DS_feed_15 : decode gc_DS_feed 15 = .ok (.getfield 22, 3) := by decide +kernel
theorem dq_DS_feed_18 : decode gc_DS_feed 18 = .ok (.iload_n 1, 1) := by decide +kernel
theorem dq_DS_feed_19 : decode gc_DS_feed 19 = .ok (.invokevirtual 81, 3) := by decide +kernel
theorem dq_DS_feed_22 : decode gc_DS_feed 22 = .ok (.ifCond .eq 13, 3) := by decide +kernel
theorem dq_DS_feed_25 : decode gc_DS_feed 25 = .ok (.aload_n 0, 1) := by decide +kernel
theorem dq_DS_feed_26 : decode gc_DS_feed 26 = .ok (.getfield 22, 3) := by decide +kernel
theorem dq_DS_feed_29 : decode gc_DS_feed 29 = .ok (.getfield 85, 3) := by decide +kernel
theorem dq_DS_feed_32 : decode gc_DS_feed 32 = .ok (.goto 5, 3) := by decide +kernel
theorem dq_DS_feed_35 : decode gc_DS_feed 35 = .ok (.ldc 89, 2) := by decide +kernel
theorem dq_DS_feed_37 : decode gc_DS_feed 37 = .ok (.ireturn, 1) := by decide +kernel
abbrev gm_DS_feed : gM := (gc_DS_feed, gR_6, 1, 22, 2)
set_option maxRecDepth 20000 in
theorem gcy_DS_76 : gCy gR_6 76 gy_DS_isOutside gc_DS_isOutside 3 (some .boolean) 3 := ⟨(gtab_at 310 (by decide +kernel) rfl), (gtab_at 1 (by decide +kernel) rfl), (gtab_at 312 rfl rfl), by decide, by decide, by decide +kernel⟩
theorem gst_DS_isOutside : Cond.static gy_DS_isOutside ∈ gtbl := (gtab_at 311 (by decide +kernel) rfl)
theorem gfl_DS_22 : gFl gR_6 22 6 2 := ⟨_, _, _, rfl, by decide, (gtab_at 274 (by decide +kernel) rfl), gin_6⟩
set_option maxRecDepth 20000 in
theorem gcy_DS_81 : gCy gR_6 81 gy_Reader_add gc_Reader_add 2 (some .boolean) 1 := ⟨(gtab_at 314 (by decide +kernel) rfl), (gtab_at 3 (by decide +kernel) rfl), (gtab_at 317 rfl rfl), by decide, by decide, by decide +kernel⟩
theorem gim_Reader_add : Cond.instanceMethod gy_Reader_add ∈ gtbl := (gtab_at 315 (by decide +kernel) rfl)
theorem gse_Reader_add : Cond.selects gy_Reader_add.cls gy_Reader_add gy_Reader_add ∈ gtbl := (gtab_at 316 (by decide +kernel) rfl)
theorem gk_DS_89 : Cond.constant gR_6 89 (Int32.ofInt (-1000000004)) ∈ gtbl := (gtab_at 318 (by decide +kernel) rfl)
theorem gfl_DS_85 : gFl gR_6 85 2 0 := ⟨_, _, _, rfl, by decide, (gtab_at 122 (by decide +kernel) rfl), gin_2⟩
theorem gk_DS_80 : Cond.constant gR_6 80 (Int32.ofInt (-1000000002)) ∈ gtbl := (gtab_at 313 (by decide +kernel) rfl)
def f_DS_feed (a1 : Int) (h : gH) : Option gO := gb (f_DS_isOutside a1 0 255 h) (fun h1 r2 => if r2 = 0 then (gb (f_Reader_add a1 h1) (fun h4 r5 => if r5 = 0 then (some (h4, (-1000000004))) else (some (h4, (h4 25 0))))) else (some (h1, (-1000000002))))
theorem c_DS_feed {Z : gZ} (hL : gLive Z) (hn : (zL Z).Nodup) {a1 : Int}  {h : gH} {o : gO} (hg : gRg h) (ha : gRl [.inr (.inr 0), .inl a1]) (hx : f_DS_feed a1 h = some o) : gC Z gy_DS_feed gc_DS_feed 2 (some .int) 1 22 [.inr (.inr 0), .inl a1] h o := by
  unfold f_DS_feed at hx
  refine gC_of (lv := [(0, .inr (.inr 0)), (1, .inl a1)]) (own := gR_6) (by decide +kernel) rfl (Nat.le_of_ble_eq_true rfl) rfl rfl hn hg ha hx (fun X hZ hF => ?_)
  subst hZ
  show gr _ o gm_DS_feed X h 0 _ _
  refine gr_iload_n (M := gm_DS_feed) dq_DS_feed_0 rfl 1 rfl 1 rfl ?_
  refine gr_iconst (M := gm_DS_feed) (v := 0) dq_DS_feed_1 rfl ⟨by decide, by decide⟩ 2 rfl ?_
  refine gr_sipush (M := gm_DS_feed) (v := 255) dq_DS_feed_2 (by decide) ⟨by decide, by decide⟩ 5 rfl ?_
  refine gr_callSi (M := gm_DS_feed) (as := [.inl a1, .inl 0, .inl 255]) dq_DS_feed_5 8 rfl rfl gcy_DS_76 gst_DS_isOutside ⟨by decide, by decide⟩ (Nat.le_of_ble_eq_true rfl) (fun o1 hg ha hx => c_DS_isOutside hL hn  hg ha hx) (fun h1 r2 _ => ?_)
  refine gr_if_eq (M := gm_DS_feed) dq_DS_feed_8 14 11 rfl rfl (fun c3 => ?_) (fun c3 => ?_)
  · refine gr_aload_n (M := gm_DS_feed) dq_DS_feed_14 rfl 0 rfl 15 rfl ?_
    refine gr_geta (M := gm_DS_feed) dq_DS_feed_15 18 rfl gfl_DS_22 gsh_0 rfl (gli hL gsh_0) ?_
    refine gr_iload_n (M := gm_DS_feed) dq_DS_feed_18 rfl 1 rfl 19 rfl ?_
    refine gr_callVi (M := gm_DS_feed) (as := [.inl a1]) dq_DS_feed_19 22 rfl rfl gcy_DS_81 gim_Reader_add gse_Reader_add ⟨by decide, by decide⟩ (Nat.le_of_ble_eq_true rfl) gsh_25 rfl (gli hL gsh_25) (fun o1 hg ha hx => c_Reader_add hL hn  hg ha hx) (fun h4 r5 _ => ?_)
    refine gr_if_eq (M := gm_DS_feed) dq_DS_feed_22 35 25 rfl rfl (fun c6 => ?_) (fun c6 => ?_)
    · refine gr_ldc (M := gm_DS_feed) (v := (-1000000004)) dq_DS_feed_35 gk_DS_89 ⟨by decide, by decide⟩ 37 rfl ?_
      exact gr_ireturn (M := gm_DS_feed) dq_DS_feed_37 hF
    refine gr_aload_n (M := gm_DS_feed) dq_DS_feed_25 rfl 0 rfl 26 rfl ?_
    refine gr_geta (M := gm_DS_feed) dq_DS_feed_26 29 rfl gfl_DS_22 gsh_0 rfl (gli hL gsh_0) ?_
    refine gr_geti (M := gm_DS_feed) dq_DS_feed_29 32 rfl gfl_DS_85 gsh_25 rfl (gli hL gsh_25) ?_
    refine gr_goto (M := gm_DS_feed) dq_DS_feed_32 37 rfl ?_
    exact gr_ireturn (M := gm_DS_feed) dq_DS_feed_37 hF
  refine gr_ldc (M := gm_DS_feed) (v := (-1000000002)) dq_DS_feed_11 gk_DS_80 ⟨by decide, by decide⟩ 13 rfl ?_
  exact gr_ireturn (M := gm_DS_feed) dq_DS_feed_13 hF

-- DS_city
theorem dq_DS_city_0 : decode gc_DS_city 0 = .ok (.aload_n 0, 1) := by decide +kernel
theorem dq_DS_city_1 : decode gc_DS_city 1 = .ok (.getfield 22, 3) := by decide +kernel
theorem dq_DS_city_4 : decode gc_DS_city 4 = .ok (.aload_n 0, 1) := by decide +kernel
theorem dq_DS_city_5 : decode gc_DS_city 5 = .ok (.getfield 16, 3) := by decide +kernel
theorem dq_DS_city_8 : decode gc_DS_city 8 = .ok (.invokevirtual 90, 3) := by decide +kernel
theorem dq_DS_city_11 : decode gc_DS_city 11 = .ok (.istore_n 1, 1) := by decide +kernel
theorem dq_DS_city_12 : decode gc_DS_city 12 = .ok (.iload_n 1, 1) := by decide +kernel
theorem dq_DS_city_13 : decode gc_DS_city 13 = .ok (.ifCond .eq 8, 3) := by decide +kernel
theorem dq_DS_city_16 : decode gc_DS_city 16 = .ok (.bipush (-10), 2) := by decide +kernel
theorem dq_DS_city_18 : decode gc_DS_city 18 = .ok (.iload_n 1, 1) := by decide +kernel
theorem dq_DS_city_19 : decode gc_DS_city 19 = .ok (.isub, 1) := by decide +kernel
theorem dq_DS_city_20 : decode gc_DS_city 20 = .ok (.ireturn, 1) := by decide +kernel
theorem dq_DS_city_21 : decode gc_DS_city 21 = .ok (.aload_n 0, 1) := by decide +kernel
theorem dq_DS_city_22 : decode gc_DS_city 22 = .ok (.getfield 16, 3) := by decide +kernel
theorem dq_DS_city_25 : decode gc_DS_city 25 = .ok (.astore_n 2, 1) := by decide +kernel
theorem dq_DS_city_26 : decode gc_DS_city 26 = .ok (.aload_n 0, 1) := by decide +kernel
theorem dq_DS_city_27 : decode gc_DS_city 27 = .ok (.aload_n 0, 1) := by decide +kernel
theorem dq_DS_city_28 : decode gc_DS_city 28 = .ok (.getfield 10, 3) := by decide +kernel
theorem dq_DS_city_31 : decode gc_DS_city 31 = .ok (.putfield 16, 3) := by decide +kernel
theorem dq_DS_city_34 : decode gc_DS_city 34 = .ok (.aload_n 0, 1) := by decide +kernel
theorem dq_DS_city_35 : decode gc_DS_city 35 = .ok (.aload_n 2, 1) := by decide +kernel
theorem dq_DS_city_36 : decode gc_DS_city 36 = .ok (.putfield 10, 3) := by decide +kernel
theorem dq_DS_city_39 : decode gc_DS_city 39 = .ok (.aload_n 0, 1) := by decide +kernel
theorem dq_DS_city_40 : decode gc_DS_city 40 = .ok (.getfield 31, 3) := by decide +kernel
theorem dq_DS_city_43 : decode gc_DS_city 43 = .ok (.aload_n 0, 1) := by decide +kernel
theorem dq_DS_city_44 : decode gc_DS_city 44 = .ok (.getfield 10, 3) := by decide +kernel
theorem dq_DS_city_47 : decode gc_DS_city 47 = .ok (.invokevirtual 94, 3) := by decide +kernel
theorem dq_DS_city_50 : decode gc_DS_city 50 = .ok (.aload_n 0, 1) := by decide +kernel
theorem dq_DS_city_51 : decode gc_DS_city 51 = .ok (.getfield 69, 3) := by decide +kernel
theorem dq_DS_city_54 : decode gc_DS_city 54 = .ok (.iconst 0, 1) := by decide +kernel
theorem dq_DS_city_55 : decode gc_DS_city 55 = .ok (.putfield 97, 3) := by decide +kernel
theorem dq_DS_city_58 : decode gc_DS_city 58 = .ok (.aload_n 0, 1) := by decide +kernel
theorem dq_DS_city_59 : decode gc_DS_city 59 = .ok (.getfield 73, 3) := by decide +kernel
theorem dq_DS_city_62 : decode gc_DS_city 62 = .ok (.iconst 0, 1) := by decide +kernel
theorem dq_DS_city_63 : decode gc_DS_city 63 = .ok (.putfield 97, 3) := by decide +kernel
theorem dq_DS_city_66 : decode gc_DS_city 66 = .ok (.aload_n 0, 1) := by decide +kernel
theorem dq_DS_city_67 : decode gc_DS_city 67 = .ok (.getfield 42, 3) := by decide +kernel
theorem dq_DS_city_70 : decode gc_DS_city 70 = .ok (.iconst 0, 1) := by decide +kernel
theorem dq_DS_city_71 : decode gc_DS_city 71 = .ok (.iconst 0, 1) := by decide +kernel
theorem dq_DS_city_72 : decode gc_DS_city 72 = .ok (.bastore, 1) := by decide +kernel
theorem dq_DS_city_73 : decode gc_DS_city 73 = .ok (.aload_n 0, 1) := by decide +kernel
theorem dq_DS_city_74 : decode gc_DS_city 74 = .ok (.getfield 42, 3) := by decide +kernel
theorem dq_DS_city_77 : decode gc_DS_city 77 = .ok (.iconst 1, 1) := by decide +kernel
theorem dq_DS_city_78 : decode gc_DS_city 78 = .ok (.iconst 0, 1) := by decide +kernel
theorem dq_DS_city_79 : decode gc_DS_city 79 = .ok (.bastore, 1) := by decide +kernel
theorem dq_DS_city_80 : decode gc_DS_city 80 = .ok (.aload_n 0, 1) := by decide +kernel
theorem dq_DS_city_81 : decode gc_DS_city 81 = .ok (.getfield 60, 3) := by decide +kernel
theorem dq_DS_city_84 : decode gc_DS_city 84 = .ok (.invokevirtual 98, 3) := by decide +kernel
theorem dq_DS_city_87 : decode gc_DS_city 87 = .ok (.aload_n 0, 1) := by decide +kernel
theorem dq_DS_city_88 : decode gc_DS_city 88 = .ok (.getfield 10, 3) := by decide +kernel
theorem dq_DS_city_91 : decode gc_DS_city 91 = .ok (.getfield 101, 3) := by decide +kernel
theorem dq_DS_city_94 : decode gc_DS_city 94 = .ok (.ireturn, 1) := by decide +kernel
abbrev gm_DS_city : gM := (gc_DS_city, gR_6, 6, 139, 3)
theorem gfl_DS_16 : gFl gR_6 16 6 1 := ⟨_, _, _, rfl, by decide, (gtab_at 273 (by decide +kernel) rfl), gin_6⟩
set_option maxRecDepth 20000 in
theorem gcy_DS_90 : gCy gR_6 90 gy_Reader_readInto gc_Reader_readInto 3 (some .int) 1 := ⟨(gtab_at 323 (by decide +kernel) rfl), (gtab_at 3 (by decide +kernel) rfl), (gtab_at 326 rfl rfl), by decide, by decide, by decide +kernel⟩
theorem gim_Reader_readInto : Cond.instanceMethod gy_Reader_readInto ∈ gtbl := (gtab_at 324 (by decide +kernel) rfl)
theorem gse_Reader_readInto : Cond.selects gy_Reader_readInto.cls gy_Reader_readInto gy_Reader_readInto ∈ gtbl := (gtab_at 325 (by decide +kernel) rfl)
theorem gfl_DS_10 : gFl gR_6 10 6 0 := ⟨_, _, _, rfl, by decide, (gtab_at 272 (by decide +kernel) rfl), gin_6⟩
theorem gfp_DS_16 : gFp gR_6 16 6 1 (.object "DecreedStreets$City") := ⟨_, _, _, gt_6, rfl, by decide, (gtab_at 273 (by decide +kernel) rfl), gin_6, gto_6, gnm_6, rfl, by decide +kernel⟩
theorem gfp_DS_10 : gFp gR_6 10 6 0 (.object "DecreedStreets$City") := ⟨_, _, _, gt_6, rfl, by decide, (gtab_at 272 (by decide +kernel) rfl), gin_6, gto_6, gnm_6, rfl, by decide +kernel⟩
theorem gfl_DS_31 : gFl gR_6 31 6 3 := ⟨_, _, _, rfl, by decide, (gtab_at 275 (by decide +kernel) rfl), gin_6⟩
set_option maxRecDepth 20000 in
theorem gcy_DS_94 : gCy gR_6 94 gy_Traffic_begin gc_Traffic_begin 3 none 1 := ⟨(gtab_at 398 (by decide +kernel) rfl), (gtab_at 4 (by decide +kernel) rfl), (gtab_at 151 rfl rfl), by decide, by decide, by decide +kernel⟩
theorem gim_Traffic_begin : Cond.instanceMethod gy_Traffic_begin ∈ gtbl := (gtab_at 149 (by decide +kernel) rfl)
theorem gse_Traffic_begin : Cond.selects gy_Traffic_begin.cls gy_Traffic_begin gy_Traffic_begin ∈ gtbl := (gtab_at 150 (by decide +kernel) rfl)
theorem gfl_DS_69 : gFl gR_6 69 6 9 := ⟨_, _, _, rfl, by decide, (gtab_at 281 (by decide +kernel) rfl), gin_6⟩
theorem gfp_DS_97 : gFp gR_6 97 1 0 .int := ⟨_, _, _, gt_1, rfl, by decide, (gtab_at 257 (by decide +kernel) rfl), gin_1, gto_1, gnm_1, rfl, by decide +kernel⟩
theorem gfl_DS_73 : gFl gR_6 73 6 10 := ⟨_, _, _, rfl, by decide, (gtab_at 282 (by decide +kernel) rfl), gin_6⟩
theorem gfl_DS_42 : gFl gR_6 42 6 6 := ⟨_, _, _, rfl, by decide, (gtab_at 278 (by decide +kernel) rfl), gin_6⟩
theorem gfl_DS_60 : gFl gR_6 60 6 8 := ⟨_, _, _, rfl, by decide, (gtab_at 280 (by decide +kernel) rfl), gin_6⟩
set_option maxRecDepth 20000 in
theorem gcy_DS_98 : gCy gR_6 98 gy_Shuffle_forget gc_Shuffle_forget 1 none 0 := ⟨(gtab_at 399 (by decide +kernel) rfl), (gtab_at 6 (by decide +kernel) rfl), (gtab_at 402 rfl rfl), by decide, by decide, by decide +kernel⟩
theorem gim_Shuffle_forget : Cond.instanceMethod gy_Shuffle_forget ∈ gtbl := (gtab_at 400 (by decide +kernel) rfl)
theorem gse_Shuffle_forget : Cond.selects gy_Shuffle_forget.cls gy_Shuffle_forget gy_Shuffle_forget ∈ gtbl := (gtab_at 401 (by decide +kernel) rfl)
theorem gfl_DS_101 : gFl gR_6 101 0 0 := ⟨_, _, _, rfl, by decide, (gtab_at 27 (by decide +kernel) rfl), gin_0⟩
def f_DS_city  (h : gH) : Option gO := gd (gcl ((h 0 1).toNat) 0) (gb (f_Reader_readInto (h 0 1).toNat h) (fun h2 r3 => if r3 = 0 then (gd (gcl ((h2 0 1).toNat) 0) (gd (gcl ((h2 0 0).toNat) 0) (gs (gup h2 0 1 (((h2 0 0).toNat : Nat) : Int)) (fun h7 => gs (gup h7 0 0 (((h2 0 1).toNat : Nat) : Int)) (fun h8 => gd (gcl ((h8 0 0).toNat) 0) (gb (f_Traffic_begin 27 (h8 0 0).toNat h8) (fun h10 r11 => gs (gup h10 75 0 0) (fun h12 => gs (gup h12 79 0 0) (fun h13 => gd (gix 2 0) (gs (gup h13 68 0 0) (fun h14 => gd (gix 2 1) (gs (gup h14 68 1 0) (fun h15 => gb (f_Shuffle_forget  h15) (fun h16 r17 => gd (gcl ((h16 0 0).toNat) 0) (some (h16, (h16 (h16 0 0).toNat 0))))))))))))))))) else (some (h2, (gsub (-10) r3)))))
theorem c_DS_city {Z : gZ} (hL : gLive Z) (hn : (zL Z).Nodup)   {h : gH} {o : gO} (hg : gRg h) (ha : gRl [.inr (.inr 0)]) (hx : f_DS_city  h = some o) : gC Z gy_DS_city gc_DS_city 3 (some .int) 6 139 [.inr (.inr 0)] h o := by
  unfold f_DS_city at hx
  refine gC_of (lv := [(0, .inr (.inr 0))]) (own := gR_6) (by decide +kernel) rfl (Nat.le_of_ble_eq_true rfl) rfl rfl hn hg ha hx (fun X hZ hF => ?_)
  subst hZ
  show gr _ o gm_DS_city X h 0 _ _
  refine gr_aload_n (M := gm_DS_city) dq_DS_city_0 rfl 0 rfl 1 rfl ?_
  refine gr_geta (M := gm_DS_city) dq_DS_city_1 4 rfl gfl_DS_22 gsh_0 rfl (gli hL gsh_0) ?_
  refine gr_aload_n (M := gm_DS_city) dq_DS_city_4 rfl 0 rfl 5 rfl ?_
  refine gr_getd (M := gm_DS_city) dq_DS_city_5 8 rfl gfl_DS_16 gsh_0 rfl (gli hL gsh_0) (fun hc1 => ?_)
  refine gr_callVi (M := gm_DS_city) (as := [.inr (.inr (h 0 1).toNat)]) dq_DS_city_8 11 rfl rfl gcy_DS_90 gim_Reader_readInto gse_Reader_readInto ⟨by decide, by decide⟩ (Nat.le_of_ble_eq_true rfl) gsh_25 rfl (gli hL gsh_25) (fun o1 hg ha hx => c_Reader_readInto hL hn (gclE hc1) hg ha hx) (fun h2 r3 _ => ?_)
  refine gr_istore_n (M := gm_DS_city) (lv' := [(1, .inl r3), (0, .inr (.inr 0))]) dq_DS_city_11 rfl (by decide) rfl 12 rfl ?_
  refine gr_iload_n (M := gm_DS_city) dq_DS_city_12 rfl 0 rfl 13 rfl ?_
  refine gr_if_eq (M := gm_DS_city) dq_DS_city_13 21 16 rfl rfl (fun c4 => ?_) (fun c4 => ?_)
  · refine gr_aload_n (M := gm_DS_city) dq_DS_city_21 rfl 1 rfl 22 rfl ?_
    refine gr_getd (M := gm_DS_city) dq_DS_city_22 25 rfl gfl_DS_16 gsh_0 rfl (gli hL gsh_0) (fun hc5 => ?_)
    refine gr_astore_n (M := gm_DS_city) (lv' := [(2, .inr (.inr (h2 0 1).toNat)), (1, .inl r3), (0, .inr (.inr 0))]) dq_DS_city_25 rfl (by decide) rfl 26 rfl ?_
    refine gr_aload_n (M := gm_DS_city) dq_DS_city_26 rfl 2 rfl 27 rfl ?_
    refine gr_aload_n (M := gm_DS_city) dq_DS_city_27 rfl 2 rfl 28 rfl ?_
    refine gr_getd (M := gm_DS_city) dq_DS_city_28 31 rfl gfl_DS_10 gsh_0 rfl (gli hL gsh_0) (fun hc6 => ?_)
    refine gr_putd (M := gm_DS_city) dq_DS_city_31 34 rfl gfp_DS_16 gsh_0 rfl (gli hL gsh_0) (gclE hc6) (fun h7 _ => ?_)
    refine gr_aload_n (M := gm_DS_city) dq_DS_city_34 rfl 2 rfl 35 rfl ?_
    refine gr_aload_n (M := gm_DS_city) dq_DS_city_35 rfl 0 rfl 36 rfl ?_
    refine gr_putd (M := gm_DS_city) dq_DS_city_36 39 rfl gfp_DS_10 gsh_0 rfl (gli hL gsh_0) (gclE hc5) (fun h8 _ => ?_)
    refine gr_aload_n (M := gm_DS_city) dq_DS_city_39 rfl 2 rfl 40 rfl ?_
    refine gr_geta (M := gm_DS_city) dq_DS_city_40 43 rfl gfl_DS_31 gsh_0 rfl (gli hL gsh_0) ?_
    refine gr_aload_n (M := gm_DS_city) dq_DS_city_43 rfl 2 rfl 44 rfl ?_
    refine gr_getd (M := gm_DS_city) dq_DS_city_44 47 rfl gfl_DS_10 gsh_0 rfl (gli hL gsh_0) (fun hc9 => ?_)
    refine gr_callVv (M := gm_DS_city) (as := [.inr (.inr (h8 0 0).toNat)]) dq_DS_city_47 50 rfl rfl gcy_DS_94 gim_Traffic_begin gse_Traffic_begin ⟨by decide, by decide⟩ (Nat.le_of_ble_eq_true rfl) gsh_27 rfl (gli hL gsh_27) (fun o1 hg ha hx => c_Traffic_begin hL hn gsh_27 (gclE hc9) hg ha hx) (fun h10 r11 _ => ?_)
    refine gr_aload_n (M := gm_DS_city) dq_DS_city_50 rfl 2 rfl 51 rfl ?_
    refine gr_geta (M := gm_DS_city) dq_DS_city_51 54 rfl gfl_DS_69 gsh_0 rfl (gli hL gsh_0) ?_
    refine gr_iconst (M := gm_DS_city) (v := 0) dq_DS_city_54 rfl ⟨by decide, by decide⟩ 55 rfl ?_
    refine gr_puti (M := gm_DS_city) dq_DS_city_55 58 rfl gfp_DS_97 gsh_75 rfl (gli hL gsh_75) (fun h12 _ => ?_)
    refine gr_aload_n (M := gm_DS_city) dq_DS_city_58 rfl 2 rfl 59 rfl ?_
    refine gr_geta (M := gm_DS_city) dq_DS_city_59 62 rfl gfl_DS_73 gsh_0 rfl (gli hL gsh_0) ?_
    refine gr_iconst (M := gm_DS_city) (v := 0) dq_DS_city_62 rfl ⟨by decide, by decide⟩ 63 rfl ?_
    refine gr_puti (M := gm_DS_city) dq_DS_city_63 66 rfl gfp_DS_97 gsh_79 rfl (gli hL gsh_79) (fun h13 _ => ?_)
    refine gr_aload_n (M := gm_DS_city) dq_DS_city_66 rfl 2 rfl 67 rfl ?_
    refine gr_geta (M := gm_DS_city) dq_DS_city_67 70 rfl gfl_DS_42 gsh_0 rfl (gli hL gsh_0) ?_
    refine gr_iconst (M := gm_DS_city) (v := 0) dq_DS_city_70 rfl ⟨by decide, by decide⟩ 71 rfl ?_
    refine gr_iconst (M := gm_DS_city) (v := 0) dq_DS_city_71 rfl ⟨by decide, by decide⟩ 72 rfl ?_
    refine gr_zast (M := gm_DS_city) dq_DS_city_72 (by decide) 73 rfl gsh_68 (glj hL gsh_68 (by decide)) (fun h14 _ => ?_)
    refine gr_aload_n (M := gm_DS_city) dq_DS_city_73 rfl 2 rfl 74 rfl ?_
    refine gr_geta (M := gm_DS_city) dq_DS_city_74 77 rfl gfl_DS_42 gsh_0 rfl (gli hL gsh_0) ?_
    refine gr_iconst (M := gm_DS_city) (v := 1) dq_DS_city_77 rfl ⟨by decide, by decide⟩ 78 rfl ?_
    refine gr_iconst (M := gm_DS_city) (v := 0) dq_DS_city_78 rfl ⟨by decide, by decide⟩ 79 rfl ?_
    refine gr_zast (M := gm_DS_city) dq_DS_city_79 (by decide) 80 rfl gsh_68 (glj hL gsh_68 (by decide)) (fun h15 _ => ?_)
    refine gr_aload_n (M := gm_DS_city) dq_DS_city_80 rfl 2 rfl 81 rfl ?_
    refine gr_geta (M := gm_DS_city) dq_DS_city_81 84 rfl gfl_DS_60 gsh_0 rfl (gli hL gsh_0) ?_
    refine gr_callVv (M := gm_DS_city) (as := []) dq_DS_city_84 87 rfl rfl gcy_DS_98 gim_Shuffle_forget gse_Shuffle_forget ⟨by decide, by decide⟩ (Nat.le_of_ble_eq_true rfl) gsh_72 rfl (gli hL gsh_72) (fun o1 hg ha hx => c_Shuffle_forget hL hn  hg ha hx) (fun h16 r17 _ => ?_)
    refine gr_aload_n (M := gm_DS_city) dq_DS_city_87 rfl 2 rfl 88 rfl ?_
    refine gr_getd (M := gm_DS_city) dq_DS_city_88 91 rfl gfl_DS_10 gsh_0 rfl (gli hL gsh_0) (fun hc18 => ?_)
    refine gr_geti (M := gm_DS_city) dq_DS_city_91 94 rfl gfl_DS_101 (gclE hc18) rfl (gli hL (gclE hc18)) ?_
    exact gr_ireturn (M := gm_DS_city) dq_DS_city_94 hF
  refine gr_bipush (M := gm_DS_city) (v := (-10)) dq_DS_city_16 (by decide) ⟨by decide, by decide⟩ 18 rfl ?_
  refine gr_iload_n (M := gm_DS_city) dq_DS_city_18 rfl 0 rfl 19 rfl ?_
  refine gr_isub (M := gm_DS_city) dq_DS_city_19 20 rfl ?_
  exact gr_ireturn (M := gm_DS_city) dq_DS_city_20 hF

-- DS_fault
theorem dq_DS_fault_0 : decode gc_DS_fault 0 = .ok (.aload_n 0, 1) := by decide +kernel
theorem dq_DS_fault_1 : decode gc_DS_fault 1 = .ok (.getfield 22, 3) := by decide +kernel
theorem dq_DS_fault_4 : decode gc_DS_fault 4 = .ok (.getfield 104, 3) := by decide +kernel
theorem dq_DS_fault_7 : decode gc_DS_fault 7 = .ok (.ireturn, 1) := by decide +kernel
abbrev gm_DS_fault : gM := (gc_DS_fault, gR_6, 0, 0, 1)
theorem gfl_DS_104 : gFl gR_6 104 2 1 := ⟨_, _, _, rfl, by decide, (gtab_at 124 (by decide +kernel) rfl), gin_2⟩
def f_DS_fault  (h : gH) : Option gO := some (h, (h 25 1))
theorem c_DS_fault {Z : gZ} (hL : gLive Z) (hn : (zL Z).Nodup)   {h : gH} {o : gO} (hg : gRg h) (ha : gRl [.inr (.inr 0)]) (hx : f_DS_fault  h = some o) : gC Z gy_DS_fault gc_DS_fault 1 (some .int) 0 0 [.inr (.inr 0)] h o := by
  unfold f_DS_fault at hx
  refine gC_of (lv := [(0, .inr (.inr 0))]) (own := gR_6) (by decide +kernel) rfl (Nat.le_of_ble_eq_true rfl) rfl rfl hn hg ha hx (fun X hZ hF => ?_)
  subst hZ
  show gr _ o gm_DS_fault X h 0 _ _
  refine gr_aload_n (M := gm_DS_fault) dq_DS_fault_0 rfl 0 rfl 1 rfl ?_
  refine gr_geta (M := gm_DS_fault) dq_DS_fault_1 4 rfl gfl_DS_22 gsh_0 rfl (gli hL gsh_0) ?_
  refine gr_geti (M := gm_DS_fault) dq_DS_fault_4 7 rfl gfl_DS_104 gsh_25 rfl (gli hL gsh_25) ?_
  exact gr_ireturn (M := gm_DS_fault) dq_DS_fault_7 hF

-- DS_told
theorem dq_DS_told_0 : decode gc_DS_told 0 = .ok (.iload_n 1, 1) := by decide +kernel
theorem dq_DS_told_1 : decode gc_DS_told 1 = .ok (.tableswitch 162 0 11 #[63, 71, 79, 87, 95, 103, 111, 120, 129, 138, 146, 154], 63) := by decide +kernel
theorem dq_DS_told_64 : decode gc_DS_told 64 = .ok (.aload_n 0, 1) := by decide +kernel
theorem dq_DS_told_65 : decode gc_DS_told 65 = .ok (.getfield 10, 3) := by decide +kernel
theorem dq_DS_told_68 : decode gc_DS_told 68 = .ok (.getfield 101, 3) := by decide +kernel
theorem dq_DS_told_71 : decode gc_DS_told 71 = .ok (.ireturn, 1) := by decide +kernel
theorem dq_DS_told_72 : decode gc_DS_told 72 = .ok (.aload_n 0, 1) := by decide +kernel
theorem dq_DS_told_73 : decode gc_DS_told 73 = .ok (.getfield 10, 3) := by decide +kernel
theorem dq_DS_told_76 : decode gc_DS_told 76 = .ok (.getfield 107, 3) := by decide +kernel
theorem dq_DS_told_79 : decode gc_DS_told 79 = .ok (.ireturn, 1) := by decide +kernel
theorem dq_DS_told_80 : decode gc_DS_told 80 = .ok (.aload_n 0, 1) := by decide +kernel
theorem dq_DS_told_81 : decode gc_DS_told 81 = .ok (.getfield 10, 3) := by decide +kernel
theorem dq_DS_told_84 : decode gc_DS_told 84 = .ok (.getfield 110, 3) := by decide +kernel
theorem dq_DS_told_87 : decode gc_DS_told 87 = .ok (.ireturn, 1) := by decide +kernel
theorem dq_DS_told_88 : decode gc_DS_told 88 = .ok (.aload_n 0, 1) := by decide +kernel
theorem dq_DS_told_89 : decode gc_DS_told 89 = .ok (.getfield 10, 3) := by decide +kernel
theorem dq_DS_told_92 : decode gc_DS_told 92 = .ok (.getfield 113, 3) := by decide +kernel
theorem dq_DS_told_95 : decode gc_DS_told 95 = .ok (.ireturn, 1) := by decide +kernel
theorem dq_DS_told_96 : decode gc_DS_told 96 = .ok (.aload_n 0, 1) := by decide +kernel
theorem dq_DS_told_97 : decode gc_DS_told 97 = .ok (.getfield 22, 3) := by decide +kernel
theorem dq_DS_told_100 : decode gc_DS_told 100 = .ok (.getfield 85, 3) := by decide +kernel
theorem dq_DS_told_103 : decode gc_DS_told 103 = .ok (.ireturn, 1) := by decide +kernel
theorem dq_DS_told_104 : decode gc_DS_told 104 = .ok (.aload_n 0, 1) := by decide +kernel
theorem dq_DS_told_105 : decode gc_DS_told 105 = .ok (.getfield 31, 3) := by decide +kernel
theorem dq_DS_told_108 : decode gc_DS_told 108 = .ok (.getfield 116, 3) := by decide +kernel
theorem dq_DS_told_111 : decode gc_DS_told 111 = .ok (.ireturn, 1) := by decide +kernel
theorem dq_DS_told_112 : decode gc_DS_told 112 = .ok (.aload_n 0, 1) := by decide +kernel
theorem dq_DS_told_113 : decode gc_DS_told 113 = .ok (.getfield 31, 3) := by decide +kernel
theorem dq_DS_told_116 : decode gc_DS_told 116 = .ok (.iconst 3, 1) := by decide +kernel
theorem dq_DS_told_117 : decode gc_DS_told 117 = .ok (.invokevirtual 119, 3) := by decide +kernel
theorem dq_DS_told_120 : decode gc_DS_told 120 = .ok (.ireturn, 1) := by decide +kernel
theorem dq_DS_told_121 : decode gc_DS_told 121 = .ok (.aload_n 0, 1) := by decide +kernel
theorem dq_DS_told_122 : decode gc_DS_told 122 = .ok (.getfield 31, 3) := by decide +kernel
theorem dq_DS_told_125 : decode gc_DS_told 125 = .ok (.iconst 4, 1) := by decide +kernel
theorem dq_DS_told_126 : decode gc_DS_told 126 = .ok (.invokevirtual 119, 3) := by decide +kernel
theorem dq_DS_told_129 : decode gc_DS_told 129 = .ok (.ireturn, 1) := by decide +kernel
theorem dq_DS_told_130 : decode gc_DS_told 130 = .ok (.aload_n 0, 1) := by decide +kernel
theorem dq_DS_told_131 : decode gc_DS_told 131 = .ok (.getfield 31, 3) := by decide +kernel
theorem dq_DS_told_134 : decode gc_DS_told 134 = .ok (.iconst 1, 1) := by decide +kernel
theorem dq_DS_told_135 : decode gc_DS_told 135 = .ok (.invokevirtual 119, 3) := by decide +kernel
theorem dq_DS_told_138 : decode gc_DS_told 138 = .ok (.ireturn, 1) := by decide +kernel
theorem dq_DS_told_139 : decode gc_DS_told 139 = .ok (.aload_n 0, 1) := by decide +kernel
theorem dq_DS_told_140 : decode gc_DS_told 140 = .ok (.getfield 31, 3) := by decide +kernel
theorem dq_DS_told_143 : decode gc_DS_told 143 = .ok (.invokevirtual 123, 3) := by decide +kernel
theorem dq_DS_told_146 : decode gc_DS_told 146 = .ok (.ireturn, 1) := by decide +kernel
theorem dq_DS_told_147 : decode gc_DS_told 147 = .ok (.aload_n 0, 1) := by decide +kernel
theorem dq_DS_told_148 : decode gc_DS_told 148 = .ok (.getfield 69, 3) := by decide +kernel
theorem dq_DS_told_151 : decode gc_DS_told 151 = .ok (.getfield 97, 3) := by decide +kernel
theorem dq_DS_told_154 : decode gc_DS_told 154 = .ok (.ireturn, 1) := by decide +kernel
theorem dq_DS_told_155 : decode gc_DS_told 155 = .ok (.aload_n 0, 1) := by decide +kernel
theorem dq_DS_told_156 : decode gc_DS_told 156 = .ok (.getfield 73, 3) := by decide +kernel
theorem dq_DS_told_159 : decode gc_DS_told 159 = .ok (.getfield 97, 3) := by decide +kernel
theorem dq_DS_told_162 : decode gc_DS_told 162 = .ok (.ireturn, 1) := by decide +kernel
theorem dq_DS_told_163 : decode gc_DS_told 163 = .ok (.ldc 80, 2) := by decide +kernel
theorem dq_DS_told_165 : decode gc_DS_told 165 = .ok (.ireturn, 1) := by decide +kernel
abbrev gm_DS_told : gM := (gc_DS_told, gR_6, 1, 23, 2)
theorem gfl_DS_107 : gFl gR_6 107 0 2 := ⟨_, _, _, rfl, by decide, (gtab_at 37 (by decide +kernel) rfl), gin_0⟩
theorem gfl_DS_110 : gFl gR_6 110 0 3 := ⟨_, _, _, rfl, by decide, (gtab_at 42 (by decide +kernel) rfl), gin_0⟩
theorem gfl_DS_113 : gFl gR_6 113 0 1 := ⟨_, _, _, rfl, by decide, (gtab_at 31 (by decide +kernel) rfl), gin_0⟩
theorem gfl_DS_116 : gFl gR_6 116 4 1 := ⟨_, _, _, rfl, by decide, (gtab_at 156 (by decide +kernel) rfl), gin_4⟩
set_option maxRecDepth 20000 in
theorem gcy_DS_119 : gCy gR_6 119 gy_Traffic_those gc_Traffic_those 4 (some .int) 1 := ⟨(gtab_at 411 (by decide +kernel) rfl), (gtab_at 4 (by decide +kernel) rfl), (gtab_at 414 rfl rfl), by decide, by decide, by decide +kernel⟩
set_option maxRecDepth 20000 in
theorem gcy_DS_123 : gCy gR_6 123 gy_Traffic_toll gc_Traffic_toll 3 (some .int) 0 := ⟨(gtab_at 415 (by decide +kernel) rfl), (gtab_at 4 (by decide +kernel) rfl), (gtab_at 418 rfl rfl), by decide, by decide, by decide +kernel⟩
theorem gim_Traffic_toll : Cond.instanceMethod gy_Traffic_toll ∈ gtbl := (gtab_at 416 (by decide +kernel) rfl)
theorem gse_Traffic_toll : Cond.selects gy_Traffic_toll.cls gy_Traffic_toll gy_Traffic_toll ∈ gtbl := (gtab_at 417 (by decide +kernel) rfl)
theorem gfl_DS_97 : gFl gR_6 97 1 0 := ⟨_, _, _, rfl, by decide, (gtab_at 257 (by decide +kernel) rfl), gin_1⟩
def f_DS_told (a1 : Int) (h : gH) : Option gO := if a1 = 0 then (gd (gcl ((h 0 0).toNat) 0) (some (h, (h (h 0 0).toNat 0)))) else (if a1 = 1 then (gd (gcl ((h 0 0).toNat) 0) (some (h, (h (h 0 0).toNat 2)))) else (if a1 = 2 then (gd (gcl ((h 0 0).toNat) 0) (some (h, (h (h 0 0).toNat 3)))) else (if a1 = 3 then (gd (gcl ((h 0 0).toNat) 0) (some (h, (h (h 0 0).toNat 1)))) else (if a1 = 4 then (some (h, (h 25 0))) else (if a1 = 5 then (some (h, (h 27 1))) else (if a1 = 6 then (gb (f_Traffic_those 27 3 h) (fun h12 r13 => some (h12, r13))) else (if a1 = 7 then (gb (f_Traffic_those 27 4 h) (fun h15 r16 => some (h15, r16))) else (if a1 = 8 then (gb (f_Traffic_those 27 1 h) (fun h18 r19 => some (h18, r19))) else (if a1 = 9 then (gb (f_Traffic_toll 27 h) (fun h21 r22 => some (h21, r22))) else (if a1 = 10 then (some (h, (h 75 0))) else (if a1 = 11 then (some (h, (h 79 0))) else (some (h, (-1000000002))))))))))))))
theorem c_DS_told {Z : gZ} (hL : gLive Z) (hn : (zL Z).Nodup) {a1 : Int}  {h : gH} {o : gO} (hg : gRg h) (ha : gRl [.inr (.inr 0), .inl a1]) (hx : f_DS_told a1 h = some o) : gC Z gy_DS_told gc_DS_told 2 (some .int) 1 23 [.inr (.inr 0), .inl a1] h o := by
  unfold f_DS_told at hx
  refine gC_of (lv := [(0, .inr (.inr 0)), (1, .inl a1)]) (own := gR_6) (by decide +kernel) rfl (Nat.le_of_ble_eq_true rfl) rfl rfl hn hg ha hx (fun X hZ hF => ?_)
  subst hZ
  show gr _ o gm_DS_told X h 0 _ _
  refine gr_iload_n (M := gm_DS_told) dq_DS_told_0 rfl 1 rfl 1 rfl ?_
  refine gr_ite (M := gm_DS_told) (fun c1 => ?_) (fun c1 => ?_)
  · refine gr_tswIn (M := gm_DS_told) dq_DS_told_1 0 c1 (by decide) (by decide) rfl 64 rfl ?_
    refine gr_aload_n (M := gm_DS_told) dq_DS_told_64 rfl 0 rfl 65 rfl ?_
    refine gr_getd (M := gm_DS_told) dq_DS_told_65 68 rfl gfl_DS_10 gsh_0 rfl (gli hL gsh_0) (fun hc2 => ?_)
    refine gr_geti (M := gm_DS_told) dq_DS_told_68 71 rfl gfl_DS_101 (gclE hc2) rfl (gli hL (gclE hc2)) ?_
    exact gr_ireturn (M := gm_DS_told) dq_DS_told_71 hF
  refine gr_ite (M := gm_DS_told) (fun c3 => ?_) (fun c3 => ?_)
  · refine gr_tswIn (M := gm_DS_told) dq_DS_told_1 1 c3 (by decide) (by decide) rfl 72 rfl ?_
    refine gr_aload_n (M := gm_DS_told) dq_DS_told_72 rfl 0 rfl 73 rfl ?_
    refine gr_getd (M := gm_DS_told) dq_DS_told_73 76 rfl gfl_DS_10 gsh_0 rfl (gli hL gsh_0) (fun hc4 => ?_)
    refine gr_geti (M := gm_DS_told) dq_DS_told_76 79 rfl gfl_DS_107 (gclE hc4) rfl (gli hL (gclE hc4)) ?_
    exact gr_ireturn (M := gm_DS_told) dq_DS_told_79 hF
  refine gr_ite (M := gm_DS_told) (fun c5 => ?_) (fun c5 => ?_)
  · refine gr_tswIn (M := gm_DS_told) dq_DS_told_1 2 c5 (by decide) (by decide) rfl 80 rfl ?_
    refine gr_aload_n (M := gm_DS_told) dq_DS_told_80 rfl 0 rfl 81 rfl ?_
    refine gr_getd (M := gm_DS_told) dq_DS_told_81 84 rfl gfl_DS_10 gsh_0 rfl (gli hL gsh_0) (fun hc6 => ?_)
    refine gr_geti (M := gm_DS_told) dq_DS_told_84 87 rfl gfl_DS_110 (gclE hc6) rfl (gli hL (gclE hc6)) ?_
    exact gr_ireturn (M := gm_DS_told) dq_DS_told_87 hF
  refine gr_ite (M := gm_DS_told) (fun c7 => ?_) (fun c7 => ?_)
  · refine gr_tswIn (M := gm_DS_told) dq_DS_told_1 3 c7 (by decide) (by decide) rfl 88 rfl ?_
    refine gr_aload_n (M := gm_DS_told) dq_DS_told_88 rfl 0 rfl 89 rfl ?_
    refine gr_getd (M := gm_DS_told) dq_DS_told_89 92 rfl gfl_DS_10 gsh_0 rfl (gli hL gsh_0) (fun hc8 => ?_)
    refine gr_geti (M := gm_DS_told) dq_DS_told_92 95 rfl gfl_DS_113 (gclE hc8) rfl (gli hL (gclE hc8)) ?_
    exact gr_ireturn (M := gm_DS_told) dq_DS_told_95 hF
  refine gr_ite (M := gm_DS_told) (fun c9 => ?_) (fun c9 => ?_)
  · refine gr_tswIn (M := gm_DS_told) dq_DS_told_1 4 c9 (by decide) (by decide) rfl 96 rfl ?_
    refine gr_aload_n (M := gm_DS_told) dq_DS_told_96 rfl 0 rfl 97 rfl ?_
    refine gr_geta (M := gm_DS_told) dq_DS_told_97 100 rfl gfl_DS_22 gsh_0 rfl (gli hL gsh_0) ?_
    refine gr_geti (M := gm_DS_told) dq_DS_told_100 103 rfl gfl_DS_85 gsh_25 rfl (gli hL gsh_25) ?_
    exact gr_ireturn (M := gm_DS_told) dq_DS_told_103 hF
  refine gr_ite (M := gm_DS_told) (fun c10 => ?_) (fun c10 => ?_)
  · refine gr_tswIn (M := gm_DS_told) dq_DS_told_1 5 c10 (by decide) (by decide) rfl 104 rfl ?_
    refine gr_aload_n (M := gm_DS_told) dq_DS_told_104 rfl 0 rfl 105 rfl ?_
    refine gr_geta (M := gm_DS_told) dq_DS_told_105 108 rfl gfl_DS_31 gsh_0 rfl (gli hL gsh_0) ?_
    refine gr_geti (M := gm_DS_told) dq_DS_told_108 111 rfl gfl_DS_116 gsh_27 rfl (gli hL gsh_27) ?_
    exact gr_ireturn (M := gm_DS_told) dq_DS_told_111 hF
  refine gr_ite (M := gm_DS_told) (fun c11 => ?_) (fun c11 => ?_)
  · refine gr_tswIn (M := gm_DS_told) dq_DS_told_1 6 c11 (by decide) (by decide) rfl 112 rfl ?_
    refine gr_aload_n (M := gm_DS_told) dq_DS_told_112 rfl 0 rfl 113 rfl ?_
    refine gr_geta (M := gm_DS_told) dq_DS_told_113 116 rfl gfl_DS_31 gsh_0 rfl (gli hL gsh_0) ?_
    refine gr_iconst (M := gm_DS_told) (v := 3) dq_DS_told_116 rfl ⟨by decide, by decide⟩ 117 rfl ?_
    refine gr_callVi (M := gm_DS_told) (as := [.inl 3]) dq_DS_told_117 120 rfl rfl gcy_DS_119 gim_Traffic_those gse_Traffic_those ⟨by decide, by decide⟩ (Nat.le_of_ble_eq_true rfl) gsh_27 rfl (gli hL gsh_27) (fun o1 hg ha hx => c_Traffic_those hL hn gsh_27 hg ha hx) (fun h12 r13 _ => ?_)
    exact gr_ireturn (M := gm_DS_told) dq_DS_told_120 hF
  refine gr_ite (M := gm_DS_told) (fun c14 => ?_) (fun c14 => ?_)
  · refine gr_tswIn (M := gm_DS_told) dq_DS_told_1 7 c14 (by decide) (by decide) rfl 121 rfl ?_
    refine gr_aload_n (M := gm_DS_told) dq_DS_told_121 rfl 0 rfl 122 rfl ?_
    refine gr_geta (M := gm_DS_told) dq_DS_told_122 125 rfl gfl_DS_31 gsh_0 rfl (gli hL gsh_0) ?_
    refine gr_iconst (M := gm_DS_told) (v := 4) dq_DS_told_125 rfl ⟨by decide, by decide⟩ 126 rfl ?_
    refine gr_callVi (M := gm_DS_told) (as := [.inl 4]) dq_DS_told_126 129 rfl rfl gcy_DS_119 gim_Traffic_those gse_Traffic_those ⟨by decide, by decide⟩ (Nat.le_of_ble_eq_true rfl) gsh_27 rfl (gli hL gsh_27) (fun o1 hg ha hx => c_Traffic_those hL hn gsh_27 hg ha hx) (fun h15 r16 _ => ?_)
    exact gr_ireturn (M := gm_DS_told) dq_DS_told_129 hF
  refine gr_ite (M := gm_DS_told) (fun c17 => ?_) (fun c17 => ?_)
  · refine gr_tswIn (M := gm_DS_told) dq_DS_told_1 8 c17 (by decide) (by decide) rfl 130 rfl ?_
    refine gr_aload_n (M := gm_DS_told) dq_DS_told_130 rfl 0 rfl 131 rfl ?_
    refine gr_geta (M := gm_DS_told) dq_DS_told_131 134 rfl gfl_DS_31 gsh_0 rfl (gli hL gsh_0) ?_
    refine gr_iconst (M := gm_DS_told) (v := 1) dq_DS_told_134 rfl ⟨by decide, by decide⟩ 135 rfl ?_
    refine gr_callVi (M := gm_DS_told) (as := [.inl 1]) dq_DS_told_135 138 rfl rfl gcy_DS_119 gim_Traffic_those gse_Traffic_those ⟨by decide, by decide⟩ (Nat.le_of_ble_eq_true rfl) gsh_27 rfl (gli hL gsh_27) (fun o1 hg ha hx => c_Traffic_those hL hn gsh_27 hg ha hx) (fun h18 r19 _ => ?_)
    exact gr_ireturn (M := gm_DS_told) dq_DS_told_138 hF
  refine gr_ite (M := gm_DS_told) (fun c20 => ?_) (fun c20 => ?_)
  · refine gr_tswIn (M := gm_DS_told) dq_DS_told_1 9 c20 (by decide) (by decide) rfl 139 rfl ?_
    refine gr_aload_n (M := gm_DS_told) dq_DS_told_139 rfl 0 rfl 140 rfl ?_
    refine gr_geta (M := gm_DS_told) dq_DS_told_140 143 rfl gfl_DS_31 gsh_0 rfl (gli hL gsh_0) ?_
    refine gr_callVi (M := gm_DS_told) (as := []) dq_DS_told_143 146 rfl rfl gcy_DS_123 gim_Traffic_toll gse_Traffic_toll ⟨by decide, by decide⟩ (Nat.le_of_ble_eq_true rfl) gsh_27 rfl (gli hL gsh_27) (fun o1 hg ha hx => c_Traffic_toll hL hn gsh_27 hg ha hx) (fun h21 r22 _ => ?_)
    exact gr_ireturn (M := gm_DS_told) dq_DS_told_146 hF
  refine gr_ite (M := gm_DS_told) (fun c23 => ?_) (fun c23 => ?_)
  · refine gr_tswIn (M := gm_DS_told) dq_DS_told_1 10 c23 (by decide) (by decide) rfl 147 rfl ?_
    refine gr_aload_n (M := gm_DS_told) dq_DS_told_147 rfl 0 rfl 148 rfl ?_
    refine gr_geta (M := gm_DS_told) dq_DS_told_148 151 rfl gfl_DS_69 gsh_0 rfl (gli hL gsh_0) ?_
    refine gr_geti (M := gm_DS_told) dq_DS_told_151 154 rfl gfl_DS_97 gsh_75 rfl (gli hL gsh_75) ?_
    exact gr_ireturn (M := gm_DS_told) dq_DS_told_154 hF
  refine gr_ite (M := gm_DS_told) (fun c24 => ?_) (fun c24 => ?_)
  · refine gr_tswIn (M := gm_DS_told) dq_DS_told_1 11 c24 (by decide) (by decide) rfl 155 rfl ?_
    refine gr_aload_n (M := gm_DS_told) dq_DS_told_155 rfl 0 rfl 156 rfl ?_
    refine gr_geta (M := gm_DS_told) dq_DS_told_156 159 rfl gfl_DS_73 gsh_0 rfl (gli hL gsh_0) ?_
    refine gr_geti (M := gm_DS_told) dq_DS_told_159 162 rfl gfl_DS_97 gsh_79 rfl (gli hL gsh_79) ?_
    exact gr_ireturn (M := gm_DS_told) dq_DS_told_162 hF
  refine gr_tswOut (M := gm_DS_told) dq_DS_told_1 (by omega) 163 rfl ?_
  refine gr_ldc (M := gm_DS_told) (v := (-1000000002)) dq_DS_told_163 gk_DS_80 ⟨by decide, by decide⟩ 165 rfl ?_
  exact gr_ireturn (M := gm_DS_told) dq_DS_told_165 hF

-- DS_isNoCorner
theorem dq_DS_isNoCorner_0 : decode gc_DS_isNoCorner 0 = .ok (.iload_n 1, 1) := by decide +kernel
theorem dq_DS_isNoCorner_1 : decode gc_DS_isNoCorner 1 = .ok (.iconst 0, 1) := by decide +kernel
theorem dq_DS_isNoCorner_2 : decode gc_DS_isNoCorner 2 = .ok (.aload_n 0, 1) := by decide +kernel
theorem dq_DS_isNoCorner_3 : decode gc_DS_isNoCorner 3 = .ok (.getfield 10, 3) := by decide +kernel
theorem dq_DS_isNoCorner_6 : decode gc_DS_isNoCorner 6 = .ok (.getfield 101, 3) := by decide +kernel
theorem dq_DS_isNoCorner_9 : decode gc_DS_isNoCorner 9 = .ok (.iconst 1, 1) := by decide +kernel
theorem dq_DS_isNoCorner_10 : decode gc_DS_isNoCorner 10 = .ok (.isub, 1) := by decide +kernel
theorem dq_DS_isNoCorner_11 : decode gc_DS_isNoCorner 11 = .ok (.invokestatic 76, 3) := by decide +kernel
theorem dq_DS_isNoCorner_14 : decode gc_DS_isNoCorner 14 = .ok (.ireturn, 1) := by decide +kernel
abbrev gm_DS_isNoCorner : gM := (gc_DS_isNoCorner, gR_6, 1, 22, 2)
def f_DS_isNoCorner (a1 : Int) (h : gH) : Option gO := gd (gcl ((h 0 0).toNat) 0) (gb (f_DS_isOutside a1 0 (gsub (h (h 0 0).toNat 0) 1) h) (fun h2 r3 => gd (gz r3) (some (h2, r3))))
theorem c_DS_isNoCorner {Z : gZ} (hL : gLive Z) (hn : (zL Z).Nodup) {a1 : Int}  {h : gH} {o : gO} (hg : gRg h) (ha : gRl [.inr (.inr 0), .inl a1]) (hx : f_DS_isNoCorner a1 h = some o) : gC Z gy_DS_isNoCorner gc_DS_isNoCorner 2 (some .boolean) 1 22 [.inr (.inr 0), .inl a1] h o := by
  unfold f_DS_isNoCorner at hx
  refine gC_of (lv := [(0, .inr (.inr 0)), (1, .inl a1)]) (own := gR_6) (by decide +kernel) rfl (Nat.le_of_ble_eq_true rfl) rfl rfl hn hg ha hx (fun X hZ hF => ?_)
  subst hZ
  show gr _ o gm_DS_isNoCorner X h 0 _ _
  refine gr_iload_n (M := gm_DS_isNoCorner) dq_DS_isNoCorner_0 rfl 1 rfl 1 rfl ?_
  refine gr_iconst (M := gm_DS_isNoCorner) (v := 0) dq_DS_isNoCorner_1 rfl ⟨by decide, by decide⟩ 2 rfl ?_
  refine gr_aload_n (M := gm_DS_isNoCorner) dq_DS_isNoCorner_2 rfl 0 rfl 3 rfl ?_
  refine gr_getd (M := gm_DS_isNoCorner) dq_DS_isNoCorner_3 6 rfl gfl_DS_10 gsh_0 rfl (gli hL gsh_0) (fun hc1 => ?_)
  refine gr_geti (M := gm_DS_isNoCorner) dq_DS_isNoCorner_6 9 rfl gfl_DS_101 (gclE hc1) rfl (gli hL (gclE hc1)) ?_
  refine gr_iconst (M := gm_DS_isNoCorner) (v := 1) dq_DS_isNoCorner_9 rfl ⟨by decide, by decide⟩ 10 rfl ?_
  refine gr_isub (M := gm_DS_isNoCorner) dq_DS_isNoCorner_10 11 rfl ?_
  refine gr_callSi (M := gm_DS_isNoCorner) (as := [.inl a1, .inl 0, .inl (gsub (h (h 0 0).toNat 0) 1)]) dq_DS_isNoCorner_11 14 rfl rfl gcy_DS_76 gst_DS_isOutside ⟨by decide, by decide⟩ (Nat.le_of_ble_eq_true rfl) (fun o1 hg ha hx => c_DS_isOutside hL hn  hg ha hx) (fun h2 r3 _ => ?_)
  exact gr_zreturn (M := gm_DS_isNoCorner) dq_DS_isNoCorner_14 hF

-- DS_far
theorem dq_DS_far_0 : decode gc_DS_far 0 = .ok (.aload_n 0, 1) := by decide +kernel
theorem dq_DS_far_1 : decode gc_DS_far 1 = .ok (.iload_n 1, 1) := by decide +kernel
theorem dq_DS_far_2 : decode gc_DS_far 2 = .ok (.invokevirtual 127, 3) := by decide +kernel
theorem dq_DS_far_5 : decode gc_DS_far 5 = .ok (.ifCond .ne 11, 3) := by decide +kernel
theorem dq_DS_far_8 : decode gc_DS_far 8 = .ok (.aload_n 0, 1) := by decide +kernel
theorem dq_DS_far_9 : decode gc_DS_far 9 = .ok (.iload_n 2, 1) := by decide +kernel
theorem dq_DS_far_10 : decode gc_DS_far 10 = .ok (.invokevirtual 127, 3) := by decide +kernel
theorem dq_DS_far_13 : decode gc_DS_far 13 = .ok (.ifCond .eq 6, 3) := by decide +kernel
theorem dq_DS_far_16 : decode gc_DS_far 16 = .ok (.ldc 130, 2) := by decide +kernel
theorem dq_DS_far_18 : decode gc_DS_far 18 = .ok (.ireturn, 1) := by decide +kernel
theorem dq_DS_far_19 : decode gc_DS_far 19 = .ok (.aload_n 0, 1) := by decide +kernel
theorem dq_DS_far_20 : decode gc_DS_far 20 = .ok (.getfield 10, 3) := by decide +kernel
theorem dq_DS_far_23 : decode gc_DS_far 23 = .ok (.iload_n 1, 1) := by decide +kernel
theorem dq_DS_far_24 : decode gc_DS_far 24 = .ok (.iload_n 2, 1) := by decide +kernel
theorem dq_DS_far_25 : decode gc_DS_far 25 = .ok (.invokevirtual 131, 3) := by decide +kernel
theorem dq_DS_far_28 : decode gc_DS_far 28 = .ok (.istore_n 3, 1) := by decide +kernel
theorem dq_DS_far_29 : decode gc_DS_far 29 = .ok (.iload_n 3, 1) := by decide +kernel
theorem dq_DS_far_30 : decode gc_DS_far 30 = .ok (.sipush 1000, 3) := by decide +kernel
theorem dq_DS_far_33 : decode gc_DS_far 33 = .ok (.if_icmp .ge 7, 3) := by decide +kernel
theorem dq_DS_far_36 : decode gc_DS_far 36 = .ok (.iload_n 3, 1) := by decide +kernel
theorem dq_DS_far_37 : decode gc_DS_far 37 = .ok (.goto 4, 3) := by decide +kernel
theorem dq_DS_far_40 : decode gc_DS_far 40 = .ok (.iconst (-1), 1) := by decide +kernel
theorem dq_DS_far_41 : decode gc_DS_far 41 = .ok (.ireturn, 1) := by decide +kernel
abbrev gm_DS_far : gM := (gc_DS_far, gR_6, 2, 43, 4)
set_option maxRecDepth 20000 in
theorem gcy_DS_127 : gCy gR_6 127 gy_DS_isNoCorner gc_DS_isNoCorner 2 (some .boolean) 1 := ⟨(gtab_at 423 (by decide +kernel) rfl), (gtab_at 1 (by decide +kernel) rfl), (gtab_at 426 rfl rfl), by decide, by decide, by decide +kernel⟩
theorem gim_DS_isNoCorner : Cond.instanceMethod gy_DS_isNoCorner ∈ gtbl := (gtab_at 425 (by decide +kernel) rfl)
theorem gse_DS_isNoCorner : Cond.selects gy_DS_isNoCorner.cls gy_DS_isNoCorner gy_DS_isNoCorner ∈ gtbl := (by decide +kernel)
theorem gk_DS_130 : Cond.constant gR_6 130 (Int32.ofInt (-1000000001)) ∈ gtbl := (gtab_at 427 (by decide +kernel) rfl)
set_option maxRecDepth 20000 in
theorem gcy_DS_131 : gCy gR_6 131 gy_City_distance gc_City_distance 3 (some .int) 2 := ⟨(gtab_at 428 (by decide +kernel) rfl), (gtab_at 2 (by decide +kernel) rfl), (gtab_at 385 rfl rfl), by decide, by decide, by decide +kernel⟩
def f_DS_far (a1 : Int) (a2 : Int) (h : gH) : Option gO := gb (f_DS_isNoCorner a1 h) (fun h1 r2 => if r2 = 0 then (gb (f_DS_isNoCorner a2 h1) (fun h4 r5 => if r5 = 0 then (gd (gcl ((h4 0 0).toNat) 0) (gb (f_City_distance (h4 0 0).toNat a1 a2 h4) (fun h8 r9 => if 1000 ≤ r9 then (some (h8, (-1))) else (some (h8, r9))))) else (some (h4, (-1000000001))))) else (some (h1, (-1000000001))))
theorem c_DS_far {Z : gZ} (hL : gLive Z) (hn : (zL Z).Nodup) {a1 : Int} {a2 : Int}  {h : gH} {o : gO} (hg : gRg h) (ha : gRl [.inr (.inr 0), .inl a1, .inl a2]) (hx : f_DS_far a1 a2 h = some o) : gC Z gy_DS_far gc_DS_far 4 (some .int) 2 43 [.inr (.inr 0), .inl a1, .inl a2] h o := by
  unfold f_DS_far at hx
  refine gC_of (lv := [(0, .inr (.inr 0)), (1, .inl a1), (2, .inl a2)]) (own := gR_6) (by decide +kernel) rfl (Nat.le_of_ble_eq_true rfl) rfl rfl hn hg ha hx (fun X hZ hF => ?_)
  subst hZ
  show gr _ o gm_DS_far X h 0 _ _
  refine gr_aload_n (M := gm_DS_far) dq_DS_far_0 rfl 0 rfl 1 rfl ?_
  refine gr_iload_n (M := gm_DS_far) dq_DS_far_1 rfl 1 rfl 2 rfl ?_
  refine gr_callVi (M := gm_DS_far) (as := [.inl a1]) dq_DS_far_2 5 rfl rfl gcy_DS_127 gim_DS_isNoCorner gse_DS_isNoCorner ⟨by decide, by decide⟩ (Nat.le_of_ble_eq_true rfl) gsh_0 rfl (gli hL gsh_0) (fun o1 hg ha hx => c_DS_isNoCorner hL hn  hg ha hx) (fun h1 r2 _ => ?_)
  refine gr_if_ne (M := gm_DS_far) dq_DS_far_5 16 8 rfl rfl (fun c3 => ?_) (fun c3 => ?_)
  · refine gr_ldc (M := gm_DS_far) (v := (-1000000001)) dq_DS_far_16 gk_DS_130 ⟨by decide, by decide⟩ 18 rfl ?_
    exact gr_ireturn (M := gm_DS_far) dq_DS_far_18 hF
  refine gr_aload_n (M := gm_DS_far) dq_DS_far_8 rfl 0 rfl 9 rfl ?_
  refine gr_iload_n (M := gm_DS_far) dq_DS_far_9 rfl 2 rfl 10 rfl ?_
  refine gr_callVi (M := gm_DS_far) (as := [.inl a2]) dq_DS_far_10 13 rfl rfl gcy_DS_127 gim_DS_isNoCorner gse_DS_isNoCorner ⟨by decide, by decide⟩ (Nat.le_of_ble_eq_true rfl) gsh_0 rfl (gli hL gsh_0) (fun o1 hg ha hx => c_DS_isNoCorner hL hn  hg ha hx) (fun h4 r5 _ => ?_)
  refine gr_if_eq (M := gm_DS_far) dq_DS_far_13 19 16 rfl rfl (fun c6 => ?_) (fun c6 => ?_)
  · refine gr_aload_n (M := gm_DS_far) dq_DS_far_19 rfl 0 rfl 20 rfl ?_
    refine gr_getd (M := gm_DS_far) dq_DS_far_20 23 rfl gfl_DS_10 gsh_0 rfl (gli hL gsh_0) (fun hc7 => ?_)
    refine gr_iload_n (M := gm_DS_far) dq_DS_far_23 rfl 1 rfl 24 rfl ?_
    refine gr_iload_n (M := gm_DS_far) dq_DS_far_24 rfl 2 rfl 25 rfl ?_
    refine gr_callVi (M := gm_DS_far) (as := [.inl a1, .inl a2]) dq_DS_far_25 28 rfl rfl gcy_DS_131 gim_City_distance gse_City_distance ⟨by decide, by decide⟩ (Nat.le_of_ble_eq_true rfl) (gclE hc7) rfl (gli hL (gclE hc7)) (fun o1 hg ha hx => c_City_distance hL hn (gclE hc7) hg ha hx) (fun h8 r9 _ => ?_)
    refine gr_istore_n (M := gm_DS_far) (lv' := [(3, .inl r9), (0, .inr (.inr 0)), (1, .inl a1), (2, .inl a2)]) dq_DS_far_28 rfl (by decide) rfl 29 rfl ?_
    refine gr_iload_n (M := gm_DS_far) dq_DS_far_29 rfl 0 rfl 30 rfl ?_
    refine gr_sipush (M := gm_DS_far) (v := 1000) dq_DS_far_30 (by decide) ⟨by decide, by decide⟩ 33 rfl ?_
    refine gr_icmp_ge (M := gm_DS_far) dq_DS_far_33 40 36 rfl rfl (fun c10 => ?_) (fun c10 => ?_)
    · refine gr_iconst (M := gm_DS_far) (v := (-1)) dq_DS_far_40 rfl ⟨by decide, by decide⟩ 41 rfl ?_
      exact gr_ireturn (M := gm_DS_far) dq_DS_far_41 hF
    refine gr_iload_n (M := gm_DS_far) dq_DS_far_36 rfl 0 rfl 37 rfl ?_
    refine gr_goto (M := gm_DS_far) dq_DS_far_37 41 rfl ?_
    exact gr_ireturn (M := gm_DS_far) dq_DS_far_41 hF
  refine gr_ldc (M := gm_DS_far) (v := (-1000000001)) dq_DS_far_16 gk_DS_130 ⟨by decide, by decide⟩ 18 rfl ?_
  exact gr_ireturn (M := gm_DS_far) dq_DS_far_18 hF

-- DS_isNoStreet
theorem dq_DS_isNoStreet_0 : decode gc_DS_isNoStreet 0 = .ok (.iload_n 1, 1) := by decide +kernel
theorem dq_DS_isNoStreet_1 : decode gc_DS_isNoStreet 1 = .ok (.iconst 0, 1) := by decide +kernel
theorem dq_DS_isNoStreet_2 : decode gc_DS_isNoStreet 2 = .ok (.aload_n 0, 1) := by decide +kernel
theorem dq_DS_isNoStreet_3 : decode gc_DS_isNoStreet 3 = .ok (.getfield 10, 3) := by decide +kernel
theorem dq_DS_isNoStreet_6 : decode gc_DS_isNoStreet 6 = .ok (.getfield 107, 3) := by decide +kernel
theorem dq_DS_isNoStreet_9 : decode gc_DS_isNoStreet 9 = .ok (.iconst 1, 1) := by decide +kernel
theorem dq_DS_isNoStreet_10 : decode gc_DS_isNoStreet 10 = .ok (.isub, 1) := by decide +kernel
theorem dq_DS_isNoStreet_11 : decode gc_DS_isNoStreet 11 = .ok (.invokestatic 76, 3) := by decide +kernel
theorem dq_DS_isNoStreet_14 : decode gc_DS_isNoStreet 14 = .ok (.ireturn, 1) := by decide +kernel
abbrev gm_DS_isNoStreet : gM := (gc_DS_isNoStreet, gR_6, 1, 22, 2)
def f_DS_isNoStreet (a1 : Int) (h : gH) : Option gO := gd (gcl ((h 0 0).toNat) 0) (gb (f_DS_isOutside a1 0 (gsub (h (h 0 0).toNat 2) 1) h) (fun h2 r3 => gd (gz r3) (some (h2, r3))))
theorem c_DS_isNoStreet {Z : gZ} (hL : gLive Z) (hn : (zL Z).Nodup) {a1 : Int}  {h : gH} {o : gO} (hg : gRg h) (ha : gRl [.inr (.inr 0), .inl a1]) (hx : f_DS_isNoStreet a1 h = some o) : gC Z gy_DS_isNoStreet gc_DS_isNoStreet 2 (some .boolean) 1 22 [.inr (.inr 0), .inl a1] h o := by
  unfold f_DS_isNoStreet at hx
  refine gC_of (lv := [(0, .inr (.inr 0)), (1, .inl a1)]) (own := gR_6) (by decide +kernel) rfl (Nat.le_of_ble_eq_true rfl) rfl rfl hn hg ha hx (fun X hZ hF => ?_)
  subst hZ
  show gr _ o gm_DS_isNoStreet X h 0 _ _
  refine gr_iload_n (M := gm_DS_isNoStreet) dq_DS_isNoStreet_0 rfl 1 rfl 1 rfl ?_
  refine gr_iconst (M := gm_DS_isNoStreet) (v := 0) dq_DS_isNoStreet_1 rfl ⟨by decide, by decide⟩ 2 rfl ?_
  refine gr_aload_n (M := gm_DS_isNoStreet) dq_DS_isNoStreet_2 rfl 0 rfl 3 rfl ?_
  refine gr_getd (M := gm_DS_isNoStreet) dq_DS_isNoStreet_3 6 rfl gfl_DS_10 gsh_0 rfl (gli hL gsh_0) (fun hc1 => ?_)
  refine gr_geti (M := gm_DS_isNoStreet) dq_DS_isNoStreet_6 9 rfl gfl_DS_107 (gclE hc1) rfl (gli hL (gclE hc1)) ?_
  refine gr_iconst (M := gm_DS_isNoStreet) (v := 1) dq_DS_isNoStreet_9 rfl ⟨by decide, by decide⟩ 10 rfl ?_
  refine gr_isub (M := gm_DS_isNoStreet) dq_DS_isNoStreet_10 11 rfl ?_
  refine gr_callSi (M := gm_DS_isNoStreet) (as := [.inl a1, .inl 0, .inl (gsub (h (h 0 0).toNat 2) 1)]) dq_DS_isNoStreet_11 14 rfl rfl gcy_DS_76 gst_DS_isOutside ⟨by decide, by decide⟩ (Nat.le_of_ble_eq_true rfl) (fun o1 hg ha hx => c_DS_isOutside hL hn  hg ha hx) (fun h2 r3 _ => ?_)
  exact gr_zreturn (M := gm_DS_isNoStreet) dq_DS_isNoStreet_14 hF

-- DS_street
theorem dq_DS_street_0 : decode gc_DS_street 0 = .ok (.aload_n 0, 1) := by decide +kernel
theorem dq_DS_street_1 : decode gc_DS_street 1 = .ok (.iload_n 1, 1) := by decide +kernel
theorem dq_DS_street_2 : decode gc_DS_street 2 = .ok (.invokevirtual 135, 3) := by decide +kernel
theorem dq_DS_street_5 : decode gc_DS_street 5 = .ok (.ifCond .eq 6, 3) := by decide +kernel
theorem dq_DS_street_8 : decode gc_DS_street 8 = .ok (.ldc 130, 2) := by decide +kernel
theorem dq_DS_street_10 : decode gc_DS_street 10 = .ok (.ireturn, 1) := by decide +kernel
theorem dq_DS_street_11 : decode gc_DS_street 11 = .ok (.iload_n 2, 1) := by decide +kernel
theorem dq_DS_street_12 : decode gc_DS_street 12 = .ok (.tableswitch 100 0 5 #[40, 50, 60, 70, 80, 90], 40) := by decide +kernel
theorem dq_DS_street_52 : decode gc_DS_street 52 = .ok (.aload_n 0, 1) := by decide +kernel
theorem dq_DS_street_53 : decode gc_DS_street 53 = .ok (.getfield 10, 3) := by decide +kernel
theorem dq_DS_street_56 : decode gc_DS_street 56 = .ok (.getfield 138, 3) := by decide +kernel
theorem dq_DS_street_59 : decode gc_DS_street 59 = .ok (.iload_n 1, 1) := by decide +kernel
theorem dq_DS_street_60 : decode gc_DS_street 60 = .ok (.iaload, 1) := by decide +kernel
theorem dq_DS_street_61 : decode gc_DS_street 61 = .ok (.ireturn, 1) := by decide +kernel
theorem dq_DS_street_62 : decode gc_DS_street 62 = .ok (.aload_n 0, 1) := by decide +kernel
theorem dq_DS_street_63 : decode gc_DS_street 63 = .ok (.getfield 10, 3) := by decide +kernel
theorem dq_DS_street_66 : decode gc_DS_street 66 = .ok (.getfield 142, 3) := by decide +kernel
theorem dq_DS_street_69 : decode gc_DS_street 69 = .ok (.iload_n 1, 1) := by decide +kernel
theorem dq_DS_street_70 : decode gc_DS_street 70 = .ok (.iaload, 1) := by decide +kernel
theorem dq_DS_street_71 : decode gc_DS_street 71 = .ok (.ireturn, 1) := by decide +kernel
theorem dq_DS_street_72 : decode gc_DS_street 72 = .ok (.aload_n 0, 1) := by decide +kernel
theorem dq_DS_street_73 : decode gc_DS_street 73 = .ok (.getfield 10, 3) := by decide +kernel
theorem dq_DS_street_76 : decode gc_DS_street 76 = .ok (.getfield 145, 3) := by decide +kernel
theorem dq_DS_street_79 : decode gc_DS_street 79 = .ok (.iload_n 1, 1) := by decide +kernel
theorem dq_DS_street_80 : decode gc_DS_street 80 = .ok (.iaload, 1) := by decide +kernel
theorem dq_DS_street_81 : decode gc_DS_street 81 = .ok (.ireturn, 1) := by decide +kernel
theorem dq_DS_street_82 : decode gc_DS_street 82 = .ok (.aload_n 0, 1) := by decide +kernel
theorem dq_DS_street_83 : decode gc_DS_street 83 = .ok (.getfield 31, 3) := by decide +kernel
theorem dq_DS_street_86 : decode gc_DS_street 86 = .ok (.getfield 148, 3) := by decide +kernel
theorem dq_DS_street_89 : decode gc_DS_street 89 = .ok (.iload_n 1, 1) := by decide +kernel
theorem dq_DS_street_90 : decode gc_DS_street 90 = .ok (.iaload, 1) := by decide +kernel
theorem dq_DS_street_91 : decode gc_DS_street 91 = .ok (.ireturn, 1) := by decide +kernel
theorem dq_DS_street_92 : decode gc_DS_street 92 = .ok (.aload_n 0, 1) := by decide +kernel
theorem dq_DS_street_93 : decode gc_DS_street 93 = .ok (.getfield 31, 3) := by decide +kernel
theorem dq_DS_street_96 : decode gc_DS_street 96 = .ok (.getfield 151, 3) := by decide +kernel
theorem dq_DS_street_99 : decode gc_DS_street 99 = .ok (.iload_n 1, 1) := by decide +kernel
theorem dq_DS_street_100 : decode gc_DS_street 100 = .ok (.iaload, 1) := by decide +kernel
theorem dq_DS_street_101 : decode gc_DS_street 101 = .ok (.ireturn, 1) := by decide +kernel
theorem dq_DS_street_102 : decode gc_DS_street 102 = .ok (.aload_n 0, 1) := by decide +kernel
theorem dq_DS_street_103 : decode gc_DS_street 103 = .ok (.getfield 31, 3) := by decide +kernel
theorem dq_DS_street_106 : decode gc_DS_street 106 = .ok (.getfield 154, 3) := by decide +kernel
theorem dq_DS_street_109 : decode gc_DS_street 109 = .ok (.iload_n 1, 1) := by decide +kernel
theorem dq_DS_street_110 : decode gc_DS_street 110 = .ok (.iaload, 1) := by decide +kernel
theorem dq_DS_street_111 : decode gc_DS_street 111 = .ok (.ireturn, 1) := by decide +kernel
theorem dq_DS_street_112 : decode gc_DS_street 112 = .ok (.ldc 80, 2) := by decide +kernel
theorem dq_DS_street_114 : decode gc_DS_street 114 = .ok (.ireturn, 1) := by decide +kernel
abbrev gm_DS_street : gM := (gc_DS_street, gR_6, 2, 43, 3)
set_option maxRecDepth 20000 in
theorem gcy_DS_135 : gCy gR_6 135 gy_DS_isNoStreet gc_DS_isNoStreet 2 (some .boolean) 1 := ⟨(gtab_at 433 (by decide +kernel) rfl), (gtab_at 1 (by decide +kernel) rfl), (gtab_at 436 rfl rfl), by decide, by decide, by decide +kernel⟩
theorem gim_DS_isNoStreet : Cond.instanceMethod gy_DS_isNoStreet ∈ gtbl := (gtab_at 435 (by decide +kernel) rfl)
theorem gse_DS_isNoStreet : Cond.selects gy_DS_isNoStreet.cls gy_DS_isNoStreet gy_DS_isNoStreet ∈ gtbl := (by decide +kernel)
theorem gfl_DS_138 : gFl gR_6 138 0 4 := ⟨_, _, _, rfl, by decide, (gtab_at 47 (by decide +kernel) rfl), gin_0⟩
theorem gfl_DS_142 : gFl gR_6 142 0 5 := ⟨_, _, _, rfl, by decide, (gtab_at 52 (by decide +kernel) rfl), gin_0⟩
theorem gfl_DS_145 : gFl gR_6 145 0 6 := ⟨_, _, _, rfl, by decide, (gtab_at 57 (by decide +kernel) rfl), gin_0⟩
theorem gfl_DS_148 : gFl gR_6 148 4 3 := ⟨_, _, _, rfl, by decide, (gtab_at 161 (by decide +kernel) rfl), gin_4⟩
theorem gfl_DS_151 : gFl gR_6 151 4 4 := ⟨_, _, _, rfl, by decide, (gtab_at 163 (by decide +kernel) rfl), gin_4⟩
theorem gfl_DS_154 : gFl gR_6 154 4 5 := ⟨_, _, _, rfl, by decide, (gtab_at 165 (by decide +kernel) rfl), gin_4⟩
def f_DS_street (a1 : Int) (a2 : Int) (h : gH) : Option gO := gb (f_DS_isNoStreet a1 h) (fun h1 r2 => if r2 = 0 then (if a2 = 0 then (gd (gcl ((h1 0 0).toNat) 0) (gd (gix 9 a1) (some (h1, (h1 ((h1 0 0).toNat + 1) a1.toNat))))) else (if a2 = 1 then (gd (gcl ((h1 0 0).toNat) 0) (gd (gix 9 a1) (some (h1, (h1 ((h1 0 0).toNat + 2) a1.toNat))))) else (if a2 = 2 then (gd (gcl ((h1 0 0).toNat) 0) (gd (gix 9 a1) (some (h1, (h1 ((h1 0 0).toNat + 3) a1.toNat))))) else (if a2 = 3 then (gd (gix 9 a1) (some (h1, (h1 28 a1.toNat)))) else (if a2 = 4 then (gd (gix 9 a1) (some (h1, (h1 29 a1.toNat)))) else (if a2 = 5 then (gd (gix 9 a1) (some (h1, (h1 30 a1.toNat)))) else (some (h1, (-1000000002))))))))) else (some (h1, (-1000000001))))
theorem c_DS_street {Z : gZ} (hL : gLive Z) (hn : (zL Z).Nodup) {a1 : Int} {a2 : Int}  {h : gH} {o : gO} (hg : gRg h) (ha : gRl [.inr (.inr 0), .inl a1, .inl a2]) (hx : f_DS_street a1 a2 h = some o) : gC Z gy_DS_street gc_DS_street 3 (some .int) 2 43 [.inr (.inr 0), .inl a1, .inl a2] h o := by
  unfold f_DS_street at hx
  refine gC_of (lv := [(0, .inr (.inr 0)), (1, .inl a1), (2, .inl a2)]) (own := gR_6) (by decide +kernel) rfl (Nat.le_of_ble_eq_true rfl) rfl rfl hn hg ha hx (fun X hZ hF => ?_)
  subst hZ
  show gr _ o gm_DS_street X h 0 _ _
  refine gr_aload_n (M := gm_DS_street) dq_DS_street_0 rfl 0 rfl 1 rfl ?_
  refine gr_iload_n (M := gm_DS_street) dq_DS_street_1 rfl 1 rfl 2 rfl ?_
  refine gr_callVi (M := gm_DS_street) (as := [.inl a1]) dq_DS_street_2 5 rfl rfl gcy_DS_135 gim_DS_isNoStreet gse_DS_isNoStreet ⟨by decide, by decide⟩ (Nat.le_of_ble_eq_true rfl) gsh_0 rfl (gli hL gsh_0) (fun o1 hg ha hx => c_DS_isNoStreet hL hn  hg ha hx) (fun h1 r2 _ => ?_)
  refine gr_if_eq (M := gm_DS_street) dq_DS_street_5 11 8 rfl rfl (fun c3 => ?_) (fun c3 => ?_)
  · refine gr_iload_n (M := gm_DS_street) dq_DS_street_11 rfl 2 rfl 12 rfl ?_
    refine gr_ite (M := gm_DS_street) (fun c4 => ?_) (fun c4 => ?_)
    · refine gr_tswIn (M := gm_DS_street) dq_DS_street_12 0 c4 (by decide) (by decide) rfl 52 rfl ?_
      refine gr_aload_n (M := gm_DS_street) dq_DS_street_52 rfl 0 rfl 53 rfl ?_
      refine gr_getd (M := gm_DS_street) dq_DS_street_53 56 rfl gfl_DS_10 gsh_0 rfl (gli hL gsh_0) (fun hc5 => ?_)
      refine gr_getr (M := gm_DS_street) dq_DS_street_56 59 rfl gfl_DS_138 (gclE hc5) rfl (gli hL (gclE hc5)) ((h1 0 0).toNat + 1) rfl ?_
      refine gr_iload_n (M := gm_DS_street) dq_DS_street_59 rfl 1 rfl 60 rfl ?_
      refine gr_iald (M := gm_DS_street) dq_DS_street_60 61 rfl (gsC_1 (gclE hc5)) (glj hL (gsC_1 (gclE hc5)) (by decide)) ?_
      exact gr_ireturn (M := gm_DS_street) dq_DS_street_61 hF
    refine gr_ite (M := gm_DS_street) (fun c6 => ?_) (fun c6 => ?_)
    · refine gr_tswIn (M := gm_DS_street) dq_DS_street_12 1 c6 (by decide) (by decide) rfl 62 rfl ?_
      refine gr_aload_n (M := gm_DS_street) dq_DS_street_62 rfl 0 rfl 63 rfl ?_
      refine gr_getd (M := gm_DS_street) dq_DS_street_63 66 rfl gfl_DS_10 gsh_0 rfl (gli hL gsh_0) (fun hc7 => ?_)
      refine gr_getr (M := gm_DS_street) dq_DS_street_66 69 rfl gfl_DS_142 (gclE hc7) rfl (gli hL (gclE hc7)) ((h1 0 0).toNat + 2) rfl ?_
      refine gr_iload_n (M := gm_DS_street) dq_DS_street_69 rfl 1 rfl 70 rfl ?_
      refine gr_iald (M := gm_DS_street) dq_DS_street_70 71 rfl (gsC_2 (gclE hc7)) (glj hL (gsC_2 (gclE hc7)) (by decide)) ?_
      exact gr_ireturn (M := gm_DS_street) dq_DS_street_71 hF
    refine gr_ite (M := gm_DS_street) (fun c8 => ?_) (fun c8 => ?_)
    · refine gr_tswIn (M := gm_DS_street) dq_DS_street_12 2 c8 (by decide) (by decide) rfl 72 rfl ?_
      refine gr_aload_n (M := gm_DS_street) dq_DS_street_72 rfl 0 rfl 73 rfl ?_
      refine gr_getd (M := gm_DS_street) dq_DS_street_73 76 rfl gfl_DS_10 gsh_0 rfl (gli hL gsh_0) (fun hc9 => ?_)
      refine gr_getr (M := gm_DS_street) dq_DS_street_76 79 rfl gfl_DS_145 (gclE hc9) rfl (gli hL (gclE hc9)) ((h1 0 0).toNat + 3) rfl ?_
      refine gr_iload_n (M := gm_DS_street) dq_DS_street_79 rfl 1 rfl 80 rfl ?_
      refine gr_iald (M := gm_DS_street) dq_DS_street_80 81 rfl (gsC_3 (gclE hc9)) (glj hL (gsC_3 (gclE hc9)) (by decide)) ?_
      exact gr_ireturn (M := gm_DS_street) dq_DS_street_81 hF
    refine gr_ite (M := gm_DS_street) (fun c10 => ?_) (fun c10 => ?_)
    · refine gr_tswIn (M := gm_DS_street) dq_DS_street_12 3 c10 (by decide) (by decide) rfl 82 rfl ?_
      refine gr_aload_n (M := gm_DS_street) dq_DS_street_82 rfl 0 rfl 83 rfl ?_
      refine gr_geta (M := gm_DS_street) dq_DS_street_83 86 rfl gfl_DS_31 gsh_0 rfl (gli hL gsh_0) ?_
      refine gr_getr (M := gm_DS_street) dq_DS_street_86 89 rfl gfl_DS_148 gsh_27 rfl (gli hL gsh_27) 28 rfl ?_
      refine gr_iload_n (M := gm_DS_street) dq_DS_street_89 rfl 1 rfl 90 rfl ?_
      refine gr_iald (M := gm_DS_street) dq_DS_street_90 91 rfl gsh_28 (glj hL gsh_28 (by decide)) ?_
      exact gr_ireturn (M := gm_DS_street) dq_DS_street_91 hF
    refine gr_ite (M := gm_DS_street) (fun c11 => ?_) (fun c11 => ?_)
    · refine gr_tswIn (M := gm_DS_street) dq_DS_street_12 4 c11 (by decide) (by decide) rfl 92 rfl ?_
      refine gr_aload_n (M := gm_DS_street) dq_DS_street_92 rfl 0 rfl 93 rfl ?_
      refine gr_geta (M := gm_DS_street) dq_DS_street_93 96 rfl gfl_DS_31 gsh_0 rfl (gli hL gsh_0) ?_
      refine gr_getr (M := gm_DS_street) dq_DS_street_96 99 rfl gfl_DS_151 gsh_27 rfl (gli hL gsh_27) 29 rfl ?_
      refine gr_iload_n (M := gm_DS_street) dq_DS_street_99 rfl 1 rfl 100 rfl ?_
      refine gr_iald (M := gm_DS_street) dq_DS_street_100 101 rfl gsh_29 (glj hL gsh_29 (by decide)) ?_
      exact gr_ireturn (M := gm_DS_street) dq_DS_street_101 hF
    refine gr_ite (M := gm_DS_street) (fun c12 => ?_) (fun c12 => ?_)
    · refine gr_tswIn (M := gm_DS_street) dq_DS_street_12 5 c12 (by decide) (by decide) rfl 102 rfl ?_
      refine gr_aload_n (M := gm_DS_street) dq_DS_street_102 rfl 0 rfl 103 rfl ?_
      refine gr_geta (M := gm_DS_street) dq_DS_street_103 106 rfl gfl_DS_31 gsh_0 rfl (gli hL gsh_0) ?_
      refine gr_getr (M := gm_DS_street) dq_DS_street_106 109 rfl gfl_DS_154 gsh_27 rfl (gli hL gsh_27) 30 rfl ?_
      refine gr_iload_n (M := gm_DS_street) dq_DS_street_109 rfl 1 rfl 110 rfl ?_
      refine gr_iald (M := gm_DS_street) dq_DS_street_110 111 rfl gsh_30 (glj hL gsh_30 (by decide)) ?_
      exact gr_ireturn (M := gm_DS_street) dq_DS_street_111 hF
    refine gr_tswOut (M := gm_DS_street) dq_DS_street_12 (by omega) 112 rfl ?_
    refine gr_ldc (M := gm_DS_street) (v := (-1000000002)) dq_DS_street_112 gk_DS_80 ⟨by decide, by decide⟩ 114 rfl ?_
    exact gr_ireturn (M := gm_DS_street) dq_DS_street_114 hF
  refine gr_ldc (M := gm_DS_street) (v := (-1000000001)) dq_DS_street_8 gk_DS_130 ⟨by decide, by decide⟩ 10 rfl ?_
  exact gr_ireturn (M := gm_DS_street) dq_DS_street_10 hF

-- DS_isNoCart
theorem dq_DS_isNoCart_0 : decode gc_DS_isNoCart 0 = .ok (.iload_n 1, 1) := by decide +kernel
theorem dq_DS_isNoCart_1 : decode gc_DS_isNoCart 1 = .ok (.iconst 0, 1) := by decide +kernel
theorem dq_DS_isNoCart_2 : decode gc_DS_isNoCart 2 = .ok (.aload_n 0, 1) := by decide +kernel
theorem dq_DS_isNoCart_3 : decode gc_DS_isNoCart 3 = .ok (.getfield 10, 3) := by decide +kernel
theorem dq_DS_isNoCart_6 : decode gc_DS_isNoCart 6 = .ok (.getfield 110, 3) := by decide +kernel
theorem dq_DS_isNoCart_9 : decode gc_DS_isNoCart 9 = .ok (.iconst 1, 1) := by decide +kernel
theorem dq_DS_isNoCart_10 : decode gc_DS_isNoCart 10 = .ok (.isub, 1) := by decide +kernel
theorem dq_DS_isNoCart_11 : decode gc_DS_isNoCart 11 = .ok (.invokestatic 76, 3) := by decide +kernel
theorem dq_DS_isNoCart_14 : decode gc_DS_isNoCart 14 = .ok (.ireturn, 1) := by decide +kernel
abbrev gm_DS_isNoCart : gM := (gc_DS_isNoCart, gR_6, 1, 22, 2)
def f_DS_isNoCart (a1 : Int) (h : gH) : Option gO := gd (gcl ((h 0 0).toNat) 0) (gb (f_DS_isOutside a1 0 (gsub (h (h 0 0).toNat 3) 1) h) (fun h2 r3 => gd (gz r3) (some (h2, r3))))
theorem c_DS_isNoCart {Z : gZ} (hL : gLive Z) (hn : (zL Z).Nodup) {a1 : Int}  {h : gH} {o : gO} (hg : gRg h) (ha : gRl [.inr (.inr 0), .inl a1]) (hx : f_DS_isNoCart a1 h = some o) : gC Z gy_DS_isNoCart gc_DS_isNoCart 2 (some .boolean) 1 22 [.inr (.inr 0), .inl a1] h o := by
  unfold f_DS_isNoCart at hx
  refine gC_of (lv := [(0, .inr (.inr 0)), (1, .inl a1)]) (own := gR_6) (by decide +kernel) rfl (Nat.le_of_ble_eq_true rfl) rfl rfl hn hg ha hx (fun X hZ hF => ?_)
  subst hZ
  show gr _ o gm_DS_isNoCart X h 0 _ _
  refine gr_iload_n (M := gm_DS_isNoCart) dq_DS_isNoCart_0 rfl 1 rfl 1 rfl ?_
  refine gr_iconst (M := gm_DS_isNoCart) (v := 0) dq_DS_isNoCart_1 rfl ⟨by decide, by decide⟩ 2 rfl ?_
  refine gr_aload_n (M := gm_DS_isNoCart) dq_DS_isNoCart_2 rfl 0 rfl 3 rfl ?_
  refine gr_getd (M := gm_DS_isNoCart) dq_DS_isNoCart_3 6 rfl gfl_DS_10 gsh_0 rfl (gli hL gsh_0) (fun hc1 => ?_)
  refine gr_geti (M := gm_DS_isNoCart) dq_DS_isNoCart_6 9 rfl gfl_DS_110 (gclE hc1) rfl (gli hL (gclE hc1)) ?_
  refine gr_iconst (M := gm_DS_isNoCart) (v := 1) dq_DS_isNoCart_9 rfl ⟨by decide, by decide⟩ 10 rfl ?_
  refine gr_isub (M := gm_DS_isNoCart) dq_DS_isNoCart_10 11 rfl ?_
  refine gr_callSi (M := gm_DS_isNoCart) (as := [.inl a1, .inl 0, .inl (gsub (h (h 0 0).toNat 3) 1)]) dq_DS_isNoCart_11 14 rfl rfl gcy_DS_76 gst_DS_isOutside ⟨by decide, by decide⟩ (Nat.le_of_ble_eq_true rfl) (fun o1 hg ha hx => c_DS_isOutside hL hn  hg ha hx) (fun h2 r3 _ => ?_)
  exact gr_zreturn (M := gm_DS_isNoCart) dq_DS_isNoCart_14 hF

-- DS_cart
theorem dq_DS_cart_0 : decode gc_DS_cart 0 = .ok (.aload_n 0, 1) := by decide +kernel
theorem dq_DS_cart_1 : decode gc_DS_cart 1 = .ok (.iload_n 1, 1) := by decide +kernel
theorem dq_DS_cart_2 : decode gc_DS_cart 2 = .ok (.invokevirtual 157, 3) := by decide +kernel
theorem dq_DS_cart_5 : decode gc_DS_cart 5 = .ok (.ifCond .eq 6, 3) := by decide +kernel
theorem dq_DS_cart_8 : decode gc_DS_cart 8 = .ok (.ldc 130, 2) := by decide +kernel
theorem dq_DS_cart_10 : decode gc_DS_cart 10 = .ok (.ireturn, 1) := by decide +kernel
theorem dq_DS_cart_11 : decode gc_DS_cart 11 = .ok (.iload_n 2, 1) := by decide +kernel
theorem dq_DS_cart_12 : decode gc_DS_cart 12 = .ok (.tableswitch 183 0 9 #[56, 66, 76, 86, 96, 106, 116, 126, 136, 146], 56) := by decide +kernel
theorem dq_DS_cart_68 : decode gc_DS_cart 68 = .ok (.aload_n 0, 1) := by decide +kernel
theorem dq_DS_cart_69 : decode gc_DS_cart 69 = .ok (.getfield 10, 3) := by decide +kernel
theorem dq_DS_cart_72 : decode gc_DS_cart 72 = .ok (.getfield 160, 3) := by decide +kernel
theorem dq_DS_cart_75 : decode gc_DS_cart 75 = .ok (.iload_n 1, 1) := by decide +kernel
theorem dq_DS_cart_76 : decode gc_DS_cart 76 = .ok (.iaload, 1) := by decide +kernel
theorem dq_DS_cart_77 : decode gc_DS_cart 77 = .ok (.ireturn, 1) := by decide +kernel
theorem dq_DS_cart_78 : decode gc_DS_cart 78 = .ok (.aload_n 0, 1) := by decide +kernel
theorem dq_DS_cart_79 : decode gc_DS_cart 79 = .ok (.getfield 10, 3) := by decide +kernel
theorem dq_DS_cart_82 : decode gc_DS_cart 82 = .ok (.getfield 163, 3) := by decide +kernel
theorem dq_DS_cart_85 : decode gc_DS_cart 85 = .ok (.iload_n 1, 1) := by decide +kernel
theorem dq_DS_cart_86 : decode gc_DS_cart 86 = .ok (.iaload, 1) := by decide +kernel
theorem dq_DS_cart_87 : decode gc_DS_cart 87 = .ok (.ireturn, 1) := by decide +kernel
theorem dq_DS_cart_88 : decode gc_DS_cart 88 = .ok (.aload_n 0, 1) := by decide +kernel
theorem dq_DS_cart_89 : decode gc_DS_cart 89 = .ok (.getfield 10, 3) := by decide +kernel
theorem dq_DS_cart_92 : decode gc_DS_cart 92 = .ok (.getfield 166, 3) := by decide +kernel
theorem dq_DS_cart_95 : decode gc_DS_cart 95 = .ok (.iload_n 1, 1) := by decide +kernel
theorem dq_DS_cart_96 : decode gc_DS_cart 96 = .ok (.iaload, 1) := by decide +kernel
theorem dq_DS_cart_97 : decode gc_DS_cart 97 = .ok (.ireturn, 1) := by decide +kernel
theorem dq_DS_cart_98 : decode gc_DS_cart 98 = .ok (.aload_n 0, 1) := by decide +kernel
theorem dq_DS_cart_99 : decode gc_DS_cart 99 = .ok (.getfield 31, 3) := by decide +kernel
theorem dq_DS_cart_102 : decode gc_DS_cart 102 = .ok (.getfield 169, 3) := by decide +kernel
theorem dq_DS_cart_105 : decode gc_DS_cart 105 = .ok (.iload_n 1, 1) := by decide +kernel
theorem dq_DS_cart_106 : decode gc_DS_cart 106 = .ok (.iaload, 1) := by decide +kernel
theorem dq_DS_cart_107 : decode gc_DS_cart 107 = .ok (.ireturn, 1) := by decide +kernel
theorem dq_DS_cart_108 : decode gc_DS_cart 108 = .ok (.aload_n 0, 1) := by decide +kernel
theorem dq_DS_cart_109 : decode gc_DS_cart 109 = .ok (.getfield 10, 3) := by decide +kernel
theorem dq_DS_cart_112 : decode gc_DS_cart 112 = .ok (.getfield 172, 3) := by decide +kernel
theorem dq_DS_cart_115 : decode gc_DS_cart 115 = .ok (.iload_n 1, 1) := by decide +kernel
theorem dq_DS_cart_116 : decode gc_DS_cart 116 = .ok (.iaload, 1) := by decide +kernel
theorem dq_DS_cart_117 : decode gc_DS_cart 117 = .ok (.ireturn, 1) := by decide +kernel
theorem dq_DS_cart_118 : decode gc_DS_cart 118 = .ok (.aload_n 0, 1) := by decide +kernel
theorem dq_DS_cart_119 : decode gc_DS_cart 119 = .ok (.getfield 31, 3) := by decide +kernel
theorem dq_DS_cart_122 : decode gc_DS_cart 122 = .ok (.getfield 175, 3) := by decide +kernel
theorem dq_DS_cart_125 : decode gc_DS_cart 125 = .ok (.iload_n 1, 1) := by decide +kernel
theorem dq_DS_cart_126 : decode gc_DS_cart 126 = .ok (.iaload, 1) := by decide +kernel
theorem dq_DS_cart_127 : decode gc_DS_cart 127 = .ok (.ireturn, 1) := by decide +kernel
theorem dq_DS_cart_128 : decode gc_DS_cart 128 = .ok (.aload_n 0, 1) := by decide +kernel
theorem dq_DS_cart_129 : decode gc_DS_cart 129 = .ok (.getfield 31, 3) := by decide +kernel
theorem dq_DS_cart_132 : decode gc_DS_cart 132 = .ok (.getfield 178, 3) := by decide +kernel
theorem dq_DS_cart_135 : decode gc_DS_cart 135 = .ok (.iload_n 1, 1) := by decide +kernel
theorem dq_DS_cart_136 : decode gc_DS_cart 136 = .ok (.iaload, 1) := by decide +kernel
theorem dq_DS_cart_137 : decode gc_DS_cart 137 = .ok (.ireturn, 1) := by decide +kernel
theorem dq_DS_cart_138 : decode gc_DS_cart 138 = .ok (.aload_n 0, 1) := by decide +kernel
theorem dq_DS_cart_139 : decode gc_DS_cart 139 = .ok (.getfield 31, 3) := by decide +kernel
theorem dq_DS_cart_142 : decode gc_DS_cart 142 = .ok (.getfield 181, 3) := by decide +kernel
theorem dq_DS_cart_145 : decode gc_DS_cart 145 = .ok (.iload_n 1, 1) := by decide +kernel
theorem dq_DS_cart_146 : decode gc_DS_cart 146 = .ok (.iaload, 1) := by decide +kernel
theorem dq_DS_cart_147 : decode gc_DS_cart 147 = .ok (.ireturn, 1) := by decide +kernel
theorem dq_DS_cart_148 : decode gc_DS_cart 148 = .ok (.aload_n 0, 1) := by decide +kernel
theorem dq_DS_cart_149 : decode gc_DS_cart 149 = .ok (.getfield 31, 3) := by decide +kernel
theorem dq_DS_cart_152 : decode gc_DS_cart 152 = .ok (.getfield 184, 3) := by decide +kernel
theorem dq_DS_cart_155 : decode gc_DS_cart 155 = .ok (.iload_n 1, 1) := by decide +kernel
theorem dq_DS_cart_156 : decode gc_DS_cart 156 = .ok (.iaload, 1) := by decide +kernel
theorem dq_DS_cart_157 : decode gc_DS_cart 157 = .ok (.ireturn, 1) := by decide +kernel
theorem dq_DS_cart_158 : decode gc_DS_cart 158 = .ok (.aload_n 0, 1) := by decide +kernel
theorem dq_DS_cart_159 : decode gc_DS_cart 159 = .ok (.getfield 31, 3) := by decide +kernel
theorem dq_DS_cart_162 : decode gc_DS_cart 162 = .ok (.getfield 175, 3) := by decide +kernel
theorem dq_DS_cart_165 : decode gc_DS_cart 165 = .ok (.iload_n 1, 1) := by decide +kernel
theorem dq_DS_cart_166 : decode gc_DS_cart 166 = .ok (.iaload, 1) := by decide +kernel
theorem dq_DS_cart_167 : decode gc_DS_cart 167 = .ok (.iconst 3, 1) := by decide +kernel
theorem dq_DS_cart_168 : decode gc_DS_cart 168 = .ok (.if_icmp .ne 25, 3) := by decide +kernel
theorem dq_DS_cart_171 : decode gc_DS_cart 171 = .ok (.aload_n 0, 1) := by decide +kernel
theorem dq_DS_cart_172 : decode gc_DS_cart 172 = .ok (.getfield 31, 3) := by decide +kernel
theorem dq_DS_cart_175 : decode gc_DS_cart 175 = .ok (.getfield 181, 3) := by decide +kernel
theorem dq_DS_cart_178 : decode gc_DS_cart 178 = .ok (.iload_n 1, 1) := by decide +kernel
theorem dq_DS_cart_179 : decode gc_DS_cart 179 = .ok (.iaload, 1) := by decide +kernel
theorem dq_DS_cart_180 : decode gc_DS_cart 180 = .ok (.aload_n 0, 1) := by decide +kernel
theorem dq_DS_cart_181 : decode gc_DS_cart 181 = .ok (.getfield 10, 3) := by decide +kernel
theorem dq_DS_cart_184 : decode gc_DS_cart 184 = .ok (.getfield 166, 3) := by decide +kernel
theorem dq_DS_cart_187 : decode gc_DS_cart 187 = .ok (.iload_n 1, 1) := by decide +kernel
theorem dq_DS_cart_188 : decode gc_DS_cart 188 = .ok (.iaload, 1) := by decide +kernel
theorem dq_DS_cart_189 : decode gc_DS_cart 189 = .ok (.isub, 1) := by decide +kernel
theorem dq_DS_cart_190 : decode gc_DS_cart 190 = .ok (.goto 4, 3) := by decide +kernel
theorem dq_DS_cart_193 : decode gc_DS_cart 193 = .ok (.iconst (-1), 1) := by decide +kernel
theorem dq_DS_cart_194 : decode gc_DS_cart 194 = .ok (.ireturn, 1) := by decide +kernel
theorem dq_DS_cart_195 : decode gc_DS_cart 195 = .ok (.ldc 80, 2) := by decide +kernel
theorem dq_DS_cart_197 : decode gc_DS_cart 197 = .ok (.ireturn, 1) := by decide +kernel
abbrev gm_DS_cart : gM := (gc_DS_cart, gR_6, 2, 43, 3)
set_option maxRecDepth 20000 in
theorem gcy_DS_157 : gCy gR_6 157 gy_DS_isNoCart gc_DS_isNoCart 2 (some .boolean) 1 := ⟨(gtab_at 441 (by decide +kernel) rfl), (gtab_at 1 (by decide +kernel) rfl), (gtab_at 444 rfl rfl), by decide, by decide, by decide +kernel⟩
theorem gim_DS_isNoCart : Cond.instanceMethod gy_DS_isNoCart ∈ gtbl := (gtab_at 443 (by decide +kernel) rfl)
theorem gse_DS_isNoCart : Cond.selects gy_DS_isNoCart.cls gy_DS_isNoCart gy_DS_isNoCart ∈ gtbl := (by decide +kernel)
theorem gfl_DS_160 : gFl gR_6 160 0 8 := ⟨_, _, _, rfl, by decide, (gtab_at 65 (by decide +kernel) rfl), gin_0⟩
theorem gfl_DS_163 : gFl gR_6 163 0 9 := ⟨_, _, _, rfl, by decide, (gtab_at 68 (by decide +kernel) rfl), gin_0⟩
theorem gfl_DS_166 : gFl gR_6 166 0 10 := ⟨_, _, _, rfl, by decide, (gtab_at 72 (by decide +kernel) rfl), gin_0⟩
theorem gfl_DS_169 : gFl gR_6 169 4 7 := ⟨_, _, _, rfl, by decide, (gtab_at 170 (by decide +kernel) rfl), gin_4⟩
theorem gfl_DS_172 : gFl gR_6 172 0 12 := ⟨_, _, _, rfl, by decide, (gtab_at 79 (by decide +kernel) rfl), gin_0⟩
theorem gfl_DS_175 : gFl gR_6 175 4 8 := ⟨_, _, _, rfl, by decide, (gtab_at 172 (by decide +kernel) rfl), gin_4⟩
theorem gfl_DS_178 : gFl gR_6 178 4 9 := ⟨_, _, _, rfl, by decide, (gtab_at 174 (by decide +kernel) rfl), gin_4⟩
theorem gfl_DS_181 : gFl gR_6 181 4 10 := ⟨_, _, _, rfl, by decide, (gtab_at 176 (by decide +kernel) rfl), gin_4⟩
theorem gfl_DS_184 : gFl gR_6 184 4 11 := ⟨_, _, _, rfl, by decide, (gtab_at 178 (by decide +kernel) rfl), gin_4⟩
def f_DS_cart (a1 : Int) (a2 : Int) (h : gH) : Option gO := gb (f_DS_isNoCart a1 h) (fun h1 r2 => if r2 = 0 then (if a2 = 0 then (gd (gcl ((h1 0 0).toNat) 0) (gd (gix 6 a1) (some (h1, (h1 ((h1 0 0).toNat + 5) a1.toNat))))) else (if a2 = 1 then (gd (gcl ((h1 0 0).toNat) 0) (gd (gix 6 a1) (some (h1, (h1 ((h1 0 0).toNat + 6) a1.toNat))))) else (if a2 = 2 then (gd (gcl ((h1 0 0).toNat) 0) (gd (gix 6 a1) (some (h1, (h1 ((h1 0 0).toNat + 7) a1.toNat))))) else (if a2 = 3 then (gd (gix 6 a1) (some (h1, (h1 32 a1.toNat)))) else (if a2 = 4 then (gd (gcl ((h1 0 0).toNat) 0) (gd (gix 6 a1) (some (h1, (h1 ((h1 0 0).toNat + 9) a1.toNat))))) else (if a2 = 5 then (gd (gix 6 a1) (some (h1, (h1 33 a1.toNat)))) else (if a2 = 6 then (gd (gix 6 a1) (some (h1, (h1 34 a1.toNat)))) else (if a2 = 7 then (gd (gix 6 a1) (some (h1, (h1 35 a1.toNat)))) else (if a2 = 8 then (gd (gix 6 a1) (some (h1, (h1 36 a1.toNat)))) else (if a2 = 9 then (gd (gix 6 a1) (if (h1 33 a1.toNat) = 3 then (gd (gix 6 a1) (gd (gcl ((h1 0 0).toNat) 0) (gd (gix 6 a1) (some (h1, (gsub (h1 35 a1.toNat) (h1 ((h1 0 0).toNat + 7) a1.toNat))))))) else (some (h1, (-1))))) else (some (h1, (-1000000002))))))))))))) else (some (h1, (-1000000001))))
theorem c_DS_cart {Z : gZ} (hL : gLive Z) (hn : (zL Z).Nodup) {a1 : Int} {a2 : Int}  {h : gH} {o : gO} (hg : gRg h) (ha : gRl [.inr (.inr 0), .inl a1, .inl a2]) (hx : f_DS_cart a1 a2 h = some o) : gC Z gy_DS_cart gc_DS_cart 3 (some .int) 2 43 [.inr (.inr 0), .inl a1, .inl a2] h o := by
  unfold f_DS_cart at hx
  refine gC_of (lv := [(0, .inr (.inr 0)), (1, .inl a1), (2, .inl a2)]) (own := gR_6) (by decide +kernel) rfl (Nat.le_of_ble_eq_true rfl) rfl rfl hn hg ha hx (fun X hZ hF => ?_)
  subst hZ
  show gr _ o gm_DS_cart X h 0 _ _
  refine gr_aload_n (M := gm_DS_cart) dq_DS_cart_0 rfl 0 rfl 1 rfl ?_
  refine gr_iload_n (M := gm_DS_cart) dq_DS_cart_1 rfl 1 rfl 2 rfl ?_
  refine gr_callVi (M := gm_DS_cart) (as := [.inl a1]) dq_DS_cart_2 5 rfl rfl gcy_DS_157 gim_DS_isNoCart gse_DS_isNoCart ⟨by decide, by decide⟩ (Nat.le_of_ble_eq_true rfl) gsh_0 rfl (gli hL gsh_0) (fun o1 hg ha hx => c_DS_isNoCart hL hn  hg ha hx) (fun h1 r2 _ => ?_)
  refine gr_if_eq (M := gm_DS_cart) dq_DS_cart_5 11 8 rfl rfl (fun c3 => ?_) (fun c3 => ?_)
  · refine gr_iload_n (M := gm_DS_cart) dq_DS_cart_11 rfl 2 rfl 12 rfl ?_
    refine gr_ite (M := gm_DS_cart) (fun c4 => ?_) (fun c4 => ?_)
    · refine gr_tswIn (M := gm_DS_cart) dq_DS_cart_12 0 c4 (by decide) (by decide) rfl 68 rfl ?_
      refine gr_aload_n (M := gm_DS_cart) dq_DS_cart_68 rfl 0 rfl 69 rfl ?_
      refine gr_getd (M := gm_DS_cart) dq_DS_cart_69 72 rfl gfl_DS_10 gsh_0 rfl (gli hL gsh_0) (fun hc5 => ?_)
      refine gr_getr (M := gm_DS_cart) dq_DS_cart_72 75 rfl gfl_DS_160 (gclE hc5) rfl (gli hL (gclE hc5)) ((h1 0 0).toNat + 5) rfl ?_
      refine gr_iload_n (M := gm_DS_cart) dq_DS_cart_75 rfl 1 rfl 76 rfl ?_
      refine gr_iald (M := gm_DS_cart) dq_DS_cart_76 77 rfl (gsC_5 (gclE hc5)) (glj hL (gsC_5 (gclE hc5)) (by decide)) ?_
      exact gr_ireturn (M := gm_DS_cart) dq_DS_cart_77 hF
    refine gr_ite (M := gm_DS_cart) (fun c6 => ?_) (fun c6 => ?_)
    · refine gr_tswIn (M := gm_DS_cart) dq_DS_cart_12 1 c6 (by decide) (by decide) rfl 78 rfl ?_
      refine gr_aload_n (M := gm_DS_cart) dq_DS_cart_78 rfl 0 rfl 79 rfl ?_
      refine gr_getd (M := gm_DS_cart) dq_DS_cart_79 82 rfl gfl_DS_10 gsh_0 rfl (gli hL gsh_0) (fun hc7 => ?_)
      refine gr_getr (M := gm_DS_cart) dq_DS_cart_82 85 rfl gfl_DS_163 (gclE hc7) rfl (gli hL (gclE hc7)) ((h1 0 0).toNat + 6) rfl ?_
      refine gr_iload_n (M := gm_DS_cart) dq_DS_cart_85 rfl 1 rfl 86 rfl ?_
      refine gr_iald (M := gm_DS_cart) dq_DS_cart_86 87 rfl (gsC_6 (gclE hc7)) (glj hL (gsC_6 (gclE hc7)) (by decide)) ?_
      exact gr_ireturn (M := gm_DS_cart) dq_DS_cart_87 hF
    refine gr_ite (M := gm_DS_cart) (fun c8 => ?_) (fun c8 => ?_)
    · refine gr_tswIn (M := gm_DS_cart) dq_DS_cart_12 2 c8 (by decide) (by decide) rfl 88 rfl ?_
      refine gr_aload_n (M := gm_DS_cart) dq_DS_cart_88 rfl 0 rfl 89 rfl ?_
      refine gr_getd (M := gm_DS_cart) dq_DS_cart_89 92 rfl gfl_DS_10 gsh_0 rfl (gli hL gsh_0) (fun hc9 => ?_)
      refine gr_getr (M := gm_DS_cart) dq_DS_cart_92 95 rfl gfl_DS_166 (gclE hc9) rfl (gli hL (gclE hc9)) ((h1 0 0).toNat + 7) rfl ?_
      refine gr_iload_n (M := gm_DS_cart) dq_DS_cart_95 rfl 1 rfl 96 rfl ?_
      refine gr_iald (M := gm_DS_cart) dq_DS_cart_96 97 rfl (gsC_7 (gclE hc9)) (glj hL (gsC_7 (gclE hc9)) (by decide)) ?_
      exact gr_ireturn (M := gm_DS_cart) dq_DS_cart_97 hF
    refine gr_ite (M := gm_DS_cart) (fun c10 => ?_) (fun c10 => ?_)
    · refine gr_tswIn (M := gm_DS_cart) dq_DS_cart_12 3 c10 (by decide) (by decide) rfl 98 rfl ?_
      refine gr_aload_n (M := gm_DS_cart) dq_DS_cart_98 rfl 0 rfl 99 rfl ?_
      refine gr_geta (M := gm_DS_cart) dq_DS_cart_99 102 rfl gfl_DS_31 gsh_0 rfl (gli hL gsh_0) ?_
      refine gr_getr (M := gm_DS_cart) dq_DS_cart_102 105 rfl gfl_DS_169 gsh_27 rfl (gli hL gsh_27) 32 rfl ?_
      refine gr_iload_n (M := gm_DS_cart) dq_DS_cart_105 rfl 1 rfl 106 rfl ?_
      refine gr_iald (M := gm_DS_cart) dq_DS_cart_106 107 rfl gsh_32 (glj hL gsh_32 (by decide)) ?_
      exact gr_ireturn (M := gm_DS_cart) dq_DS_cart_107 hF
    refine gr_ite (M := gm_DS_cart) (fun c11 => ?_) (fun c11 => ?_)
    · refine gr_tswIn (M := gm_DS_cart) dq_DS_cart_12 4 c11 (by decide) (by decide) rfl 108 rfl ?_
      refine gr_aload_n (M := gm_DS_cart) dq_DS_cart_108 rfl 0 rfl 109 rfl ?_
      refine gr_getd (M := gm_DS_cart) dq_DS_cart_109 112 rfl gfl_DS_10 gsh_0 rfl (gli hL gsh_0) (fun hc12 => ?_)
      refine gr_getr (M := gm_DS_cart) dq_DS_cart_112 115 rfl gfl_DS_172 (gclE hc12) rfl (gli hL (gclE hc12)) ((h1 0 0).toNat + 9) rfl ?_
      refine gr_iload_n (M := gm_DS_cart) dq_DS_cart_115 rfl 1 rfl 116 rfl ?_
      refine gr_iald (M := gm_DS_cart) dq_DS_cart_116 117 rfl (gsC_9 (gclE hc12)) (glj hL (gsC_9 (gclE hc12)) (by decide)) ?_
      exact gr_ireturn (M := gm_DS_cart) dq_DS_cart_117 hF
    refine gr_ite (M := gm_DS_cart) (fun c13 => ?_) (fun c13 => ?_)
    · refine gr_tswIn (M := gm_DS_cart) dq_DS_cart_12 5 c13 (by decide) (by decide) rfl 118 rfl ?_
      refine gr_aload_n (M := gm_DS_cart) dq_DS_cart_118 rfl 0 rfl 119 rfl ?_
      refine gr_geta (M := gm_DS_cart) dq_DS_cart_119 122 rfl gfl_DS_31 gsh_0 rfl (gli hL gsh_0) ?_
      refine gr_getr (M := gm_DS_cart) dq_DS_cart_122 125 rfl gfl_DS_175 gsh_27 rfl (gli hL gsh_27) 33 rfl ?_
      refine gr_iload_n (M := gm_DS_cart) dq_DS_cart_125 rfl 1 rfl 126 rfl ?_
      refine gr_iald (M := gm_DS_cart) dq_DS_cart_126 127 rfl gsh_33 (glj hL gsh_33 (by decide)) ?_
      exact gr_ireturn (M := gm_DS_cart) dq_DS_cart_127 hF
    refine gr_ite (M := gm_DS_cart) (fun c14 => ?_) (fun c14 => ?_)
    · refine gr_tswIn (M := gm_DS_cart) dq_DS_cart_12 6 c14 (by decide) (by decide) rfl 128 rfl ?_
      refine gr_aload_n (M := gm_DS_cart) dq_DS_cart_128 rfl 0 rfl 129 rfl ?_
      refine gr_geta (M := gm_DS_cart) dq_DS_cart_129 132 rfl gfl_DS_31 gsh_0 rfl (gli hL gsh_0) ?_
      refine gr_getr (M := gm_DS_cart) dq_DS_cart_132 135 rfl gfl_DS_178 gsh_27 rfl (gli hL gsh_27) 34 rfl ?_
      refine gr_iload_n (M := gm_DS_cart) dq_DS_cart_135 rfl 1 rfl 136 rfl ?_
      refine gr_iald (M := gm_DS_cart) dq_DS_cart_136 137 rfl gsh_34 (glj hL gsh_34 (by decide)) ?_
      exact gr_ireturn (M := gm_DS_cart) dq_DS_cart_137 hF
    refine gr_ite (M := gm_DS_cart) (fun c15 => ?_) (fun c15 => ?_)
    · refine gr_tswIn (M := gm_DS_cart) dq_DS_cart_12 7 c15 (by decide) (by decide) rfl 138 rfl ?_
      refine gr_aload_n (M := gm_DS_cart) dq_DS_cart_138 rfl 0 rfl 139 rfl ?_
      refine gr_geta (M := gm_DS_cart) dq_DS_cart_139 142 rfl gfl_DS_31 gsh_0 rfl (gli hL gsh_0) ?_
      refine gr_getr (M := gm_DS_cart) dq_DS_cart_142 145 rfl gfl_DS_181 gsh_27 rfl (gli hL gsh_27) 35 rfl ?_
      refine gr_iload_n (M := gm_DS_cart) dq_DS_cart_145 rfl 1 rfl 146 rfl ?_
      refine gr_iald (M := gm_DS_cart) dq_DS_cart_146 147 rfl gsh_35 (glj hL gsh_35 (by decide)) ?_
      exact gr_ireturn (M := gm_DS_cart) dq_DS_cart_147 hF
    refine gr_ite (M := gm_DS_cart) (fun c16 => ?_) (fun c16 => ?_)
    · refine gr_tswIn (M := gm_DS_cart) dq_DS_cart_12 8 c16 (by decide) (by decide) rfl 148 rfl ?_
      refine gr_aload_n (M := gm_DS_cart) dq_DS_cart_148 rfl 0 rfl 149 rfl ?_
      refine gr_geta (M := gm_DS_cart) dq_DS_cart_149 152 rfl gfl_DS_31 gsh_0 rfl (gli hL gsh_0) ?_
      refine gr_getr (M := gm_DS_cart) dq_DS_cart_152 155 rfl gfl_DS_184 gsh_27 rfl (gli hL gsh_27) 36 rfl ?_
      refine gr_iload_n (M := gm_DS_cart) dq_DS_cart_155 rfl 1 rfl 156 rfl ?_
      refine gr_iald (M := gm_DS_cart) dq_DS_cart_156 157 rfl gsh_36 (glj hL gsh_36 (by decide)) ?_
      exact gr_ireturn (M := gm_DS_cart) dq_DS_cart_157 hF
    refine gr_ite (M := gm_DS_cart) (fun c17 => ?_) (fun c17 => ?_)
    · refine gr_tswIn (M := gm_DS_cart) dq_DS_cart_12 9 c17 (by decide) (by decide) rfl 158 rfl ?_
      refine gr_aload_n (M := gm_DS_cart) dq_DS_cart_158 rfl 0 rfl 159 rfl ?_
      refine gr_geta (M := gm_DS_cart) dq_DS_cart_159 162 rfl gfl_DS_31 gsh_0 rfl (gli hL gsh_0) ?_
      refine gr_getr (M := gm_DS_cart) dq_DS_cart_162 165 rfl gfl_DS_175 gsh_27 rfl (gli hL gsh_27) 33 rfl ?_
      refine gr_iload_n (M := gm_DS_cart) dq_DS_cart_165 rfl 1 rfl 166 rfl ?_
      refine gr_iald (M := gm_DS_cart) dq_DS_cart_166 167 rfl gsh_33 (glj hL gsh_33 (by decide)) ?_
      refine gr_iconst (M := gm_DS_cart) (v := 3) dq_DS_cart_167 rfl ⟨by decide, by decide⟩ 168 rfl ?_
      refine gr_icmp_ne (M := gm_DS_cart) dq_DS_cart_168 193 171 rfl rfl (fun c18 => ?_) (fun c18 => ?_)
      · refine gr_iconst (M := gm_DS_cart) (v := (-1)) dq_DS_cart_193 rfl ⟨by decide, by decide⟩ 194 rfl ?_
        exact gr_ireturn (M := gm_DS_cart) dq_DS_cart_194 hF
      refine gr_aload_n (M := gm_DS_cart) dq_DS_cart_171 rfl 0 rfl 172 rfl ?_
      refine gr_geta (M := gm_DS_cart) dq_DS_cart_172 175 rfl gfl_DS_31 gsh_0 rfl (gli hL gsh_0) ?_
      refine gr_getr (M := gm_DS_cart) dq_DS_cart_175 178 rfl gfl_DS_181 gsh_27 rfl (gli hL gsh_27) 35 rfl ?_
      refine gr_iload_n (M := gm_DS_cart) dq_DS_cart_178 rfl 1 rfl 179 rfl ?_
      refine gr_iald (M := gm_DS_cart) dq_DS_cart_179 180 rfl gsh_35 (glj hL gsh_35 (by decide)) ?_
      refine gr_aload_n (M := gm_DS_cart) dq_DS_cart_180 rfl 0 rfl 181 rfl ?_
      refine gr_getd (M := gm_DS_cart) dq_DS_cart_181 184 rfl gfl_DS_10 gsh_0 rfl (gli hL gsh_0) (fun hc19 => ?_)
      refine gr_getr (M := gm_DS_cart) dq_DS_cart_184 187 rfl gfl_DS_166 (gclE hc19) rfl (gli hL (gclE hc19)) ((h1 0 0).toNat + 7) rfl ?_
      refine gr_iload_n (M := gm_DS_cart) dq_DS_cart_187 rfl 1 rfl 188 rfl ?_
      refine gr_iald (M := gm_DS_cart) dq_DS_cart_188 189 rfl (gsC_7 (gclE hc19)) (glj hL (gsC_7 (gclE hc19)) (by decide)) ?_
      refine gr_isub (M := gm_DS_cart) dq_DS_cart_189 190 rfl ?_
      refine gr_goto (M := gm_DS_cart) dq_DS_cart_190 194 rfl ?_
      exact gr_ireturn (M := gm_DS_cart) dq_DS_cart_194 hF
    refine gr_tswOut (M := gm_DS_cart) dq_DS_cart_12 (by omega) 195 rfl ?_
    refine gr_ldc (M := gm_DS_cart) (v := (-1000000002)) dq_DS_cart_195 gk_DS_80 ⟨by decide, by decide⟩ 197 rfl ?_
    exact gr_ireturn (M := gm_DS_cart) dq_DS_cart_197 hF
  refine gr_ldc (M := gm_DS_cart) (v := (-1000000001)) dq_DS_cart_8 gk_DS_130 ⟨by decide, by decide⟩ 10 rfl ?_
  exact gr_ireturn (M := gm_DS_cart) dq_DS_cart_10 hF

-- DS_next
theorem dq_DS_next_0 : decode gc_DS_next 0 = .ok (.aload_n 0, 1) := by decide +kernel
theorem dq_DS_next_1 : decode gc_DS_next 1 = .ok (.iload_n 1, 1) := by decide +kernel
theorem dq_DS_next_2 : decode gc_DS_next 2 = .ok (.invokevirtual 157, 3) := by decide +kernel
theorem dq_DS_next_5 : decode gc_DS_next 5 = .ok (.ifCond .eq 6, 3) := by decide +kernel
theorem dq_DS_next_8 : decode gc_DS_next 8 = .ok (.ldc 130, 2) := by decide +kernel
theorem dq_DS_next_10 : decode gc_DS_next 10 = .ok (.ireturn, 1) := by decide +kernel
theorem dq_DS_next_11 : decode gc_DS_next 11 = .ok (.aload_n 0, 1) := by decide +kernel
theorem dq_DS_next_12 : decode gc_DS_next 12 = .ok (.getfield 31, 3) := by decide +kernel
theorem dq_DS_next_15 : decode gc_DS_next 15 = .ok (.getfield 175, 3) := by decide +kernel
theorem dq_DS_next_18 : decode gc_DS_next 18 = .ok (.iload_n 1, 1) := by decide +kernel
theorem dq_DS_next_19 : decode gc_DS_next 19 = .ok (.iaload, 1) := by decide +kernel
theorem dq_DS_next_20 : decode gc_DS_next 20 = .ok (.iconst 1, 1) := by decide +kernel
theorem dq_DS_next_21 : decode gc_DS_next 21 = .ok (.if_icmp .ne 31, 3) := by decide +kernel
theorem dq_DS_next_24 : decode gc_DS_next 24 = .ok (.aload_n 0, 1) := by decide +kernel
theorem dq_DS_next_25 : decode gc_DS_next 25 = .ok (.getfield 10, 3) := by decide +kernel
theorem dq_DS_next_28 : decode gc_DS_next 28 = .ok (.aload_n 0, 1) := by decide +kernel
theorem dq_DS_next_29 : decode gc_DS_next 29 = .ok (.getfield 31, 3) := by decide +kernel
theorem dq_DS_next_32 : decode gc_DS_next 32 = .ok (.getfield 178, 3) := by decide +kernel
theorem dq_DS_next_35 : decode gc_DS_next 35 = .ok (.iload_n 1, 1) := by decide +kernel
theorem dq_DS_next_36 : decode gc_DS_next 36 = .ok (.iaload, 1) := by decide +kernel
theorem dq_DS_next_37 : decode gc_DS_next 37 = .ok (.aload_n 0, 1) := by decide +kernel
theorem dq_DS_next_38 : decode gc_DS_next 38 = .ok (.getfield 10, 3) := by decide +kernel
theorem dq_DS_next_41 : decode gc_DS_next 41 = .ok (.getfield 163, 3) := by decide +kernel
theorem dq_DS_next_44 : decode gc_DS_next 44 = .ok (.iload_n 1, 1) := by decide +kernel
theorem dq_DS_next_45 : decode gc_DS_next 45 = .ok (.iaload, 1) := by decide +kernel
theorem dq_DS_next_46 : decode gc_DS_next 46 = .ok (.invokevirtual 187, 3) := by decide +kernel
theorem dq_DS_next_49 : decode gc_DS_next 49 = .ok (.goto 4, 3) := by decide +kernel
theorem dq_DS_next_52 : decode gc_DS_next 52 = .ok (.iconst (-1), 1) := by decide +kernel
theorem dq_DS_next_53 : decode gc_DS_next 53 = .ok (.ireturn, 1) := by decide +kernel
abbrev gm_DS_next : gM := (gc_DS_next, gR_6, 2, 43, 2)
set_option maxRecDepth 20000 in
theorem gcy_DS_187 : gCy gR_6 187 gy_City_nextStreet gc_City_nextStreet 3 (some .int) 2 := ⟨(gtab_at 449 (by decide +kernel) rfl), (gtab_at 2 (by decide +kernel) rfl), (gtab_at 452 rfl rfl), by decide, by decide, by decide +kernel⟩
def f_DS_next (a1 : Int) (h : gH) : Option gO := gb (f_DS_isNoCart a1 h) (fun h1 r2 => if r2 = 0 then (gd (gix 6 a1) (if (h1 33 a1.toNat) = 1 then (gd (gcl ((h1 0 0).toNat) 0) (gd (gix 6 a1) (gd (gcl ((h1 0 0).toNat) 0) (gd (gix 6 a1) (gb (f_City_nextStreet (h1 0 0).toNat (h1 34 a1.toNat) (h1 ((h1 0 0).toNat + 6) a1.toNat) h1) (fun h7 r8 => some (h7, r8))))))) else (some (h1, (-1))))) else (some (h1, (-1000000001))))
theorem c_DS_next {Z : gZ} (hL : gLive Z) (hn : (zL Z).Nodup) {a1 : Int}  {h : gH} {o : gO} (hg : gRg h) (ha : gRl [.inr (.inr 0), .inl a1]) (hx : f_DS_next a1 h = some o) : gC Z gy_DS_next gc_DS_next 2 (some .int) 2 43 [.inr (.inr 0), .inl a1] h o := by
  unfold f_DS_next at hx
  refine gC_of (lv := [(0, .inr (.inr 0)), (1, .inl a1)]) (own := gR_6) (by decide +kernel) rfl (Nat.le_of_ble_eq_true rfl) rfl rfl hn hg ha hx (fun X hZ hF => ?_)
  subst hZ
  show gr _ o gm_DS_next X h 0 _ _
  refine gr_aload_n (M := gm_DS_next) dq_DS_next_0 rfl 0 rfl 1 rfl ?_
  refine gr_iload_n (M := gm_DS_next) dq_DS_next_1 rfl 1 rfl 2 rfl ?_
  refine gr_callVi (M := gm_DS_next) (as := [.inl a1]) dq_DS_next_2 5 rfl rfl gcy_DS_157 gim_DS_isNoCart gse_DS_isNoCart ⟨by decide, by decide⟩ (Nat.le_of_ble_eq_true rfl) gsh_0 rfl (gli hL gsh_0) (fun o1 hg ha hx => c_DS_isNoCart hL hn  hg ha hx) (fun h1 r2 _ => ?_)
  refine gr_if_eq (M := gm_DS_next) dq_DS_next_5 11 8 rfl rfl (fun c3 => ?_) (fun c3 => ?_)
  · refine gr_aload_n (M := gm_DS_next) dq_DS_next_11 rfl 0 rfl 12 rfl ?_
    refine gr_geta (M := gm_DS_next) dq_DS_next_12 15 rfl gfl_DS_31 gsh_0 rfl (gli hL gsh_0) ?_
    refine gr_getr (M := gm_DS_next) dq_DS_next_15 18 rfl gfl_DS_175 gsh_27 rfl (gli hL gsh_27) 33 rfl ?_
    refine gr_iload_n (M := gm_DS_next) dq_DS_next_18 rfl 1 rfl 19 rfl ?_
    refine gr_iald (M := gm_DS_next) dq_DS_next_19 20 rfl gsh_33 (glj hL gsh_33 (by decide)) ?_
    refine gr_iconst (M := gm_DS_next) (v := 1) dq_DS_next_20 rfl ⟨by decide, by decide⟩ 21 rfl ?_
    refine gr_icmp_ne (M := gm_DS_next) dq_DS_next_21 52 24 rfl rfl (fun c4 => ?_) (fun c4 => ?_)
    · refine gr_iconst (M := gm_DS_next) (v := (-1)) dq_DS_next_52 rfl ⟨by decide, by decide⟩ 53 rfl ?_
      exact gr_ireturn (M := gm_DS_next) dq_DS_next_53 hF
    refine gr_aload_n (M := gm_DS_next) dq_DS_next_24 rfl 0 rfl 25 rfl ?_
    refine gr_getd (M := gm_DS_next) dq_DS_next_25 28 rfl gfl_DS_10 gsh_0 rfl (gli hL gsh_0) (fun hc5 => ?_)
    refine gr_aload_n (M := gm_DS_next) dq_DS_next_28 rfl 0 rfl 29 rfl ?_
    refine gr_geta (M := gm_DS_next) dq_DS_next_29 32 rfl gfl_DS_31 gsh_0 rfl (gli hL gsh_0) ?_
    refine gr_getr (M := gm_DS_next) dq_DS_next_32 35 rfl gfl_DS_178 gsh_27 rfl (gli hL gsh_27) 34 rfl ?_
    refine gr_iload_n (M := gm_DS_next) dq_DS_next_35 rfl 1 rfl 36 rfl ?_
    refine gr_iald (M := gm_DS_next) dq_DS_next_36 37 rfl gsh_34 (glj hL gsh_34 (by decide)) ?_
    refine gr_aload_n (M := gm_DS_next) dq_DS_next_37 rfl 0 rfl 38 rfl ?_
    refine gr_getd (M := gm_DS_next) dq_DS_next_38 41 rfl gfl_DS_10 gsh_0 rfl (gli hL gsh_0) (fun hc6 => ?_)
    refine gr_getr (M := gm_DS_next) dq_DS_next_41 44 rfl gfl_DS_163 (gclE hc6) rfl (gli hL (gclE hc6)) ((h1 0 0).toNat + 6) rfl ?_
    refine gr_iload_n (M := gm_DS_next) dq_DS_next_44 rfl 1 rfl 45 rfl ?_
    refine gr_iald (M := gm_DS_next) dq_DS_next_45 46 rfl (gsC_6 (gclE hc6)) (glj hL (gsC_6 (gclE hc6)) (by decide)) ?_
    refine gr_callVi (M := gm_DS_next) (as := [.inl (h1 34 a1.toNat), .inl (h1 ((h1 0 0).toNat + 6) a1.toNat)]) dq_DS_next_46 49 rfl rfl gcy_DS_187 gim_City_nextStreet gse_City_nextStreet ⟨by decide, by decide⟩ (Nat.le_of_ble_eq_true rfl) (gclE hc5) rfl (gli hL (gclE hc5)) (fun o1 hg ha hx => c_City_nextStreet hL hn (gclE hc5) hg ha hx) (fun h7 r8 _ => ?_)
    refine gr_goto (M := gm_DS_next) dq_DS_next_49 53 rfl ?_
    exact gr_ireturn (M := gm_DS_next) dq_DS_next_53 hF
  refine gr_ldc (M := gm_DS_next) (v := (-1000000001)) dq_DS_next_8 gk_DS_130 ⟨by decide, by decide⟩ 10 rfl ?_
  exact gr_ireturn (M := gm_DS_next) dq_DS_next_10 hF

-- DS_foremost
theorem dq_DS_foremost_0 : decode gc_DS_foremost 0 = .ok (.aload_n 0, 1) := by decide +kernel
theorem dq_DS_foremost_1 : decode gc_DS_foremost 1 = .ok (.iload_n 1, 1) := by decide +kernel
theorem dq_DS_foremost_2 : decode gc_DS_foremost 2 = .ok (.invokevirtual 135, 3) := by decide +kernel
theorem dq_DS_foremost_5 : decode gc_DS_foremost 5 = .ok (.ifCond .eq 6, 3) := by decide +kernel
theorem dq_DS_foremost_8 : decode gc_DS_foremost 8 = .ok (.ldc 130, 2) := by decide +kernel
theorem dq_DS_foremost_10 : decode gc_DS_foremost 10 = .ok (.ireturn, 1) := by decide +kernel
theorem dq_DS_foremost_11 : decode gc_DS_foremost 11 = .ok (.iload_n 2, 1) := by decide +kernel
theorem dq_DS_foremost_12 : decode gc_DS_foremost 12 = .ok (.iconst 0, 1) := by decide +kernel
theorem dq_DS_foremost_13 : decode gc_DS_foremost 13 = .ok (.iconst 1, 1) := by decide +kernel
theorem dq_DS_foremost_14 : decode gc_DS_foremost 14 = .ok (.invokestatic 76, 3) := by decide +kernel
theorem dq_DS_foremost_17 : decode gc_DS_foremost 17 = .ok (.ifCond .eq 6, 3) := by decide +kernel
theorem dq_DS_foremost_20 : decode gc_DS_foremost 20 = .ok (.ldc 80, 2) := by decide +kernel
theorem dq_DS_foremost_22 : decode gc_DS_foremost 22 = .ok (.ireturn, 1) := by decide +kernel
theorem dq_DS_foremost_23 : decode gc_DS_foremost 23 = .ok (.aload_n 0, 1) := by decide +kernel
theorem dq_DS_foremost_24 : decode gc_DS_foremost 24 = .ok (.getfield 31, 3) := by decide +kernel
theorem dq_DS_foremost_27 : decode gc_DS_foremost 27 = .ok (.aload_n 0, 1) := by decide +kernel
theorem dq_DS_foremost_28 : decode gc_DS_foremost 28 = .ok (.getfield 31, 3) := by decide +kernel
theorem dq_DS_foremost_31 : decode gc_DS_foremost 31 = .ok (.getfield 190, 3) := by decide +kernel
theorem dq_DS_foremost_34 : decode gc_DS_foremost 34 = .ok (.iconst 2, 1) := by decide +kernel
theorem dq_DS_foremost_35 : decode gc_DS_foremost 35 = .ok (.iload_n 1, 1) := by decide +kernel
theorem dq_DS_foremost_36 : decode gc_DS_foremost 36 = .ok (.imul, 1) := by decide +kernel
theorem dq_DS_foremost_37 : decode gc_DS_foremost 37 = .ok (.iload_n 2, 1) := by decide +kernel
theorem dq_DS_foremost_38 : decode gc_DS_foremost 38 = .ok (.iadd, 1) := by decide +kernel
theorem dq_DS_foremost_39 : decode gc_DS_foremost 39 = .ok (.iaload, 1) := by decide +kernel
theorem dq_DS_foremost_40 : decode gc_DS_foremost 40 = .ok (.invokevirtual 193, 3) := by decide +kernel
theorem dq_DS_foremost_43 : decode gc_DS_foremost 43 = .ok (.ireturn, 1) := by decide +kernel
abbrev gm_DS_foremost : gM := (gc_DS_foremost, gR_6, 2, 45, 3)
theorem gfl_DS_190 : gFl gR_6 190 4 6 := ⟨_, _, _, rfl, by decide, (gtab_at 167 (by decide +kernel) rfl), gin_4⟩
set_option maxRecDepth 20000 in
theorem gcy_DS_193 : gCy gR_6 193 gy_Traffic_firstOf gc_Traffic_firstOf 4 (some .int) 1 := ⟨(gtab_at 457 (by decide +kernel) rfl), (gtab_at 4 (by decide +kernel) rfl), (gtab_at 460 rfl rfl), by decide, by decide, by decide +kernel⟩
def f_DS_foremost (a1 : Int) (a2 : Int) (h : gH) : Option gO := gb (f_DS_isNoStreet a1 h) (fun h1 r2 => if r2 = 0 then (gb (f_DS_isOutside a2 0 1 h1) (fun h4 r5 => if r5 = 0 then (gd (gix 18 (gadd (gmul 2 a1) a2)) (gb (f_Traffic_firstOf 27 (h4 31 (gadd (gmul 2 a1) a2).toNat) h4) (fun h7 r8 => some (h7, r8)))) else (some (h4, (-1000000002))))) else (some (h1, (-1000000001))))
theorem c_DS_foremost {Z : gZ} (hL : gLive Z) (hn : (zL Z).Nodup) {a1 : Int} {a2 : Int}  {h : gH} {o : gO} (hg : gRg h) (ha : gRl [.inr (.inr 0), .inl a1, .inl a2]) (hx : f_DS_foremost a1 a2 h = some o) : gC Z gy_DS_foremost gc_DS_foremost 3 (some .int) 2 45 [.inr (.inr 0), .inl a1, .inl a2] h o := by
  unfold f_DS_foremost at hx
  refine gC_of (lv := [(0, .inr (.inr 0)), (1, .inl a1), (2, .inl a2)]) (own := gR_6) (by decide +kernel) rfl (Nat.le_of_ble_eq_true rfl) rfl rfl hn hg ha hx (fun X hZ hF => ?_)
  subst hZ
  show gr _ o gm_DS_foremost X h 0 _ _
  refine gr_aload_n (M := gm_DS_foremost) dq_DS_foremost_0 rfl 0 rfl 1 rfl ?_
  refine gr_iload_n (M := gm_DS_foremost) dq_DS_foremost_1 rfl 1 rfl 2 rfl ?_
  refine gr_callVi (M := gm_DS_foremost) (as := [.inl a1]) dq_DS_foremost_2 5 rfl rfl gcy_DS_135 gim_DS_isNoStreet gse_DS_isNoStreet ⟨by decide, by decide⟩ (Nat.le_of_ble_eq_true rfl) gsh_0 rfl (gli hL gsh_0) (fun o1 hg ha hx => c_DS_isNoStreet hL hn  hg ha hx) (fun h1 r2 _ => ?_)
  refine gr_if_eq (M := gm_DS_foremost) dq_DS_foremost_5 11 8 rfl rfl (fun c3 => ?_) (fun c3 => ?_)
  · refine gr_iload_n (M := gm_DS_foremost) dq_DS_foremost_11 rfl 2 rfl 12 rfl ?_
    refine gr_iconst (M := gm_DS_foremost) (v := 0) dq_DS_foremost_12 rfl ⟨by decide, by decide⟩ 13 rfl ?_
    refine gr_iconst (M := gm_DS_foremost) (v := 1) dq_DS_foremost_13 rfl ⟨by decide, by decide⟩ 14 rfl ?_
    refine gr_callSi (M := gm_DS_foremost) (as := [.inl a2, .inl 0, .inl 1]) dq_DS_foremost_14 17 rfl rfl gcy_DS_76 gst_DS_isOutside ⟨by decide, by decide⟩ (Nat.le_of_ble_eq_true rfl) (fun o1 hg ha hx => c_DS_isOutside hL hn  hg ha hx) (fun h4 r5 _ => ?_)
    refine gr_if_eq (M := gm_DS_foremost) dq_DS_foremost_17 23 20 rfl rfl (fun c6 => ?_) (fun c6 => ?_)
    · refine gr_aload_n (M := gm_DS_foremost) dq_DS_foremost_23 rfl 0 rfl 24 rfl ?_
      refine gr_geta (M := gm_DS_foremost) dq_DS_foremost_24 27 rfl gfl_DS_31 gsh_0 rfl (gli hL gsh_0) ?_
      refine gr_aload_n (M := gm_DS_foremost) dq_DS_foremost_27 rfl 0 rfl 28 rfl ?_
      refine gr_geta (M := gm_DS_foremost) dq_DS_foremost_28 31 rfl gfl_DS_31 gsh_0 rfl (gli hL gsh_0) ?_
      refine gr_getr (M := gm_DS_foremost) dq_DS_foremost_31 34 rfl gfl_DS_190 gsh_27 rfl (gli hL gsh_27) 31 rfl ?_
      refine gr_iconst (M := gm_DS_foremost) (v := 2) dq_DS_foremost_34 rfl ⟨by decide, by decide⟩ 35 rfl ?_
      refine gr_iload_n (M := gm_DS_foremost) dq_DS_foremost_35 rfl 1 rfl 36 rfl ?_
      refine gr_imul (M := gm_DS_foremost) dq_DS_foremost_36 37 rfl ?_
      refine gr_iload_n (M := gm_DS_foremost) dq_DS_foremost_37 rfl 2 rfl 38 rfl ?_
      refine gr_iadd (M := gm_DS_foremost) dq_DS_foremost_38 39 rfl ?_
      refine gr_iald (M := gm_DS_foremost) dq_DS_foremost_39 40 rfl gsh_31 (glj hL gsh_31 (by decide)) ?_
      refine gr_callVi (M := gm_DS_foremost) (as := [.inl (h4 31 (gadd (gmul 2 a1) a2).toNat)]) dq_DS_foremost_40 43 rfl rfl gcy_DS_193 gim_Traffic_firstOf gse_Traffic_firstOf ⟨by decide, by decide⟩ (Nat.le_of_ble_eq_true rfl) gsh_27 rfl (gli hL gsh_27) (fun o1 hg ha hx => c_Traffic_firstOf hL hn gsh_27 hg ha hx) (fun h7 r8 _ => ?_)
      exact gr_ireturn (M := gm_DS_foremost) dq_DS_foremost_43 hF
    refine gr_ldc (M := gm_DS_foremost) (v := (-1000000002)) dq_DS_foremost_20 gk_DS_80 ⟨by decide, by decide⟩ 22 rfl ?_
    exact gr_ireturn (M := gm_DS_foremost) dq_DS_foremost_22 hF
  refine gr_ldc (M := gm_DS_foremost) (v := (-1000000001)) dq_DS_foremost_8 gk_DS_130 ⟨by decide, by decide⟩ 10 rfl ?_
  exact gr_ireturn (M := gm_DS_foremost) dq_DS_foremost_10 hF

-- DS_refusalOfMinutes
theorem dq_DS_refusalOfMinutes_0 : decode gc_DS_refusalOfMinutes 0 = .ok (.iload_n 1, 1) := by decide +kernel
theorem dq_DS_refusalOfMinutes_1 : decode gc_DS_refusalOfMinutes 1 = .ok (.iconst 1, 1) := by decide +kernel
theorem dq_DS_refusalOfMinutes_2 : decode gc_DS_refusalOfMinutes 2 = .ok (.sipush 300, 3) := by decide +kernel
theorem dq_DS_refusalOfMinutes_5 : decode gc_DS_refusalOfMinutes 5 = .ok (.invokestatic 76, 3) := by decide +kernel
theorem dq_DS_refusalOfMinutes_8 : decode gc_DS_refusalOfMinutes 8 = .ok (.ifCond .eq 6, 3) := by decide +kernel
theorem dq_DS_refusalOfMinutes_11 : decode gc_DS_refusalOfMinutes 11 = .ok (.ldc 80, 2) := by decide +kernel
theorem dq_DS_refusalOfMinutes_13 : decode gc_DS_refusalOfMinutes 13 = .ok (.ireturn, 1) := by decide +kernel
theorem dq_DS_refusalOfMinutes_14 : decode gc_DS_refusalOfMinutes 14 = .ok (.aload_n 0, 1) := by decide +kernel
theorem dq_DS_refusalOfMinutes_15 : decode gc_DS_refusalOfMinutes 15 = .ok (.getfield 10, 3) := by decide +kernel
theorem dq_DS_refusalOfMinutes_18 : decode gc_DS_refusalOfMinutes 18 = .ok (.getfield 101, 3) := by decide +kernel
theorem dq_DS_refusalOfMinutes_21 : decode gc_DS_refusalOfMinutes 21 = .ok (.ifCond .ne 6, 3) := by decide +kernel
theorem dq_DS_refusalOfMinutes_24 : decode gc_DS_refusalOfMinutes 24 = .ok (.ldc 208, 2) := by decide +kernel
theorem dq_DS_refusalOfMinutes_26 : decode gc_DS_refusalOfMinutes 26 = .ok (.ireturn, 1) := by decide +kernel
theorem dq_DS_refusalOfMinutes_27 : decode gc_DS_refusalOfMinutes 27 = .ok (.aload_n 0, 1) := by decide +kernel
theorem dq_DS_refusalOfMinutes_28 : decode gc_DS_refusalOfMinutes 28 = .ok (.getfield 31, 3) := by decide +kernel
theorem dq_DS_refusalOfMinutes_31 : decode gc_DS_refusalOfMinutes 31 = .ok (.getfield 116, 3) := by decide +kernel
theorem dq_DS_refusalOfMinutes_34 : decode gc_DS_refusalOfMinutes 34 = .ok (.ldc_w 256, 3) := by decide +kernel
theorem dq_DS_refusalOfMinutes_37 : decode gc_DS_refusalOfMinutes 37 = .ok (.if_icmp .le 8, 3) := by decide +kernel
theorem dq_DS_refusalOfMinutes_40 : decode gc_DS_refusalOfMinutes 40 = .ok (.ldc 89, 2) := by decide +kernel
theorem dq_DS_refusalOfMinutes_42 : decode gc_DS_refusalOfMinutes 42 = .ok (.goto 4, 3) := by decide +kernel
theorem dq_DS_refusalOfMinutes_45 : decode gc_DS_refusalOfMinutes 45 = .ok (.iconst 0, 1) := by decide +kernel
theorem dq_DS_refusalOfMinutes_46 : decode gc_DS_refusalOfMinutes 46 = .ok (.ireturn, 1) := by decide +kernel
abbrev gm_DS_refusalOfMinutes : gM := (gc_DS_refusalOfMinutes, gR_6, 1, 22, 2)
theorem gk_DS_256 : Cond.constant gR_6 256 (Int32.ofInt 90000) ∈ gtbl := (gtab_at 474 (by decide +kernel) rfl)
theorem gk_DS_208 : Cond.constant gR_6 208 (Int32.ofInt (-1000000003)) ∈ gtbl := (gtab_at 473 (by decide +kernel) rfl)
def f_DS_refusalOfMinutes (a1 : Int) (h : gH) : Option gO := gb (f_DS_isOutside a1 1 300 h) (fun h1 r2 => if r2 = 0 then (gd (gcl ((h1 0 0).toNat) 0) (if (h1 (h1 0 0).toNat 0) = 0 then (some (h1, (-1000000003))) else (if (h1 27 1) ≤ 90000 then (some (h1, 0)) else (some (h1, (-1000000004)))))) else (some (h1, (-1000000002))))
theorem c_DS_refusalOfMinutes {Z : gZ} (hL : gLive Z) (hn : (zL Z).Nodup) {a1 : Int}  {h : gH} {o : gO} (hg : gRg h) (ha : gRl [.inr (.inr 0), .inl a1]) (hx : f_DS_refusalOfMinutes a1 h = some o) : gC Z gy_DS_refusalOfMinutes gc_DS_refusalOfMinutes 2 (some .int) 1 22 [.inr (.inr 0), .inl a1] h o := by
  unfold f_DS_refusalOfMinutes at hx
  refine gC_of (lv := [(0, .inr (.inr 0)), (1, .inl a1)]) (own := gR_6) (by decide +kernel) rfl (Nat.le_of_ble_eq_true rfl) rfl rfl hn hg ha hx (fun X hZ hF => ?_)
  subst hZ
  show gr _ o gm_DS_refusalOfMinutes X h 0 _ _
  refine gr_iload_n (M := gm_DS_refusalOfMinutes) dq_DS_refusalOfMinutes_0 rfl 1 rfl 1 rfl ?_
  refine gr_iconst (M := gm_DS_refusalOfMinutes) (v := 1) dq_DS_refusalOfMinutes_1 rfl ⟨by decide, by decide⟩ 2 rfl ?_
  refine gr_sipush (M := gm_DS_refusalOfMinutes) (v := 300) dq_DS_refusalOfMinutes_2 (by decide) ⟨by decide, by decide⟩ 5 rfl ?_
  refine gr_callSi (M := gm_DS_refusalOfMinutes) (as := [.inl a1, .inl 1, .inl 300]) dq_DS_refusalOfMinutes_5 8 rfl rfl gcy_DS_76 gst_DS_isOutside ⟨by decide, by decide⟩ (Nat.le_of_ble_eq_true rfl) (fun o1 hg ha hx => c_DS_isOutside hL hn  hg ha hx) (fun h1 r2 _ => ?_)
  refine gr_if_eq (M := gm_DS_refusalOfMinutes) dq_DS_refusalOfMinutes_8 14 11 rfl rfl (fun c3 => ?_) (fun c3 => ?_)
  · refine gr_aload_n (M := gm_DS_refusalOfMinutes) dq_DS_refusalOfMinutes_14 rfl 0 rfl 15 rfl ?_
    refine gr_getd (M := gm_DS_refusalOfMinutes) dq_DS_refusalOfMinutes_15 18 rfl gfl_DS_10 gsh_0 rfl (gli hL gsh_0) (fun hc4 => ?_)
    refine gr_geti (M := gm_DS_refusalOfMinutes) dq_DS_refusalOfMinutes_18 21 rfl gfl_DS_101 (gclE hc4) rfl (gli hL (gclE hc4)) ?_
    refine gr_if_ne (M := gm_DS_refusalOfMinutes) dq_DS_refusalOfMinutes_21 27 24 rfl rfl (fun c5 => ?_) (fun c5 => ?_)
    · refine gr_aload_n (M := gm_DS_refusalOfMinutes) dq_DS_refusalOfMinutes_27 rfl 0 rfl 28 rfl ?_
      refine gr_geta (M := gm_DS_refusalOfMinutes) dq_DS_refusalOfMinutes_28 31 rfl gfl_DS_31 gsh_0 rfl (gli hL gsh_0) ?_
      refine gr_geti (M := gm_DS_refusalOfMinutes) dq_DS_refusalOfMinutes_31 34 rfl gfl_DS_116 gsh_27 rfl (gli hL gsh_27) ?_
      refine gr_ldc_w (M := gm_DS_refusalOfMinutes) (v := 90000) dq_DS_refusalOfMinutes_34 gk_DS_256 ⟨by decide, by decide⟩ 37 rfl ?_
      refine gr_icmp_le (M := gm_DS_refusalOfMinutes) dq_DS_refusalOfMinutes_37 45 40 rfl rfl (fun c6 => ?_) (fun c6 => ?_)
      · refine gr_iconst (M := gm_DS_refusalOfMinutes) (v := 0) dq_DS_refusalOfMinutes_45 rfl ⟨by decide, by decide⟩ 46 rfl ?_
        exact gr_ireturn (M := gm_DS_refusalOfMinutes) dq_DS_refusalOfMinutes_46 hF
      refine gr_ldc (M := gm_DS_refusalOfMinutes) (v := (-1000000004)) dq_DS_refusalOfMinutes_40 gk_DS_89 ⟨by decide, by decide⟩ 42 rfl ?_
      refine gr_goto (M := gm_DS_refusalOfMinutes) dq_DS_refusalOfMinutes_42 46 rfl ?_
      exact gr_ireturn (M := gm_DS_refusalOfMinutes) dq_DS_refusalOfMinutes_46 hF
    refine gr_ldc (M := gm_DS_refusalOfMinutes) (v := (-1000000003)) dq_DS_refusalOfMinutes_24 gk_DS_208 ⟨by decide, by decide⟩ 26 rfl ?_
    exact gr_ireturn (M := gm_DS_refusalOfMinutes) dq_DS_refusalOfMinutes_26 hF
  refine gr_ldc (M := gm_DS_refusalOfMinutes) (v := (-1000000002)) dq_DS_refusalOfMinutes_11 gk_DS_80 ⟨by decide, by decide⟩ 13 rfl ?_
  exact gr_ireturn (M := gm_DS_refusalOfMinutes) dq_DS_refusalOfMinutes_13 hF

-- DS_minute
theorem dq_DS_minute_0 : decode gc_DS_minute 0 = .ok (.aload_n 0, 1) := by decide +kernel
theorem dq_DS_minute_1 : decode gc_DS_minute 1 = .ok (.iload_n 1, 1) := by decide +kernel
theorem dq_DS_minute_2 : decode gc_DS_minute 2 = .ok (.invokevirtual 196, 3) := by decide +kernel
theorem dq_DS_minute_5 : decode gc_DS_minute 5 = .ok (.istore_n 2, 1) := by decide +kernel
theorem dq_DS_minute_6 : decode gc_DS_minute 6 = .ok (.iload_n 2, 1) := by decide +kernel
theorem dq_DS_minute_7 : decode gc_DS_minute 7 = .ok (.ifCond .eq 5, 3) := by decide +kernel
theorem dq_DS_minute_10 : decode gc_DS_minute 10 = .ok (.iload_n 2, 1) := by decide +kernel
theorem dq_DS_minute_11 : decode gc_DS_minute 11 = .ok (.ireturn, 1) := by decide +kernel
theorem dq_DS_minute_12 : decode gc_DS_minute 12 = .ok (.aload_n 0, 1) := by decide +kernel
theorem dq_DS_minute_13 : decode gc_DS_minute 13 = .ok (.getfield 31, 3) := by decide +kernel
theorem dq_DS_minute_16 : decode gc_DS_minute 16 = .ok (.invokevirtual 199, 3) := by decide +kernel
theorem dq_DS_minute_19 : decode gc_DS_minute 19 = .ok (.istore_n 3, 1) := by decide +kernel
theorem dq_DS_minute_20 : decode gc_DS_minute 20 = .ok (.aload_n 0, 1) := by decide +kernel
theorem dq_DS_minute_21 : decode gc_DS_minute 21 = .ok (.getfield 31, 3) := by decide +kernel
theorem dq_DS_minute_24 : decode gc_DS_minute 24 = .ok (.iload_n 1, 1) := by decide +kernel
theorem dq_DS_minute_25 : decode gc_DS_minute 25 = .ok (.invokevirtual 202, 3) := by decide +kernel
theorem dq_DS_minute_28 : decode gc_DS_minute 28 = .ok (.aload_n 0, 1) := by decide +kernel
theorem dq_DS_minute_29 : decode gc_DS_minute 29 = .ok (.getfield 60, 3) := by decide +kernel
theorem dq_DS_minute_32 : decode gc_DS_minute 32 = .ok (.invokevirtual 98, 3) := by decide +kernel
theorem dq_DS_minute_35 : decode gc_DS_minute 35 = .ok (.aload_n 0, 1) := by decide +kernel
theorem dq_DS_minute_36 : decode gc_DS_minute 36 = .ok (.getfield 31, 3) := by decide +kernel
theorem dq_DS_minute_39 : decode gc_DS_minute 39 = .ok (.invokevirtual 199, 3) := by decide +kernel
theorem dq_DS_minute_42 : decode gc_DS_minute 42 = .ok (.iload_n 3, 1) := by decide +kernel
theorem dq_DS_minute_43 : decode gc_DS_minute 43 = .ok (.isub, 1) := by decide +kernel
theorem dq_DS_minute_44 : decode gc_DS_minute 44 = .ok (.ireturn, 1) := by decide +kernel
abbrev gm_DS_minute : gM := (gc_DS_minute, gR_6, 5, 113, 4)
set_option maxRecDepth 20000 in
theorem gcy_DS_196 : gCy gR_6 196 gy_DS_refusalOfMinutes gc_DS_refusalOfMinutes 2 (some .int) 1 := ⟨(gtab_at 469 (by decide +kernel) rfl), (gtab_at 1 (by decide +kernel) rfl), (gtab_at 472 rfl rfl), by decide, by decide, by decide +kernel⟩
theorem gim_DS_refusalOfMinutes : Cond.instanceMethod gy_DS_refusalOfMinutes ∈ gtbl := (gtab_at 471 (by decide +kernel) rfl)
theorem gse_DS_refusalOfMinutes : Cond.selects gy_DS_refusalOfMinutes.cls gy_DS_refusalOfMinutes gy_DS_refusalOfMinutes ∈ gtbl := (by decide +kernel)
set_option maxRecDepth 20000 in
theorem gcy_DS_199 : gCy gR_6 199 gy_Traffic_countHome gc_Traffic_countHome 1 (some .int) 0 := ⟨(gtab_at 475 (by decide +kernel) rfl), (gtab_at 4 (by decide +kernel) rfl), (gtab_at 478 rfl rfl), by decide, by decide, by decide +kernel⟩
theorem gim_Traffic_countHome : Cond.instanceMethod gy_Traffic_countHome ∈ gtbl := (gtab_at 476 (by decide +kernel) rfl)
theorem gse_Traffic_countHome : Cond.selects gy_Traffic_countHome.cls gy_Traffic_countHome gy_Traffic_countHome ∈ gtbl := (gtab_at 477 (by decide +kernel) rfl)
set_option maxRecDepth 20000 in
theorem gcy_DS_202 : gCy gR_6 202 gy_Traffic_pass gc_Traffic_pass 4 none 1 := ⟨(gtab_at 486 (by decide +kernel) rfl), (gtab_at 4 (by decide +kernel) rfl), (gtab_at 489 rfl rfl), by decide, by decide, by decide +kernel⟩
def f_DS_minute (a1 : Int) (h : gH) : Option gO := gb (f_DS_refusalOfMinutes a1 h) (fun h1 r2 => if r2 = 0 then (gb (f_Traffic_countHome 27 h1) (fun h4 r5 => gb (f_Traffic_pass 27 a1 h4) (fun h6 r7 => gb (f_Shuffle_forget  h6) (fun h8 r9 => gb (f_Traffic_countHome 27 h8) (fun h10 r11 => some (h10, (gsub r11 r5))))))) else (some (h1, r2)))
theorem c_DS_minute {Z : gZ} (hL : gLive Z) (hn : (zL Z).Nodup) {a1 : Int}  {h : gH} {o : gO} (hg : gRg h) (ha : gRl [.inr (.inr 0), .inl a1]) (hx : f_DS_minute a1 h = some o) : gC Z gy_DS_minute gc_DS_minute 4 (some .int) 5 113 [.inr (.inr 0), .inl a1] h o := by
  unfold f_DS_minute at hx
  refine gC_of (lv := [(0, .inr (.inr 0)), (1, .inl a1)]) (own := gR_6) (by decide +kernel) rfl (Nat.le_of_ble_eq_true rfl) rfl rfl hn hg ha hx (fun X hZ hF => ?_)
  subst hZ
  show gr _ o gm_DS_minute X h 0 _ _
  refine gr_aload_n (M := gm_DS_minute) dq_DS_minute_0 rfl 0 rfl 1 rfl ?_
  refine gr_iload_n (M := gm_DS_minute) dq_DS_minute_1 rfl 1 rfl 2 rfl ?_
  refine gr_callVi (M := gm_DS_minute) (as := [.inl a1]) dq_DS_minute_2 5 rfl rfl gcy_DS_196 gim_DS_refusalOfMinutes gse_DS_refusalOfMinutes ⟨by decide, by decide⟩ (Nat.le_of_ble_eq_true rfl) gsh_0 rfl (gli hL gsh_0) (fun o1 hg ha hx => c_DS_refusalOfMinutes hL hn  hg ha hx) (fun h1 r2 _ => ?_)
  refine gr_istore_n (M := gm_DS_minute) (lv' := [(2, .inl r2), (0, .inr (.inr 0)), (1, .inl a1)]) dq_DS_minute_5 rfl (by decide) rfl 6 rfl ?_
  refine gr_iload_n (M := gm_DS_minute) dq_DS_minute_6 rfl 0 rfl 7 rfl ?_
  refine gr_if_eq (M := gm_DS_minute) dq_DS_minute_7 12 10 rfl rfl (fun c3 => ?_) (fun c3 => ?_)
  · refine gr_aload_n (M := gm_DS_minute) dq_DS_minute_12 rfl 1 rfl 13 rfl ?_
    refine gr_geta (M := gm_DS_minute) dq_DS_minute_13 16 rfl gfl_DS_31 gsh_0 rfl (gli hL gsh_0) ?_
    refine gr_callVi (M := gm_DS_minute) (as := []) dq_DS_minute_16 19 rfl rfl gcy_DS_199 gim_Traffic_countHome gse_Traffic_countHome ⟨by decide, by decide⟩ (Nat.le_of_ble_eq_true rfl) gsh_27 rfl (gli hL gsh_27) (fun o1 hg ha hx => c_Traffic_countHome hL hn gsh_27 hg ha hx) (fun h4 r5 _ => ?_)
    refine gr_istore_n (M := gm_DS_minute) (lv' := [(3, .inl r5), (2, .inl r2), (0, .inr (.inr 0)), (1, .inl a1)]) dq_DS_minute_19 rfl (by decide) rfl 20 rfl ?_
    refine gr_aload_n (M := gm_DS_minute) dq_DS_minute_20 rfl 2 rfl 21 rfl ?_
    refine gr_geta (M := gm_DS_minute) dq_DS_minute_21 24 rfl gfl_DS_31 gsh_0 rfl (gli hL gsh_0) ?_
    refine gr_iload_n (M := gm_DS_minute) dq_DS_minute_24 rfl 3 rfl 25 rfl ?_
    refine gr_callVv (M := gm_DS_minute) (as := [.inl a1]) dq_DS_minute_25 28 rfl rfl gcy_DS_202 gim_Traffic_pass gse_Traffic_pass ⟨by decide, by decide⟩ (Nat.le_of_ble_eq_true rfl) gsh_27 rfl (gli hL gsh_27) (fun o1 hg ha hx => c_Traffic_pass hL hn gsh_27 hg ha hx) (fun h6 r7 _ => ?_)
    refine gr_aload_n (M := gm_DS_minute) dq_DS_minute_28 rfl 2 rfl 29 rfl ?_
    refine gr_geta (M := gm_DS_minute) dq_DS_minute_29 32 rfl gfl_DS_60 gsh_0 rfl (gli hL gsh_0) ?_
    refine gr_callVv (M := gm_DS_minute) (as := []) dq_DS_minute_32 35 rfl rfl gcy_DS_98 gim_Shuffle_forget gse_Shuffle_forget ⟨by decide, by decide⟩ (Nat.le_of_ble_eq_true rfl) gsh_72 rfl (gli hL gsh_72) (fun o1 hg ha hx => c_Shuffle_forget hL hn  hg ha hx) (fun h8 r9 _ => ?_)
    refine gr_aload_n (M := gm_DS_minute) dq_DS_minute_35 rfl 2 rfl 36 rfl ?_
    refine gr_geta (M := gm_DS_minute) dq_DS_minute_36 39 rfl gfl_DS_31 gsh_0 rfl (gli hL gsh_0) ?_
    refine gr_callVi (M := gm_DS_minute) (as := []) dq_DS_minute_39 42 rfl rfl gcy_DS_199 gim_Traffic_countHome gse_Traffic_countHome ⟨by decide, by decide⟩ (Nat.le_of_ble_eq_true rfl) gsh_27 rfl (gli hL gsh_27) (fun o1 hg ha hx => c_Traffic_countHome hL hn gsh_27 hg ha hx) (fun h10 r11 _ => ?_)
    refine gr_iload_n (M := gm_DS_minute) dq_DS_minute_42 rfl 0 rfl 43 rfl ?_
    refine gr_isub (M := gm_DS_minute) dq_DS_minute_43 44 rfl ?_
    exact gr_ireturn (M := gm_DS_minute) dq_DS_minute_44 hF
  refine gr_iload_n (M := gm_DS_minute) dq_DS_minute_10 rfl 0 rfl 11 rfl ?_
  exact gr_ireturn (M := gm_DS_minute) dq_DS_minute_11 hF

-- DS_drift
theorem dq_DS_drift_0 : decode gc_DS_drift 0 = .ok (.aload_n 0, 1) := by decide +kernel
theorem dq_DS_drift_1 : decode gc_DS_drift 1 = .ok (.iload_n 1, 1) := by decide +kernel
theorem dq_DS_drift_2 : decode gc_DS_drift 2 = .ok (.invokevirtual 196, 3) := by decide +kernel
theorem dq_DS_drift_5 : decode gc_DS_drift 5 = .ok (.istore_n 2, 1) := by decide +kernel
theorem dq_DS_drift_6 : decode gc_DS_drift 6 = .ok (.iload_n 2, 1) := by decide +kernel
theorem dq_DS_drift_7 : decode gc_DS_drift 7 = .ok (.ifCond .eq 5, 3) := by decide +kernel
theorem dq_DS_drift_10 : decode gc_DS_drift 10 = .ok (.iload_n 2, 1) := by decide +kernel
theorem dq_DS_drift_11 : decode gc_DS_drift 11 = .ok (.ireturn, 1) := by decide +kernel
theorem dq_DS_drift_12 : decode gc_DS_drift 12 = .ok (.aload_n 0, 1) := by decide +kernel
theorem dq_DS_drift_13 : decode gc_DS_drift 13 = .ok (.getfield 31, 3) := by decide +kernel
theorem dq_DS_drift_16 : decode gc_DS_drift 16 = .ok (.invokevirtual 199, 3) := by decide +kernel
theorem dq_DS_drift_19 : decode gc_DS_drift 19 = .ok (.istore_n 3, 1) := by decide +kernel
theorem dq_DS_drift_20 : decode gc_DS_drift 20 = .ok (.aload_n 0, 1) := by decide +kernel
theorem dq_DS_drift_21 : decode gc_DS_drift 21 = .ok (.getfield 31, 3) := by decide +kernel
theorem dq_DS_drift_24 : decode gc_DS_drift 24 = .ok (.iload_n 1, 1) := by decide +kernel
theorem dq_DS_drift_25 : decode gc_DS_drift 25 = .ok (.invokevirtual 205, 3) := by decide +kernel
theorem dq_DS_drift_28 : decode gc_DS_drift 28 = .ok (.aload_n 0, 1) := by decide +kernel
theorem dq_DS_drift_29 : decode gc_DS_drift 29 = .ok (.getfield 60, 3) := by decide +kernel
theorem dq_DS_drift_32 : decode gc_DS_drift 32 = .ok (.invokevirtual 98, 3) := by decide +kernel
theorem dq_DS_drift_35 : decode gc_DS_drift 35 = .ok (.aload_n 0, 1) := by decide +kernel
theorem dq_DS_drift_36 : decode gc_DS_drift 36 = .ok (.getfield 31, 3) := by decide +kernel
theorem dq_DS_drift_39 : decode gc_DS_drift 39 = .ok (.invokevirtual 199, 3) := by decide +kernel
theorem dq_DS_drift_42 : decode gc_DS_drift 42 = .ok (.iload_n 3, 1) := by decide +kernel
theorem dq_DS_drift_43 : decode gc_DS_drift 43 = .ok (.isub, 1) := by decide +kernel
theorem dq_DS_drift_44 : decode gc_DS_drift 44 = .ok (.ireturn, 1) := by decide +kernel
abbrev gm_DS_drift : gM := (gc_DS_drift, gR_6, 5, 113, 4)
set_option maxRecDepth 20000 in
theorem gcy_DS_205 : gCy gR_6 205 gy_Traffic_passByDraws gc_Traffic_passByDraws 4 none 1 := ⟨(gtab_at 554 (by decide +kernel) rfl), (gtab_at 4 (by decide +kernel) rfl), (gtab_at 557 rfl rfl), by decide, by decide, by decide +kernel⟩
theorem gim_Traffic_passByDraws : Cond.instanceMethod gy_Traffic_passByDraws ∈ gtbl := (gtab_at 555 (by decide +kernel) rfl)
theorem gse_Traffic_passByDraws : Cond.selects gy_Traffic_passByDraws.cls gy_Traffic_passByDraws gy_Traffic_passByDraws ∈ gtbl := (gtab_at 556 (by decide +kernel) rfl)
def f_DS_drift (a1 : Int) (h : gH) : Option gO := gb (f_DS_refusalOfMinutes a1 h) (fun h1 r2 => if r2 = 0 then (gb (f_Traffic_countHome 27 h1) (fun h4 r5 => gb (f_Traffic_passByDraws 27 a1 h4) (fun h6 r7 => gb (f_Shuffle_forget  h6) (fun h8 r9 => gb (f_Traffic_countHome 27 h8) (fun h10 r11 => some (h10, (gsub r11 r5))))))) else (some (h1, r2)))
theorem c_DS_drift {Z : gZ} (hL : gLive Z) (hn : (zL Z).Nodup) {a1 : Int}  {h : gH} {o : gO} (hg : gRg h) (ha : gRl [.inr (.inr 0), .inl a1]) (hx : f_DS_drift a1 h = some o) : gC Z gy_DS_drift gc_DS_drift 4 (some .int) 5 113 [.inr (.inr 0), .inl a1] h o := by
  unfold f_DS_drift at hx
  refine gC_of (lv := [(0, .inr (.inr 0)), (1, .inl a1)]) (own := gR_6) (by decide +kernel) rfl (Nat.le_of_ble_eq_true rfl) rfl rfl hn hg ha hx (fun X hZ hF => ?_)
  subst hZ
  show gr _ o gm_DS_drift X h 0 _ _
  refine gr_aload_n (M := gm_DS_drift) dq_DS_drift_0 rfl 0 rfl 1 rfl ?_
  refine gr_iload_n (M := gm_DS_drift) dq_DS_drift_1 rfl 1 rfl 2 rfl ?_
  refine gr_callVi (M := gm_DS_drift) (as := [.inl a1]) dq_DS_drift_2 5 rfl rfl gcy_DS_196 gim_DS_refusalOfMinutes gse_DS_refusalOfMinutes ⟨by decide, by decide⟩ (Nat.le_of_ble_eq_true rfl) gsh_0 rfl (gli hL gsh_0) (fun o1 hg ha hx => c_DS_refusalOfMinutes hL hn  hg ha hx) (fun h1 r2 _ => ?_)
  refine gr_istore_n (M := gm_DS_drift) (lv' := [(2, .inl r2), (0, .inr (.inr 0)), (1, .inl a1)]) dq_DS_drift_5 rfl (by decide) rfl 6 rfl ?_
  refine gr_iload_n (M := gm_DS_drift) dq_DS_drift_6 rfl 0 rfl 7 rfl ?_
  refine gr_if_eq (M := gm_DS_drift) dq_DS_drift_7 12 10 rfl rfl (fun c3 => ?_) (fun c3 => ?_)
  · refine gr_aload_n (M := gm_DS_drift) dq_DS_drift_12 rfl 1 rfl 13 rfl ?_
    refine gr_geta (M := gm_DS_drift) dq_DS_drift_13 16 rfl gfl_DS_31 gsh_0 rfl (gli hL gsh_0) ?_
    refine gr_callVi (M := gm_DS_drift) (as := []) dq_DS_drift_16 19 rfl rfl gcy_DS_199 gim_Traffic_countHome gse_Traffic_countHome ⟨by decide, by decide⟩ (Nat.le_of_ble_eq_true rfl) gsh_27 rfl (gli hL gsh_27) (fun o1 hg ha hx => c_Traffic_countHome hL hn gsh_27 hg ha hx) (fun h4 r5 _ => ?_)
    refine gr_istore_n (M := gm_DS_drift) (lv' := [(3, .inl r5), (2, .inl r2), (0, .inr (.inr 0)), (1, .inl a1)]) dq_DS_drift_19 rfl (by decide) rfl 20 rfl ?_
    refine gr_aload_n (M := gm_DS_drift) dq_DS_drift_20 rfl 2 rfl 21 rfl ?_
    refine gr_geta (M := gm_DS_drift) dq_DS_drift_21 24 rfl gfl_DS_31 gsh_0 rfl (gli hL gsh_0) ?_
    refine gr_iload_n (M := gm_DS_drift) dq_DS_drift_24 rfl 3 rfl 25 rfl ?_
    refine gr_callVv (M := gm_DS_drift) (as := [.inl a1]) dq_DS_drift_25 28 rfl rfl gcy_DS_205 gim_Traffic_passByDraws gse_Traffic_passByDraws ⟨by decide, by decide⟩ (Nat.le_of_ble_eq_true rfl) gsh_27 rfl (gli hL gsh_27) (fun o1 hg ha hx => c_Traffic_passByDraws hL hn gsh_27 hg ha hx) (fun h6 r7 _ => ?_)
    refine gr_aload_n (M := gm_DS_drift) dq_DS_drift_28 rfl 2 rfl 29 rfl ?_
    refine gr_geta (M := gm_DS_drift) dq_DS_drift_29 32 rfl gfl_DS_60 gsh_0 rfl (gli hL gsh_0) ?_
    refine gr_callVv (M := gm_DS_drift) (as := []) dq_DS_drift_32 35 rfl rfl gcy_DS_98 gim_Shuffle_forget gse_Shuffle_forget ⟨by decide, by decide⟩ (Nat.le_of_ble_eq_true rfl) gsh_72 rfl (gli hL gsh_72) (fun o1 hg ha hx => c_Shuffle_forget hL hn  hg ha hx) (fun h8 r9 _ => ?_)
    refine gr_aload_n (M := gm_DS_drift) dq_DS_drift_35 rfl 2 rfl 36 rfl ?_
    refine gr_geta (M := gm_DS_drift) dq_DS_drift_36 39 rfl gfl_DS_31 gsh_0 rfl (gli hL gsh_0) ?_
    refine gr_callVi (M := gm_DS_drift) (as := []) dq_DS_drift_39 42 rfl rfl gcy_DS_199 gim_Traffic_countHome gse_Traffic_countHome ⟨by decide, by decide⟩ (Nat.le_of_ble_eq_true rfl) gsh_27 rfl (gli hL gsh_27) (fun o1 hg ha hx => c_Traffic_countHome hL hn gsh_27 hg ha hx) (fun h10 r11 _ => ?_)
    refine gr_iload_n (M := gm_DS_drift) dq_DS_drift_42 rfl 0 rfl 43 rfl ?_
    refine gr_isub (M := gm_DS_drift) dq_DS_drift_43 44 rfl ?_
    exact gr_ireturn (M := gm_DS_drift) dq_DS_drift_44 hF
  refine gr_iload_n (M := gm_DS_drift) dq_DS_drift_10 rfl 0 rfl 11 rfl ?_
  exact gr_ireturn (M := gm_DS_drift) dq_DS_drift_11 hF

-- DS_turn
theorem dq_DS_turn_0 : decode gc_DS_turn 0 = .ok (.aload_n 0, 1) := by decide +kernel
theorem dq_DS_turn_1 : decode gc_DS_turn 1 = .ok (.iload_n 1, 1) := by decide +kernel
theorem dq_DS_turn_2 : decode gc_DS_turn 2 = .ok (.invokevirtual 135, 3) := by decide +kernel
theorem dq_DS_turn_5 : decode gc_DS_turn 5 = .ok (.ifCond .eq 6, 3) := by decide +kernel
theorem dq_DS_turn_8 : decode gc_DS_turn 8 = .ok (.ldc 130, 2) := by decide +kernel
theorem dq_DS_turn_10 : decode gc_DS_turn 10 = .ok (.ireturn, 1) := by decide +kernel
theorem dq_DS_turn_11 : decode gc_DS_turn 11 = .ok (.aload_n 0, 1) := by decide +kernel
theorem dq_DS_turn_12 : decode gc_DS_turn 12 = .ok (.getfield 31, 3) := by decide +kernel
theorem dq_DS_turn_15 : decode gc_DS_turn 15 = .ok (.getfield 154, 3) := by decide +kernel
theorem dq_DS_turn_18 : decode gc_DS_turn 18 = .ok (.iload_n 1, 1) := by decide +kernel
theorem dq_DS_turn_19 : decode gc_DS_turn 19 = .ok (.iaload, 1) := by decide +kernel
theorem dq_DS_turn_20 : decode gc_DS_turn 20 = .ok (.ifCond .eq 6, 3) := by decide +kernel
theorem dq_DS_turn_23 : decode gc_DS_turn 23 = .ok (.ldc 208, 2) := by decide +kernel
theorem dq_DS_turn_25 : decode gc_DS_turn 25 = .ok (.ireturn, 1) := by decide +kernel
theorem dq_DS_turn_26 : decode gc_DS_turn 26 = .ok (.aload_n 0, 1) := by decide +kernel
theorem dq_DS_turn_27 : decode gc_DS_turn 27 = .ok (.getfield 31, 3) := by decide +kernel
theorem dq_DS_turn_30 : decode gc_DS_turn 30 = .ok (.getfield 151, 3) := by decide +kernel
theorem dq_DS_turn_33 : decode gc_DS_turn 33 = .ok (.iload_n 1, 1) := by decide +kernel
theorem dq_DS_turn_34 : decode gc_DS_turn 34 = .ok (.iconst 1, 1) := by decide +kernel
theorem dq_DS_turn_35 : decode gc_DS_turn 35 = .ok (.aload_n 0, 1) := by decide +kernel
theorem dq_DS_turn_36 : decode gc_DS_turn 36 = .ok (.getfield 31, 3) := by decide +kernel
theorem dq_DS_turn_39 : decode gc_DS_turn 39 = .ok (.getfield 151, 3) := by decide +kernel
theorem dq_DS_turn_42 : decode gc_DS_turn 42 = .ok (.iload_n 1, 1) := by decide +kernel
theorem dq_DS_turn_43 : decode gc_DS_turn 43 = .ok (.iaload, 1) := by decide +kernel
theorem dq_DS_turn_44 : decode gc_DS_turn 44 = .ok (.isub, 1) := by decide +kernel
theorem dq_DS_turn_45 : decode gc_DS_turn 45 = .ok (.iastore, 1) := by decide +kernel
theorem dq_DS_turn_46 : decode gc_DS_turn 46 = .ok (.aload_n 0, 1) := by decide +kernel
theorem dq_DS_turn_47 : decode gc_DS_turn 47 = .ok (.getfield 60, 3) := by decide +kernel
theorem dq_DS_turn_50 : decode gc_DS_turn 50 = .ok (.invokevirtual 98, 3) := by decide +kernel
theorem dq_DS_turn_53 : decode gc_DS_turn 53 = .ok (.aload_n 0, 1) := by decide +kernel
theorem dq_DS_turn_54 : decode gc_DS_turn 54 = .ok (.getfield 31, 3) := by decide +kernel
theorem dq_DS_turn_57 : decode gc_DS_turn 57 = .ok (.getfield 151, 3) := by decide +kernel
theorem dq_DS_turn_60 : decode gc_DS_turn 60 = .ok (.iload_n 1, 1) := by decide +kernel
theorem dq_DS_turn_61 : decode gc_DS_turn 61 = .ok (.iaload, 1) := by decide +kernel
theorem dq_DS_turn_62 : decode gc_DS_turn 62 = .ok (.ireturn, 1) := by decide +kernel
abbrev gm_DS_turn : gM := (gc_DS_turn, gR_6, 2, 43, 2)
def f_DS_turn (a1 : Int) (h : gH) : Option gO := gb (f_DS_isNoStreet a1 h) (fun h1 r2 => if r2 = 0 then (gd (gix 9 a1) (if (h1 30 a1.toNat) = 0 then (gd (gix 9 a1) (gd (gix 9 a1) (gs (gup h1 29 a1.toNat (gsub 1 (h1 29 a1.toNat))) (fun h5 => gb (f_Shuffle_forget  h5) (fun h6 r7 => gd (gix 9 a1) (some (h6, (h6 29 a1.toNat)))))))) else (some (h1, (-1000000003))))) else (some (h1, (-1000000001))))
theorem c_DS_turn {Z : gZ} (hL : gLive Z) (hn : (zL Z).Nodup) {a1 : Int}  {h : gH} {o : gO} (hg : gRg h) (ha : gRl [.inr (.inr 0), .inl a1]) (hx : f_DS_turn a1 h = some o) : gC Z gy_DS_turn gc_DS_turn 2 (some .int) 2 43 [.inr (.inr 0), .inl a1] h o := by
  unfold f_DS_turn at hx
  refine gC_of (lv := [(0, .inr (.inr 0)), (1, .inl a1)]) (own := gR_6) (by decide +kernel) rfl (Nat.le_of_ble_eq_true rfl) rfl rfl hn hg ha hx (fun X hZ hF => ?_)
  subst hZ
  show gr _ o gm_DS_turn X h 0 _ _
  refine gr_aload_n (M := gm_DS_turn) dq_DS_turn_0 rfl 0 rfl 1 rfl ?_
  refine gr_iload_n (M := gm_DS_turn) dq_DS_turn_1 rfl 1 rfl 2 rfl ?_
  refine gr_callVi (M := gm_DS_turn) (as := [.inl a1]) dq_DS_turn_2 5 rfl rfl gcy_DS_135 gim_DS_isNoStreet gse_DS_isNoStreet ⟨by decide, by decide⟩ (Nat.le_of_ble_eq_true rfl) gsh_0 rfl (gli hL gsh_0) (fun o1 hg ha hx => c_DS_isNoStreet hL hn  hg ha hx) (fun h1 r2 _ => ?_)
  refine gr_if_eq (M := gm_DS_turn) dq_DS_turn_5 11 8 rfl rfl (fun c3 => ?_) (fun c3 => ?_)
  · refine gr_aload_n (M := gm_DS_turn) dq_DS_turn_11 rfl 0 rfl 12 rfl ?_
    refine gr_geta (M := gm_DS_turn) dq_DS_turn_12 15 rfl gfl_DS_31 gsh_0 rfl (gli hL gsh_0) ?_
    refine gr_getr (M := gm_DS_turn) dq_DS_turn_15 18 rfl gfl_DS_154 gsh_27 rfl (gli hL gsh_27) 30 rfl ?_
    refine gr_iload_n (M := gm_DS_turn) dq_DS_turn_18 rfl 1 rfl 19 rfl ?_
    refine gr_iald (M := gm_DS_turn) dq_DS_turn_19 20 rfl gsh_30 (glj hL gsh_30 (by decide)) ?_
    refine gr_if_eq (M := gm_DS_turn) dq_DS_turn_20 26 23 rfl rfl (fun c4 => ?_) (fun c4 => ?_)
    · refine gr_aload_n (M := gm_DS_turn) dq_DS_turn_26 rfl 0 rfl 27 rfl ?_
      refine gr_geta (M := gm_DS_turn) dq_DS_turn_27 30 rfl gfl_DS_31 gsh_0 rfl (gli hL gsh_0) ?_
      refine gr_getr (M := gm_DS_turn) dq_DS_turn_30 33 rfl gfl_DS_151 gsh_27 rfl (gli hL gsh_27) 29 rfl ?_
      refine gr_iload_n (M := gm_DS_turn) dq_DS_turn_33 rfl 1 rfl 34 rfl ?_
      refine gr_iconst (M := gm_DS_turn) (v := 1) dq_DS_turn_34 rfl ⟨by decide, by decide⟩ 35 rfl ?_
      refine gr_aload_n (M := gm_DS_turn) dq_DS_turn_35 rfl 0 rfl 36 rfl ?_
      refine gr_geta (M := gm_DS_turn) dq_DS_turn_36 39 rfl gfl_DS_31 gsh_0 rfl (gli hL gsh_0) ?_
      refine gr_getr (M := gm_DS_turn) dq_DS_turn_39 42 rfl gfl_DS_151 gsh_27 rfl (gli hL gsh_27) 29 rfl ?_
      refine gr_iload_n (M := gm_DS_turn) dq_DS_turn_42 rfl 1 rfl 43 rfl ?_
      refine gr_iald (M := gm_DS_turn) dq_DS_turn_43 44 rfl gsh_29 (glj hL gsh_29 (by decide)) ?_
      refine gr_isub (M := gm_DS_turn) dq_DS_turn_44 45 rfl ?_
      refine gr_iast (M := gm_DS_turn) dq_DS_turn_45 46 rfl gsh_29 (glj hL gsh_29 (by decide)) (fun h5 _ => ?_)
      refine gr_aload_n (M := gm_DS_turn) dq_DS_turn_46 rfl 0 rfl 47 rfl ?_
      refine gr_geta (M := gm_DS_turn) dq_DS_turn_47 50 rfl gfl_DS_60 gsh_0 rfl (gli hL gsh_0) ?_
      refine gr_callVv (M := gm_DS_turn) (as := []) dq_DS_turn_50 53 rfl rfl gcy_DS_98 gim_Shuffle_forget gse_Shuffle_forget ⟨by decide, by decide⟩ (Nat.le_of_ble_eq_true rfl) gsh_72 rfl (gli hL gsh_72) (fun o1 hg ha hx => c_Shuffle_forget hL hn  hg ha hx) (fun h6 r7 _ => ?_)
      refine gr_aload_n (M := gm_DS_turn) dq_DS_turn_53 rfl 0 rfl 54 rfl ?_
      refine gr_geta (M := gm_DS_turn) dq_DS_turn_54 57 rfl gfl_DS_31 gsh_0 rfl (gli hL gsh_0) ?_
      refine gr_getr (M := gm_DS_turn) dq_DS_turn_57 60 rfl gfl_DS_151 gsh_27 rfl (gli hL gsh_27) 29 rfl ?_
      refine gr_iload_n (M := gm_DS_turn) dq_DS_turn_60 rfl 1 rfl 61 rfl ?_
      refine gr_iald (M := gm_DS_turn) dq_DS_turn_61 62 rfl gsh_29 (glj hL gsh_29 (by decide)) ?_
      exact gr_ireturn (M := gm_DS_turn) dq_DS_turn_62 hF
    refine gr_ldc (M := gm_DS_turn) (v := (-1000000003)) dq_DS_turn_23 gk_DS_208 ⟨by decide, by decide⟩ 25 rfl ?_
    exact gr_ireturn (M := gm_DS_turn) dq_DS_turn_25 hF
  refine gr_ldc (M := gm_DS_turn) (v := (-1000000001)) dq_DS_turn_8 gk_DS_130 ⟨by decide, by decide⟩ 10 rfl ?_
  exact gr_ireturn (M := gm_DS_turn) dq_DS_turn_10 hF

-- DS_law
theorem dq_DS_law_0 : decode gc_DS_law 0 = .ok (.aload_n 0, 1) := by decide +kernel
theorem dq_DS_law_1 : decode gc_DS_law 1 = .ok (.iload_n 1, 1) := by decide +kernel
theorem dq_DS_law_2 : decode gc_DS_law 2 = .ok (.invokevirtual 135, 3) := by decide +kernel
theorem dq_DS_law_5 : decode gc_DS_law 5 = .ok (.ifCond .ne 12, 3) := by decide +kernel
theorem dq_DS_law_8 : decode gc_DS_law 8 = .ok (.iload_n 2, 1) := by decide +kernel
theorem dq_DS_law_9 : decode gc_DS_law 9 = .ok (.iconst 0, 1) := by decide +kernel
theorem dq_DS_law_10 : decode gc_DS_law 10 = .ok (.iconst 4, 1) := by decide +kernel
theorem dq_DS_law_11 : decode gc_DS_law 11 = .ok (.invokestatic 76, 3) := by decide +kernel
theorem dq_DS_law_14 : decode gc_DS_law 14 = .ok (.ifCond .eq 6, 3) := by decide +kernel
theorem dq_DS_law_17 : decode gc_DS_law 17 = .ok (.ldc 130, 2) := by decide +kernel
theorem dq_DS_law_19 : decode gc_DS_law 19 = .ok (.ireturn, 1) := by decide +kernel
theorem dq_DS_law_20 : decode gc_DS_law 20 = .ok (.aload_n 0, 1) := by decide +kernel
theorem dq_DS_law_21 : decode gc_DS_law 21 = .ok (.getfield 31, 3) := by decide +kernel
theorem dq_DS_law_24 : decode gc_DS_law 24 = .ok (.getfield 148, 3) := by decide +kernel
theorem dq_DS_law_27 : decode gc_DS_law 27 = .ok (.iload_n 1, 1) := by decide +kernel
theorem dq_DS_law_28 : decode gc_DS_law 28 = .ok (.iaload, 1) := by decide +kernel
theorem dq_DS_law_29 : decode gc_DS_law 29 = .ok (.istore_n 3, 1) := by decide +kernel
theorem dq_DS_law_30 : decode gc_DS_law 30 = .ok (.aload_n 0, 1) := by decide +kernel
theorem dq_DS_law_31 : decode gc_DS_law 31 = .ok (.getfield 31, 3) := by decide +kernel
theorem dq_DS_law_34 : decode gc_DS_law 34 = .ok (.getfield 148, 3) := by decide +kernel
theorem dq_DS_law_37 : decode gc_DS_law 37 = .ok (.iload_n 1, 1) := by decide +kernel
theorem dq_DS_law_38 : decode gc_DS_law 38 = .ok (.iload_n 2, 1) := by decide +kernel
theorem dq_DS_law_39 : decode gc_DS_law 39 = .ok (.iastore, 1) := by decide +kernel
theorem dq_DS_law_40 : decode gc_DS_law 40 = .ok (.aload_n 0, 1) := by decide +kernel
theorem dq_DS_law_41 : decode gc_DS_law 41 = .ok (.getfield 60, 3) := by decide +kernel
theorem dq_DS_law_44 : decode gc_DS_law 44 = .ok (.invokevirtual 98, 3) := by decide +kernel
theorem dq_DS_law_47 : decode gc_DS_law 47 = .ok (.iload_n 3, 1) := by decide +kernel
theorem dq_DS_law_48 : decode gc_DS_law 48 = .ok (.ireturn, 1) := by decide +kernel
abbrev gm_DS_law : gM := (gc_DS_law, gR_6, 2, 43, 4)
def f_DS_law (a1 : Int) (a2 : Int) (h : gH) : Option gO := gb (f_DS_isNoStreet a1 h) (fun h1 r2 => if r2 = 0 then (gb (f_DS_isOutside a2 0 4 h1) (fun h4 r5 => if r5 = 0 then (gd (gix 9 a1) (gd (gix 9 a1) (gs (gup h4 28 a1.toNat a2) (fun h7 => gb (f_Shuffle_forget  h7) (fun h8 r9 => some (h8, (h4 28 a1.toNat))))))) else (some (h4, (-1000000001))))) else (some (h1, (-1000000001))))
theorem c_DS_law {Z : gZ} (hL : gLive Z) (hn : (zL Z).Nodup) {a1 : Int} {a2 : Int}  {h : gH} {o : gO} (hg : gRg h) (ha : gRl [.inr (.inr 0), .inl a1, .inl a2]) (hx : f_DS_law a1 a2 h = some o) : gC Z gy_DS_law gc_DS_law 4 (some .int) 2 43 [.inr (.inr 0), .inl a1, .inl a2] h o := by
  unfold f_DS_law at hx
  refine gC_of (lv := [(0, .inr (.inr 0)), (1, .inl a1), (2, .inl a2)]) (own := gR_6) (by decide +kernel) rfl (Nat.le_of_ble_eq_true rfl) rfl rfl hn hg ha hx (fun X hZ hF => ?_)
  subst hZ
  show gr _ o gm_DS_law X h 0 _ _
  refine gr_aload_n (M := gm_DS_law) dq_DS_law_0 rfl 0 rfl 1 rfl ?_
  refine gr_iload_n (M := gm_DS_law) dq_DS_law_1 rfl 1 rfl 2 rfl ?_
  refine gr_callVi (M := gm_DS_law) (as := [.inl a1]) dq_DS_law_2 5 rfl rfl gcy_DS_135 gim_DS_isNoStreet gse_DS_isNoStreet ⟨by decide, by decide⟩ (Nat.le_of_ble_eq_true rfl) gsh_0 rfl (gli hL gsh_0) (fun o1 hg ha hx => c_DS_isNoStreet hL hn  hg ha hx) (fun h1 r2 _ => ?_)
  refine gr_if_ne (M := gm_DS_law) dq_DS_law_5 17 8 rfl rfl (fun c3 => ?_) (fun c3 => ?_)
  · refine gr_ldc (M := gm_DS_law) (v := (-1000000001)) dq_DS_law_17 gk_DS_130 ⟨by decide, by decide⟩ 19 rfl ?_
    exact gr_ireturn (M := gm_DS_law) dq_DS_law_19 hF
  refine gr_iload_n (M := gm_DS_law) dq_DS_law_8 rfl 2 rfl 9 rfl ?_
  refine gr_iconst (M := gm_DS_law) (v := 0) dq_DS_law_9 rfl ⟨by decide, by decide⟩ 10 rfl ?_
  refine gr_iconst (M := gm_DS_law) (v := 4) dq_DS_law_10 rfl ⟨by decide, by decide⟩ 11 rfl ?_
  refine gr_callSi (M := gm_DS_law) (as := [.inl a2, .inl 0, .inl 4]) dq_DS_law_11 14 rfl rfl gcy_DS_76 gst_DS_isOutside ⟨by decide, by decide⟩ (Nat.le_of_ble_eq_true rfl) (fun o1 hg ha hx => c_DS_isOutside hL hn  hg ha hx) (fun h4 r5 _ => ?_)
  refine gr_if_eq (M := gm_DS_law) dq_DS_law_14 20 17 rfl rfl (fun c6 => ?_) (fun c6 => ?_)
  · refine gr_aload_n (M := gm_DS_law) dq_DS_law_20 rfl 0 rfl 21 rfl ?_
    refine gr_geta (M := gm_DS_law) dq_DS_law_21 24 rfl gfl_DS_31 gsh_0 rfl (gli hL gsh_0) ?_
    refine gr_getr (M := gm_DS_law) dq_DS_law_24 27 rfl gfl_DS_148 gsh_27 rfl (gli hL gsh_27) 28 rfl ?_
    refine gr_iload_n (M := gm_DS_law) dq_DS_law_27 rfl 1 rfl 28 rfl ?_
    refine gr_iald (M := gm_DS_law) dq_DS_law_28 29 rfl gsh_28 (glj hL gsh_28 (by decide)) ?_
    refine gr_istore_n (M := gm_DS_law) (lv' := [(3, .inl (h4 28 a1.toNat)), (0, .inr (.inr 0)), (1, .inl a1), (2, .inl a2)]) dq_DS_law_29 rfl (by decide) rfl 30 rfl ?_
    refine gr_aload_n (M := gm_DS_law) dq_DS_law_30 rfl 1 rfl 31 rfl ?_
    refine gr_geta (M := gm_DS_law) dq_DS_law_31 34 rfl gfl_DS_31 gsh_0 rfl (gli hL gsh_0) ?_
    refine gr_getr (M := gm_DS_law) dq_DS_law_34 37 rfl gfl_DS_148 gsh_27 rfl (gli hL gsh_27) 28 rfl ?_
    refine gr_iload_n (M := gm_DS_law) dq_DS_law_37 rfl 2 rfl 38 rfl ?_
    refine gr_iload_n (M := gm_DS_law) dq_DS_law_38 rfl 3 rfl 39 rfl ?_
    refine gr_iast (M := gm_DS_law) dq_DS_law_39 40 rfl gsh_28 (glj hL gsh_28 (by decide)) (fun h7 _ => ?_)
    refine gr_aload_n (M := gm_DS_law) dq_DS_law_40 rfl 1 rfl 41 rfl ?_
    refine gr_geta (M := gm_DS_law) dq_DS_law_41 44 rfl gfl_DS_60 gsh_0 rfl (gli hL gsh_0) ?_
    refine gr_callVv (M := gm_DS_law) (as := []) dq_DS_law_44 47 rfl rfl gcy_DS_98 gim_Shuffle_forget gse_Shuffle_forget ⟨by decide, by decide⟩ (Nat.le_of_ble_eq_true rfl) gsh_72 rfl (gli hL gsh_72) (fun o1 hg ha hx => c_Shuffle_forget hL hn  hg ha hx) (fun h8 r9 _ => ?_)
    refine gr_iload_n (M := gm_DS_law) dq_DS_law_47 rfl 0 rfl 48 rfl ?_
    exact gr_ireturn (M := gm_DS_law) dq_DS_law_48 hF
  refine gr_ldc (M := gm_DS_law) (v := (-1000000001)) dq_DS_law_17 gk_DS_130 ⟨by decide, by decide⟩ 19 rfl ?_
  exact gr_ireturn (M := gm_DS_law) dq_DS_law_19 hF

-- DS_rank
theorem dq_DS_rank_0 : decode gc_DS_rank 0 = .ok (.aload_n 0, 1) := by decide +kernel
theorem dq_DS_rank_1 : decode gc_DS_rank 1 = .ok (.iload_n 1, 1) := by decide +kernel
theorem dq_DS_rank_2 : decode gc_DS_rank 2 = .ok (.invokevirtual 157, 3) := by decide +kernel
theorem dq_DS_rank_5 : decode gc_DS_rank 5 = .ok (.ifCond .eq 6, 3) := by decide +kernel
theorem dq_DS_rank_8 : decode gc_DS_rank 8 = .ok (.ldc 130, 2) := by decide +kernel
theorem dq_DS_rank_10 : decode gc_DS_rank 10 = .ok (.ireturn, 1) := by decide +kernel
theorem dq_DS_rank_11 : decode gc_DS_rank 11 = .ok (.iload_n 2, 1) := by decide +kernel
theorem dq_DS_rank_12 : decode gc_DS_rank 12 = .ok (.iconst 1, 1) := by decide +kernel
theorem dq_DS_rank_13 : decode gc_DS_rank 13 = .ok (.bipush 9, 2) := by decide +kernel
theorem dq_DS_rank_15 : decode gc_DS_rank 15 = .ok (.invokestatic 76, 3) := by decide +kernel
theorem dq_DS_rank_18 : decode gc_DS_rank 18 = .ok (.ifCond .eq 6, 3) := by decide +kernel
theorem dq_DS_rank_21 : decode gc_DS_rank 21 = .ok (.ldc 80, 2) := by decide +kernel
theorem dq_DS_rank_23 : decode gc_DS_rank 23 = .ok (.ireturn, 1) := by decide +kernel
theorem dq_DS_rank_24 : decode gc_DS_rank 24 = .ok (.aload_n 0, 1) := by decide +kernel
theorem dq_DS_rank_25 : decode gc_DS_rank 25 = .ok (.getfield 31, 3) := by decide +kernel
theorem dq_DS_rank_28 : decode gc_DS_rank 28 = .ok (.getfield 169, 3) := by decide +kernel
theorem dq_DS_rank_31 : decode gc_DS_rank 31 = .ok (.iload_n 1, 1) := by decide +kernel
theorem dq_DS_rank_32 : decode gc_DS_rank 32 = .ok (.iaload, 1) := by decide +kernel
theorem dq_DS_rank_33 : decode gc_DS_rank 33 = .ok (.istore_n 3, 1) := by decide +kernel
theorem dq_DS_rank_34 : decode gc_DS_rank 34 = .ok (.aload_n 0, 1) := by decide +kernel
theorem dq_DS_rank_35 : decode gc_DS_rank 35 = .ok (.getfield 31, 3) := by decide +kernel
theorem dq_DS_rank_38 : decode gc_DS_rank 38 = .ok (.getfield 169, 3) := by decide +kernel
theorem dq_DS_rank_41 : decode gc_DS_rank 41 = .ok (.iload_n 1, 1) := by decide +kernel
theorem dq_DS_rank_42 : decode gc_DS_rank 42 = .ok (.iload_n 2, 1) := by decide +kernel
theorem dq_DS_rank_43 : decode gc_DS_rank 43 = .ok (.iastore, 1) := by decide +kernel
theorem dq_DS_rank_44 : decode gc_DS_rank 44 = .ok (.aload_n 0, 1) := by decide +kernel
theorem dq_DS_rank_45 : decode gc_DS_rank 45 = .ok (.getfield 60, 3) := by decide +kernel
theorem dq_DS_rank_48 : decode gc_DS_rank 48 = .ok (.invokevirtual 98, 3) := by decide +kernel
theorem dq_DS_rank_51 : decode gc_DS_rank 51 = .ok (.iload_n 3, 1) := by decide +kernel
theorem dq_DS_rank_52 : decode gc_DS_rank 52 = .ok (.ireturn, 1) := by decide +kernel
abbrev gm_DS_rank : gM := (gc_DS_rank, gR_6, 2, 43, 4)
def f_DS_rank (a1 : Int) (a2 : Int) (h : gH) : Option gO := gb (f_DS_isNoCart a1 h) (fun h1 r2 => if r2 = 0 then (gb (f_DS_isOutside a2 1 9 h1) (fun h4 r5 => if r5 = 0 then (gd (gix 6 a1) (gd (gix 6 a1) (gs (gup h4 32 a1.toNat a2) (fun h7 => gb (f_Shuffle_forget  h7) (fun h8 r9 => some (h8, (h4 32 a1.toNat))))))) else (some (h4, (-1000000002))))) else (some (h1, (-1000000001))))
theorem c_DS_rank {Z : gZ} (hL : gLive Z) (hn : (zL Z).Nodup) {a1 : Int} {a2 : Int}  {h : gH} {o : gO} (hg : gRg h) (ha : gRl [.inr (.inr 0), .inl a1, .inl a2]) (hx : f_DS_rank a1 a2 h = some o) : gC Z gy_DS_rank gc_DS_rank 4 (some .int) 2 43 [.inr (.inr 0), .inl a1, .inl a2] h o := by
  unfold f_DS_rank at hx
  refine gC_of (lv := [(0, .inr (.inr 0)), (1, .inl a1), (2, .inl a2)]) (own := gR_6) (by decide +kernel) rfl (Nat.le_of_ble_eq_true rfl) rfl rfl hn hg ha hx (fun X hZ hF => ?_)
  subst hZ
  show gr _ o gm_DS_rank X h 0 _ _
  refine gr_aload_n (M := gm_DS_rank) dq_DS_rank_0 rfl 0 rfl 1 rfl ?_
  refine gr_iload_n (M := gm_DS_rank) dq_DS_rank_1 rfl 1 rfl 2 rfl ?_
  refine gr_callVi (M := gm_DS_rank) (as := [.inl a1]) dq_DS_rank_2 5 rfl rfl gcy_DS_157 gim_DS_isNoCart gse_DS_isNoCart ⟨by decide, by decide⟩ (Nat.le_of_ble_eq_true rfl) gsh_0 rfl (gli hL gsh_0) (fun o1 hg ha hx => c_DS_isNoCart hL hn  hg ha hx) (fun h1 r2 _ => ?_)
  refine gr_if_eq (M := gm_DS_rank) dq_DS_rank_5 11 8 rfl rfl (fun c3 => ?_) (fun c3 => ?_)
  · refine gr_iload_n (M := gm_DS_rank) dq_DS_rank_11 rfl 2 rfl 12 rfl ?_
    refine gr_iconst (M := gm_DS_rank) (v := 1) dq_DS_rank_12 rfl ⟨by decide, by decide⟩ 13 rfl ?_
    refine gr_bipush (M := gm_DS_rank) (v := 9) dq_DS_rank_13 (by decide) ⟨by decide, by decide⟩ 15 rfl ?_
    refine gr_callSi (M := gm_DS_rank) (as := [.inl a2, .inl 1, .inl 9]) dq_DS_rank_15 18 rfl rfl gcy_DS_76 gst_DS_isOutside ⟨by decide, by decide⟩ (Nat.le_of_ble_eq_true rfl) (fun o1 hg ha hx => c_DS_isOutside hL hn  hg ha hx) (fun h4 r5 _ => ?_)
    refine gr_if_eq (M := gm_DS_rank) dq_DS_rank_18 24 21 rfl rfl (fun c6 => ?_) (fun c6 => ?_)
    · refine gr_aload_n (M := gm_DS_rank) dq_DS_rank_24 rfl 0 rfl 25 rfl ?_
      refine gr_geta (M := gm_DS_rank) dq_DS_rank_25 28 rfl gfl_DS_31 gsh_0 rfl (gli hL gsh_0) ?_
      refine gr_getr (M := gm_DS_rank) dq_DS_rank_28 31 rfl gfl_DS_169 gsh_27 rfl (gli hL gsh_27) 32 rfl ?_
      refine gr_iload_n (M := gm_DS_rank) dq_DS_rank_31 rfl 1 rfl 32 rfl ?_
      refine gr_iald (M := gm_DS_rank) dq_DS_rank_32 33 rfl gsh_32 (glj hL gsh_32 (by decide)) ?_
      refine gr_istore_n (M := gm_DS_rank) (lv' := [(3, .inl (h4 32 a1.toNat)), (0, .inr (.inr 0)), (1, .inl a1), (2, .inl a2)]) dq_DS_rank_33 rfl (by decide) rfl 34 rfl ?_
      refine gr_aload_n (M := gm_DS_rank) dq_DS_rank_34 rfl 1 rfl 35 rfl ?_
      refine gr_geta (M := gm_DS_rank) dq_DS_rank_35 38 rfl gfl_DS_31 gsh_0 rfl (gli hL gsh_0) ?_
      refine gr_getr (M := gm_DS_rank) dq_DS_rank_38 41 rfl gfl_DS_169 gsh_27 rfl (gli hL gsh_27) 32 rfl ?_
      refine gr_iload_n (M := gm_DS_rank) dq_DS_rank_41 rfl 2 rfl 42 rfl ?_
      refine gr_iload_n (M := gm_DS_rank) dq_DS_rank_42 rfl 3 rfl 43 rfl ?_
      refine gr_iast (M := gm_DS_rank) dq_DS_rank_43 44 rfl gsh_32 (glj hL gsh_32 (by decide)) (fun h7 _ => ?_)
      refine gr_aload_n (M := gm_DS_rank) dq_DS_rank_44 rfl 1 rfl 45 rfl ?_
      refine gr_geta (M := gm_DS_rank) dq_DS_rank_45 48 rfl gfl_DS_60 gsh_0 rfl (gli hL gsh_0) ?_
      refine gr_callVv (M := gm_DS_rank) (as := []) dq_DS_rank_48 51 rfl rfl gcy_DS_98 gim_Shuffle_forget gse_Shuffle_forget ⟨by decide, by decide⟩ (Nat.le_of_ble_eq_true rfl) gsh_72 rfl (gli hL gsh_72) (fun o1 hg ha hx => c_Shuffle_forget hL hn  hg ha hx) (fun h8 r9 _ => ?_)
      refine gr_iload_n (M := gm_DS_rank) dq_DS_rank_51 rfl 0 rfl 52 rfl ?_
      exact gr_ireturn (M := gm_DS_rank) dq_DS_rank_52 hF
    refine gr_ldc (M := gm_DS_rank) (v := (-1000000002)) dq_DS_rank_21 gk_DS_80 ⟨by decide, by decide⟩ 23 rfl ?_
    exact gr_ireturn (M := gm_DS_rank) dq_DS_rank_23 hF
  refine gr_ldc (M := gm_DS_rank) (v := (-1000000001)) dq_DS_rank_8 gk_DS_130 ⟨by decide, by decide⟩ 10 rfl ?_
  exact gr_ireturn (M := gm_DS_rank) dq_DS_rank_10 hF

-- DS_allHome
theorem dq_DS_allHome_0 : decode gc_DS_allHome 0 = .ok (.iload_n 1, 1) := by decide +kernel
theorem dq_DS_allHome_1 : decode gc_DS_allHome 1 = .ok (.iconst 1, 1) := by decide +kernel
theorem dq_DS_allHome_2 : decode gc_DS_allHome 2 = .ok (.sipush 300, 3) := by decide +kernel
theorem dq_DS_allHome_5 : decode gc_DS_allHome 5 = .ok (.invokestatic 76, 3) := by decide +kernel
theorem dq_DS_allHome_8 : decode gc_DS_allHome 8 = .ok (.ifCond .ne 12, 3) := by decide +kernel
theorem dq_DS_allHome_11 : decode gc_DS_allHome 11 = .ok (.iload_n 2, 1) := by decide +kernel
theorem dq_DS_allHome_12 : decode gc_DS_allHome 12 = .ok (.iconst 0, 1) := by decide +kernel
theorem dq_DS_allHome_13 : decode gc_DS_allHome 13 = .ok (.iconst 1, 1) := by decide +kernel
theorem dq_DS_allHome_14 : decode gc_DS_allHome 14 = .ok (.invokestatic 76, 3) := by decide +kernel
theorem dq_DS_allHome_17 : decode gc_DS_allHome 17 = .ok (.ifCond .eq 6, 3) := by decide +kernel
theorem dq_DS_allHome_20 : decode gc_DS_allHome 20 = .ok (.ldc 80, 2) := by decide +kernel
theorem dq_DS_allHome_22 : decode gc_DS_allHome 22 = .ok (.ireturn, 1) := by decide +kernel
theorem dq_DS_allHome_23 : decode gc_DS_allHome 23 = .ok (.aload_n 0, 1) := by decide +kernel
theorem dq_DS_allHome_24 : decode gc_DS_allHome 24 = .ok (.getfield 35, 3) := by decide +kernel
theorem dq_DS_allHome_27 : decode gc_DS_allHome 27 = .ok (.aload_n 0, 1) := by decide +kernel
theorem dq_DS_allHome_28 : decode gc_DS_allHome 28 = .ok (.getfield 31, 3) := by decide +kernel
theorem dq_DS_allHome_31 : decode gc_DS_allHome 31 = .ok (.invokevirtual 209, 3) := by decide +kernel
theorem dq_DS_allHome_34 : decode gc_DS_allHome 34 = .ok (.aload_n 0, 1) := by decide +kernel
theorem dq_DS_allHome_35 : decode gc_DS_allHome 35 = .ok (.getfield 35, 3) := by decide +kernel
theorem dq_DS_allHome_38 : decode gc_DS_allHome 38 = .ok (.iload_n 1, 1) := by decide +kernel
theorem dq_DS_allHome_39 : decode gc_DS_allHome 39 = .ok (.invokevirtual 202, 3) := by decide +kernel
theorem dq_DS_allHome_42 : decode gc_DS_allHome 42 = .ok (.iload_n 2, 1) := by decide +kernel
theorem dq_DS_allHome_43 : decode gc_DS_allHome 43 = .ok (.ifCond .ne 13, 3) := by decide +kernel
theorem dq_DS_allHome_46 : decode gc_DS_allHome 46 = .ok (.aload_n 0, 1) := by decide +kernel
theorem dq_DS_allHome_47 : decode gc_DS_allHome 47 = .ok (.getfield 35, 3) := by decide +kernel
theorem dq_DS_allHome_50 : decode gc_DS_allHome 50 = .ok (.invokevirtual 199, 3) := by decide +kernel
theorem dq_DS_allHome_53 : decode gc_DS_allHome 53 = .ok (.goto 11, 3) := by decide +kernel
theorem dq_DS_allHome_56 : decode gc_DS_allHome 56 = .ok (.aload_n 0, 1) := by decide +kernel
theorem dq_DS_allHome_57 : decode gc_DS_allHome 57 = .ok (.getfield 35, 3) := by decide +kernel
theorem dq_DS_allHome_60 : decode gc_DS_allHome 60 = .ok (.iconst (-1), 1) := by decide +kernel
theorem dq_DS_allHome_61 : decode gc_DS_allHome 61 = .ok (.invokevirtual 212, 3) := by decide +kernel
theorem dq_DS_allHome_64 : decode gc_DS_allHome 64 = .ok (.ireturn, 1) := by decide +kernel
abbrev gm_DS_allHome : gM := (gc_DS_allHome, gR_6, 5, 113, 3)
theorem gfl_DS_35 : gFl gR_6 35 6 4 := ⟨_, _, _, rfl, by decide, (gtab_at 276 (by decide +kernel) rfl), gin_6⟩
set_option maxRecDepth 20000 in
theorem gcy_DS_209 : gCy gR_6 209 gy_Traffic_copyFrom gc_Traffic_copyFrom 2 none 1 := ⟨(gtab_at 582 (by decide +kernel) rfl), (gtab_at 4 (by decide +kernel) rfl), (gtab_at 585 rfl rfl), by decide, by decide, by decide +kernel⟩
set_option maxRecDepth 20000 in
theorem gcy_DS_212 : gCy gR_6 212 gy_Traffic_together gc_Traffic_together 4 (some .int) 1 := ⟨(gtab_at 589 (by decide +kernel) rfl), (gtab_at 4 (by decide +kernel) rfl), (gtab_at 592 rfl rfl), by decide, by decide, by decide +kernel⟩
def f_DS_allHome (a1 : Int) (a2 : Int) (h : gH) : Option gO := gb (f_DS_isOutside a1 1 300 h) (fun h1 r2 => if r2 = 0 then (gb (f_DS_isOutside a2 0 1 h1) (fun h4 r5 => if r5 = 0 then (gb (f_Traffic_copyFrom 37 27 h4) (fun h7 r8 => gb (f_Traffic_pass 37 a1 h7) (fun h9 r10 => if a2 = 0 then (gb (f_Traffic_countHome 37 h9) (fun h14 r15 => some (h14, r15))) else (gb (f_Traffic_together 37 (-1) h9) (fun h12 r13 => some (h12, r13)))))) else (some (h4, (-1000000002))))) else (some (h1, (-1000000002))))
theorem c_DS_allHome {Z : gZ} (hL : gLive Z) (hn : (zL Z).Nodup) {a1 : Int} {a2 : Int}  {h : gH} {o : gO} (hg : gRg h) (ha : gRl [.inr (.inr 0), .inl a1, .inl a2]) (hx : f_DS_allHome a1 a2 h = some o) : gC Z gy_DS_allHome gc_DS_allHome 3 (some .int) 5 113 [.inr (.inr 0), .inl a1, .inl a2] h o := by
  unfold f_DS_allHome at hx
  refine gC_of (lv := [(0, .inr (.inr 0)), (1, .inl a1), (2, .inl a2)]) (own := gR_6) (by decide +kernel) rfl (Nat.le_of_ble_eq_true rfl) rfl rfl hn hg ha hx (fun X hZ hF => ?_)
  subst hZ
  show gr _ o gm_DS_allHome X h 0 _ _
  refine gr_iload_n (M := gm_DS_allHome) dq_DS_allHome_0 rfl 1 rfl 1 rfl ?_
  refine gr_iconst (M := gm_DS_allHome) (v := 1) dq_DS_allHome_1 rfl ⟨by decide, by decide⟩ 2 rfl ?_
  refine gr_sipush (M := gm_DS_allHome) (v := 300) dq_DS_allHome_2 (by decide) ⟨by decide, by decide⟩ 5 rfl ?_
  refine gr_callSi (M := gm_DS_allHome) (as := [.inl a1, .inl 1, .inl 300]) dq_DS_allHome_5 8 rfl rfl gcy_DS_76 gst_DS_isOutside ⟨by decide, by decide⟩ (Nat.le_of_ble_eq_true rfl) (fun o1 hg ha hx => c_DS_isOutside hL hn  hg ha hx) (fun h1 r2 _ => ?_)
  refine gr_if_ne (M := gm_DS_allHome) dq_DS_allHome_8 20 11 rfl rfl (fun c3 => ?_) (fun c3 => ?_)
  · refine gr_ldc (M := gm_DS_allHome) (v := (-1000000002)) dq_DS_allHome_20 gk_DS_80 ⟨by decide, by decide⟩ 22 rfl ?_
    exact gr_ireturn (M := gm_DS_allHome) dq_DS_allHome_22 hF
  refine gr_iload_n (M := gm_DS_allHome) dq_DS_allHome_11 rfl 2 rfl 12 rfl ?_
  refine gr_iconst (M := gm_DS_allHome) (v := 0) dq_DS_allHome_12 rfl ⟨by decide, by decide⟩ 13 rfl ?_
  refine gr_iconst (M := gm_DS_allHome) (v := 1) dq_DS_allHome_13 rfl ⟨by decide, by decide⟩ 14 rfl ?_
  refine gr_callSi (M := gm_DS_allHome) (as := [.inl a2, .inl 0, .inl 1]) dq_DS_allHome_14 17 rfl rfl gcy_DS_76 gst_DS_isOutside ⟨by decide, by decide⟩ (Nat.le_of_ble_eq_true rfl) (fun o1 hg ha hx => c_DS_isOutside hL hn  hg ha hx) (fun h4 r5 _ => ?_)
  refine gr_if_eq (M := gm_DS_allHome) dq_DS_allHome_17 23 20 rfl rfl (fun c6 => ?_) (fun c6 => ?_)
  · refine gr_aload_n (M := gm_DS_allHome) dq_DS_allHome_23 rfl 0 rfl 24 rfl ?_
    refine gr_geta (M := gm_DS_allHome) dq_DS_allHome_24 27 rfl gfl_DS_35 gsh_0 rfl (gli hL gsh_0) ?_
    refine gr_aload_n (M := gm_DS_allHome) dq_DS_allHome_27 rfl 0 rfl 28 rfl ?_
    refine gr_geta (M := gm_DS_allHome) dq_DS_allHome_28 31 rfl gfl_DS_31 gsh_0 rfl (gli hL gsh_0) ?_
    refine gr_callVv (M := gm_DS_allHome) (as := [.inr (.inr 27)]) dq_DS_allHome_31 34 rfl rfl gcy_DS_209 gim_Traffic_copyFrom gse_Traffic_copyFrom ⟨by decide, by decide⟩ (Nat.le_of_ble_eq_true rfl) gsh_37 rfl (gli hL gsh_37) (fun o1 hg ha hx => c_Traffic_copyFrom hL hn gsh_37 gsh_27 hg ha hx) (fun h7 r8 _ => ?_)
    refine gr_aload_n (M := gm_DS_allHome) dq_DS_allHome_34 rfl 0 rfl 35 rfl ?_
    refine gr_geta (M := gm_DS_allHome) dq_DS_allHome_35 38 rfl gfl_DS_35 gsh_0 rfl (gli hL gsh_0) ?_
    refine gr_iload_n (M := gm_DS_allHome) dq_DS_allHome_38 rfl 1 rfl 39 rfl ?_
    refine gr_callVv (M := gm_DS_allHome) (as := [.inl a1]) dq_DS_allHome_39 42 rfl rfl gcy_DS_202 gim_Traffic_pass gse_Traffic_pass ⟨by decide, by decide⟩ (Nat.le_of_ble_eq_true rfl) gsh_37 rfl (gli hL gsh_37) (fun o1 hg ha hx => c_Traffic_pass hL hn gsh_37 hg ha hx) (fun h9 r10 _ => ?_)
    refine gr_iload_n (M := gm_DS_allHome) dq_DS_allHome_42 rfl 2 rfl 43 rfl ?_
    refine gr_if_ne (M := gm_DS_allHome) dq_DS_allHome_43 56 46 rfl rfl (fun c11 => ?_) (fun c11 => ?_)
    · refine gr_aload_n (M := gm_DS_allHome) dq_DS_allHome_56 rfl 0 rfl 57 rfl ?_
      refine gr_geta (M := gm_DS_allHome) dq_DS_allHome_57 60 rfl gfl_DS_35 gsh_0 rfl (gli hL gsh_0) ?_
      refine gr_iconst (M := gm_DS_allHome) (v := (-1)) dq_DS_allHome_60 rfl ⟨by decide, by decide⟩ 61 rfl ?_
      refine gr_callVi (M := gm_DS_allHome) (as := [.inl (-1)]) dq_DS_allHome_61 64 rfl rfl gcy_DS_212 gim_Traffic_together gse_Traffic_together ⟨by decide, by decide⟩ (Nat.le_of_ble_eq_true rfl) gsh_37 rfl (gli hL gsh_37) (fun o1 hg ha hx => c_Traffic_together hL hn gsh_37 hg ha hx) (fun h12 r13 _ => ?_)
      exact gr_ireturn (M := gm_DS_allHome) dq_DS_allHome_64 hF
    refine gr_aload_n (M := gm_DS_allHome) dq_DS_allHome_46 rfl 0 rfl 47 rfl ?_
    refine gr_geta (M := gm_DS_allHome) dq_DS_allHome_47 50 rfl gfl_DS_35 gsh_0 rfl (gli hL gsh_0) ?_
    refine gr_callVi (M := gm_DS_allHome) (as := []) dq_DS_allHome_50 53 rfl rfl gcy_DS_199 gim_Traffic_countHome gse_Traffic_countHome ⟨by decide, by decide⟩ (Nat.le_of_ble_eq_true rfl) gsh_37 rfl (gli hL gsh_37) (fun o1 hg ha hx => c_Traffic_countHome hL hn gsh_37 hg ha hx) (fun h14 r15 _ => ?_)
    refine gr_goto (M := gm_DS_allHome) dq_DS_allHome_53 64 rfl ?_
    exact gr_ireturn (M := gm_DS_allHome) dq_DS_allHome_64 hF
  refine gr_ldc (M := gm_DS_allHome) (v := (-1000000002)) dq_DS_allHome_20 gk_DS_80 ⟨by decide, by decide⟩ 22 rfl ?_
  exact gr_ireturn (M := gm_DS_allHome) dq_DS_allHome_22 hF

-- DS_foreseen
theorem dq_DS_foreseen_0 : decode gc_DS_foreseen 0 = .ok (.aload_n 0, 1) := by decide +kernel
theorem dq_DS_foreseen_1 : decode gc_DS_foreseen 1 = .ok (.iload_n 1, 1) := by decide +kernel
theorem dq_DS_foreseen_2 : decode gc_DS_foreseen 2 = .ok (.invokevirtual 127, 3) := by decide +kernel
theorem dq_DS_foreseen_5 : decode gc_DS_foreseen 5 = .ok (.ifCond .ne 11, 3) := by decide +kernel
theorem dq_DS_foreseen_8 : decode gc_DS_foreseen 8 = .ok (.aload_n 0, 1) := by decide +kernel
theorem dq_DS_foreseen_9 : decode gc_DS_foreseen 9 = .ok (.iload_n 2, 1) := by decide +kernel
theorem dq_DS_foreseen_10 : decode gc_DS_foreseen 10 = .ok (.invokevirtual 127, 3) := by decide +kernel
theorem dq_DS_foreseen_13 : decode gc_DS_foreseen 13 = .ok (.ifCond .eq 6, 3) := by decide +kernel
theorem dq_DS_foreseen_16 : decode gc_DS_foreseen 16 = .ok (.ldc 130, 2) := by decide +kernel
theorem dq_DS_foreseen_18 : decode gc_DS_foreseen 18 = .ok (.ireturn, 1) := by decide +kernel
theorem dq_DS_foreseen_19 : decode gc_DS_foreseen 19 = .ok (.iload_n 3, 1) := by decide +kernel
theorem dq_DS_foreseen_20 : decode gc_DS_foreseen 20 = .ok (.iconst 0, 1) := by decide +kernel
theorem dq_DS_foreseen_21 : decode gc_DS_foreseen 21 = .ok (.sipush 999, 3) := by decide +kernel
theorem dq_DS_foreseen_24 : decode gc_DS_foreseen 24 = .ok (.invokestatic 76, 3) := by decide +kernel
theorem dq_DS_foreseen_27 : decode gc_DS_foreseen 27 = .ok (.ifCond .eq 6, 3) := by decide +kernel
theorem dq_DS_foreseen_30 : decode gc_DS_foreseen 30 = .ok (.ldc 80, 2) := by decide +kernel
theorem dq_DS_foreseen_32 : decode gc_DS_foreseen 32 = .ok (.ireturn, 1) := by decide +kernel
theorem dq_DS_foreseen_33 : decode gc_DS_foreseen 33 = .ok (.aload_n 0, 1) := by decide +kernel
theorem dq_DS_foreseen_34 : decode gc_DS_foreseen 34 = .ok (.getfield 51, 3) := by decide +kernel
theorem dq_DS_foreseen_37 : decode gc_DS_foreseen 37 = .ok (.iload_n 1, 1) := by decide +kernel
theorem dq_DS_foreseen_38 : decode gc_DS_foreseen 38 = .ok (.iload_n 3, 1) := by decide +kernel
theorem dq_DS_foreseen_39 : decode gc_DS_foreseen 39 = .ok (.invokevirtual 215, 3) := by decide +kernel
theorem dq_DS_foreseen_42 : decode gc_DS_foreseen 42 = .ok (.aload_n 0, 1) := by decide +kernel
theorem dq_DS_foreseen_43 : decode gc_DS_foreseen 43 = .ok (.getfield 51, 3) := by decide +kernel
theorem dq_DS_foreseen_46 : decode gc_DS_foreseen 46 = .ok (.invokevirtual 219, 3) := by decide +kernel
theorem dq_DS_foreseen_49 : decode gc_DS_foreseen 49 = .ok (.aload_n 0, 1) := by decide +kernel
theorem dq_DS_foreseen_50 : decode gc_DS_foreseen 50 = .ok (.getfield 51, 3) := by decide +kernel
theorem dq_DS_foreseen_53 : decode gc_DS_foreseen 53 = .ok (.getfield 222, 3) := by decide +kernel
theorem dq_DS_foreseen_56 : decode gc_DS_foreseen 56 = .ok (.iload_n 2, 1) := by decide +kernel
theorem dq_DS_foreseen_57 : decode gc_DS_foreseen 57 = .ok (.iaload, 1) := by decide +kernel
theorem dq_DS_foreseen_58 : decode gc_DS_foreseen 58 = .ok (.iload_n 3, 1) := by decide +kernel
theorem dq_DS_foreseen_59 : decode gc_DS_foreseen 59 = .ok (.sipush 300, 3) := by decide +kernel
theorem dq_DS_foreseen_62 : decode gc_DS_foreseen 62 = .ok (.iadd, 1) := by decide +kernel
theorem dq_DS_foreseen_63 : decode gc_DS_foreseen 63 = .ok (.if_icmp .gt 15, 3) := by decide +kernel
theorem dq_DS_foreseen_66 : decode gc_DS_foreseen 66 = .ok (.aload_n 0, 1) := by decide +kernel
theorem dq_DS_foreseen_67 : decode gc_DS_foreseen 67 = .ok (.getfield 51, 3) := by decide +kernel
theorem dq_DS_foreseen_70 : decode gc_DS_foreseen 70 = .ok (.getfield 222, 3) := by decide +kernel
theorem dq_DS_foreseen_73 : decode gc_DS_foreseen 73 = .ok (.iload_n 2, 1) := by decide +kernel
theorem dq_DS_foreseen_74 : decode gc_DS_foreseen 74 = .ok (.iaload, 1) := by decide +kernel
theorem dq_DS_foreseen_75 : decode gc_DS_foreseen 75 = .ok (.goto 4, 3) := by decide +kernel
theorem dq_DS_foreseen_78 : decode gc_DS_foreseen 78 = .ok (.iconst (-1), 1) := by decide +kernel
theorem dq_DS_foreseen_79 : decode gc_DS_foreseen 79 = .ok (.ireturn, 1) := by decide +kernel
abbrev gm_DS_foreseen : gM := (gc_DS_foreseen, gR_6, 3, 71, 4)
theorem gfl_DS_51 : gFl gR_6 51 6 7 := ⟨_, _, _, rfl, by decide, (gtab_at 279 (by decide +kernel) rfl), gin_6⟩
set_option maxRecDepth 20000 in
theorem gcy_DS_215 : gCy gR_6 215 gy_Way_setOut gc_Way_setOut 4 none 2 := ⟨(gtab_at 597 (by decide +kernel) rfl), (gtab_at 5 (by decide +kernel) rfl), (gtab_at 600 rfl rfl), by decide, by decide, by decide +kernel⟩
theorem gim_Way_setOut : Cond.instanceMethod gy_Way_setOut ∈ gtbl := (gtab_at 598 (by decide +kernel) rfl)
theorem gse_Way_setOut : Cond.selects gy_Way_setOut.cls gy_Way_setOut gy_Way_setOut ∈ gtbl := (gtab_at 599 (by decide +kernel) rfl)
set_option maxRecDepth 20000 in
theorem gcy_DS_219 : gCy gR_6 219 gy_Way_spread gc_Way_spread 4 none 0 := ⟨(gtab_at 602 (by decide +kernel) rfl), (gtab_at 5 (by decide +kernel) rfl), (gtab_at 605 rfl rfl), by decide, by decide, by decide +kernel⟩
theorem gfl_DS_222 : gFl gR_6 222 5 0 := ⟨_, _, _, rfl, by decide, (gtab_at 212 (by decide +kernel) rfl), gin_5⟩
def f_DS_foreseen (a1 : Int) (a2 : Int) (a3 : Int) (h : gH) : Option gO := gb (f_DS_isNoCorner a1 h) (fun h1 r2 => if r2 = 0 then (gb (f_DS_isNoCorner a2 h1) (fun h4 r5 => if r5 = 0 then (gb (f_DS_isOutside a3 0 999 h4) (fun h7 r8 => if r8 = 0 then (gb (f_Way_setOut a1 a3 h7) (fun h10 r11 => gb (f_Way_spread  h10) (fun h12 r13 => gd (gix 7 a2) (if (gadd a3 300) < (h12 70 a2.toNat) then (some (h12, (-1))) else (gd (gix 7 a2) (some (h12, (h12 70 a2.toNat)))))))) else (some (h7, (-1000000002))))) else (some (h4, (-1000000001))))) else (some (h1, (-1000000001))))
theorem c_DS_foreseen {Z : gZ} (hL : gLive Z) (hn : (zL Z).Nodup) {a1 : Int} {a2 : Int} {a3 : Int}  {h : gH} {o : gO} (hg : gRg h) (ha : gRl [.inr (.inr 0), .inl a1, .inl a2, .inl a3]) (hx : f_DS_foreseen a1 a2 a3 h = some o) : gC Z gy_DS_foreseen gc_DS_foreseen 4 (some .int) 3 71 [.inr (.inr 0), .inl a1, .inl a2, .inl a3] h o := by
  unfold f_DS_foreseen at hx
  refine gC_of (lv := [(0, .inr (.inr 0)), (1, .inl a1), (2, .inl a2), (3, .inl a3)]) (own := gR_6) (by decide +kernel) rfl (Nat.le_of_ble_eq_true rfl) rfl rfl hn hg ha hx (fun X hZ hF => ?_)
  subst hZ
  show gr _ o gm_DS_foreseen X h 0 _ _
  refine gr_aload_n (M := gm_DS_foreseen) dq_DS_foreseen_0 rfl 0 rfl 1 rfl ?_
  refine gr_iload_n (M := gm_DS_foreseen) dq_DS_foreseen_1 rfl 1 rfl 2 rfl ?_
  refine gr_callVi (M := gm_DS_foreseen) (as := [.inl a1]) dq_DS_foreseen_2 5 rfl rfl gcy_DS_127 gim_DS_isNoCorner gse_DS_isNoCorner ⟨by decide, by decide⟩ (Nat.le_of_ble_eq_true rfl) gsh_0 rfl (gli hL gsh_0) (fun o1 hg ha hx => c_DS_isNoCorner hL hn  hg ha hx) (fun h1 r2 _ => ?_)
  refine gr_if_ne (M := gm_DS_foreseen) dq_DS_foreseen_5 16 8 rfl rfl (fun c3 => ?_) (fun c3 => ?_)
  · refine gr_ldc (M := gm_DS_foreseen) (v := (-1000000001)) dq_DS_foreseen_16 gk_DS_130 ⟨by decide, by decide⟩ 18 rfl ?_
    exact gr_ireturn (M := gm_DS_foreseen) dq_DS_foreseen_18 hF
  refine gr_aload_n (M := gm_DS_foreseen) dq_DS_foreseen_8 rfl 0 rfl 9 rfl ?_
  refine gr_iload_n (M := gm_DS_foreseen) dq_DS_foreseen_9 rfl 2 rfl 10 rfl ?_
  refine gr_callVi (M := gm_DS_foreseen) (as := [.inl a2]) dq_DS_foreseen_10 13 rfl rfl gcy_DS_127 gim_DS_isNoCorner gse_DS_isNoCorner ⟨by decide, by decide⟩ (Nat.le_of_ble_eq_true rfl) gsh_0 rfl (gli hL gsh_0) (fun o1 hg ha hx => c_DS_isNoCorner hL hn  hg ha hx) (fun h4 r5 _ => ?_)
  refine gr_if_eq (M := gm_DS_foreseen) dq_DS_foreseen_13 19 16 rfl rfl (fun c6 => ?_) (fun c6 => ?_)
  · refine gr_iload_n (M := gm_DS_foreseen) dq_DS_foreseen_19 rfl 3 rfl 20 rfl ?_
    refine gr_iconst (M := gm_DS_foreseen) (v := 0) dq_DS_foreseen_20 rfl ⟨by decide, by decide⟩ 21 rfl ?_
    refine gr_sipush (M := gm_DS_foreseen) (v := 999) dq_DS_foreseen_21 (by decide) ⟨by decide, by decide⟩ 24 rfl ?_
    refine gr_callSi (M := gm_DS_foreseen) (as := [.inl a3, .inl 0, .inl 999]) dq_DS_foreseen_24 27 rfl rfl gcy_DS_76 gst_DS_isOutside ⟨by decide, by decide⟩ (Nat.le_of_ble_eq_true rfl) (fun o1 hg ha hx => c_DS_isOutside hL hn  hg ha hx) (fun h7 r8 _ => ?_)
    refine gr_if_eq (M := gm_DS_foreseen) dq_DS_foreseen_27 33 30 rfl rfl (fun c9 => ?_) (fun c9 => ?_)
    · refine gr_aload_n (M := gm_DS_foreseen) dq_DS_foreseen_33 rfl 0 rfl 34 rfl ?_
      refine gr_geta (M := gm_DS_foreseen) dq_DS_foreseen_34 37 rfl gfl_DS_51 gsh_0 rfl (gli hL gsh_0) ?_
      refine gr_iload_n (M := gm_DS_foreseen) dq_DS_foreseen_37 rfl 1 rfl 38 rfl ?_
      refine gr_iload_n (M := gm_DS_foreseen) dq_DS_foreseen_38 rfl 3 rfl 39 rfl ?_
      refine gr_callVv (M := gm_DS_foreseen) (as := [.inl a1, .inl a3]) dq_DS_foreseen_39 42 rfl rfl gcy_DS_215 gim_Way_setOut gse_Way_setOut ⟨by decide, by decide⟩ (Nat.le_of_ble_eq_true rfl) gsh_69 rfl (gli hL gsh_69) (fun o1 hg ha hx => c_Way_setOut hL hn  hg ha hx) (fun h10 r11 _ => ?_)
      refine gr_aload_n (M := gm_DS_foreseen) dq_DS_foreseen_42 rfl 0 rfl 43 rfl ?_
      refine gr_geta (M := gm_DS_foreseen) dq_DS_foreseen_43 46 rfl gfl_DS_51 gsh_0 rfl (gli hL gsh_0) ?_
      refine gr_callVv (M := gm_DS_foreseen) (as := []) dq_DS_foreseen_46 49 rfl rfl gcy_DS_219 gim_Way_spread gse_Way_spread ⟨by decide, by decide⟩ (Nat.le_of_ble_eq_true rfl) gsh_69 rfl (gli hL gsh_69) (fun o1 hg ha hx => c_Way_spread hL hn  hg ha hx) (fun h12 r13 _ => ?_)
      refine gr_aload_n (M := gm_DS_foreseen) dq_DS_foreseen_49 rfl 0 rfl 50 rfl ?_
      refine gr_geta (M := gm_DS_foreseen) dq_DS_foreseen_50 53 rfl gfl_DS_51 gsh_0 rfl (gli hL gsh_0) ?_
      refine gr_getr (M := gm_DS_foreseen) dq_DS_foreseen_53 56 rfl gfl_DS_222 gsh_69 rfl (gli hL gsh_69) 70 rfl ?_
      refine gr_iload_n (M := gm_DS_foreseen) dq_DS_foreseen_56 rfl 2 rfl 57 rfl ?_
      refine gr_iald (M := gm_DS_foreseen) dq_DS_foreseen_57 58 rfl gsh_70 (glj hL gsh_70 (by decide)) ?_
      refine gr_iload_n (M := gm_DS_foreseen) dq_DS_foreseen_58 rfl 3 rfl 59 rfl ?_
      refine gr_sipush (M := gm_DS_foreseen) (v := 300) dq_DS_foreseen_59 (by decide) ⟨by decide, by decide⟩ 62 rfl ?_
      refine gr_iadd (M := gm_DS_foreseen) dq_DS_foreseen_62 63 rfl ?_
      refine gr_icmp_gt (M := gm_DS_foreseen) dq_DS_foreseen_63 78 66 rfl rfl (fun c14 => ?_) (fun c14 => ?_)
      · refine gr_iconst (M := gm_DS_foreseen) (v := (-1)) dq_DS_foreseen_78 rfl ⟨by decide, by decide⟩ 79 rfl ?_
        exact gr_ireturn (M := gm_DS_foreseen) dq_DS_foreseen_79 hF
      refine gr_aload_n (M := gm_DS_foreseen) dq_DS_foreseen_66 rfl 0 rfl 67 rfl ?_
      refine gr_geta (M := gm_DS_foreseen) dq_DS_foreseen_67 70 rfl gfl_DS_51 gsh_0 rfl (gli hL gsh_0) ?_
      refine gr_getr (M := gm_DS_foreseen) dq_DS_foreseen_70 73 rfl gfl_DS_222 gsh_69 rfl (gli hL gsh_69) 70 rfl ?_
      refine gr_iload_n (M := gm_DS_foreseen) dq_DS_foreseen_73 rfl 2 rfl 74 rfl ?_
      refine gr_iald (M := gm_DS_foreseen) dq_DS_foreseen_74 75 rfl gsh_70 (glj hL gsh_70 (by decide)) ?_
      refine gr_goto (M := gm_DS_foreseen) dq_DS_foreseen_75 79 rfl ?_
      exact gr_ireturn (M := gm_DS_foreseen) dq_DS_foreseen_79 hF
    refine gr_ldc (M := gm_DS_foreseen) (v := (-1000000002)) dq_DS_foreseen_30 gk_DS_80 ⟨by decide, by decide⟩ 32 rfl ?_
    exact gr_ireturn (M := gm_DS_foreseen) dq_DS_foreseen_32 hF
  refine gr_ldc (M := gm_DS_foreseen) (v := (-1000000001)) dq_DS_foreseen_16 gk_DS_130 ⟨by decide, by decide⟩ 18 rfl ?_
  exact gr_ireturn (M := gm_DS_foreseen) dq_DS_foreseen_18 hF

-- DS_bought
theorem dq_DS_bought_0 : decode gc_DS_bought 0 = .ok (.aload_n 0, 1) := by decide +kernel
theorem dq_DS_bought_1 : decode gc_DS_bought 1 = .ok (.iload_n 1, 1) := by decide +kernel
theorem dq_DS_bought_2 : decode gc_DS_bought 2 = .ok (.invokevirtual 127, 3) := by decide +kernel
theorem dq_DS_bought_5 : decode gc_DS_bought 5 = .ok (.ifCond .ne 11, 3) := by decide +kernel
theorem dq_DS_bought_8 : decode gc_DS_bought 8 = .ok (.aload_n 0, 1) := by decide +kernel
theorem dq_DS_bought_9 : decode gc_DS_bought 9 = .ok (.iload_n 2, 1) := by decide +kernel
theorem dq_DS_bought_10 : decode gc_DS_bought 10 = .ok (.invokevirtual 127, 3) := by decide +kernel
theorem dq_DS_bought_13 : decode gc_DS_bought 13 = .ok (.ifCond .eq 6, 3) := by decide +kernel
theorem dq_DS_bought_16 : decode gc_DS_bought 16 = .ok (.ldc 130, 2) := by decide +kernel
theorem dq_DS_bought_18 : decode gc_DS_bought 18 = .ok (.ireturn, 1) := by decide +kernel
theorem dq_DS_bought_19 : decode gc_DS_bought 19 = .ok (.iload_n 3, 1) := by decide +kernel
theorem dq_DS_bought_20 : decode gc_DS_bought 20 = .ok (.iconst 0, 1) := by decide +kernel
theorem dq_DS_bought_21 : decode gc_DS_bought 21 = .ok (.sipush 999, 3) := by decide +kernel
theorem dq_DS_bought_24 : decode gc_DS_bought 24 = .ok (.invokestatic 76, 3) := by decide +kernel
theorem dq_DS_bought_27 : decode gc_DS_bought 27 = .ok (.ifCond .ne 15, 3) := by decide +kernel
theorem dq_DS_bought_30 : decode gc_DS_bought 30 = .ok (.iload 4, 2) := by decide +kernel
theorem dq_DS_bought_32 : decode gc_DS_bought 32 = .ok (.iconst 0, 1) := by decide +kernel
theorem dq_DS_bought_33 : decode gc_DS_bought 33 = .ok (.sipush 300, 3) := by decide +kernel
theorem dq_DS_bought_36 : decode gc_DS_bought 36 = .ok (.invokestatic 76, 3) := by decide +kernel
theorem dq_DS_bought_39 : decode gc_DS_bought 39 = .ok (.ifCond .eq 6, 3) := by decide +kernel
theorem dq_DS_bought_42 : decode gc_DS_bought 42 = .ok (.ldc 80, 2) := by decide +kernel
theorem dq_DS_bought_44 : decode gc_DS_bought 44 = .ok (.ireturn, 1) := by decide +kernel
theorem dq_DS_bought_45 : decode gc_DS_bought 45 = .ok (.aload_n 0, 1) := by decide +kernel
theorem dq_DS_bought_46 : decode gc_DS_bought 46 = .ok (.getfield 51, 3) := by decide +kernel
theorem dq_DS_bought_49 : decode gc_DS_bought 49 = .ok (.iload_n 1, 1) := by decide +kernel
theorem dq_DS_bought_50 : decode gc_DS_bought 50 = .ok (.iload_n 3, 1) := by decide +kernel
theorem dq_DS_bought_51 : decode gc_DS_bought 51 = .ok (.invokevirtual 215, 3) := by decide +kernel
theorem dq_DS_bought_54 : decode gc_DS_bought 54 = .ok (.aload_n 0, 1) := by decide +kernel
theorem dq_DS_bought_55 : decode gc_DS_bought 55 = .ok (.getfield 51, 3) := by decide +kernel
theorem dq_DS_bought_58 : decode gc_DS_bought 58 = .ok (.iload_n 2, 1) := by decide +kernel
theorem dq_DS_bought_59 : decode gc_DS_bought 59 = .ok (.iload_n 3, 1) := by decide +kernel
theorem dq_DS_bought_60 : decode gc_DS_bought 60 = .ok (.iload 4, 2) := by decide +kernel
theorem dq_DS_bought_62 : decode gc_DS_bought 62 = .ok (.iadd, 1) := by decide +kernel
theorem dq_DS_bought_63 : decode gc_DS_bought 63 = .ok (.invokevirtual 225, 3) := by decide +kernel
theorem dq_DS_bought_66 : decode gc_DS_bought 66 = .ok (.ireturn, 1) := by decide +kernel
abbrev gm_DS_bought : gM := (gc_DS_bought, gR_6, 4, 94, 5)
set_option maxRecDepth 20000 in
theorem gcy_DS_225 : gCy gR_6 225 gy_Way_fewestBought gc_Way_fewestBought 4 (some .int) 2 := ⟨(gtab_at 622 (by decide +kernel) rfl), (gtab_at 5 (by decide +kernel) rfl), (gtab_at 625 rfl rfl), by decide, by decide, by decide +kernel⟩
theorem gim_Way_fewestBought : Cond.instanceMethod gy_Way_fewestBought ∈ gtbl := (gtab_at 623 (by decide +kernel) rfl)
theorem gse_Way_fewestBought : Cond.selects gy_Way_fewestBought.cls gy_Way_fewestBought gy_Way_fewestBought ∈ gtbl := (gtab_at 624 (by decide +kernel) rfl)
def f_DS_bought (a1 : Int) (a2 : Int) (a3 : Int) (a4 : Int) (h : gH) : Option gO := gb (f_DS_isNoCorner a1 h) (fun h1 r2 => if r2 = 0 then (gb (f_DS_isNoCorner a2 h1) (fun h4 r5 => if r5 = 0 then (gb (f_DS_isOutside a3 0 999 h4) (fun h7 r8 => if r8 = 0 then (gb (f_DS_isOutside a4 0 300 h7) (fun h10 r11 => if r11 = 0 then (gb (f_Way_setOut a1 a3 h10) (fun h13 r14 => gb (f_Way_fewestBought a2 (gadd a3 a4) h13) (fun h15 r16 => some (h15, r16)))) else (some (h10, (-1000000002))))) else (some (h7, (-1000000002))))) else (some (h4, (-1000000001))))) else (some (h1, (-1000000001))))
theorem c_DS_bought {Z : gZ} (hL : gLive Z) (hn : (zL Z).Nodup) {a1 : Int} {a2 : Int} {a3 : Int} {a4 : Int}  {h : gH} {o : gO} (hg : gRg h) (ha : gRl [.inr (.inr 0), .inl a1, .inl a2, .inl a3, .inl a4]) (hx : f_DS_bought a1 a2 a3 a4 h = some o) : gC Z gy_DS_bought gc_DS_bought 5 (some .int) 4 94 [.inr (.inr 0), .inl a1, .inl a2, .inl a3, .inl a4] h o := by
  unfold f_DS_bought at hx
  refine gC_of (lv := [(0, .inr (.inr 0)), (1, .inl a1), (2, .inl a2), (3, .inl a3), (4, .inl a4)]) (own := gR_6) (by decide +kernel) rfl (Nat.le_of_ble_eq_true rfl) rfl rfl hn hg ha hx (fun X hZ hF => ?_)
  subst hZ
  show gr _ o gm_DS_bought X h 0 _ _
  refine gr_aload_n (M := gm_DS_bought) dq_DS_bought_0 rfl 0 rfl 1 rfl ?_
  refine gr_iload_n (M := gm_DS_bought) dq_DS_bought_1 rfl 1 rfl 2 rfl ?_
  refine gr_callVi (M := gm_DS_bought) (as := [.inl a1]) dq_DS_bought_2 5 rfl rfl gcy_DS_127 gim_DS_isNoCorner gse_DS_isNoCorner ⟨by decide, by decide⟩ (Nat.le_of_ble_eq_true rfl) gsh_0 rfl (gli hL gsh_0) (fun o1 hg ha hx => c_DS_isNoCorner hL hn  hg ha hx) (fun h1 r2 _ => ?_)
  refine gr_if_ne (M := gm_DS_bought) dq_DS_bought_5 16 8 rfl rfl (fun c3 => ?_) (fun c3 => ?_)
  · refine gr_ldc (M := gm_DS_bought) (v := (-1000000001)) dq_DS_bought_16 gk_DS_130 ⟨by decide, by decide⟩ 18 rfl ?_
    exact gr_ireturn (M := gm_DS_bought) dq_DS_bought_18 hF
  refine gr_aload_n (M := gm_DS_bought) dq_DS_bought_8 rfl 0 rfl 9 rfl ?_
  refine gr_iload_n (M := gm_DS_bought) dq_DS_bought_9 rfl 2 rfl 10 rfl ?_
  refine gr_callVi (M := gm_DS_bought) (as := [.inl a2]) dq_DS_bought_10 13 rfl rfl gcy_DS_127 gim_DS_isNoCorner gse_DS_isNoCorner ⟨by decide, by decide⟩ (Nat.le_of_ble_eq_true rfl) gsh_0 rfl (gli hL gsh_0) (fun o1 hg ha hx => c_DS_isNoCorner hL hn  hg ha hx) (fun h4 r5 _ => ?_)
  refine gr_if_eq (M := gm_DS_bought) dq_DS_bought_13 19 16 rfl rfl (fun c6 => ?_) (fun c6 => ?_)
  · refine gr_iload_n (M := gm_DS_bought) dq_DS_bought_19 rfl 3 rfl 20 rfl ?_
    refine gr_iconst (M := gm_DS_bought) (v := 0) dq_DS_bought_20 rfl ⟨by decide, by decide⟩ 21 rfl ?_
    refine gr_sipush (M := gm_DS_bought) (v := 999) dq_DS_bought_21 (by decide) ⟨by decide, by decide⟩ 24 rfl ?_
    refine gr_callSi (M := gm_DS_bought) (as := [.inl a3, .inl 0, .inl 999]) dq_DS_bought_24 27 rfl rfl gcy_DS_76 gst_DS_isOutside ⟨by decide, by decide⟩ (Nat.le_of_ble_eq_true rfl) (fun o1 hg ha hx => c_DS_isOutside hL hn  hg ha hx) (fun h7 r8 _ => ?_)
    refine gr_if_ne (M := gm_DS_bought) dq_DS_bought_27 42 30 rfl rfl (fun c9 => ?_) (fun c9 => ?_)
    · refine gr_ldc (M := gm_DS_bought) (v := (-1000000002)) dq_DS_bought_42 gk_DS_80 ⟨by decide, by decide⟩ 44 rfl ?_
      exact gr_ireturn (M := gm_DS_bought) dq_DS_bought_44 hF
    refine gr_iload (M := gm_DS_bought) dq_DS_bought_30 4 rfl 32 rfl ?_
    refine gr_iconst (M := gm_DS_bought) (v := 0) dq_DS_bought_32 rfl ⟨by decide, by decide⟩ 33 rfl ?_
    refine gr_sipush (M := gm_DS_bought) (v := 300) dq_DS_bought_33 (by decide) ⟨by decide, by decide⟩ 36 rfl ?_
    refine gr_callSi (M := gm_DS_bought) (as := [.inl a4, .inl 0, .inl 300]) dq_DS_bought_36 39 rfl rfl gcy_DS_76 gst_DS_isOutside ⟨by decide, by decide⟩ (Nat.le_of_ble_eq_true rfl) (fun o1 hg ha hx => c_DS_isOutside hL hn  hg ha hx) (fun h10 r11 _ => ?_)
    refine gr_if_eq (M := gm_DS_bought) dq_DS_bought_39 45 42 rfl rfl (fun c12 => ?_) (fun c12 => ?_)
    · refine gr_aload_n (M := gm_DS_bought) dq_DS_bought_45 rfl 0 rfl 46 rfl ?_
      refine gr_geta (M := gm_DS_bought) dq_DS_bought_46 49 rfl gfl_DS_51 gsh_0 rfl (gli hL gsh_0) ?_
      refine gr_iload_n (M := gm_DS_bought) dq_DS_bought_49 rfl 1 rfl 50 rfl ?_
      refine gr_iload_n (M := gm_DS_bought) dq_DS_bought_50 rfl 3 rfl 51 rfl ?_
      refine gr_callVv (M := gm_DS_bought) (as := [.inl a1, .inl a3]) dq_DS_bought_51 54 rfl rfl gcy_DS_215 gim_Way_setOut gse_Way_setOut ⟨by decide, by decide⟩ (Nat.le_of_ble_eq_true rfl) gsh_69 rfl (gli hL gsh_69) (fun o1 hg ha hx => c_Way_setOut hL hn  hg ha hx) (fun h13 r14 _ => ?_)
      refine gr_aload_n (M := gm_DS_bought) dq_DS_bought_54 rfl 0 rfl 55 rfl ?_
      refine gr_geta (M := gm_DS_bought) dq_DS_bought_55 58 rfl gfl_DS_51 gsh_0 rfl (gli hL gsh_0) ?_
      refine gr_iload_n (M := gm_DS_bought) dq_DS_bought_58 rfl 2 rfl 59 rfl ?_
      refine gr_iload_n (M := gm_DS_bought) dq_DS_bought_59 rfl 3 rfl 60 rfl ?_
      refine gr_iload (M := gm_DS_bought) dq_DS_bought_60 4 rfl 62 rfl ?_
      refine gr_iadd (M := gm_DS_bought) dq_DS_bought_62 63 rfl ?_
      refine gr_callVi (M := gm_DS_bought) (as := [.inl a2, .inl (gadd a3 a4)]) dq_DS_bought_63 66 rfl rfl gcy_DS_225 gim_Way_fewestBought gse_Way_fewestBought ⟨by decide, by decide⟩ (Nat.le_of_ble_eq_true rfl) gsh_69 rfl (gli hL gsh_69) (fun o1 hg ha hx => c_Way_fewestBought hL hn  hg ha hx) (fun h15 r16 _ => ?_)
      exact gr_ireturn (M := gm_DS_bought) dq_DS_bought_66 hF
    refine gr_ldc (M := gm_DS_bought) (v := (-1000000002)) dq_DS_bought_42 gk_DS_80 ⟨by decide, by decide⟩ 44 rfl ?_
    exact gr_ireturn (M := gm_DS_bought) dq_DS_bought_44 hF
  refine gr_ldc (M := gm_DS_bought) (v := (-1000000001)) dq_DS_bought_16 gk_DS_130 ⟨by decide, by decide⟩ 18 rfl ?_
  exact gr_ireturn (M := gm_DS_bought) dq_DS_bought_18 hF

-- DS_ranks
theorem dq_DS_ranks_0 : decode gc_DS_ranks 0 = .ok (.iload_n 2, 1) := by decide +kernel
theorem dq_DS_ranks_1 : decode gc_DS_ranks 1 = .ok (.iconst (-1), 1) := by decide +kernel
theorem dq_DS_ranks_2 : decode gc_DS_ranks 2 = .ok (.if_icmp .eq 14, 3) := by decide +kernel
theorem dq_DS_ranks_5 : decode gc_DS_ranks 5 = .ok (.aload_n 0, 1) := by decide +kernel
theorem dq_DS_ranks_6 : decode gc_DS_ranks 6 = .ok (.iload_n 2, 1) := by decide +kernel
theorem dq_DS_ranks_7 : decode gc_DS_ranks 7 = .ok (.invokevirtual 157, 3) := by decide +kernel
theorem dq_DS_ranks_10 : decode gc_DS_ranks 10 = .ok (.ifCond .eq 6, 3) := by decide +kernel
theorem dq_DS_ranks_13 : decode gc_DS_ranks 13 = .ok (.ldc 130, 2) := by decide +kernel
theorem dq_DS_ranks_15 : decode gc_DS_ranks 15 = .ok (.ireturn, 1) := by decide +kernel
theorem dq_DS_ranks_16 : decode gc_DS_ranks 16 = .ok (.iload_n 1, 1) := by decide +kernel
theorem dq_DS_ranks_17 : decode gc_DS_ranks 17 = .ok (.iconst 1, 1) := by decide +kernel
theorem dq_DS_ranks_18 : decode gc_DS_ranks 18 = .ok (.sipush 300, 3) := by decide +kernel
theorem dq_DS_ranks_21 : decode gc_DS_ranks 21 = .ok (.invokestatic 76, 3) := by decide +kernel
theorem dq_DS_ranks_24 : decode gc_DS_ranks 24 = .ok (.ifCond .eq 6, 3) := by decide +kernel
theorem dq_DS_ranks_27 : decode gc_DS_ranks 27 = .ok (.ldc 80, 2) := by decide +kernel
theorem dq_DS_ranks_29 : decode gc_DS_ranks 29 = .ok (.ireturn, 1) := by decide +kernel
theorem dq_DS_ranks_30 : decode gc_DS_ranks 30 = .ok (.aload_n 0, 1) := by decide +kernel
theorem dq_DS_ranks_31 : decode gc_DS_ranks 31 = .ok (.getfield 60, 3) := by decide +kernel
theorem dq_DS_ranks_34 : decode gc_DS_ranks 34 = .ok (.iload_n 1, 1) := by decide +kernel
theorem dq_DS_ranks_35 : decode gc_DS_ranks 35 = .ok (.invokevirtual 228, 3) := by decide +kernel
theorem dq_DS_ranks_38 : decode gc_DS_ranks 38 = .ok (.iload_n 2, 1) := by decide +kernel
theorem dq_DS_ranks_39 : decode gc_DS_ranks 39 = .ok (.iconst (-1), 1) := by decide +kernel
theorem dq_DS_ranks_40 : decode gc_DS_ranks 40 = .ok (.if_icmp .ne 13, 3) := by decide +kernel
theorem dq_DS_ranks_43 : decode gc_DS_ranks 43 = .ok (.aload_n 0, 1) := by decide +kernel
theorem dq_DS_ranks_44 : decode gc_DS_ranks 44 = .ok (.getfield 60, 3) := by decide +kernel
theorem dq_DS_ranks_47 : decode gc_DS_ranks 47 = .ok (.getfield 231, 3) := by decide +kernel
theorem dq_DS_ranks_50 : decode gc_DS_ranks 50 = .ok (.goto 12, 3) := by decide +kernel
theorem dq_DS_ranks_53 : decode gc_DS_ranks 53 = .ok (.aload_n 0, 1) := by decide +kernel
theorem dq_DS_ranks_54 : decode gc_DS_ranks 54 = .ok (.getfield 60, 3) := by decide +kernel
theorem dq_DS_ranks_57 : decode gc_DS_ranks 57 = .ok (.getfield 234, 3) := by decide +kernel
theorem dq_DS_ranks_60 : decode gc_DS_ranks 60 = .ok (.iload_n 2, 1) := by decide +kernel
theorem dq_DS_ranks_61 : decode gc_DS_ranks 61 = .ok (.iaload, 1) := by decide +kernel
theorem dq_DS_ranks_62 : decode gc_DS_ranks 62 = .ok (.ireturn, 1) := by decide +kernel
abbrev gm_DS_ranks : gM := (gc_DS_ranks, gR_6, 6, 138, 3)
set_option maxRecDepth 20000 in
theorem gcy_DS_228 : gCy gR_6 228 gy_Shuffle_find gc_Shuffle_find 6 none 1 := ⟨(gtab_at 636 (by decide +kernel) rfl), (gtab_at 6 (by decide +kernel) rfl), (gtab_at 639 rfl rfl), by decide, by decide, by decide +kernel⟩
theorem gim_Shuffle_find : Cond.instanceMethod gy_Shuffle_find ∈ gtbl := (gtab_at 637 (by decide +kernel) rfl)
theorem gse_Shuffle_find : Cond.selects gy_Shuffle_find.cls gy_Shuffle_find gy_Shuffle_find ∈ gtbl := (gtab_at 638 (by decide +kernel) rfl)
theorem gfl_DS_234 : gFl gR_6 234 3 1 := ⟨_, _, _, rfl, by decide, (gtab_at 232 (by decide +kernel) rfl), gin_3⟩
theorem gfl_DS_231 : gFl gR_6 231 3 0 := ⟨_, _, _, rfl, by decide, (gtab_at 230 (by decide +kernel) rfl), gin_3⟩
def f_DS_ranks_J16   (v1 : Int) (v2 : Int) (h : gH) : Option gO := gb (f_DS_isOutside v1 1 300 h) (fun h2 r3 => if r3 = 0 then (gb (f_Shuffle_find v1 h2) (fun h5 r6 => if v2 = (-1) then (some (h5, (h5 72 0))) else (gd (gix 6 v2) (some (h5, (h5 73 v2.toNat)))))) else (some (h2, (-1000000002))))
theorem w_DS_ranks_J16 {o : gO} {X : gX} (hL : gLive (xZ X)) (hn : (zL (xZ X)).Nodup) (hF : gFin X (some .int) o)     {v1 : Int} {v2 : Int} {h : gH}  : gr (f_DS_ranks_J16   v1 v2 h) o gm_DS_ranks X h 16 [(0, .inr (.inr 0)), (1, .inl v1), (2, .inl v2)] [] := by
  unfold f_DS_ranks_J16
  refine gr_iload_n (M := gm_DS_ranks) dq_DS_ranks_16 rfl 1 rfl 17 rfl ?_
  refine gr_iconst (M := gm_DS_ranks) (v := 1) dq_DS_ranks_17 rfl ⟨by decide, by decide⟩ 18 rfl ?_
  refine gr_sipush (M := gm_DS_ranks) (v := 300) dq_DS_ranks_18 (by decide) ⟨by decide, by decide⟩ 21 rfl ?_
  refine gr_callSi (M := gm_DS_ranks) (as := [.inl v1, .inl 1, .inl 300]) dq_DS_ranks_21 24 rfl rfl gcy_DS_76 gst_DS_isOutside ⟨by decide, by decide⟩ (Nat.le_of_ble_eq_true rfl) (fun o1 hg ha hx => c_DS_isOutside hL hn  hg ha hx) (fun h2 r3 _ => ?_)
  refine gr_if_eq (M := gm_DS_ranks) dq_DS_ranks_24 30 27 rfl rfl (fun c4 => ?_) (fun c4 => ?_)
  · refine gr_aload_n (M := gm_DS_ranks) dq_DS_ranks_30 rfl 0 rfl 31 rfl ?_
    refine gr_geta (M := gm_DS_ranks) dq_DS_ranks_31 34 rfl gfl_DS_60 gsh_0 rfl (gli hL gsh_0) ?_
    refine gr_iload_n (M := gm_DS_ranks) dq_DS_ranks_34 rfl 1 rfl 35 rfl ?_
    refine gr_callVv (M := gm_DS_ranks) (as := [.inl v1]) dq_DS_ranks_35 38 rfl rfl gcy_DS_228 gim_Shuffle_find gse_Shuffle_find ⟨by decide, by decide⟩ (Nat.le_of_ble_eq_true rfl) gsh_72 rfl (gli hL gsh_72) (fun o1 hg ha hx => c_Shuffle_find hL hn  hg ha hx) (fun h5 r6 _ => ?_)
    refine gr_iload_n (M := gm_DS_ranks) dq_DS_ranks_38 rfl 2 rfl 39 rfl ?_
    refine gr_iconst (M := gm_DS_ranks) (v := (-1)) dq_DS_ranks_39 rfl ⟨by decide, by decide⟩ 40 rfl ?_
    refine gr_icmp_ne (M := gm_DS_ranks) dq_DS_ranks_40 53 43 rfl rfl (fun c7 => ?_) (fun c7 => ?_)
    · refine gr_aload_n (M := gm_DS_ranks) dq_DS_ranks_53 rfl 0 rfl 54 rfl ?_
      refine gr_geta (M := gm_DS_ranks) dq_DS_ranks_54 57 rfl gfl_DS_60 gsh_0 rfl (gli hL gsh_0) ?_
      refine gr_getr (M := gm_DS_ranks) dq_DS_ranks_57 60 rfl gfl_DS_234 gsh_72 rfl (gli hL gsh_72) 73 rfl ?_
      refine gr_iload_n (M := gm_DS_ranks) dq_DS_ranks_60 rfl 2 rfl 61 rfl ?_
      refine gr_iald (M := gm_DS_ranks) dq_DS_ranks_61 62 rfl gsh_73 (glj hL gsh_73 (by decide)) ?_
      exact gr_ireturn (M := gm_DS_ranks) dq_DS_ranks_62 hF
    refine gr_aload_n (M := gm_DS_ranks) dq_DS_ranks_43 rfl 0 rfl 44 rfl ?_
    refine gr_geta (M := gm_DS_ranks) dq_DS_ranks_44 47 rfl gfl_DS_60 gsh_0 rfl (gli hL gsh_0) ?_
    refine gr_geti (M := gm_DS_ranks) dq_DS_ranks_47 50 rfl gfl_DS_231 gsh_72 rfl (gli hL gsh_72) ?_
    refine gr_goto (M := gm_DS_ranks) dq_DS_ranks_50 62 rfl ?_
    exact gr_ireturn (M := gm_DS_ranks) dq_DS_ranks_62 hF
  refine gr_ldc (M := gm_DS_ranks) (v := (-1000000002)) dq_DS_ranks_27 gk_DS_80 ⟨by decide, by decide⟩ 29 rfl ?_
  exact gr_ireturn (M := gm_DS_ranks) dq_DS_ranks_29 hF

def f_DS_ranks (a1 : Int) (a2 : Int) (h : gH) : Option gO := if a2 = (-1) then (f_DS_ranks_J16   a1 a2 h) else (gb (f_DS_isNoCart a2 h) (fun h8 r9 => if r9 = 0 then (f_DS_ranks_J16   a1 a2 h8) else (some (h8, (-1000000001)))))
theorem c_DS_ranks {Z : gZ} (hL : gLive Z) (hn : (zL Z).Nodup) {a1 : Int} {a2 : Int}  {h : gH} {o : gO} (hg : gRg h) (ha : gRl [.inr (.inr 0), .inl a1, .inl a2]) (hx : f_DS_ranks a1 a2 h = some o) : gC Z gy_DS_ranks gc_DS_ranks 3 (some .int) 6 138 [.inr (.inr 0), .inl a1, .inl a2] h o := by
  unfold f_DS_ranks at hx
  refine gC_of (lv := [(0, .inr (.inr 0)), (1, .inl a1), (2, .inl a2)]) (own := gR_6) (by decide +kernel) rfl (Nat.le_of_ble_eq_true rfl) rfl rfl hn hg ha hx (fun X hZ hF => ?_)
  subst hZ
  show gr _ o gm_DS_ranks X h 0 _ _
  refine gr_iload_n (M := gm_DS_ranks) dq_DS_ranks_0 rfl 2 rfl 1 rfl ?_
  refine gr_iconst (M := gm_DS_ranks) (v := (-1)) dq_DS_ranks_1 rfl ⟨by decide, by decide⟩ 2 rfl ?_
  refine gr_icmp_eq (M := gm_DS_ranks) dq_DS_ranks_2 16 5 rfl rfl (fun c1 => ?_) (fun c1 => ?_)
  · exact w_DS_ranks_J16 hL hn hF   
  refine gr_aload_n (M := gm_DS_ranks) dq_DS_ranks_5 rfl 0 rfl 6 rfl ?_
  refine gr_iload_n (M := gm_DS_ranks) dq_DS_ranks_6 rfl 2 rfl 7 rfl ?_
  refine gr_callVi (M := gm_DS_ranks) (as := [.inl a2]) dq_DS_ranks_7 10 rfl rfl gcy_DS_157 gim_DS_isNoCart gse_DS_isNoCart ⟨by decide, by decide⟩ (Nat.le_of_ble_eq_true rfl) gsh_0 rfl (gli hL gsh_0) (fun o1 hg ha hx => c_DS_isNoCart hL hn  hg ha hx) (fun h8 r9 _ => ?_)
  refine gr_if_eq (M := gm_DS_ranks) dq_DS_ranks_10 16 13 rfl rfl (fun c10 => ?_) (fun c10 => ?_)
  · exact w_DS_ranks_J16 hL hn hF   
  refine gr_ldc (M := gm_DS_ranks) (v := (-1000000001)) dq_DS_ranks_13 gk_DS_130 ⟨by decide, by decide⟩ 15 rfl ?_
  exact gr_ireturn (M := gm_DS_ranks) dq_DS_ranks_15 hF

