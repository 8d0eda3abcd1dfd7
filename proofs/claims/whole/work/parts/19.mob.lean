-- Mo_city
theorem dq_Mo_city_0 : decode gc_Mo_city 0 = .ok (.aload_n 0, 1) := by decide +kernel
theorem dq_Mo_city_1 : decode gc_Mo_city 1 = .ok (.iconst (-1), 1) := by decide +kernel
theorem dq_Mo_city_2 : decode gc_Mo_city 2 = .ok (.putfield 40, 3) := by decide +kernel
theorem dq_Mo_city_5 : decode gc_Mo_city 5 = .ok (.aload_n 0, 1) := by decide +kernel
theorem dq_Mo_city_6 : decode gc_Mo_city 6 = .ok (.iconst 0, 1) := by decide +kernel
theorem dq_Mo_city_7 : decode gc_Mo_city 7 = .ok (.putfield 134, 3) := by decide +kernel
theorem dq_Mo_city_10 : decode gc_Mo_city 10 = .ok (.aload_n 0, 1) := by decide +kernel
theorem dq_Mo_city_11 : decode gc_Mo_city 11 = .ok (.getfield 44, 3) := by decide +kernel
theorem dq_Mo_city_14 : decode gc_Mo_city 14 = .ok (.iconst 0, 1) := by decide +kernel
theorem dq_Mo_city_15 : decode gc_Mo_city 15 = .ok (.iconst 0, 1) := by decide +kernel
theorem dq_Mo_city_16 : decode gc_Mo_city 16 = .ok (.iastore, 1) := by decide +kernel
theorem dq_Mo_city_17 : decode gc_Mo_city 17 = .ok (.aload_n 0, 1) := by decide +kernel
theorem dq_Mo_city_18 : decode gc_Mo_city 18 = .ok (.getfield 44, 3) := by decide +kernel
theorem dq_Mo_city_21 : decode gc_Mo_city 21 = .ok (.iconst 1, 1) := by decide +kernel
theorem dq_Mo_city_22 : decode gc_Mo_city 22 = .ok (.iconst 0, 1) := by decide +kernel
theorem dq_Mo_city_23 : decode gc_Mo_city 23 = .ok (.iastore, 1) := by decide +kernel
theorem dq_Mo_city_24 : decode gc_Mo_city 24 = .ok (.aload_n 0, 1) := by decide +kernel
theorem dq_Mo_city_25 : decode gc_Mo_city 25 = .ok (.iconst 0, 1) := by decide +kernel
theorem dq_Mo_city_26 : decode gc_Mo_city 26 = .ok (.putfield 162, 3) := by decide +kernel
theorem dq_Mo_city_29 : decode gc_Mo_city 29 = .ok (.aload_n 0, 1) := by decide +kernel
theorem dq_Mo_city_30 : decode gc_Mo_city 30 = .ok (.iconst 0, 1) := by decide +kernel
theorem dq_Mo_city_31 : decode gc_Mo_city 31 = .ok (.putfield 169, 3) := by decide +kernel
theorem dq_Mo_city_34 : decode gc_Mo_city 34 = .ok (.iconst 0, 1) := by decide +kernel
theorem dq_Mo_city_35 : decode gc_Mo_city 35 = .ok (.istore_n 1, 1) := by decide +kernel
theorem dq_Mo_city_36 : decode gc_Mo_city 36 = .ok (.iload_n 1, 1) := by decide +kernel
theorem dq_Mo_city_37 : decode gc_Mo_city 37 = .ok (.ifCond .ne 18, 3) := by decide +kernel
theorem dq_Mo_city_40 : decode gc_Mo_city 40 = .ok (.aload_n 0, 1) := by decide +kernel
theorem dq_Mo_city_41 : decode gc_Mo_city 41 = .ok (.invokevirtual 137, 3) := by decide +kernel
theorem dq_Mo_city_44 : decode gc_Mo_city 44 = .ok (.ifCond .lt 11, 3) := by decide +kernel
theorem dq_Mo_city_47 : decode gc_Mo_city 47 = .ok (.aload_n 0, 1) := by decide +kernel
theorem dq_Mo_city_48 : decode gc_Mo_city 48 = .ok (.invokevirtual 188, 3) := by decide +kernel
theorem dq_Mo_city_51 : decode gc_Mo_city 51 = .ok (.istore_n 1, 1) := by decide +kernel
theorem dq_Mo_city_52 : decode gc_Mo_city 52 = .ok (.goto (-16), 3) := by decide +kernel
theorem dq_Mo_city_55 : decode gc_Mo_city 55 = .ok (.aload_n 0, 1) := by decide +kernel
theorem dq_Mo_city_56 : decode gc_Mo_city 56 = .ok (.iconst 0, 1) := by decide +kernel
theorem dq_Mo_city_57 : decode gc_Mo_city 57 = .ok (.putfield 130, 3) := by decide +kernel
theorem dq_Mo_city_60 : decode gc_Mo_city 60 = .ok (.iload_n 1, 1) := by decide +kernel
theorem dq_Mo_city_61 : decode gc_Mo_city 61 = .ok (.ifCond .le 8, 3) := by decide +kernel
theorem dq_Mo_city_64 : decode gc_Mo_city 64 = .ok (.bipush (-10), 2) := by decide +kernel
theorem dq_Mo_city_66 : decode gc_Mo_city 66 = .ok (.iload_n 1, 1) := by decide +kernel
theorem dq_Mo_city_67 : decode gc_Mo_city 67 = .ok (.isub, 1) := by decide +kernel
theorem dq_Mo_city_68 : decode gc_Mo_city 68 = .ok (.ireturn, 1) := by decide +kernel
theorem dq_Mo_city_69 : decode gc_Mo_city 69 = .ok (.aload_n 0, 1) := by decide +kernel
theorem dq_Mo_city_70 : decode gc_Mo_city 70 = .ok (.invokevirtual 191, 3) := by decide +kernel
theorem dq_Mo_city_73 : decode gc_Mo_city 73 = .ok (.aload_n 0, 1) := by decide +kernel
theorem dq_Mo_city_74 : decode gc_Mo_city 74 = .ok (.iconst 0, 1) := by decide +kernel
theorem dq_Mo_city_75 : decode gc_Mo_city 75 = .ok (.putfield 194, 3) := by decide +kernel
theorem dq_Mo_city_78 : decode gc_Mo_city 78 = .ok (.aload_n 0, 1) := by decide +kernel
theorem dq_Mo_city_79 : decode gc_Mo_city 79 = .ok (.iconst 0, 1) := by decide +kernel
theorem dq_Mo_city_80 : decode gc_Mo_city 80 = .ok (.putfield 197, 3) := by decide +kernel
theorem dq_Mo_city_83 : decode gc_Mo_city 83 = .ok (.aload_n 0, 1) := by decide +kernel
theorem dq_Mo_city_84 : decode gc_Mo_city 84 = .ok (.getfield 110, 3) := by decide +kernel
theorem dq_Mo_city_87 : decode gc_Mo_city 87 = .ok (.iconst 0, 1) := by decide +kernel
theorem dq_Mo_city_88 : decode gc_Mo_city 88 = .ok (.iconst 0, 1) := by decide +kernel
theorem dq_Mo_city_89 : decode gc_Mo_city 89 = .ok (.bastore, 1) := by decide +kernel
theorem dq_Mo_city_90 : decode gc_Mo_city 90 = .ok (.aload_n 0, 1) := by decide +kernel
theorem dq_Mo_city_91 : decode gc_Mo_city 91 = .ok (.getfield 110, 3) := by decide +kernel
theorem dq_Mo_city_94 : decode gc_Mo_city 94 = .ok (.iconst 1, 1) := by decide +kernel
theorem dq_Mo_city_95 : decode gc_Mo_city 95 = .ok (.iconst 0, 1) := by decide +kernel
theorem dq_Mo_city_96 : decode gc_Mo_city 96 = .ok (.bastore, 1) := by decide +kernel
theorem dq_Mo_city_97 : decode gc_Mo_city 97 = .ok (.aload_n 0, 1) := by decide +kernel
theorem dq_Mo_city_98 : decode gc_Mo_city 98 = .ok (.getfield 114, 3) := by decide +kernel
theorem dq_Mo_city_101 : decode gc_Mo_city 101 = .ok (.ireturn, 1) := by decide +kernel
abbrev gm_Mo_city : gM := (gc_Mo_city, gR_7, 6, 143, 2)
set_option maxRecDepth 20000 in
theorem gcy_Mo_188 : gCy gR_7 188 gy_Mo_takeClause gc_Mo_takeClause 5 (some .int) 0 := ⟨(gtab_at 894 (by decide +kernel) rfl), (gtab_at 8 (by decide +kernel) rfl), (gtab_at 897 rfl rfl), by decide, by decide, by decide +kernel⟩
theorem gim_Mo_takeClause : Cond.instanceMethod gy_Mo_takeClause ∈ gtbl := (gtab_at 896 (by decide +kernel) rfl)
theorem gse_Mo_takeClause : Cond.selects gy_Mo_takeClause.cls gy_Mo_takeClause gy_Mo_takeClause ∈ gtbl := (by decide +kernel)
set_option maxRecDepth 20000 in
theorem gcy_Mo_191 : gCy gR_7 191 gy_Mo_takeRead gc_Mo_takeRead 2 none 0 := ⟨(gtab_at 928 (by decide +kernel) rfl), (gtab_at 8 (by decide +kernel) rfl), (gtab_at 931 rfl rfl), by decide, by decide, by decide +kernel⟩
theorem gim_Mo_takeRead : Cond.instanceMethod gy_Mo_takeRead ∈ gtbl := (gtab_at 930 (by decide +kernel) rfl)
theorem gse_Mo_takeRead : Cond.selects gy_Mo_takeRead.cls gy_Mo_takeRead gy_Mo_takeRead ∈ gtbl := (by decide +kernel)
theorem gfp_Mo_194 : gFp gR_7 194 7 38 .int := ⟨_, _, _, gt_7, rfl, by decide, (gtab_at 772 (by decide +kernel) rfl), gin_7, gto_7, gnm_7, rfl, by decide +kernel⟩
theorem gfp_Mo_197 : gFp gR_7 197 7 42 .int := ⟨_, _, _, gt_7, rfl, by decide, (gtab_at 776 (by decide +kernel) rfl), gin_7, gto_7, gnm_7, rfl, by decide +kernel⟩
theorem gfl_Mo_110 : gFl gR_7 110 7 46 := ⟨_, _, _, rfl, by decide, (gtab_at 780 (by decide +kernel) rfl), gin_7⟩
def f_Mo_city_L36  (k55 : Int → gH → Option gO) : Nat → Int → gH → Option gO
  | 0, _, _ => none
  | n + 1, v1, h => if v1 = 0 then (gb (f_Mo_here  h) (fun h8 r9 => if r9 < 0 then (k55 v1 h8) else (gb (f_Mo_takeClause  h8) (fun h11 r12 => f_Mo_city_L36 k55 n r12 h11)))) else (k55 v1 h)
theorem w_Mo_city_L36 {o : gO} {X : gX} (hL : gLive (xZ X)) (hn : (zL (xZ X)).Nodup) (hF : gFin X (some .int) o)    {k55 : Int → gH → Option gO} (hk55 : ∀ (v1 : Int) (h : gH), gr (k55 v1 h) o gm_Mo_city X h 55 [(0, .inr (.inr 83)), (1, .inl v1)] []) : ∀ (n : Nat) (v1 : Int) (h : gH), gr (f_Mo_city_L36  k55 n v1 h) o gm_Mo_city X h 36 [(0, .inr (.inr 83)), (1, .inl v1)] [] := by
  intro n
  induction n with
  | zero => intros; exact gr_none
  | succ n ih =>
    intro v1 h
    unfold f_Mo_city_L36
    refine gr_iload_n (M := gm_Mo_city) dq_Mo_city_36 rfl 1 rfl 37 rfl ?_
    refine gr_if_ne (M := gm_Mo_city) dq_Mo_city_37 55 40 rfl rfl (fun c7 => ?_) (fun c7 => ?_)
    · exact hk55 _ _
    refine gr_aload_n (M := gm_Mo_city) dq_Mo_city_40 rfl 0 rfl 41 rfl ?_
    refine gr_callVi (M := gm_Mo_city) (as := []) dq_Mo_city_41 44 rfl rfl gcy_Mo_137 gim_Mo_here gse_Mo_here ⟨by decide, by decide⟩ (Nat.le_of_ble_eq_true rfl) gsh_83 rfl (gli hL gsh_83) (fun o1 hg ha hx => c_Mo_here hL hn  hg ha hx) (fun h8 r9 _ => ?_)
    refine gr_if_lt (M := gm_Mo_city) dq_Mo_city_44 55 47 rfl rfl (fun c10 => ?_) (fun c10 => ?_)
    · exact hk55 _ _
    refine gr_aload_n (M := gm_Mo_city) dq_Mo_city_47 rfl 0 rfl 48 rfl ?_
    refine gr_callVi (M := gm_Mo_city) (as := []) dq_Mo_city_48 51 rfl rfl gcy_Mo_188 gim_Mo_takeClause gse_Mo_takeClause ⟨by decide, by decide⟩ (Nat.le_of_ble_eq_true rfl) gsh_83 rfl (gli hL gsh_83) (fun o1 hg ha hx => c_Mo_takeClause hL hn  hg ha hx) (fun h11 r12 _ => ?_)
    refine gr_istore_n (M := gm_Mo_city) (lv' := [(1, .inl r12), (0, .inr (.inr 83))]) dq_Mo_city_51 rfl (by decide) rfl 52 rfl ?_
    refine gr_goto (M := gm_Mo_city) dq_Mo_city_52 36 rfl ?_
    refine gr_sub (M := gm_Mo_city) (lv' := [(0, .inr (.inr 83)), (1, .inl r12)]) [1, 0] rfl ?_
    exact ih _ _

def f_Mo_city_J55   (v1 : Int) (h : gH) : Option gO := gs (gup h 83 15 0) (fun h15 => if v1 ≤ 0 then (gb (f_Mo_takeRead  h15) (fun h17 r18 => gs (gup h17 83 38 0) (fun h19 => gs (gup h19 83 42 0) (fun h20 => gd (gix 2 0) (gs (gup h20 115 0 0) (fun h21 => gd (gix 2 1) (gs (gup h21 115 1 0) (fun h22 => some (h22, (h22 83 0)))))))))) else (some (h15, (gsub (-10) v1))))
theorem w_Mo_city_J55 {o : gO} {X : gX} (hL : gLive (xZ X)) (hn : (zL (xZ X)).Nodup) (hF : gFin X (some .int) o)     {v1 : Int} {h : gH}  : gr (f_Mo_city_J55   v1 h) o gm_Mo_city X h 55 [(0, .inr (.inr 83)), (1, .inl v1)] [] := by
  unfold f_Mo_city_J55
  refine gr_aload_n (M := gm_Mo_city) dq_Mo_city_55 rfl 0 rfl 56 rfl ?_
  refine gr_iconst (M := gm_Mo_city) (v := 0) dq_Mo_city_56 rfl ⟨by decide, by decide⟩ 57 rfl ?_
  refine gr_puti (M := gm_Mo_city) dq_Mo_city_57 60 rfl gfp_Mo_130 gsh_83 rfl (gli hL gsh_83) (fun h15 _ => ?_)
  refine gr_iload_n (M := gm_Mo_city) dq_Mo_city_60 rfl 1 rfl 61 rfl ?_
  refine gr_if_le (M := gm_Mo_city) dq_Mo_city_61 69 64 rfl rfl (fun c16 => ?_) (fun c16 => ?_)
  · refine gr_aload_n (M := gm_Mo_city) dq_Mo_city_69 rfl 0 rfl 70 rfl ?_
    refine gr_callVv (M := gm_Mo_city) (as := []) dq_Mo_city_70 73 rfl rfl gcy_Mo_191 gim_Mo_takeRead gse_Mo_takeRead ⟨by decide, by decide⟩ (Nat.le_of_ble_eq_true rfl) gsh_83 rfl (gli hL gsh_83) (fun o1 hg ha hx => c_Mo_takeRead hL hn  hg ha hx) (fun h17 r18 _ => ?_)
    refine gr_aload_n (M := gm_Mo_city) dq_Mo_city_73 rfl 0 rfl 74 rfl ?_
    refine gr_iconst (M := gm_Mo_city) (v := 0) dq_Mo_city_74 rfl ⟨by decide, by decide⟩ 75 rfl ?_
    refine gr_puti (M := gm_Mo_city) dq_Mo_city_75 78 rfl gfp_Mo_194 gsh_83 rfl (gli hL gsh_83) (fun h19 _ => ?_)
    refine gr_aload_n (M := gm_Mo_city) dq_Mo_city_78 rfl 0 rfl 79 rfl ?_
    refine gr_iconst (M := gm_Mo_city) (v := 0) dq_Mo_city_79 rfl ⟨by decide, by decide⟩ 80 rfl ?_
    refine gr_puti (M := gm_Mo_city) dq_Mo_city_80 83 rfl gfp_Mo_197 gsh_83 rfl (gli hL gsh_83) (fun h20 _ => ?_)
    refine gr_aload_n (M := gm_Mo_city) dq_Mo_city_83 rfl 0 rfl 84 rfl ?_
    refine gr_getr (M := gm_Mo_city) dq_Mo_city_84 87 rfl gfl_Mo_110 gsh_83 rfl (gli hL gsh_83) 115 rfl ?_
    refine gr_iconst (M := gm_Mo_city) (v := 0) dq_Mo_city_87 rfl ⟨by decide, by decide⟩ 88 rfl ?_
    refine gr_iconst (M := gm_Mo_city) (v := 0) dq_Mo_city_88 rfl ⟨by decide, by decide⟩ 89 rfl ?_
    refine gr_zast (M := gm_Mo_city) dq_Mo_city_89 (by decide) 90 rfl gsh_115 (glj hL gsh_115 (by decide)) (fun h21 _ => ?_)
    refine gr_aload_n (M := gm_Mo_city) dq_Mo_city_90 rfl 0 rfl 91 rfl ?_
    refine gr_getr (M := gm_Mo_city) dq_Mo_city_91 94 rfl gfl_Mo_110 gsh_83 rfl (gli hL gsh_83) 115 rfl ?_
    refine gr_iconst (M := gm_Mo_city) (v := 1) dq_Mo_city_94 rfl ⟨by decide, by decide⟩ 95 rfl ?_
    refine gr_iconst (M := gm_Mo_city) (v := 0) dq_Mo_city_95 rfl ⟨by decide, by decide⟩ 96 rfl ?_
    refine gr_zast (M := gm_Mo_city) dq_Mo_city_96 (by decide) 97 rfl gsh_115 (glj hL gsh_115 (by decide)) (fun h22 _ => ?_)
    refine gr_aload_n (M := gm_Mo_city) dq_Mo_city_97 rfl 0 rfl 98 rfl ?_
    refine gr_geti (M := gm_Mo_city) dq_Mo_city_98 101 rfl gfl_Mo_114 gsh_83 rfl (gli hL gsh_83) ?_
    exact gr_ireturn (M := gm_Mo_city) dq_Mo_city_101 hF
  refine gr_bipush (M := gm_Mo_city) (v := (-10)) dq_Mo_city_64 (by decide) ⟨by decide, by decide⟩ 66 rfl ?_
  refine gr_iload_n (M := gm_Mo_city) dq_Mo_city_66 rfl 1 rfl 67 rfl ?_
  refine gr_isub (M := gm_Mo_city) dq_Mo_city_67 68 rfl ?_
  exact gr_ireturn (M := gm_Mo_city) dq_Mo_city_68 hF

def f_Mo_city  (h : gH) : Option gO := gs (gup h 83 16 (-1)) (fun h1 => gs (gup h1 83 17 0) (fun h2 => gd (gix 2 0) (gs (gup h2 94 0 0) (fun h3 => gd (gix 2 1) (gs (gup h3 94 1 0) (fun h4 => gs (gup h4 83 21 0) (fun h5 => gs (gup h5 83 26 0) (fun h6 => f_Mo_city_L36  (fun v13 h14 => f_Mo_city_J55   v13 h14) 50000 0 h6))))))))
theorem c_Mo_city {Z : gZ} (hL : gLive Z) (hn : (zL Z).Nodup)   {h : gH} {o : gO} (hg : gRg h) (ha : gRl [.inr (.inr 83)]) (hx : f_Mo_city  h = some o) : gC Z gy_Mo_city gc_Mo_city 2 (some .int) 6 143 [.inr (.inr 83)] h o := by
  unfold f_Mo_city at hx
  refine gC_of (lv := [(0, .inr (.inr 83))]) (own := gR_7) (by decide +kernel) rfl (Nat.le_of_ble_eq_true rfl) rfl rfl hn hg ha hx (fun X hZ hF => ?_)
  subst hZ
  show gr _ o gm_Mo_city X h 0 _ _
  refine gr_aload_n (M := gm_Mo_city) dq_Mo_city_0 rfl 0 rfl 1 rfl ?_
  refine gr_iconst (M := gm_Mo_city) (v := (-1)) dq_Mo_city_1 rfl ⟨by decide, by decide⟩ 2 rfl ?_
  refine gr_puti (M := gm_Mo_city) dq_Mo_city_2 5 rfl gfp_Mo_40 gsh_83 rfl (gli hL gsh_83) (fun h1 _ => ?_)
  refine gr_aload_n (M := gm_Mo_city) dq_Mo_city_5 rfl 0 rfl 6 rfl ?_
  refine gr_iconst (M := gm_Mo_city) (v := 0) dq_Mo_city_6 rfl ⟨by decide, by decide⟩ 7 rfl ?_
  refine gr_puti (M := gm_Mo_city) dq_Mo_city_7 10 rfl gfp_Mo_134 gsh_83 rfl (gli hL gsh_83) (fun h2 _ => ?_)
  refine gr_aload_n (M := gm_Mo_city) dq_Mo_city_10 rfl 0 rfl 11 rfl ?_
  refine gr_getr (M := gm_Mo_city) dq_Mo_city_11 14 rfl gfl_Mo_44 gsh_83 rfl (gli hL gsh_83) 94 rfl ?_
  refine gr_iconst (M := gm_Mo_city) (v := 0) dq_Mo_city_14 rfl ⟨by decide, by decide⟩ 15 rfl ?_
  refine gr_iconst (M := gm_Mo_city) (v := 0) dq_Mo_city_15 rfl ⟨by decide, by decide⟩ 16 rfl ?_
  refine gr_iast (M := gm_Mo_city) dq_Mo_city_16 17 rfl gsh_94 (glj hL gsh_94 (by decide)) (fun h3 _ => ?_)
  refine gr_aload_n (M := gm_Mo_city) dq_Mo_city_17 rfl 0 rfl 18 rfl ?_
  refine gr_getr (M := gm_Mo_city) dq_Mo_city_18 21 rfl gfl_Mo_44 gsh_83 rfl (gli hL gsh_83) 94 rfl ?_
  refine gr_iconst (M := gm_Mo_city) (v := 1) dq_Mo_city_21 rfl ⟨by decide, by decide⟩ 22 rfl ?_
  refine gr_iconst (M := gm_Mo_city) (v := 0) dq_Mo_city_22 rfl ⟨by decide, by decide⟩ 23 rfl ?_
  refine gr_iast (M := gm_Mo_city) dq_Mo_city_23 24 rfl gsh_94 (glj hL gsh_94 (by decide)) (fun h4 _ => ?_)
  refine gr_aload_n (M := gm_Mo_city) dq_Mo_city_24 rfl 0 rfl 25 rfl ?_
  refine gr_iconst (M := gm_Mo_city) (v := 0) dq_Mo_city_25 rfl ⟨by decide, by decide⟩ 26 rfl ?_
  refine gr_puti (M := gm_Mo_city) dq_Mo_city_26 29 rfl gfp_Mo_162 gsh_83 rfl (gli hL gsh_83) (fun h5 _ => ?_)
  refine gr_aload_n (M := gm_Mo_city) dq_Mo_city_29 rfl 0 rfl 30 rfl ?_
  refine gr_iconst (M := gm_Mo_city) (v := 0) dq_Mo_city_30 rfl ⟨by decide, by decide⟩ 31 rfl ?_
  refine gr_puti (M := gm_Mo_city) dq_Mo_city_31 34 rfl gfp_Mo_169 gsh_83 rfl (gli hL gsh_83) (fun h6 _ => ?_)
  refine gr_iconst (M := gm_Mo_city) (v := 0) dq_Mo_city_34 rfl ⟨by decide, by decide⟩ 35 rfl ?_
  refine gr_istore_n (M := gm_Mo_city) (lv' := [(1, .inl 0), (0, .inr (.inr 83))]) dq_Mo_city_35 rfl (by decide) rfl 36 rfl ?_
  refine gr_sub (M := gm_Mo_city) (lv' := [(0, .inr (.inr 83)), (1, .inl 0)]) [1, 0] rfl ?_
  refine w_Mo_city_L36 hL hn hF   (fun v13 h14 => ?_) 50000 _ _
  exact w_Mo_city_J55 hL hn hF   

-- Mo_fault
theorem dq_Mo_fault_0 : decode gc_Mo_fault 0 = .ok (.aload_n 0, 1) := by decide +kernel
theorem dq_Mo_fault_1 : decode gc_Mo_fault 1 = .ok (.getfield 40, 3) := by decide +kernel
theorem dq_Mo_fault_4 : decode gc_Mo_fault 4 = .ok (.ireturn, 1) := by decide +kernel
abbrev gm_Mo_fault : gM := (gc_Mo_fault, gR_7, 0, 0, 1)
theorem gfl_Mo_40 : gFl gR_7 40 7 16 := ⟨_, _, _, rfl, by decide, (gtab_at 750 (by decide +kernel) rfl), gin_7⟩
def f_Mo_fault  (h : gH) : Option gO := some (h, (h 83 16))
theorem c_Mo_fault {Z : gZ} (hL : gLive Z) (hn : (zL Z).Nodup)   {h : gH} {o : gO} (hg : gRg h) (ha : gRl [.inr (.inr 83)]) (hx : f_Mo_fault  h = some o) : gC Z gy_Mo_fault gc_Mo_fault 1 (some .int) 0 0 [.inr (.inr 83)] h o := by
  unfold f_Mo_fault at hx
  refine gC_of (lv := [(0, .inr (.inr 83))]) (own := gR_7) (by decide +kernel) rfl (Nat.le_of_ble_eq_true rfl) rfl rfl hn hg ha hx (fun X hZ hF => ?_)
  subst hZ
  show gr _ o gm_Mo_fault X h 0 _ _
  refine gr_aload_n (M := gm_Mo_fault) dq_Mo_fault_0 rfl 0 rfl 1 rfl ?_
  refine gr_geti (M := gm_Mo_fault) dq_Mo_fault_1 4 rfl gfl_Mo_40 gsh_83 rfl (gli hL gsh_83) ?_
  exact gr_ireturn (M := gm_Mo_fault) dq_Mo_fault_4 hF

-- Mo_cartsThat
theorem dq_Mo_cartsThat_0 : decode gc_Mo_cartsThat 0 = .ok (.iconst 0, 1) := by decide +kernel
theorem dq_Mo_cartsThat_1 : decode gc_Mo_cartsThat 1 = .ok (.istore_n 2, 1) := by decide +kernel
theorem dq_Mo_cartsThat_2 : decode gc_Mo_cartsThat 2 = .ok (.iconst 0, 1) := by decide +kernel
theorem dq_Mo_cartsThat_3 : decode gc_Mo_cartsThat 3 = .ok (.istore_n 3, 1) := by decide +kernel
theorem dq_Mo_cartsThat_4 : decode gc_Mo_cartsThat 4 = .ok (.iload_n 3, 1) := by decide +kernel
theorem dq_Mo_cartsThat_5 : decode gc_Mo_cartsThat 5 = .ok (.aload_n 0, 1) := by decide +kernel
theorem dq_Mo_cartsThat_6 : decode gc_Mo_cartsThat 6 = .ok (.getfield 124, 3) := by decide +kernel
theorem dq_Mo_cartsThat_9 : decode gc_Mo_cartsThat 9 = .ok (.if_icmp .ge 32, 3) := by decide +kernel
theorem dq_Mo_cartsThat_12 : decode gc_Mo_cartsThat 12 = .ok (.iload_n 2, 1) := by decide +kernel
theorem dq_Mo_cartsThat_13 : decode gc_Mo_cartsThat 13 = .ok (.aload_n 0, 1) := by decide +kernel
theorem dq_Mo_cartsThat_14 : decode gc_Mo_cartsThat 14 = .ok (.getfield 34, 3) := by decide +kernel
theorem dq_Mo_cartsThat_17 : decode gc_Mo_cartsThat 17 = .ok (.bipush 26, 2) := by decide +kernel
theorem dq_Mo_cartsThat_19 : decode gc_Mo_cartsThat 19 = .ok (.iload_n 3, 1) := by decide +kernel
theorem dq_Mo_cartsThat_20 : decode gc_Mo_cartsThat 20 = .ok (.iadd, 1) := by decide +kernel
theorem dq_Mo_cartsThat_21 : decode gc_Mo_cartsThat 21 = .ok (.iaload, 1) := by decide +kernel
theorem dq_Mo_cartsThat_22 : decode gc_Mo_cartsThat 22 = .ok (.iload_n 1, 1) := by decide +kernel
theorem dq_Mo_cartsThat_23 : decode gc_Mo_cartsThat 23 = .ok (.if_icmp .ne 9, 3) := by decide +kernel
theorem dq_Mo_cartsThat_26 : decode gc_Mo_cartsThat 26 = .ok (.iconst 1, 1) := by decide +kernel
theorem dq_Mo_cartsThat_27 : decode gc_Mo_cartsThat 27 = .ok (.iload_n 3, 1) := by decide +kernel
theorem dq_Mo_cartsThat_28 : decode gc_Mo_cartsThat 28 = .ok (.ishl, 1) := by decide +kernel
theorem dq_Mo_cartsThat_29 : decode gc_Mo_cartsThat 29 = .ok (.goto 4, 3) := by decide +kernel
theorem dq_Mo_cartsThat_32 : decode gc_Mo_cartsThat 32 = .ok (.iconst 0, 1) := by decide +kernel
theorem dq_Mo_cartsThat_33 : decode gc_Mo_cartsThat 33 = .ok (.ior, 1) := by decide +kernel
theorem dq_Mo_cartsThat_34 : decode gc_Mo_cartsThat 34 = .ok (.istore_n 2, 1) := by decide +kernel
theorem dq_Mo_cartsThat_35 : decode gc_Mo_cartsThat 35 = .ok (.iinc 3 1, 3) := by decide +kernel
theorem dq_Mo_cartsThat_38 : decode gc_Mo_cartsThat 38 = .ok (.goto (-34), 3) := by decide +kernel
theorem dq_Mo_cartsThat_41 : decode gc_Mo_cartsThat 41 = .ok (.iload_n 2, 1) := by decide +kernel
theorem dq_Mo_cartsThat_42 : decode gc_Mo_cartsThat 42 = .ok (.ireturn, 1) := by decide +kernel
abbrev gm_Mo_cartsThat : gM := (gc_Mo_cartsThat, gR_7, 0, 0, 4)
def f_Mo_cartsThat_J33  (k4 : Int → Int → gH → Option gO) (v1 : Int) (v3 : Int) (s1 : Int) (s0 : Int) (h : gH) : Option gO := k4 (gor s0 s1) (gadd v3 1) h
theorem w_Mo_cartsThat_J33 {o : gO} {X : gX} (hL : gLive (xZ X)) (hn : (zL (xZ X)).Nodup) (hF : gFin X (some .int) o)    {k4 : Int → Int → gH → Option gO} {v1 : Int} {v3 : Int} {s1 : Int} {s0 : Int} {h : gH} (hk4 : ∀ (v2 : Int) (v3 : Int) (h : gH), gr (k4 v2 v3 h) o gm_Mo_cartsThat X h 4 [(0, .inr (.inr 83)), (1, .inl v1), (2, .inl v2), (3, .inl v3)] []) : gr (f_Mo_cartsThat_J33  k4 v1 v3 s1 s0 h) o gm_Mo_cartsThat X h 33 [(0, .inr (.inr 83)), (1, .inl v1), (3, .inl v3)] [.inl s1, .inl s0] := by
  unfold f_Mo_cartsThat_J33
  refine gr_ior (M := gm_Mo_cartsThat) dq_Mo_cartsThat_33 34 rfl ?_
  refine gr_istore_n (M := gm_Mo_cartsThat) (lv' := [(2, .inl (gor s0 s1)), (0, .inr (.inr 83)), (1, .inl v1), (3, .inl v3)]) dq_Mo_cartsThat_34 rfl (by decide) rfl 35 rfl ?_
  refine gr_iinc (M := gm_Mo_cartsThat) (lv' := [(3, .inl (gadd v3 1)), (2, .inl (gor s0 s1)), (0, .inr (.inr 83)), (1, .inl v1)]) dq_Mo_cartsThat_35 3 rfl rfl (by decide) rfl 38 rfl ?_
  refine gr_goto (M := gm_Mo_cartsThat) dq_Mo_cartsThat_38 4 rfl ?_
  refine gr_sub (M := gm_Mo_cartsThat) (lv' := [(0, .inr (.inr 83)), (1, .inl v1), (2, .inl (gor s0 s1)), (3, .inl (gadd v3 1))]) [2, 3, 1, 0] rfl ?_
  exact hk4 _ _ _

def f_Mo_cartsThat_L4 (v1 : Int) (k41 : Int → gH → Option gO) : Nat → Int → Int → gH → Option gO
  | 0, _, _, _ => none
  | n + 1, v2, v3, h => if (h 83 6) ≤ v3 then (k41 v2 h) else (gd (gix 50 (gadd 26 v3)) (if (h 92 (gadd 26 v3).toNat) = v1 then (f_Mo_cartsThat_J33  (f_Mo_cartsThat_L4 v1 k41 n) v1 v3 (gshl 1 v3) v2 h) else (f_Mo_cartsThat_J33  (f_Mo_cartsThat_L4 v1 k41 n) v1 v3 0 v2 h)))
theorem w_Mo_cartsThat_L4 {o : gO} {X : gX} (hL : gLive (xZ X)) (hn : (zL (xZ X)).Nodup) (hF : gFin X (some .int) o) {v1 : Int}   {k41 : Int → gH → Option gO} (hk41 : ∀ (v2 : Int) (h : gH), gr (k41 v2 h) o gm_Mo_cartsThat X h 41 [(2, .inl v2)] []) : ∀ (n : Nat) (v2 : Int) (v3 : Int) (h : gH), gr (f_Mo_cartsThat_L4 v1 k41 n v2 v3 h) o gm_Mo_cartsThat X h 4 [(0, .inr (.inr 83)), (1, .inl v1), (2, .inl v2), (3, .inl v3)] [] := by
  intro n
  induction n with
  | zero => intros; exact gr_none
  | succ n ih =>
    intro v2 v3 h
    unfold f_Mo_cartsThat_L4
    refine gr_iload_n (M := gm_Mo_cartsThat) dq_Mo_cartsThat_4 rfl 3 rfl 5 rfl ?_
    refine gr_aload_n (M := gm_Mo_cartsThat) dq_Mo_cartsThat_5 rfl 0 rfl 6 rfl ?_
    refine gr_geti (M := gm_Mo_cartsThat) dq_Mo_cartsThat_6 9 rfl gfl_Mo_124 gsh_83 rfl (gli hL gsh_83) ?_
    refine gr_icmp_ge (M := gm_Mo_cartsThat) dq_Mo_cartsThat_9 41 12 rfl rfl (fun c1 => ?_) (fun c1 => ?_)
    · refine gr_sub (M := gm_Mo_cartsThat) (lv' := [(2, .inl v2)]) [2] rfl ?_
      exact hk41 _ _
    refine gr_iload_n (M := gm_Mo_cartsThat) dq_Mo_cartsThat_12 rfl 2 rfl 13 rfl ?_
    refine gr_aload_n (M := gm_Mo_cartsThat) dq_Mo_cartsThat_13 rfl 0 rfl 14 rfl ?_
    refine gr_getr (M := gm_Mo_cartsThat) dq_Mo_cartsThat_14 17 rfl gfl_Mo_34 gsh_83 rfl (gli hL gsh_83) 92 rfl ?_
    refine gr_bipush (M := gm_Mo_cartsThat) (v := 26) dq_Mo_cartsThat_17 (by decide) ⟨by decide, by decide⟩ 19 rfl ?_
    refine gr_iload_n (M := gm_Mo_cartsThat) dq_Mo_cartsThat_19 rfl 3 rfl 20 rfl ?_
    refine gr_iadd (M := gm_Mo_cartsThat) dq_Mo_cartsThat_20 21 rfl ?_
    refine gr_iald (M := gm_Mo_cartsThat) dq_Mo_cartsThat_21 22 rfl gsh_92 (glj hL gsh_92 (by decide)) ?_
    refine gr_iload_n (M := gm_Mo_cartsThat) dq_Mo_cartsThat_22 rfl 1 rfl 23 rfl ?_
    refine gr_icmp_ne (M := gm_Mo_cartsThat) dq_Mo_cartsThat_23 32 26 rfl rfl (fun c2 => ?_) (fun c2 => ?_)
    · refine gr_iconst (M := gm_Mo_cartsThat) (v := 0) dq_Mo_cartsThat_32 rfl ⟨by decide, by decide⟩ 33 rfl ?_
      refine gr_sub (M := gm_Mo_cartsThat) (lv' := [(0, .inr (.inr 83)), (1, .inl v1), (3, .inl v3)]) [0, 1, 3] rfl ?_
      exact w_Mo_cartsThat_J33 hL hn hF   ih
    refine gr_iconst (M := gm_Mo_cartsThat) (v := 1) dq_Mo_cartsThat_26 rfl ⟨by decide, by decide⟩ 27 rfl ?_
    refine gr_iload_n (M := gm_Mo_cartsThat) dq_Mo_cartsThat_27 rfl 3 rfl 28 rfl ?_
    refine gr_ishl (M := gm_Mo_cartsThat) dq_Mo_cartsThat_28 29 rfl ?_
    refine gr_goto (M := gm_Mo_cartsThat) dq_Mo_cartsThat_29 33 rfl ?_
    refine gr_sub (M := gm_Mo_cartsThat) (lv' := [(0, .inr (.inr 83)), (1, .inl v1), (3, .inl v3)]) [0, 1, 3] rfl ?_
    exact w_Mo_cartsThat_J33 hL hn hF   ih

def f_Mo_cartsThat (a1 : Int) (h : gH) : Option gO := f_Mo_cartsThat_L4 a1 (fun v3 h4 => some (h4, v3)) 50000 0 0 h
theorem c_Mo_cartsThat {Z : gZ} (hL : gLive Z) (hn : (zL Z).Nodup) {a1 : Int}  {h : gH} {o : gO} (hg : gRg h) (ha : gRl [.inr (.inr 83), .inl a1]) (hx : f_Mo_cartsThat a1 h = some o) : gC Z gy_Mo_cartsThat gc_Mo_cartsThat 4 (some .int) 0 0 [.inr (.inr 83), .inl a1] h o := by
  unfold f_Mo_cartsThat at hx
  refine gC_of (lv := [(0, .inr (.inr 83)), (1, .inl a1)]) (own := gR_7) (by decide +kernel) rfl (Nat.le_of_ble_eq_true rfl) rfl rfl hn hg ha hx (fun X hZ hF => ?_)
  subst hZ
  show gr _ o gm_Mo_cartsThat X h 0 _ _
  refine gr_iconst (M := gm_Mo_cartsThat) (v := 0) dq_Mo_cartsThat_0 rfl ⟨by decide, by decide⟩ 1 rfl ?_
  refine gr_istore_n (M := gm_Mo_cartsThat) (lv' := [(2, .inl 0), (0, .inr (.inr 83)), (1, .inl a1)]) dq_Mo_cartsThat_1 rfl (by decide) rfl 2 rfl ?_
  refine gr_iconst (M := gm_Mo_cartsThat) (v := 0) dq_Mo_cartsThat_2 rfl ⟨by decide, by decide⟩ 3 rfl ?_
  refine gr_istore_n (M := gm_Mo_cartsThat) (lv' := [(3, .inl 0), (2, .inl 0), (0, .inr (.inr 83)), (1, .inl a1)]) dq_Mo_cartsThat_3 rfl (by decide) rfl 4 rfl ?_
  refine gr_sub (M := gm_Mo_cartsThat) (lv' := [(0, .inr (.inr 83)), (1, .inl a1), (2, .inl 0), (3, .inl 0)]) [2, 3, 1, 0] rfl ?_
  refine w_Mo_cartsThat_L4 hL hn hF   (fun v3 h4 => ?_) 50000 _ _ _
  refine gr_iload_n (M := gm_Mo_cartsThat) dq_Mo_cartsThat_41 rfl 0 rfl 42 rfl ?_
  exact gr_ireturn (M := gm_Mo_cartsThat) dq_Mo_cartsThat_42 hF

-- Mo_told
theorem dq_Mo_told_0 : decode gc_Mo_told 0 = .ok (.iload_n 1, 1) := by decide +kernel
theorem dq_Mo_told_1 : decode gc_Mo_told 1 = .ok (.tableswitch 130 0 11 #[63, 68, 73, 78, 83, 88, 95, 101, 107, 113, 120, 125], 63) := by decide +kernel
theorem dq_Mo_told_64 : decode gc_Mo_told 64 = .ok (.aload_n 0, 1) := by decide +kernel
theorem dq_Mo_told_65 : decode gc_Mo_told 65 = .ok (.getfield 114, 3) := by decide +kernel
theorem dq_Mo_told_68 : decode gc_Mo_told 68 = .ok (.ireturn, 1) := by decide +kernel
theorem dq_Mo_told_69 : decode gc_Mo_told 69 = .ok (.aload_n 0, 1) := by decide +kernel
theorem dq_Mo_told_70 : decode gc_Mo_told 70 = .ok (.getfield 121, 3) := by decide +kernel
theorem dq_Mo_told_73 : decode gc_Mo_told 73 = .ok (.ireturn, 1) := by decide +kernel
theorem dq_Mo_told_74 : decode gc_Mo_told 74 = .ok (.aload_n 0, 1) := by decide +kernel
theorem dq_Mo_told_75 : decode gc_Mo_told 75 = .ok (.getfield 124, 3) := by decide +kernel
theorem dq_Mo_told_78 : decode gc_Mo_told 78 = .ok (.ireturn, 1) := by decide +kernel
theorem dq_Mo_told_79 : decode gc_Mo_told 79 = .ok (.aload_n 0, 1) := by decide +kernel
theorem dq_Mo_told_80 : decode gc_Mo_told 80 = .ok (.getfield 182, 3) := by decide +kernel
theorem dq_Mo_told_83 : decode gc_Mo_told 83 = .ok (.ireturn, 1) := by decide +kernel
theorem dq_Mo_told_84 : decode gc_Mo_told 84 = .ok (.aload_n 0, 1) := by decide +kernel
theorem dq_Mo_told_85 : decode gc_Mo_told 85 = .ok (.getfield 130, 3) := by decide +kernel
theorem dq_Mo_told_88 : decode gc_Mo_told 88 = .ok (.ireturn, 1) := by decide +kernel
theorem dq_Mo_told_89 : decode gc_Mo_told 89 = .ok (.aload_n 0, 1) := by decide +kernel
theorem dq_Mo_told_90 : decode gc_Mo_told 90 = .ok (.getfield 34, 3) := by decide +kernel
theorem dq_Mo_told_93 : decode gc_Mo_told 93 = .ok (.iconst 0, 1) := by decide +kernel
theorem dq_Mo_told_94 : decode gc_Mo_told 94 = .ok (.iaload, 1) := by decide +kernel
theorem dq_Mo_told_95 : decode gc_Mo_told 95 = .ok (.ireturn, 1) := by decide +kernel
theorem dq_Mo_told_96 : decode gc_Mo_told 96 = .ok (.aload_n 0, 1) := by decide +kernel
theorem dq_Mo_told_97 : decode gc_Mo_told 97 = .ok (.iconst 3, 1) := by decide +kernel
theorem dq_Mo_told_98 : decode gc_Mo_told 98 = .ok (.invokevirtual 200, 3) := by decide +kernel
theorem dq_Mo_told_101 : decode gc_Mo_told 101 = .ok (.ireturn, 1) := by decide +kernel
theorem dq_Mo_told_102 : decode gc_Mo_told 102 = .ok (.aload_n 0, 1) := by decide +kernel
theorem dq_Mo_told_103 : decode gc_Mo_told 103 = .ok (.iconst 4, 1) := by decide +kernel
theorem dq_Mo_told_104 : decode gc_Mo_told 104 = .ok (.invokevirtual 200, 3) := by decide +kernel
theorem dq_Mo_told_107 : decode gc_Mo_told 107 = .ok (.ireturn, 1) := by decide +kernel
theorem dq_Mo_told_108 : decode gc_Mo_told 108 = .ok (.aload_n 0, 1) := by decide +kernel
theorem dq_Mo_told_109 : decode gc_Mo_told 109 = .ok (.iconst 1, 1) := by decide +kernel
theorem dq_Mo_told_110 : decode gc_Mo_told 110 = .ok (.invokevirtual 200, 3) := by decide +kernel
theorem dq_Mo_told_113 : decode gc_Mo_told 113 = .ok (.ireturn, 1) := by decide +kernel
theorem dq_Mo_told_114 : decode gc_Mo_told 114 = .ok (.aload_n 0, 1) := by decide +kernel
theorem dq_Mo_told_115 : decode gc_Mo_told 115 = .ok (.getfield 34, 3) := by decide +kernel
theorem dq_Mo_told_118 : decode gc_Mo_told 118 = .ok (.iconst 1, 1) := by decide +kernel
theorem dq_Mo_told_119 : decode gc_Mo_told 119 = .ok (.iaload, 1) := by decide +kernel
theorem dq_Mo_told_120 : decode gc_Mo_told 120 = .ok (.ireturn, 1) := by decide +kernel
theorem dq_Mo_told_121 : decode gc_Mo_told 121 = .ok (.aload_n 0, 1) := by decide +kernel
theorem dq_Mo_told_122 : decode gc_Mo_told 122 = .ok (.getfield 194, 3) := by decide +kernel
theorem dq_Mo_told_125 : decode gc_Mo_told 125 = .ok (.ireturn, 1) := by decide +kernel
theorem dq_Mo_told_126 : decode gc_Mo_told 126 = .ok (.aload_n 0, 1) := by decide +kernel
theorem dq_Mo_told_127 : decode gc_Mo_told 127 = .ok (.getfield 197, 3) := by decide +kernel
theorem dq_Mo_told_130 : decode gc_Mo_told 130 = .ok (.ireturn, 1) := by decide +kernel
theorem dq_Mo_told_131 : decode gc_Mo_told 131 = .ok (.ldc 129, 2) := by decide +kernel
theorem dq_Mo_told_133 : decode gc_Mo_told 133 = .ok (.ireturn, 1) := by decide +kernel
abbrev gm_Mo_told : gM := (gc_Mo_told, gR_7, 1, 23, 2)
theorem gfl_Mo_182 : gFl gR_7 182 7 1 := ⟨_, _, _, rfl, by decide, (gtab_at 735 (by decide +kernel) rfl), gin_7⟩
set_option maxRecDepth 20000 in
theorem gcy_Mo_200 : gCy gR_7 200 gy_Mo_cartsThat gc_Mo_cartsThat 4 (some .int) 1 := ⟨(gtab_at 945 (by decide +kernel) rfl), (gtab_at 8 (by decide +kernel) rfl), (gtab_at 948 rfl rfl), by decide, by decide, by decide +kernel⟩
theorem gim_Mo_cartsThat : Cond.instanceMethod gy_Mo_cartsThat ∈ gtbl := (gtab_at 947 (by decide +kernel) rfl)
theorem gse_Mo_cartsThat : Cond.selects gy_Mo_cartsThat.cls gy_Mo_cartsThat gy_Mo_cartsThat ∈ gtbl := (by decide +kernel)
theorem gfl_Mo_194 : gFl gR_7 194 7 38 := ⟨_, _, _, rfl, by decide, (gtab_at 772 (by decide +kernel) rfl), gin_7⟩
theorem gfl_Mo_197 : gFl gR_7 197 7 42 := ⟨_, _, _, rfl, by decide, (gtab_at 776 (by decide +kernel) rfl), gin_7⟩
def f_Mo_told (a1 : Int) (h : gH) : Option gO := if a1 = 0 then (some (h, (h 83 0))) else (if a1 = 1 then (some (h, (h 83 2))) else (if a1 = 2 then (some (h, (h 83 6))) else (if a1 = 3 then (some (h, (h 83 1))) else (if a1 = 4 then (some (h, (h 83 15))) else (if a1 = 5 then (gd (gix 50 0) (some (h, (h 92 0)))) else (if a1 = 6 then (gb (f_Mo_cartsThat 3 h) (fun h8 r9 => some (h8, r9))) else (if a1 = 7 then (gb (f_Mo_cartsThat 4 h) (fun h11 r12 => some (h11, r12))) else (if a1 = 8 then (gb (f_Mo_cartsThat 1 h) (fun h14 r15 => some (h14, r15))) else (if a1 = 9 then (gd (gix 50 1) (some (h, (h 92 1)))) else (if a1 = 10 then (some (h, (h 83 38))) else (if a1 = 11 then (some (h, (h 83 42))) else (some (h, (-1000000002))))))))))))))
theorem c_Mo_told {Z : gZ} (hL : gLive Z) (hn : (zL Z).Nodup) {a1 : Int}  {h : gH} {o : gO} (hg : gRg h) (ha : gRl [.inr (.inr 83), .inl a1]) (hx : f_Mo_told a1 h = some o) : gC Z gy_Mo_told gc_Mo_told 2 (some .int) 1 23 [.inr (.inr 83), .inl a1] h o := by
  unfold f_Mo_told at hx
  refine gC_of (lv := [(0, .inr (.inr 83)), (1, .inl a1)]) (own := gR_7) (by decide +kernel) rfl (Nat.le_of_ble_eq_true rfl) rfl rfl hn hg ha hx (fun X hZ hF => ?_)
  subst hZ
  show gr _ o gm_Mo_told X h 0 _ _
  refine gr_iload_n (M := gm_Mo_told) dq_Mo_told_0 rfl 1 rfl 1 rfl ?_
  refine gr_ite (M := gm_Mo_told) (fun c1 => ?_) (fun c1 => ?_)
  · refine gr_tswIn (M := gm_Mo_told) dq_Mo_told_1 0 c1 (by decide) (by decide) rfl 64 rfl ?_
    refine gr_aload_n (M := gm_Mo_told) dq_Mo_told_64 rfl 0 rfl 65 rfl ?_
    refine gr_geti (M := gm_Mo_told) dq_Mo_told_65 68 rfl gfl_Mo_114 gsh_83 rfl (gli hL gsh_83) ?_
    exact gr_ireturn (M := gm_Mo_told) dq_Mo_told_68 hF
  refine gr_ite (M := gm_Mo_told) (fun c2 => ?_) (fun c2 => ?_)
  · refine gr_tswIn (M := gm_Mo_told) dq_Mo_told_1 1 c2 (by decide) (by decide) rfl 69 rfl ?_
    refine gr_aload_n (M := gm_Mo_told) dq_Mo_told_69 rfl 0 rfl 70 rfl ?_
    refine gr_geti (M := gm_Mo_told) dq_Mo_told_70 73 rfl gfl_Mo_121 gsh_83 rfl (gli hL gsh_83) ?_
    exact gr_ireturn (M := gm_Mo_told) dq_Mo_told_73 hF
  refine gr_ite (M := gm_Mo_told) (fun c3 => ?_) (fun c3 => ?_)
  · refine gr_tswIn (M := gm_Mo_told) dq_Mo_told_1 2 c3 (by decide) (by decide) rfl 74 rfl ?_
    refine gr_aload_n (M := gm_Mo_told) dq_Mo_told_74 rfl 0 rfl 75 rfl ?_
    refine gr_geti (M := gm_Mo_told) dq_Mo_told_75 78 rfl gfl_Mo_124 gsh_83 rfl (gli hL gsh_83) ?_
    exact gr_ireturn (M := gm_Mo_told) dq_Mo_told_78 hF
  refine gr_ite (M := gm_Mo_told) (fun c4 => ?_) (fun c4 => ?_)
  · refine gr_tswIn (M := gm_Mo_told) dq_Mo_told_1 3 c4 (by decide) (by decide) rfl 79 rfl ?_
    refine gr_aload_n (M := gm_Mo_told) dq_Mo_told_79 rfl 0 rfl 80 rfl ?_
    refine gr_geti (M := gm_Mo_told) dq_Mo_told_80 83 rfl gfl_Mo_182 gsh_83 rfl (gli hL gsh_83) ?_
    exact gr_ireturn (M := gm_Mo_told) dq_Mo_told_83 hF
  refine gr_ite (M := gm_Mo_told) (fun c5 => ?_) (fun c5 => ?_)
  · refine gr_tswIn (M := gm_Mo_told) dq_Mo_told_1 4 c5 (by decide) (by decide) rfl 84 rfl ?_
    refine gr_aload_n (M := gm_Mo_told) dq_Mo_told_84 rfl 0 rfl 85 rfl ?_
    refine gr_geti (M := gm_Mo_told) dq_Mo_told_85 88 rfl gfl_Mo_130 gsh_83 rfl (gli hL gsh_83) ?_
    exact gr_ireturn (M := gm_Mo_told) dq_Mo_told_88 hF
  refine gr_ite (M := gm_Mo_told) (fun c6 => ?_) (fun c6 => ?_)
  · refine gr_tswIn (M := gm_Mo_told) dq_Mo_told_1 5 c6 (by decide) (by decide) rfl 89 rfl ?_
    refine gr_aload_n (M := gm_Mo_told) dq_Mo_told_89 rfl 0 rfl 90 rfl ?_
    refine gr_getr (M := gm_Mo_told) dq_Mo_told_90 93 rfl gfl_Mo_34 gsh_83 rfl (gli hL gsh_83) 92 rfl ?_
    refine gr_iconst (M := gm_Mo_told) (v := 0) dq_Mo_told_93 rfl ⟨by decide, by decide⟩ 94 rfl ?_
    refine gr_iald (M := gm_Mo_told) dq_Mo_told_94 95 rfl gsh_92 (glj hL gsh_92 (by decide)) ?_
    exact gr_ireturn (M := gm_Mo_told) dq_Mo_told_95 hF
  refine gr_ite (M := gm_Mo_told) (fun c7 => ?_) (fun c7 => ?_)
  · refine gr_tswIn (M := gm_Mo_told) dq_Mo_told_1 6 c7 (by decide) (by decide) rfl 96 rfl ?_
    refine gr_aload_n (M := gm_Mo_told) dq_Mo_told_96 rfl 0 rfl 97 rfl ?_
    refine gr_iconst (M := gm_Mo_told) (v := 3) dq_Mo_told_97 rfl ⟨by decide, by decide⟩ 98 rfl ?_
    refine gr_callVi (M := gm_Mo_told) (as := [.inl 3]) dq_Mo_told_98 101 rfl rfl gcy_Mo_200 gim_Mo_cartsThat gse_Mo_cartsThat ⟨by decide, by decide⟩ (Nat.le_of_ble_eq_true rfl) gsh_83 rfl (gli hL gsh_83) (fun o1 hg ha hx => c_Mo_cartsThat hL hn  hg ha hx) (fun h8 r9 _ => ?_)
    exact gr_ireturn (M := gm_Mo_told) dq_Mo_told_101 hF
  refine gr_ite (M := gm_Mo_told) (fun c10 => ?_) (fun c10 => ?_)
  · refine gr_tswIn (M := gm_Mo_told) dq_Mo_told_1 7 c10 (by decide) (by decide) rfl 102 rfl ?_
    refine gr_aload_n (M := gm_Mo_told) dq_Mo_told_102 rfl 0 rfl 103 rfl ?_
    refine gr_iconst (M := gm_Mo_told) (v := 4) dq_Mo_told_103 rfl ⟨by decide, by decide⟩ 104 rfl ?_
    refine gr_callVi (M := gm_Mo_told) (as := [.inl 4]) dq_Mo_told_104 107 rfl rfl gcy_Mo_200 gim_Mo_cartsThat gse_Mo_cartsThat ⟨by decide, by decide⟩ (Nat.le_of_ble_eq_true rfl) gsh_83 rfl (gli hL gsh_83) (fun o1 hg ha hx => c_Mo_cartsThat hL hn  hg ha hx) (fun h11 r12 _ => ?_)
    exact gr_ireturn (M := gm_Mo_told) dq_Mo_told_107 hF
  refine gr_ite (M := gm_Mo_told) (fun c13 => ?_) (fun c13 => ?_)
  · refine gr_tswIn (M := gm_Mo_told) dq_Mo_told_1 8 c13 (by decide) (by decide) rfl 108 rfl ?_
    refine gr_aload_n (M := gm_Mo_told) dq_Mo_told_108 rfl 0 rfl 109 rfl ?_
    refine gr_iconst (M := gm_Mo_told) (v := 1) dq_Mo_told_109 rfl ⟨by decide, by decide⟩ 110 rfl ?_
    refine gr_callVi (M := gm_Mo_told) (as := [.inl 1]) dq_Mo_told_110 113 rfl rfl gcy_Mo_200 gim_Mo_cartsThat gse_Mo_cartsThat ⟨by decide, by decide⟩ (Nat.le_of_ble_eq_true rfl) gsh_83 rfl (gli hL gsh_83) (fun o1 hg ha hx => c_Mo_cartsThat hL hn  hg ha hx) (fun h14 r15 _ => ?_)
    exact gr_ireturn (M := gm_Mo_told) dq_Mo_told_113 hF
  refine gr_ite (M := gm_Mo_told) (fun c16 => ?_) (fun c16 => ?_)
  · refine gr_tswIn (M := gm_Mo_told) dq_Mo_told_1 9 c16 (by decide) (by decide) rfl 114 rfl ?_
    refine gr_aload_n (M := gm_Mo_told) dq_Mo_told_114 rfl 0 rfl 115 rfl ?_
    refine gr_getr (M := gm_Mo_told) dq_Mo_told_115 118 rfl gfl_Mo_34 gsh_83 rfl (gli hL gsh_83) 92 rfl ?_
    refine gr_iconst (M := gm_Mo_told) (v := 1) dq_Mo_told_118 rfl ⟨by decide, by decide⟩ 119 rfl ?_
    refine gr_iald (M := gm_Mo_told) dq_Mo_told_119 120 rfl gsh_92 (glj hL gsh_92 (by decide)) ?_
    exact gr_ireturn (M := gm_Mo_told) dq_Mo_told_120 hF
  refine gr_ite (M := gm_Mo_told) (fun c17 => ?_) (fun c17 => ?_)
  · refine gr_tswIn (M := gm_Mo_told) dq_Mo_told_1 10 c17 (by decide) (by decide) rfl 121 rfl ?_
    refine gr_aload_n (M := gm_Mo_told) dq_Mo_told_121 rfl 0 rfl 122 rfl ?_
    refine gr_geti (M := gm_Mo_told) dq_Mo_told_122 125 rfl gfl_Mo_194 gsh_83 rfl (gli hL gsh_83) ?_
    exact gr_ireturn (M := gm_Mo_told) dq_Mo_told_125 hF
  refine gr_ite (M := gm_Mo_told) (fun c18 => ?_) (fun c18 => ?_)
  · refine gr_tswIn (M := gm_Mo_told) dq_Mo_told_1 11 c18 (by decide) (by decide) rfl 126 rfl ?_
    refine gr_aload_n (M := gm_Mo_told) dq_Mo_told_126 rfl 0 rfl 127 rfl ?_
    refine gr_geti (M := gm_Mo_told) dq_Mo_told_127 130 rfl gfl_Mo_197 gsh_83 rfl (gli hL gsh_83) ?_
    exact gr_ireturn (M := gm_Mo_told) dq_Mo_told_130 hF
  refine gr_tswOut (M := gm_Mo_told) dq_Mo_told_1 (by omega) 131 rfl ?_
  refine gr_ldc (M := gm_Mo_told) (v := (-1000000002)) dq_Mo_told_131 gk_Mo_129 ⟨by decide, by decide⟩ 133 rfl ?_
  exact gr_ireturn (M := gm_Mo_told) dq_Mo_told_133 hF

-- Mo_far
theorem dq_Mo_far_0 : decode gc_Mo_far 0 = .ok (.aload_n 0, 1) := by decide +kernel
theorem dq_Mo_far_1 : decode gc_Mo_far 1 = .ok (.iload_n 1, 1) := by decide +kernel
theorem dq_Mo_far_2 : decode gc_Mo_far 2 = .ok (.invokevirtual 204, 3) := by decide +kernel
theorem dq_Mo_far_5 : decode gc_Mo_far 5 = .ok (.ifCond .eq 11, 3) := by decide +kernel
theorem dq_Mo_far_8 : decode gc_Mo_far 8 = .ok (.aload_n 0, 1) := by decide +kernel
theorem dq_Mo_far_9 : decode gc_Mo_far 9 = .ok (.iload_n 2, 1) := by decide +kernel
theorem dq_Mo_far_10 : decode gc_Mo_far 10 = .ok (.invokevirtual 204, 3) := by decide +kernel
theorem dq_Mo_far_13 : decode gc_Mo_far 13 = .ok (.ifCond .ne 6, 3) := by decide +kernel
theorem dq_Mo_far_16 : decode gc_Mo_far 16 = .ok (.ldc 208, 2) := by decide +kernel
theorem dq_Mo_far_18 : decode gc_Mo_far 18 = .ok (.ireturn, 1) := by decide +kernel
theorem dq_Mo_far_19 : decode gc_Mo_far 19 = .ok (.aload_n 0, 1) := by decide +kernel
theorem dq_Mo_far_20 : decode gc_Mo_far 20 = .ok (.getfield 31, 3) := by decide +kernel
theorem dq_Mo_far_23 : decode gc_Mo_far 23 = .ok (.bipush 7, 2) := by decide +kernel
theorem dq_Mo_far_25 : decode gc_Mo_far 25 = .ok (.iload_n 1, 1) := by decide +kernel
theorem dq_Mo_far_26 : decode gc_Mo_far 26 = .ok (.imul, 1) := by decide +kernel
theorem dq_Mo_far_27 : decode gc_Mo_far 27 = .ok (.iload_n 2, 1) := by decide +kernel
theorem dq_Mo_far_28 : decode gc_Mo_far 28 = .ok (.iadd, 1) := by decide +kernel
theorem dq_Mo_far_29 : decode gc_Mo_far 29 = .ok (.iaload, 1) := by decide +kernel
theorem dq_Mo_far_30 : decode gc_Mo_far 30 = .ok (.ldc 181, 2) := by decide +kernel
theorem dq_Mo_far_32 : decode gc_Mo_far 32 = .ok (.if_icmp .ge 17, 3) := by decide +kernel
theorem dq_Mo_far_35 : decode gc_Mo_far 35 = .ok (.aload_n 0, 1) := by decide +kernel
theorem dq_Mo_far_36 : decode gc_Mo_far 36 = .ok (.getfield 31, 3) := by decide +kernel
theorem dq_Mo_far_39 : decode gc_Mo_far 39 = .ok (.bipush 7, 2) := by decide +kernel
theorem dq_Mo_far_41 : decode gc_Mo_far 41 = .ok (.iload_n 1, 1) := by decide +kernel
theorem dq_Mo_far_42 : decode gc_Mo_far 42 = .ok (.imul, 1) := by decide +kernel
theorem dq_Mo_far_43 : decode gc_Mo_far 43 = .ok (.iload_n 2, 1) := by decide +kernel
theorem dq_Mo_far_44 : decode gc_Mo_far 44 = .ok (.iadd, 1) := by decide +kernel
theorem dq_Mo_far_45 : decode gc_Mo_far 45 = .ok (.iaload, 1) := by decide +kernel
theorem dq_Mo_far_46 : decode gc_Mo_far 46 = .ok (.goto 4, 3) := by decide +kernel
theorem dq_Mo_far_49 : decode gc_Mo_far 49 = .ok (.iconst (-1), 1) := by decide +kernel
theorem dq_Mo_far_50 : decode gc_Mo_far 50 = .ok (.ireturn, 1) := by decide +kernel
abbrev gm_Mo_far : gM := (gc_Mo_far, gR_7, 2, 46, 3)
set_option maxRecDepth 20000 in
theorem gcy_Mo_204 : gCy gR_7 204 gy_Mo_isCorner gc_Mo_isCorner 2 (some .boolean) 1 := ⟨(gtab_at 953 (by decide +kernel) rfl), (gtab_at 8 (by decide +kernel) rfl), (gtab_at 956 rfl rfl), by decide, by decide, by decide +kernel⟩
theorem gim_Mo_isCorner : Cond.instanceMethod gy_Mo_isCorner ∈ gtbl := (gtab_at 955 (by decide +kernel) rfl)
theorem gse_Mo_isCorner : Cond.selects gy_Mo_isCorner.cls gy_Mo_isCorner gy_Mo_isCorner ∈ gtbl := (by decide +kernel)
theorem gk_Mo_208 : Cond.constant gR_7 208 (Int32.ofInt (-1000000001)) ∈ gtbl := (gtab_at 957 (by decide +kernel) rfl)
def f_Mo_far (a1 : Int) (a2 : Int) (h : gH) : Option gO := gb (f_Mo_isCorner a1 h) (fun h1 r2 => if r2 = 0 then (some (h1, (-1000000001))) else (gb (f_Mo_isCorner a2 h1) (fun h4 r5 => if r5 = 0 then (some (h4, (-1000000001))) else (gd (gix 49 (gadd (gmul 7 a1) a2)) (if 1000000 ≤ (h4 91 (gadd (gmul 7 a1) a2).toNat) then (some (h4, (-1))) else (gd (gix 49 (gadd (gmul 7 a1) a2)) (some (h4, (h4 91 (gadd (gmul 7 a1) a2).toNat)))))))))
theorem c_Mo_far {Z : gZ} (hL : gLive Z) (hn : (zL Z).Nodup) {a1 : Int} {a2 : Int}  {h : gH} {o : gO} (hg : gRg h) (ha : gRl [.inr (.inr 83), .inl a1, .inl a2]) (hx : f_Mo_far a1 a2 h = some o) : gC Z gy_Mo_far gc_Mo_far 3 (some .int) 2 46 [.inr (.inr 83), .inl a1, .inl a2] h o := by
  unfold f_Mo_far at hx
  refine gC_of (lv := [(0, .inr (.inr 83)), (1, .inl a1), (2, .inl a2)]) (own := gR_7) (by decide +kernel) rfl (Nat.le_of_ble_eq_true rfl) rfl rfl hn hg ha hx (fun X hZ hF => ?_)
  subst hZ
  show gr _ o gm_Mo_far X h 0 _ _
  refine gr_aload_n (M := gm_Mo_far) dq_Mo_far_0 rfl 0 rfl 1 rfl ?_
  refine gr_iload_n (M := gm_Mo_far) dq_Mo_far_1 rfl 1 rfl 2 rfl ?_
  refine gr_callVi (M := gm_Mo_far) (as := [.inl a1]) dq_Mo_far_2 5 rfl rfl gcy_Mo_204 gim_Mo_isCorner gse_Mo_isCorner ⟨by decide, by decide⟩ (Nat.le_of_ble_eq_true rfl) gsh_83 rfl (gli hL gsh_83) (fun o1 hg ha hx => c_Mo_isCorner hL hn  hg ha hx) (fun h1 r2 _ => ?_)
  refine gr_if_eq (M := gm_Mo_far) dq_Mo_far_5 16 8 rfl rfl (fun c3 => ?_) (fun c3 => ?_)
  · refine gr_ldc (M := gm_Mo_far) (v := (-1000000001)) dq_Mo_far_16 gk_Mo_208 ⟨by decide, by decide⟩ 18 rfl ?_
    exact gr_ireturn (M := gm_Mo_far) dq_Mo_far_18 hF
  refine gr_aload_n (M := gm_Mo_far) dq_Mo_far_8 rfl 0 rfl 9 rfl ?_
  refine gr_iload_n (M := gm_Mo_far) dq_Mo_far_9 rfl 2 rfl 10 rfl ?_
  refine gr_callVi (M := gm_Mo_far) (as := [.inl a2]) dq_Mo_far_10 13 rfl rfl gcy_Mo_204 gim_Mo_isCorner gse_Mo_isCorner ⟨by decide, by decide⟩ (Nat.le_of_ble_eq_true rfl) gsh_83 rfl (gli hL gsh_83) (fun o1 hg ha hx => c_Mo_isCorner hL hn  hg ha hx) (fun h4 r5 _ => ?_)
  refine gr_if_ne (M := gm_Mo_far) dq_Mo_far_13 19 16 rfl rfl (fun c6 => ?_) (fun c6 => ?_)
  · refine gr_aload_n (M := gm_Mo_far) dq_Mo_far_19 rfl 0 rfl 20 rfl ?_
    refine gr_getr (M := gm_Mo_far) dq_Mo_far_20 23 rfl gfl_Mo_31 gsh_83 rfl (gli hL gsh_83) 91 rfl ?_
    refine gr_bipush (M := gm_Mo_far) (v := 7) dq_Mo_far_23 (by decide) ⟨by decide, by decide⟩ 25 rfl ?_
    refine gr_iload_n (M := gm_Mo_far) dq_Mo_far_25 rfl 1 rfl 26 rfl ?_
    refine gr_imul (M := gm_Mo_far) dq_Mo_far_26 27 rfl ?_
    refine gr_iload_n (M := gm_Mo_far) dq_Mo_far_27 rfl 2 rfl 28 rfl ?_
    refine gr_iadd (M := gm_Mo_far) dq_Mo_far_28 29 rfl ?_
    refine gr_iald (M := gm_Mo_far) dq_Mo_far_29 30 rfl gsh_91 (glj hL gsh_91 (by decide)) ?_
    refine gr_ldc (M := gm_Mo_far) (v := 1000000) dq_Mo_far_30 gk_Mo_181 ⟨by decide, by decide⟩ 32 rfl ?_
    refine gr_icmp_ge (M := gm_Mo_far) dq_Mo_far_32 49 35 rfl rfl (fun c7 => ?_) (fun c7 => ?_)
    · refine gr_iconst (M := gm_Mo_far) (v := (-1)) dq_Mo_far_49 rfl ⟨by decide, by decide⟩ 50 rfl ?_
      exact gr_ireturn (M := gm_Mo_far) dq_Mo_far_50 hF
    refine gr_aload_n (M := gm_Mo_far) dq_Mo_far_35 rfl 0 rfl 36 rfl ?_
    refine gr_getr (M := gm_Mo_far) dq_Mo_far_36 39 rfl gfl_Mo_31 gsh_83 rfl (gli hL gsh_83) 91 rfl ?_
    refine gr_bipush (M := gm_Mo_far) (v := 7) dq_Mo_far_39 (by decide) ⟨by decide, by decide⟩ 41 rfl ?_
    refine gr_iload_n (M := gm_Mo_far) dq_Mo_far_41 rfl 1 rfl 42 rfl ?_
    refine gr_imul (M := gm_Mo_far) dq_Mo_far_42 43 rfl ?_
    refine gr_iload_n (M := gm_Mo_far) dq_Mo_far_43 rfl 2 rfl 44 rfl ?_
    refine gr_iadd (M := gm_Mo_far) dq_Mo_far_44 45 rfl ?_
    refine gr_iald (M := gm_Mo_far) dq_Mo_far_45 46 rfl gsh_91 (glj hL gsh_91 (by decide)) ?_
    refine gr_goto (M := gm_Mo_far) dq_Mo_far_46 50 rfl ?_
    exact gr_ireturn (M := gm_Mo_far) dq_Mo_far_50 hF
  refine gr_ldc (M := gm_Mo_far) (v := (-1000000001)) dq_Mo_far_16 gk_Mo_208 ⟨by decide, by decide⟩ 18 rfl ?_
  exact gr_ireturn (M := gm_Mo_far) dq_Mo_far_18 hF

-- Mo_onStreet
theorem dq_Mo_onStreet_0 : decode gc_Mo_onStreet 0 = .ok (.iconst 0, 1) := by decide +kernel
theorem dq_Mo_onStreet_1 : decode gc_Mo_onStreet 1 = .ok (.istore_n 2, 1) := by decide +kernel
theorem dq_Mo_onStreet_2 : decode gc_Mo_onStreet 2 = .ok (.iconst 0, 1) := by decide +kernel
theorem dq_Mo_onStreet_3 : decode gc_Mo_onStreet 3 = .ok (.istore_n 3, 1) := by decide +kernel
theorem dq_Mo_onStreet_4 : decode gc_Mo_onStreet 4 = .ok (.iload_n 3, 1) := by decide +kernel
theorem dq_Mo_onStreet_5 : decode gc_Mo_onStreet 5 = .ok (.aload_n 0, 1) := by decide +kernel
theorem dq_Mo_onStreet_6 : decode gc_Mo_onStreet 6 = .ok (.getfield 124, 3) := by decide +kernel
theorem dq_Mo_onStreet_9 : decode gc_Mo_onStreet 9 = .ok (.if_icmp .ge 45, 3) := by decide +kernel
theorem dq_Mo_onStreet_12 : decode gc_Mo_onStreet 12 = .ok (.iload_n 2, 1) := by decide +kernel
theorem dq_Mo_onStreet_13 : decode gc_Mo_onStreet 13 = .ok (.aload_n 0, 1) := by decide +kernel
theorem dq_Mo_onStreet_14 : decode gc_Mo_onStreet 14 = .ok (.getfield 34, 3) := by decide +kernel
theorem dq_Mo_onStreet_17 : decode gc_Mo_onStreet 17 = .ok (.bipush 26, 2) := by decide +kernel
theorem dq_Mo_onStreet_19 : decode gc_Mo_onStreet 19 = .ok (.iload_n 3, 1) := by decide +kernel
theorem dq_Mo_onStreet_20 : decode gc_Mo_onStreet 20 = .ok (.iadd, 1) := by decide +kernel
theorem dq_Mo_onStreet_21 : decode gc_Mo_onStreet 21 = .ok (.iaload, 1) := by decide +kernel
theorem dq_Mo_onStreet_22 : decode gc_Mo_onStreet 22 = .ok (.iconst 2, 1) := by decide +kernel
theorem dq_Mo_onStreet_23 : decode gc_Mo_onStreet 23 = .ok (.if_icmp .ne 22, 3) := by decide +kernel
theorem dq_Mo_onStreet_26 : decode gc_Mo_onStreet 26 = .ok (.aload_n 0, 1) := by decide +kernel
theorem dq_Mo_onStreet_27 : decode gc_Mo_onStreet 27 = .ok (.getfield 34, 3) := by decide +kernel
theorem dq_Mo_onStreet_30 : decode gc_Mo_onStreet 30 = .ok (.bipush 32, 2) := by decide +kernel
theorem dq_Mo_onStreet_32 : decode gc_Mo_onStreet 32 = .ok (.iload_n 3, 1) := by decide +kernel
theorem dq_Mo_onStreet_33 : decode gc_Mo_onStreet 33 = .ok (.iadd, 1) := by decide +kernel
theorem dq_Mo_onStreet_34 : decode gc_Mo_onStreet 34 = .ok (.iaload, 1) := by decide +kernel
theorem dq_Mo_onStreet_35 : decode gc_Mo_onStreet 35 = .ok (.iload_n 1, 1) := by decide +kernel
theorem dq_Mo_onStreet_36 : decode gc_Mo_onStreet 36 = .ok (.if_icmp .ne 9, 3) := by decide +kernel
theorem dq_Mo_onStreet_39 : decode gc_Mo_onStreet 39 = .ok (.iconst 1, 1) := by decide +kernel
theorem dq_Mo_onStreet_40 : decode gc_Mo_onStreet 40 = .ok (.iload_n 3, 1) := by decide +kernel
theorem dq_Mo_onStreet_41 : decode gc_Mo_onStreet 41 = .ok (.ishl, 1) := by decide +kernel
theorem dq_Mo_onStreet_42 : decode gc_Mo_onStreet 42 = .ok (.goto 4, 3) := by decide +kernel
theorem dq_Mo_onStreet_45 : decode gc_Mo_onStreet 45 = .ok (.iconst 0, 1) := by decide +kernel
theorem dq_Mo_onStreet_46 : decode gc_Mo_onStreet 46 = .ok (.ior, 1) := by decide +kernel
theorem dq_Mo_onStreet_47 : decode gc_Mo_onStreet 47 = .ok (.istore_n 2, 1) := by decide +kernel
theorem dq_Mo_onStreet_48 : decode gc_Mo_onStreet 48 = .ok (.iinc 3 1, 3) := by decide +kernel
theorem dq_Mo_onStreet_51 : decode gc_Mo_onStreet 51 = .ok (.goto (-47), 3) := by decide +kernel
theorem dq_Mo_onStreet_54 : decode gc_Mo_onStreet 54 = .ok (.iload_n 2, 1) := by decide +kernel
theorem dq_Mo_onStreet_55 : decode gc_Mo_onStreet 55 = .ok (.ireturn, 1) := by decide +kernel
abbrev gm_Mo_onStreet : gM := (gc_Mo_onStreet, gR_7, 0, 0, 4)
def f_Mo_onStreet_J46  (k4 : Int → Int → gH → Option gO) (v1 : Int) (v3 : Int) (s1 : Int) (s0 : Int) (h : gH) : Option gO := k4 (gor s0 s1) (gadd v3 1) h
theorem w_Mo_onStreet_J46 {o : gO} {X : gX} (hL : gLive (xZ X)) (hn : (zL (xZ X)).Nodup) (hF : gFin X (some .int) o)    {k4 : Int → Int → gH → Option gO} {v1 : Int} {v3 : Int} {s1 : Int} {s0 : Int} {h : gH} (hk4 : ∀ (v2 : Int) (v3 : Int) (h : gH), gr (k4 v2 v3 h) o gm_Mo_onStreet X h 4 [(0, .inr (.inr 83)), (1, .inl v1), (2, .inl v2), (3, .inl v3)] []) : gr (f_Mo_onStreet_J46  k4 v1 v3 s1 s0 h) o gm_Mo_onStreet X h 46 [(0, .inr (.inr 83)), (1, .inl v1), (3, .inl v3)] [.inl s1, .inl s0] := by
  unfold f_Mo_onStreet_J46
  refine gr_ior (M := gm_Mo_onStreet) dq_Mo_onStreet_46 47 rfl ?_
  refine gr_istore_n (M := gm_Mo_onStreet) (lv' := [(2, .inl (gor s0 s1)), (0, .inr (.inr 83)), (1, .inl v1), (3, .inl v3)]) dq_Mo_onStreet_47 rfl (by decide) rfl 48 rfl ?_
  refine gr_iinc (M := gm_Mo_onStreet) (lv' := [(3, .inl (gadd v3 1)), (2, .inl (gor s0 s1)), (0, .inr (.inr 83)), (1, .inl v1)]) dq_Mo_onStreet_48 3 rfl rfl (by decide) rfl 51 rfl ?_
  refine gr_goto (M := gm_Mo_onStreet) dq_Mo_onStreet_51 4 rfl ?_
  refine gr_sub (M := gm_Mo_onStreet) (lv' := [(0, .inr (.inr 83)), (1, .inl v1), (2, .inl (gor s0 s1)), (3, .inl (gadd v3 1))]) [2, 3, 1, 0] rfl ?_
  exact hk4 _ _ _

def f_Mo_onStreet_J45  (k4 : Int → Int → gH → Option gO) (v1 : Int) (v3 : Int) (s0 : Int) (h : gH) : Option gO := f_Mo_onStreet_J46  (k4) v1 v3 0 s0 h
theorem w_Mo_onStreet_J45 {o : gO} {X : gX} (hL : gLive (xZ X)) (hn : (zL (xZ X)).Nodup) (hF : gFin X (some .int) o)    {k4 : Int → Int → gH → Option gO} {v1 : Int} {v3 : Int} {s0 : Int} {h : gH} (hk4 : ∀ (v2 : Int) (v3 : Int) (h : gH), gr (k4 v2 v3 h) o gm_Mo_onStreet X h 4 [(0, .inr (.inr 83)), (1, .inl v1), (2, .inl v2), (3, .inl v3)] []) : gr (f_Mo_onStreet_J45  k4 v1 v3 s0 h) o gm_Mo_onStreet X h 45 [(0, .inr (.inr 83)), (1, .inl v1), (3, .inl v3)] [.inl s0] := by
  unfold f_Mo_onStreet_J45
  refine gr_iconst (M := gm_Mo_onStreet) (v := 0) dq_Mo_onStreet_45 rfl ⟨by decide, by decide⟩ 46 rfl ?_
  exact w_Mo_onStreet_J46 hL hn hF   hk4

def f_Mo_onStreet_L4 (v1 : Int) (k54 : Int → gH → Option gO) : Nat → Int → Int → gH → Option gO
  | 0, _, _, _ => none
  | n + 1, v2, v3, h => if (h 83 6) ≤ v3 then (k54 v2 h) else (gd (gix 50 (gadd 26 v3)) (if (h 92 (gadd 26 v3).toNat) = 2 then (gd (gix 50 (gadd 32 v3)) (if (h 92 (gadd 32 v3).toNat) = v1 then (f_Mo_onStreet_J46  (f_Mo_onStreet_L4 v1 k54 n) v1 v3 (gshl 1 v3) v2 h) else (f_Mo_onStreet_J45  (f_Mo_onStreet_L4 v1 k54 n) v1 v3 v2 h))) else (f_Mo_onStreet_J45  (f_Mo_onStreet_L4 v1 k54 n) v1 v3 v2 h)))
theorem w_Mo_onStreet_L4 {o : gO} {X : gX} (hL : gLive (xZ X)) (hn : (zL (xZ X)).Nodup) (hF : gFin X (some .int) o) {v1 : Int}   {k54 : Int → gH → Option gO} (hk54 : ∀ (v2 : Int) (h : gH), gr (k54 v2 h) o gm_Mo_onStreet X h 54 [(2, .inl v2)] []) : ∀ (n : Nat) (v2 : Int) (v3 : Int) (h : gH), gr (f_Mo_onStreet_L4 v1 k54 n v2 v3 h) o gm_Mo_onStreet X h 4 [(0, .inr (.inr 83)), (1, .inl v1), (2, .inl v2), (3, .inl v3)] [] := by
  intro n
  induction n with
  | zero => intros; exact gr_none
  | succ n ih =>
    intro v2 v3 h
    unfold f_Mo_onStreet_L4
    refine gr_iload_n (M := gm_Mo_onStreet) dq_Mo_onStreet_4 rfl 3 rfl 5 rfl ?_
    refine gr_aload_n (M := gm_Mo_onStreet) dq_Mo_onStreet_5 rfl 0 rfl 6 rfl ?_
    refine gr_geti (M := gm_Mo_onStreet) dq_Mo_onStreet_6 9 rfl gfl_Mo_124 gsh_83 rfl (gli hL gsh_83) ?_
    refine gr_icmp_ge (M := gm_Mo_onStreet) dq_Mo_onStreet_9 54 12 rfl rfl (fun c1 => ?_) (fun c1 => ?_)
    · refine gr_sub (M := gm_Mo_onStreet) (lv' := [(2, .inl v2)]) [2] rfl ?_
      exact hk54 _ _
    refine gr_iload_n (M := gm_Mo_onStreet) dq_Mo_onStreet_12 rfl 2 rfl 13 rfl ?_
    refine gr_aload_n (M := gm_Mo_onStreet) dq_Mo_onStreet_13 rfl 0 rfl 14 rfl ?_
    refine gr_getr (M := gm_Mo_onStreet) dq_Mo_onStreet_14 17 rfl gfl_Mo_34 gsh_83 rfl (gli hL gsh_83) 92 rfl ?_
    refine gr_bipush (M := gm_Mo_onStreet) (v := 26) dq_Mo_onStreet_17 (by decide) ⟨by decide, by decide⟩ 19 rfl ?_
    refine gr_iload_n (M := gm_Mo_onStreet) dq_Mo_onStreet_19 rfl 3 rfl 20 rfl ?_
    refine gr_iadd (M := gm_Mo_onStreet) dq_Mo_onStreet_20 21 rfl ?_
    refine gr_iald (M := gm_Mo_onStreet) dq_Mo_onStreet_21 22 rfl gsh_92 (glj hL gsh_92 (by decide)) ?_
    refine gr_iconst (M := gm_Mo_onStreet) (v := 2) dq_Mo_onStreet_22 rfl ⟨by decide, by decide⟩ 23 rfl ?_
    refine gr_icmp_ne (M := gm_Mo_onStreet) dq_Mo_onStreet_23 45 26 rfl rfl (fun c2 => ?_) (fun c2 => ?_)
    · refine gr_sub (M := gm_Mo_onStreet) (lv' := [(0, .inr (.inr 83)), (1, .inl v1), (3, .inl v3)]) [0, 1, 3] rfl ?_
      exact w_Mo_onStreet_J45 hL hn hF   ih
    refine gr_aload_n (M := gm_Mo_onStreet) dq_Mo_onStreet_26 rfl 0 rfl 27 rfl ?_
    refine gr_getr (M := gm_Mo_onStreet) dq_Mo_onStreet_27 30 rfl gfl_Mo_34 gsh_83 rfl (gli hL gsh_83) 92 rfl ?_
    refine gr_bipush (M := gm_Mo_onStreet) (v := 32) dq_Mo_onStreet_30 (by decide) ⟨by decide, by decide⟩ 32 rfl ?_
    refine gr_iload_n (M := gm_Mo_onStreet) dq_Mo_onStreet_32 rfl 3 rfl 33 rfl ?_
    refine gr_iadd (M := gm_Mo_onStreet) dq_Mo_onStreet_33 34 rfl ?_
    refine gr_iald (M := gm_Mo_onStreet) dq_Mo_onStreet_34 35 rfl gsh_92 (glj hL gsh_92 (by decide)) ?_
    refine gr_iload_n (M := gm_Mo_onStreet) dq_Mo_onStreet_35 rfl 1 rfl 36 rfl ?_
    refine gr_icmp_ne (M := gm_Mo_onStreet) dq_Mo_onStreet_36 45 39 rfl rfl (fun c3 => ?_) (fun c3 => ?_)
    · refine gr_sub (M := gm_Mo_onStreet) (lv' := [(0, .inr (.inr 83)), (1, .inl v1), (3, .inl v3)]) [0, 1, 3] rfl ?_
      exact w_Mo_onStreet_J45 hL hn hF   ih
    refine gr_iconst (M := gm_Mo_onStreet) (v := 1) dq_Mo_onStreet_39 rfl ⟨by decide, by decide⟩ 40 rfl ?_
    refine gr_iload_n (M := gm_Mo_onStreet) dq_Mo_onStreet_40 rfl 3 rfl 41 rfl ?_
    refine gr_ishl (M := gm_Mo_onStreet) dq_Mo_onStreet_41 42 rfl ?_
    refine gr_goto (M := gm_Mo_onStreet) dq_Mo_onStreet_42 46 rfl ?_
    refine gr_sub (M := gm_Mo_onStreet) (lv' := [(0, .inr (.inr 83)), (1, .inl v1), (3, .inl v3)]) [0, 1, 3] rfl ?_
    exact w_Mo_onStreet_J46 hL hn hF   ih

def f_Mo_onStreet (a1 : Int) (h : gH) : Option gO := f_Mo_onStreet_L4 a1 (fun v4 h5 => some (h5, v4)) 50000 0 0 h
theorem c_Mo_onStreet {Z : gZ} (hL : gLive Z) (hn : (zL Z).Nodup) {a1 : Int}  {h : gH} {o : gO} (hg : gRg h) (ha : gRl [.inr (.inr 83), .inl a1]) (hx : f_Mo_onStreet a1 h = some o) : gC Z gy_Mo_onStreet gc_Mo_onStreet 4 (some .int) 0 0 [.inr (.inr 83), .inl a1] h o := by
  unfold f_Mo_onStreet at hx
  refine gC_of (lv := [(0, .inr (.inr 83)), (1, .inl a1)]) (own := gR_7) (by decide +kernel) rfl (Nat.le_of_ble_eq_true rfl) rfl rfl hn hg ha hx (fun X hZ hF => ?_)
  subst hZ
  show gr _ o gm_Mo_onStreet X h 0 _ _
  refine gr_iconst (M := gm_Mo_onStreet) (v := 0) dq_Mo_onStreet_0 rfl ⟨by decide, by decide⟩ 1 rfl ?_
  refine gr_istore_n (M := gm_Mo_onStreet) (lv' := [(2, .inl 0), (0, .inr (.inr 83)), (1, .inl a1)]) dq_Mo_onStreet_1 rfl (by decide) rfl 2 rfl ?_
  refine gr_iconst (M := gm_Mo_onStreet) (v := 0) dq_Mo_onStreet_2 rfl ⟨by decide, by decide⟩ 3 rfl ?_
  refine gr_istore_n (M := gm_Mo_onStreet) (lv' := [(3, .inl 0), (2, .inl 0), (0, .inr (.inr 83)), (1, .inl a1)]) dq_Mo_onStreet_3 rfl (by decide) rfl 4 rfl ?_
  refine gr_sub (M := gm_Mo_onStreet) (lv' := [(0, .inr (.inr 83)), (1, .inl a1), (2, .inl 0), (3, .inl 0)]) [2, 3, 1, 0] rfl ?_
  refine w_Mo_onStreet_L4 hL hn hF   (fun v4 h5 => ?_) 50000 _ _ _
  refine gr_iload_n (M := gm_Mo_onStreet) dq_Mo_onStreet_54 rfl 0 rfl 55 rfl ?_
  exact gr_ireturn (M := gm_Mo_onStreet) dq_Mo_onStreet_55 hF

-- Mo_street
theorem dq_Mo_street_0 : decode gc_Mo_street 0 = .ok (.aload_n 0, 1) := by decide +kernel
theorem dq_Mo_street_1 : decode gc_Mo_street 1 = .ok (.iload_n 1, 1) := by decide +kernel
theorem dq_Mo_street_2 : decode gc_Mo_street 2 = .ok (.invokevirtual 209, 3) := by decide +kernel
theorem dq_Mo_street_5 : decode gc_Mo_street 5 = .ok (.ifCond .ne 6, 3) := by decide +kernel
theorem dq_Mo_street_8 : decode gc_Mo_street 8 = .ok (.ldc 208, 2) := by decide +kernel
theorem dq_Mo_street_10 : decode gc_Mo_street 10 = .ok (.ireturn, 1) := by decide +kernel
theorem dq_Mo_street_11 : decode gc_Mo_street 11 = .ok (.iload_n 2, 1) := by decide +kernel
theorem dq_Mo_street_12 : decode gc_Mo_street 12 = .ok (.tableswitch 86 0 5 #[40, 47, 54, 61, 70, 80], 40) := by decide +kernel
theorem dq_Mo_street_52 : decode gc_Mo_street 52 = .ok (.aload_n 0, 1) := by decide +kernel
theorem dq_Mo_street_53 : decode gc_Mo_street 53 = .ok (.getfield 7, 3) := by decide +kernel
theorem dq_Mo_street_56 : decode gc_Mo_street 56 = .ok (.iload_n 1, 1) := by decide +kernel
theorem dq_Mo_street_57 : decode gc_Mo_street 57 = .ok (.iaload, 1) := by decide +kernel
theorem dq_Mo_street_58 : decode gc_Mo_street 58 = .ok (.ireturn, 1) := by decide +kernel
theorem dq_Mo_street_59 : decode gc_Mo_street 59 = .ok (.aload_n 0, 1) := by decide +kernel
theorem dq_Mo_street_60 : decode gc_Mo_street 60 = .ok (.getfield 13, 3) := by decide +kernel
theorem dq_Mo_street_63 : decode gc_Mo_street 63 = .ok (.iload_n 1, 1) := by decide +kernel
theorem dq_Mo_street_64 : decode gc_Mo_street 64 = .ok (.iaload, 1) := by decide +kernel
theorem dq_Mo_street_65 : decode gc_Mo_street 65 = .ok (.ireturn, 1) := by decide +kernel
theorem dq_Mo_street_66 : decode gc_Mo_street 66 = .ok (.aload_n 0, 1) := by decide +kernel
theorem dq_Mo_street_67 : decode gc_Mo_street 67 = .ok (.getfield 16, 3) := by decide +kernel
theorem dq_Mo_street_70 : decode gc_Mo_street 70 = .ok (.iload_n 1, 1) := by decide +kernel
theorem dq_Mo_street_71 : decode gc_Mo_street 71 = .ok (.iaload, 1) := by decide +kernel
theorem dq_Mo_street_72 : decode gc_Mo_street 72 = .ok (.ireturn, 1) := by decide +kernel
theorem dq_Mo_street_73 : decode gc_Mo_street 73 = .ok (.aload_n 0, 1) := by decide +kernel
theorem dq_Mo_street_74 : decode gc_Mo_street 74 = .ok (.getfield 34, 3) := by decide +kernel
theorem dq_Mo_street_77 : decode gc_Mo_street 77 = .ok (.iconst 2, 1) := by decide +kernel
theorem dq_Mo_street_78 : decode gc_Mo_street 78 = .ok (.iload_n 1, 1) := by decide +kernel
theorem dq_Mo_street_79 : decode gc_Mo_street 79 = .ok (.iadd, 1) := by decide +kernel
theorem dq_Mo_street_80 : decode gc_Mo_street 80 = .ok (.iaload, 1) := by decide +kernel
theorem dq_Mo_street_81 : decode gc_Mo_street 81 = .ok (.ireturn, 1) := by decide +kernel
theorem dq_Mo_street_82 : decode gc_Mo_street 82 = .ok (.aload_n 0, 1) := by decide +kernel
theorem dq_Mo_street_83 : decode gc_Mo_street 83 = .ok (.getfield 34, 3) := by decide +kernel
theorem dq_Mo_street_86 : decode gc_Mo_street 86 = .ok (.bipush 11, 2) := by decide +kernel
theorem dq_Mo_street_88 : decode gc_Mo_street 88 = .ok (.iload_n 1, 1) := by decide +kernel
theorem dq_Mo_street_89 : decode gc_Mo_street 89 = .ok (.iadd, 1) := by decide +kernel
theorem dq_Mo_street_90 : decode gc_Mo_street 90 = .ok (.iaload, 1) := by decide +kernel
theorem dq_Mo_street_91 : decode gc_Mo_street 91 = .ok (.ireturn, 1) := by decide +kernel
theorem dq_Mo_street_92 : decode gc_Mo_street 92 = .ok (.aload_n 0, 1) := by decide +kernel
theorem dq_Mo_street_93 : decode gc_Mo_street 93 = .ok (.iload_n 1, 1) := by decide +kernel
theorem dq_Mo_street_94 : decode gc_Mo_street 94 = .ok (.invokevirtual 212, 3) := by decide +kernel
theorem dq_Mo_street_97 : decode gc_Mo_street 97 = .ok (.ireturn, 1) := by decide +kernel
theorem dq_Mo_street_98 : decode gc_Mo_street 98 = .ok (.ldc 129, 2) := by decide +kernel
theorem dq_Mo_street_100 : decode gc_Mo_street 100 = .ok (.ireturn, 1) := by decide +kernel
abbrev gm_Mo_street : gM := (gc_Mo_street, gR_7, 2, 46, 3)
set_option maxRecDepth 20000 in
theorem gcy_Mo_209 : gCy gR_7 209 gy_Mo_isStreet gc_Mo_isStreet 2 (some .boolean) 1 := ⟨(gtab_at 962 (by decide +kernel) rfl), (gtab_at 8 (by decide +kernel) rfl), (gtab_at 965 rfl rfl), by decide, by decide, by decide +kernel⟩
theorem gim_Mo_isStreet : Cond.instanceMethod gy_Mo_isStreet ∈ gtbl := (gtab_at 964 (by decide +kernel) rfl)
theorem gse_Mo_isStreet : Cond.selects gy_Mo_isStreet.cls gy_Mo_isStreet gy_Mo_isStreet ∈ gtbl := (by decide +kernel)
set_option maxRecDepth 20000 in
theorem gcy_Mo_212 : gCy gR_7 212 gy_Mo_onStreet gc_Mo_onStreet 4 (some .int) 1 := ⟨(gtab_at 966 (by decide +kernel) rfl), (gtab_at 8 (by decide +kernel) rfl), (gtab_at 969 rfl rfl), by decide, by decide, by decide +kernel⟩
theorem gim_Mo_onStreet : Cond.instanceMethod gy_Mo_onStreet ∈ gtbl := (gtab_at 968 (by decide +kernel) rfl)
theorem gse_Mo_onStreet : Cond.selects gy_Mo_onStreet.cls gy_Mo_onStreet gy_Mo_onStreet ∈ gtbl := (by decide +kernel)
def f_Mo_street (a1 : Int) (a2 : Int) (h : gH) : Option gO := gb (f_Mo_isStreet a1 h) (fun h1 r2 => if r2 = 0 then (some (h1, (-1000000001))) else (if a2 = 0 then (gd (gix 9 a1) (some (h1, (h1 84 a1.toNat)))) else (if a2 = 1 then (gd (gix 9 a1) (some (h1, (h1 85 a1.toNat)))) else (if a2 = 2 then (gd (gix 9 a1) (some (h1, (h1 86 a1.toNat)))) else (if a2 = 3 then (gd (gix 50 (gadd 2 a1)) (some (h1, (h1 92 (gadd 2 a1).toNat)))) else (if a2 = 4 then (gd (gix 50 (gadd 11 a1)) (some (h1, (h1 92 (gadd 11 a1).toNat)))) else (if a2 = 5 then (gb (f_Mo_onStreet a1 h1) (fun h10 r11 => some (h10, r11))) else (some (h1, (-1000000002))))))))))
theorem c_Mo_street {Z : gZ} (hL : gLive Z) (hn : (zL Z).Nodup) {a1 : Int} {a2 : Int}  {h : gH} {o : gO} (hg : gRg h) (ha : gRl [.inr (.inr 83), .inl a1, .inl a2]) (hx : f_Mo_street a1 a2 h = some o) : gC Z gy_Mo_street gc_Mo_street 3 (some .int) 2 46 [.inr (.inr 83), .inl a1, .inl a2] h o := by
  unfold f_Mo_street at hx
  refine gC_of (lv := [(0, .inr (.inr 83)), (1, .inl a1), (2, .inl a2)]) (own := gR_7) (by decide +kernel) rfl (Nat.le_of_ble_eq_true rfl) rfl rfl hn hg ha hx (fun X hZ hF => ?_)
  subst hZ
  show gr _ o gm_Mo_street X h 0 _ _
  refine gr_aload_n (M := gm_Mo_street) dq_Mo_street_0 rfl 0 rfl 1 rfl ?_
  refine gr_iload_n (M := gm_Mo_street) dq_Mo_street_1 rfl 1 rfl 2 rfl ?_
  refine gr_callVi (M := gm_Mo_street) (as := [.inl a1]) dq_Mo_street_2 5 rfl rfl gcy_Mo_209 gim_Mo_isStreet gse_Mo_isStreet ⟨by decide, by decide⟩ (Nat.le_of_ble_eq_true rfl) gsh_83 rfl (gli hL gsh_83) (fun o1 hg ha hx => c_Mo_isStreet hL hn  hg ha hx) (fun h1 r2 _ => ?_)
  refine gr_if_ne (M := gm_Mo_street) dq_Mo_street_5 11 8 rfl rfl (fun c3 => ?_) (fun c3 => ?_)
  · refine gr_iload_n (M := gm_Mo_street) dq_Mo_street_11 rfl 2 rfl 12 rfl ?_
    refine gr_ite (M := gm_Mo_street) (fun c4 => ?_) (fun c4 => ?_)
    · refine gr_tswIn (M := gm_Mo_street) dq_Mo_street_12 0 c4 (by decide) (by decide) rfl 52 rfl ?_
      refine gr_aload_n (M := gm_Mo_street) dq_Mo_street_52 rfl 0 rfl 53 rfl ?_
      refine gr_getr (M := gm_Mo_street) dq_Mo_street_53 56 rfl gfl_Mo_7 gsh_83 rfl (gli hL gsh_83) 84 rfl ?_
      refine gr_iload_n (M := gm_Mo_street) dq_Mo_street_56 rfl 1 rfl 57 rfl ?_
      refine gr_iald (M := gm_Mo_street) dq_Mo_street_57 58 rfl gsh_84 (glj hL gsh_84 (by decide)) ?_
      exact gr_ireturn (M := gm_Mo_street) dq_Mo_street_58 hF
    refine gr_ite (M := gm_Mo_street) (fun c5 => ?_) (fun c5 => ?_)
    · refine gr_tswIn (M := gm_Mo_street) dq_Mo_street_12 1 c5 (by decide) (by decide) rfl 59 rfl ?_
      refine gr_aload_n (M := gm_Mo_street) dq_Mo_street_59 rfl 0 rfl 60 rfl ?_
      refine gr_getr (M := gm_Mo_street) dq_Mo_street_60 63 rfl gfl_Mo_13 gsh_83 rfl (gli hL gsh_83) 85 rfl ?_
      refine gr_iload_n (M := gm_Mo_street) dq_Mo_street_63 rfl 1 rfl 64 rfl ?_
      refine gr_iald (M := gm_Mo_street) dq_Mo_street_64 65 rfl gsh_85 (glj hL gsh_85 (by decide)) ?_
      exact gr_ireturn (M := gm_Mo_street) dq_Mo_street_65 hF
    refine gr_ite (M := gm_Mo_street) (fun c6 => ?_) (fun c6 => ?_)
    · refine gr_tswIn (M := gm_Mo_street) dq_Mo_street_12 2 c6 (by decide) (by decide) rfl 66 rfl ?_
      refine gr_aload_n (M := gm_Mo_street) dq_Mo_street_66 rfl 0 rfl 67 rfl ?_
      refine gr_getr (M := gm_Mo_street) dq_Mo_street_67 70 rfl gfl_Mo_16 gsh_83 rfl (gli hL gsh_83) 86 rfl ?_
      refine gr_iload_n (M := gm_Mo_street) dq_Mo_street_70 rfl 1 rfl 71 rfl ?_
      refine gr_iald (M := gm_Mo_street) dq_Mo_street_71 72 rfl gsh_86 (glj hL gsh_86 (by decide)) ?_
      exact gr_ireturn (M := gm_Mo_street) dq_Mo_street_72 hF
    refine gr_ite (M := gm_Mo_street) (fun c7 => ?_) (fun c7 => ?_)
    · refine gr_tswIn (M := gm_Mo_street) dq_Mo_street_12 3 c7 (by decide) (by decide) rfl 73 rfl ?_
      refine gr_aload_n (M := gm_Mo_street) dq_Mo_street_73 rfl 0 rfl 74 rfl ?_
      refine gr_getr (M := gm_Mo_street) dq_Mo_street_74 77 rfl gfl_Mo_34 gsh_83 rfl (gli hL gsh_83) 92 rfl ?_
      refine gr_iconst (M := gm_Mo_street) (v := 2) dq_Mo_street_77 rfl ⟨by decide, by decide⟩ 78 rfl ?_
      refine gr_iload_n (M := gm_Mo_street) dq_Mo_street_78 rfl 1 rfl 79 rfl ?_
      refine gr_iadd (M := gm_Mo_street) dq_Mo_street_79 80 rfl ?_
      refine gr_iald (M := gm_Mo_street) dq_Mo_street_80 81 rfl gsh_92 (glj hL gsh_92 (by decide)) ?_
      exact gr_ireturn (M := gm_Mo_street) dq_Mo_street_81 hF
    refine gr_ite (M := gm_Mo_street) (fun c8 => ?_) (fun c8 => ?_)
    · refine gr_tswIn (M := gm_Mo_street) dq_Mo_street_12 4 c8 (by decide) (by decide) rfl 82 rfl ?_
      refine gr_aload_n (M := gm_Mo_street) dq_Mo_street_82 rfl 0 rfl 83 rfl ?_
      refine gr_getr (M := gm_Mo_street) dq_Mo_street_83 86 rfl gfl_Mo_34 gsh_83 rfl (gli hL gsh_83) 92 rfl ?_
      refine gr_bipush (M := gm_Mo_street) (v := 11) dq_Mo_street_86 (by decide) ⟨by decide, by decide⟩ 88 rfl ?_
      refine gr_iload_n (M := gm_Mo_street) dq_Mo_street_88 rfl 1 rfl 89 rfl ?_
      refine gr_iadd (M := gm_Mo_street) dq_Mo_street_89 90 rfl ?_
      refine gr_iald (M := gm_Mo_street) dq_Mo_street_90 91 rfl gsh_92 (glj hL gsh_92 (by decide)) ?_
      exact gr_ireturn (M := gm_Mo_street) dq_Mo_street_91 hF
    refine gr_ite (M := gm_Mo_street) (fun c9 => ?_) (fun c9 => ?_)
    · refine gr_tswIn (M := gm_Mo_street) dq_Mo_street_12 5 c9 (by decide) (by decide) rfl 92 rfl ?_
      refine gr_aload_n (M := gm_Mo_street) dq_Mo_street_92 rfl 0 rfl 93 rfl ?_
      refine gr_iload_n (M := gm_Mo_street) dq_Mo_street_93 rfl 1 rfl 94 rfl ?_
      refine gr_callVi (M := gm_Mo_street) (as := [.inl a1]) dq_Mo_street_94 97 rfl rfl gcy_Mo_212 gim_Mo_onStreet gse_Mo_onStreet ⟨by decide, by decide⟩ (Nat.le_of_ble_eq_true rfl) gsh_83 rfl (gli hL gsh_83) (fun o1 hg ha hx => c_Mo_onStreet hL hn  hg ha hx) (fun h10 r11 _ => ?_)
      exact gr_ireturn (M := gm_Mo_street) dq_Mo_street_97 hF
    refine gr_tswOut (M := gm_Mo_street) dq_Mo_street_12 (by omega) 98 rfl ?_
    refine gr_ldc (M := gm_Mo_street) (v := (-1000000002)) dq_Mo_street_98 gk_Mo_129 ⟨by decide, by decide⟩ 100 rfl ?_
    exact gr_ireturn (M := gm_Mo_street) dq_Mo_street_100 hF
  refine gr_ldc (M := gm_Mo_street) (v := (-1000000001)) dq_Mo_street_8 gk_Mo_208 ⟨by decide, by decide⟩ 10 rfl ?_
  exact gr_ireturn (M := gm_Mo_street) dq_Mo_street_10 hF

-- Mo_cart
theorem dq_Mo_cart_0 : decode gc_Mo_cart 0 = .ok (.aload_n 0, 1) := by decide +kernel
theorem dq_Mo_cart_1 : decode gc_Mo_cart 1 = .ok (.iload_n 1, 1) := by decide +kernel
theorem dq_Mo_cart_2 : decode gc_Mo_cart 2 = .ok (.invokevirtual 215, 3) := by decide +kernel
theorem dq_Mo_cart_5 : decode gc_Mo_cart 5 = .ok (.ifCond .ne 6, 3) := by decide +kernel
theorem dq_Mo_cart_8 : decode gc_Mo_cart 8 = .ok (.ldc 208, 2) := by decide +kernel
theorem dq_Mo_cart_10 : decode gc_Mo_cart 10 = .ok (.ireturn, 1) := by decide +kernel
theorem dq_Mo_cart_11 : decode gc_Mo_cart 11 = .ok (.iload_n 2, 1) := by decide +kernel
theorem dq_Mo_cart_12 : decode gc_Mo_cart 12 = .ok (.tableswitch 168 0 9 #[56, 63, 70, 77, 87, 94, 104, 114, 124, 134], 56) := by decide +kernel
theorem dq_Mo_cart_68 : decode gc_Mo_cart 68 = .ok (.aload_n 0, 1) := by decide +kernel
theorem dq_Mo_cart_69 : decode gc_Mo_cart 69 = .ok (.getfield 19, 3) := by decide +kernel
theorem dq_Mo_cart_72 : decode gc_Mo_cart 72 = .ok (.iload_n 1, 1) := by decide +kernel
theorem dq_Mo_cart_73 : decode gc_Mo_cart 73 = .ok (.iaload, 1) := by decide +kernel
theorem dq_Mo_cart_74 : decode gc_Mo_cart 74 = .ok (.ireturn, 1) := by decide +kernel
theorem dq_Mo_cart_75 : decode gc_Mo_cart 75 = .ok (.aload_n 0, 1) := by decide +kernel
theorem dq_Mo_cart_76 : decode gc_Mo_cart 76 = .ok (.getfield 22, 3) := by decide +kernel
theorem dq_Mo_cart_79 : decode gc_Mo_cart 79 = .ok (.iload_n 1, 1) := by decide +kernel
theorem dq_Mo_cart_80 : decode gc_Mo_cart 80 = .ok (.iaload, 1) := by decide +kernel
theorem dq_Mo_cart_81 : decode gc_Mo_cart 81 = .ok (.ireturn, 1) := by decide +kernel
theorem dq_Mo_cart_82 : decode gc_Mo_cart 82 = .ok (.aload_n 0, 1) := by decide +kernel
theorem dq_Mo_cart_83 : decode gc_Mo_cart 83 = .ok (.getfield 25, 3) := by decide +kernel
theorem dq_Mo_cart_86 : decode gc_Mo_cart 86 = .ok (.iload_n 1, 1) := by decide +kernel
theorem dq_Mo_cart_87 : decode gc_Mo_cart 87 = .ok (.iaload, 1) := by decide +kernel
theorem dq_Mo_cart_88 : decode gc_Mo_cart 88 = .ok (.ireturn, 1) := by decide +kernel
theorem dq_Mo_cart_89 : decode gc_Mo_cart 89 = .ok (.aload_n 0, 1) := by decide +kernel
theorem dq_Mo_cart_90 : decode gc_Mo_cart 90 = .ok (.getfield 34, 3) := by decide +kernel
theorem dq_Mo_cart_93 : decode gc_Mo_cart 93 = .ok (.bipush 20, 2) := by decide +kernel
theorem dq_Mo_cart_95 : decode gc_Mo_cart 95 = .ok (.iload_n 1, 1) := by decide +kernel
theorem dq_Mo_cart_96 : decode gc_Mo_cart 96 = .ok (.iadd, 1) := by decide +kernel
theorem dq_Mo_cart_97 : decode gc_Mo_cart 97 = .ok (.iaload, 1) := by decide +kernel
theorem dq_Mo_cart_98 : decode gc_Mo_cart 98 = .ok (.ireturn, 1) := by decide +kernel
theorem dq_Mo_cart_99 : decode gc_Mo_cart 99 = .ok (.aload_n 0, 1) := by decide +kernel
theorem dq_Mo_cart_100 : decode gc_Mo_cart 100 = .ok (.getfield 28, 3) := by decide +kernel
theorem dq_Mo_cart_103 : decode gc_Mo_cart 103 = .ok (.iload_n 1, 1) := by decide +kernel
theorem dq_Mo_cart_104 : decode gc_Mo_cart 104 = .ok (.iaload, 1) := by decide +kernel
theorem dq_Mo_cart_105 : decode gc_Mo_cart 105 = .ok (.ireturn, 1) := by decide +kernel
theorem dq_Mo_cart_106 : decode gc_Mo_cart 106 = .ok (.aload_n 0, 1) := by decide +kernel
theorem dq_Mo_cart_107 : decode gc_Mo_cart 107 = .ok (.getfield 34, 3) := by decide +kernel
theorem dq_Mo_cart_110 : decode gc_Mo_cart 110 = .ok (.bipush 26, 2) := by decide +kernel
theorem dq_Mo_cart_112 : decode gc_Mo_cart 112 = .ok (.iload_n 1, 1) := by decide +kernel
theorem dq_Mo_cart_113 : decode gc_Mo_cart 113 = .ok (.iadd, 1) := by decide +kernel
theorem dq_Mo_cart_114 : decode gc_Mo_cart 114 = .ok (.iaload, 1) := by decide +kernel
theorem dq_Mo_cart_115 : decode gc_Mo_cart 115 = .ok (.ireturn, 1) := by decide +kernel
theorem dq_Mo_cart_116 : decode gc_Mo_cart 116 = .ok (.aload_n 0, 1) := by decide +kernel
theorem dq_Mo_cart_117 : decode gc_Mo_cart 117 = .ok (.getfield 34, 3) := by decide +kernel
theorem dq_Mo_cart_120 : decode gc_Mo_cart 120 = .ok (.bipush 32, 2) := by decide +kernel
theorem dq_Mo_cart_122 : decode gc_Mo_cart 122 = .ok (.iload_n 1, 1) := by decide +kernel
theorem dq_Mo_cart_123 : decode gc_Mo_cart 123 = .ok (.iadd, 1) := by decide +kernel
theorem dq_Mo_cart_124 : decode gc_Mo_cart 124 = .ok (.iaload, 1) := by decide +kernel
theorem dq_Mo_cart_125 : decode gc_Mo_cart 125 = .ok (.ireturn, 1) := by decide +kernel
theorem dq_Mo_cart_126 : decode gc_Mo_cart 126 = .ok (.aload_n 0, 1) := by decide +kernel
theorem dq_Mo_cart_127 : decode gc_Mo_cart 127 = .ok (.getfield 34, 3) := by decide +kernel
theorem dq_Mo_cart_130 : decode gc_Mo_cart 130 = .ok (.bipush 38, 2) := by decide +kernel
theorem dq_Mo_cart_132 : decode gc_Mo_cart 132 = .ok (.iload_n 1, 1) := by decide +kernel
theorem dq_Mo_cart_133 : decode gc_Mo_cart 133 = .ok (.iadd, 1) := by decide +kernel
theorem dq_Mo_cart_134 : decode gc_Mo_cart 134 = .ok (.iaload, 1) := by decide +kernel
theorem dq_Mo_cart_135 : decode gc_Mo_cart 135 = .ok (.ireturn, 1) := by decide +kernel
theorem dq_Mo_cart_136 : decode gc_Mo_cart 136 = .ok (.aload_n 0, 1) := by decide +kernel
theorem dq_Mo_cart_137 : decode gc_Mo_cart 137 = .ok (.getfield 34, 3) := by decide +kernel
theorem dq_Mo_cart_140 : decode gc_Mo_cart 140 = .ok (.bipush 44, 2) := by decide +kernel
theorem dq_Mo_cart_142 : decode gc_Mo_cart 142 = .ok (.iload_n 1, 1) := by decide +kernel
theorem dq_Mo_cart_143 : decode gc_Mo_cart 143 = .ok (.iadd, 1) := by decide +kernel
theorem dq_Mo_cart_144 : decode gc_Mo_cart 144 = .ok (.iaload, 1) := by decide +kernel
theorem dq_Mo_cart_145 : decode gc_Mo_cart 145 = .ok (.ireturn, 1) := by decide +kernel
theorem dq_Mo_cart_146 : decode gc_Mo_cart 146 = .ok (.aload_n 0, 1) := by decide +kernel
theorem dq_Mo_cart_147 : decode gc_Mo_cart 147 = .ok (.getfield 34, 3) := by decide +kernel
theorem dq_Mo_cart_150 : decode gc_Mo_cart 150 = .ok (.bipush 26, 2) := by decide +kernel
theorem dq_Mo_cart_152 : decode gc_Mo_cart 152 = .ok (.iload_n 1, 1) := by decide +kernel
theorem dq_Mo_cart_153 : decode gc_Mo_cart 153 = .ok (.iadd, 1) := by decide +kernel
theorem dq_Mo_cart_154 : decode gc_Mo_cart 154 = .ok (.iaload, 1) := by decide +kernel
theorem dq_Mo_cart_155 : decode gc_Mo_cart 155 = .ok (.iconst 3, 1) := by decide +kernel
theorem dq_Mo_cart_156 : decode gc_Mo_cart 156 = .ok (.if_icmp .ne 22, 3) := by decide +kernel
theorem dq_Mo_cart_159 : decode gc_Mo_cart 159 = .ok (.aload_n 0, 1) := by decide +kernel
theorem dq_Mo_cart_160 : decode gc_Mo_cart 160 = .ok (.getfield 34, 3) := by decide +kernel
theorem dq_Mo_cart_163 : decode gc_Mo_cart 163 = .ok (.bipush 38, 2) := by decide +kernel
theorem dq_Mo_cart_165 : decode gc_Mo_cart 165 = .ok (.iload_n 1, 1) := by decide +kernel
theorem dq_Mo_cart_166 : decode gc_Mo_cart 166 = .ok (.iadd, 1) := by decide +kernel
theorem dq_Mo_cart_167 : decode gc_Mo_cart 167 = .ok (.iaload, 1) := by decide +kernel
theorem dq_Mo_cart_168 : decode gc_Mo_cart 168 = .ok (.aload_n 0, 1) := by decide +kernel
theorem dq_Mo_cart_169 : decode gc_Mo_cart 169 = .ok (.getfield 25, 3) := by decide +kernel
theorem dq_Mo_cart_172 : decode gc_Mo_cart 172 = .ok (.iload_n 1, 1) := by decide +kernel
theorem dq_Mo_cart_173 : decode gc_Mo_cart 173 = .ok (.iaload, 1) := by decide +kernel
theorem dq_Mo_cart_174 : decode gc_Mo_cart 174 = .ok (.isub, 1) := by decide +kernel
theorem dq_Mo_cart_175 : decode gc_Mo_cart 175 = .ok (.goto 4, 3) := by decide +kernel
theorem dq_Mo_cart_178 : decode gc_Mo_cart 178 = .ok (.iconst (-1), 1) := by decide +kernel
theorem dq_Mo_cart_179 : decode gc_Mo_cart 179 = .ok (.ireturn, 1) := by decide +kernel
theorem dq_Mo_cart_180 : decode gc_Mo_cart 180 = .ok (.ldc 129, 2) := by decide +kernel
theorem dq_Mo_cart_182 : decode gc_Mo_cart 182 = .ok (.ireturn, 1) := by decide +kernel
abbrev gm_Mo_cart : gM := (gc_Mo_cart, gR_7, 2, 46, 3)
set_option maxRecDepth 20000 in
theorem gcy_Mo_215 : gCy gR_7 215 gy_Mo_isCart gc_Mo_isCart 2 (some .boolean) 1 := ⟨(gtab_at 974 (by decide +kernel) rfl), (gtab_at 8 (by decide +kernel) rfl), (gtab_at 977 rfl rfl), by decide, by decide, by decide +kernel⟩
theorem gim_Mo_isCart : Cond.instanceMethod gy_Mo_isCart ∈ gtbl := (gtab_at 976 (by decide +kernel) rfl)
theorem gse_Mo_isCart : Cond.selects gy_Mo_isCart.cls gy_Mo_isCart gy_Mo_isCart ∈ gtbl := (by decide +kernel)
def f_Mo_cart (a1 : Int) (a2 : Int) (h : gH) : Option gO := gb (f_Mo_isCart a1 h) (fun h1 r2 => if r2 = 0 then (some (h1, (-1000000001))) else (if a2 = 0 then (gd (gix 6 a1) (some (h1, (h1 87 a1.toNat)))) else (if a2 = 1 then (gd (gix 6 a1) (some (h1, (h1 88 a1.toNat)))) else (if a2 = 2 then (gd (gix 6 a1) (some (h1, (h1 89 a1.toNat)))) else (if a2 = 3 then (gd (gix 50 (gadd 20 a1)) (some (h1, (h1 92 (gadd 20 a1).toNat)))) else (if a2 = 4 then (gd (gix 6 a1) (some (h1, (h1 90 a1.toNat)))) else (if a2 = 5 then (gd (gix 50 (gadd 26 a1)) (some (h1, (h1 92 (gadd 26 a1).toNat)))) else (if a2 = 6 then (gd (gix 50 (gadd 32 a1)) (some (h1, (h1 92 (gadd 32 a1).toNat)))) else (if a2 = 7 then (gd (gix 50 (gadd 38 a1)) (some (h1, (h1 92 (gadd 38 a1).toNat)))) else (if a2 = 8 then (gd (gix 50 (gadd 44 a1)) (some (h1, (h1 92 (gadd 44 a1).toNat)))) else (if a2 = 9 then (gd (gix 50 (gadd 26 a1)) (if (h1 92 (gadd 26 a1).toNat) = 3 then (gd (gix 50 (gadd 38 a1)) (gd (gix 6 a1) (some (h1, (gsub (h1 92 (gadd 38 a1).toNat) (h1 89 a1.toNat)))))) else (some (h1, (-1))))) else (some (h1, (-1000000002))))))))))))))
theorem c_Mo_cart {Z : gZ} (hL : gLive Z) (hn : (zL Z).Nodup) {a1 : Int} {a2 : Int}  {h : gH} {o : gO} (hg : gRg h) (ha : gRl [.inr (.inr 83), .inl a1, .inl a2]) (hx : f_Mo_cart a1 a2 h = some o) : gC Z gy_Mo_cart gc_Mo_cart 3 (some .int) 2 46 [.inr (.inr 83), .inl a1, .inl a2] h o := by
  unfold f_Mo_cart at hx
  refine gC_of (lv := [(0, .inr (.inr 83)), (1, .inl a1), (2, .inl a2)]) (own := gR_7) (by decide +kernel) rfl (Nat.le_of_ble_eq_true rfl) rfl rfl hn hg ha hx (fun X hZ hF => ?_)
  subst hZ
  show gr _ o gm_Mo_cart X h 0 _ _
  refine gr_aload_n (M := gm_Mo_cart) dq_Mo_cart_0 rfl 0 rfl 1 rfl ?_
  refine gr_iload_n (M := gm_Mo_cart) dq_Mo_cart_1 rfl 1 rfl 2 rfl ?_
  refine gr_callVi (M := gm_Mo_cart) (as := [.inl a1]) dq_Mo_cart_2 5 rfl rfl gcy_Mo_215 gim_Mo_isCart gse_Mo_isCart ⟨by decide, by decide⟩ (Nat.le_of_ble_eq_true rfl) gsh_83 rfl (gli hL gsh_83) (fun o1 hg ha hx => c_Mo_isCart hL hn  hg ha hx) (fun h1 r2 _ => ?_)
  refine gr_if_ne (M := gm_Mo_cart) dq_Mo_cart_5 11 8 rfl rfl (fun c3 => ?_) (fun c3 => ?_)
  · refine gr_iload_n (M := gm_Mo_cart) dq_Mo_cart_11 rfl 2 rfl 12 rfl ?_
    refine gr_ite (M := gm_Mo_cart) (fun c4 => ?_) (fun c4 => ?_)
    · refine gr_tswIn (M := gm_Mo_cart) dq_Mo_cart_12 0 c4 (by decide) (by decide) rfl 68 rfl ?_
      refine gr_aload_n (M := gm_Mo_cart) dq_Mo_cart_68 rfl 0 rfl 69 rfl ?_
      refine gr_getr (M := gm_Mo_cart) dq_Mo_cart_69 72 rfl gfl_Mo_19 gsh_83 rfl (gli hL gsh_83) 87 rfl ?_
      refine gr_iload_n (M := gm_Mo_cart) dq_Mo_cart_72 rfl 1 rfl 73 rfl ?_
      refine gr_iald (M := gm_Mo_cart) dq_Mo_cart_73 74 rfl gsh_87 (glj hL gsh_87 (by decide)) ?_
      exact gr_ireturn (M := gm_Mo_cart) dq_Mo_cart_74 hF
    refine gr_ite (M := gm_Mo_cart) (fun c5 => ?_) (fun c5 => ?_)
    · refine gr_tswIn (M := gm_Mo_cart) dq_Mo_cart_12 1 c5 (by decide) (by decide) rfl 75 rfl ?_
      refine gr_aload_n (M := gm_Mo_cart) dq_Mo_cart_75 rfl 0 rfl 76 rfl ?_
      refine gr_getr (M := gm_Mo_cart) dq_Mo_cart_76 79 rfl gfl_Mo_22 gsh_83 rfl (gli hL gsh_83) 88 rfl ?_
      refine gr_iload_n (M := gm_Mo_cart) dq_Mo_cart_79 rfl 1 rfl 80 rfl ?_
      refine gr_iald (M := gm_Mo_cart) dq_Mo_cart_80 81 rfl gsh_88 (glj hL gsh_88 (by decide)) ?_
      exact gr_ireturn (M := gm_Mo_cart) dq_Mo_cart_81 hF
    refine gr_ite (M := gm_Mo_cart) (fun c6 => ?_) (fun c6 => ?_)
    · refine gr_tswIn (M := gm_Mo_cart) dq_Mo_cart_12 2 c6 (by decide) (by decide) rfl 82 rfl ?_
      refine gr_aload_n (M := gm_Mo_cart) dq_Mo_cart_82 rfl 0 rfl 83 rfl ?_
      refine gr_getr (M := gm_Mo_cart) dq_Mo_cart_83 86 rfl gfl_Mo_25 gsh_83 rfl (gli hL gsh_83) 89 rfl ?_
      refine gr_iload_n (M := gm_Mo_cart) dq_Mo_cart_86 rfl 1 rfl 87 rfl ?_
      refine gr_iald (M := gm_Mo_cart) dq_Mo_cart_87 88 rfl gsh_89 (glj hL gsh_89 (by decide)) ?_
      exact gr_ireturn (M := gm_Mo_cart) dq_Mo_cart_88 hF
    refine gr_ite (M := gm_Mo_cart) (fun c7 => ?_) (fun c7 => ?_)
    · refine gr_tswIn (M := gm_Mo_cart) dq_Mo_cart_12 3 c7 (by decide) (by decide) rfl 89 rfl ?_
      refine gr_aload_n (M := gm_Mo_cart) dq_Mo_cart_89 rfl 0 rfl 90 rfl ?_
      refine gr_getr (M := gm_Mo_cart) dq_Mo_cart_90 93 rfl gfl_Mo_34 gsh_83 rfl (gli hL gsh_83) 92 rfl ?_
      refine gr_bipush (M := gm_Mo_cart) (v := 20) dq_Mo_cart_93 (by decide) ⟨by decide, by decide⟩ 95 rfl ?_
      refine gr_iload_n (M := gm_Mo_cart) dq_Mo_cart_95 rfl 1 rfl 96 rfl ?_
      refine gr_iadd (M := gm_Mo_cart) dq_Mo_cart_96 97 rfl ?_
      refine gr_iald (M := gm_Mo_cart) dq_Mo_cart_97 98 rfl gsh_92 (glj hL gsh_92 (by decide)) ?_
      exact gr_ireturn (M := gm_Mo_cart) dq_Mo_cart_98 hF
    refine gr_ite (M := gm_Mo_cart) (fun c8 => ?_) (fun c8 => ?_)
    · refine gr_tswIn (M := gm_Mo_cart) dq_Mo_cart_12 4 c8 (by decide) (by decide) rfl 99 rfl ?_
      refine gr_aload_n (M := gm_Mo_cart) dq_Mo_cart_99 rfl 0 rfl 100 rfl ?_
      refine gr_getr (M := gm_Mo_cart) dq_Mo_cart_100 103 rfl gfl_Mo_28 gsh_83 rfl (gli hL gsh_83) 90 rfl ?_
      refine gr_iload_n (M := gm_Mo_cart) dq_Mo_cart_103 rfl 1 rfl 104 rfl ?_
      refine gr_iald (M := gm_Mo_cart) dq_Mo_cart_104 105 rfl gsh_90 (glj hL gsh_90 (by decide)) ?_
      exact gr_ireturn (M := gm_Mo_cart) dq_Mo_cart_105 hF
    refine gr_ite (M := gm_Mo_cart) (fun c9 => ?_) (fun c9 => ?_)
    · refine gr_tswIn (M := gm_Mo_cart) dq_Mo_cart_12 5 c9 (by decide) (by decide) rfl 106 rfl ?_
      refine gr_aload_n (M := gm_Mo_cart) dq_Mo_cart_106 rfl 0 rfl 107 rfl ?_
      refine gr_getr (M := gm_Mo_cart) dq_Mo_cart_107 110 rfl gfl_Mo_34 gsh_83 rfl (gli hL gsh_83) 92 rfl ?_
      refine gr_bipush (M := gm_Mo_cart) (v := 26) dq_Mo_cart_110 (by decide) ⟨by decide, by decide⟩ 112 rfl ?_
      refine gr_iload_n (M := gm_Mo_cart) dq_Mo_cart_112 rfl 1 rfl 113 rfl ?_
      refine gr_iadd (M := gm_Mo_cart) dq_Mo_cart_113 114 rfl ?_
      refine gr_iald (M := gm_Mo_cart) dq_Mo_cart_114 115 rfl gsh_92 (glj hL gsh_92 (by decide)) ?_
      exact gr_ireturn (M := gm_Mo_cart) dq_Mo_cart_115 hF
    refine gr_ite (M := gm_Mo_cart) (fun c10 => ?_) (fun c10 => ?_)
    · refine gr_tswIn (M := gm_Mo_cart) dq_Mo_cart_12 6 c10 (by decide) (by decide) rfl 116 rfl ?_
      refine gr_aload_n (M := gm_Mo_cart) dq_Mo_cart_116 rfl 0 rfl 117 rfl ?_
      refine gr_getr (M := gm_Mo_cart) dq_Mo_cart_117 120 rfl gfl_Mo_34 gsh_83 rfl (gli hL gsh_83) 92 rfl ?_
      refine gr_bipush (M := gm_Mo_cart) (v := 32) dq_Mo_cart_120 (by decide) ⟨by decide, by decide⟩ 122 rfl ?_
      refine gr_iload_n (M := gm_Mo_cart) dq_Mo_cart_122 rfl 1 rfl 123 rfl ?_
      refine gr_iadd (M := gm_Mo_cart) dq_Mo_cart_123 124 rfl ?_
      refine gr_iald (M := gm_Mo_cart) dq_Mo_cart_124 125 rfl gsh_92 (glj hL gsh_92 (by decide)) ?_
      exact gr_ireturn (M := gm_Mo_cart) dq_Mo_cart_125 hF
    refine gr_ite (M := gm_Mo_cart) (fun c11 => ?_) (fun c11 => ?_)
    · refine gr_tswIn (M := gm_Mo_cart) dq_Mo_cart_12 7 c11 (by decide) (by decide) rfl 126 rfl ?_
      refine gr_aload_n (M := gm_Mo_cart) dq_Mo_cart_126 rfl 0 rfl 127 rfl ?_
      refine gr_getr (M := gm_Mo_cart) dq_Mo_cart_127 130 rfl gfl_Mo_34 gsh_83 rfl (gli hL gsh_83) 92 rfl ?_
      refine gr_bipush (M := gm_Mo_cart) (v := 38) dq_Mo_cart_130 (by decide) ⟨by decide, by decide⟩ 132 rfl ?_
      refine gr_iload_n (M := gm_Mo_cart) dq_Mo_cart_132 rfl 1 rfl 133 rfl ?_
      refine gr_iadd (M := gm_Mo_cart) dq_Mo_cart_133 134 rfl ?_
      refine gr_iald (M := gm_Mo_cart) dq_Mo_cart_134 135 rfl gsh_92 (glj hL gsh_92 (by decide)) ?_
      exact gr_ireturn (M := gm_Mo_cart) dq_Mo_cart_135 hF
    refine gr_ite (M := gm_Mo_cart) (fun c12 => ?_) (fun c12 => ?_)
    · refine gr_tswIn (M := gm_Mo_cart) dq_Mo_cart_12 8 c12 (by decide) (by decide) rfl 136 rfl ?_
      refine gr_aload_n (M := gm_Mo_cart) dq_Mo_cart_136 rfl 0 rfl 137 rfl ?_
      refine gr_getr (M := gm_Mo_cart) dq_Mo_cart_137 140 rfl gfl_Mo_34 gsh_83 rfl (gli hL gsh_83) 92 rfl ?_
      refine gr_bipush (M := gm_Mo_cart) (v := 44) dq_Mo_cart_140 (by decide) ⟨by decide, by decide⟩ 142 rfl ?_
      refine gr_iload_n (M := gm_Mo_cart) dq_Mo_cart_142 rfl 1 rfl 143 rfl ?_
      refine gr_iadd (M := gm_Mo_cart) dq_Mo_cart_143 144 rfl ?_
      refine gr_iald (M := gm_Mo_cart) dq_Mo_cart_144 145 rfl gsh_92 (glj hL gsh_92 (by decide)) ?_
      exact gr_ireturn (M := gm_Mo_cart) dq_Mo_cart_145 hF
    refine gr_ite (M := gm_Mo_cart) (fun c13 => ?_) (fun c13 => ?_)
    · refine gr_tswIn (M := gm_Mo_cart) dq_Mo_cart_12 9 c13 (by decide) (by decide) rfl 146 rfl ?_
      refine gr_aload_n (M := gm_Mo_cart) dq_Mo_cart_146 rfl 0 rfl 147 rfl ?_
      refine gr_getr (M := gm_Mo_cart) dq_Mo_cart_147 150 rfl gfl_Mo_34 gsh_83 rfl (gli hL gsh_83) 92 rfl ?_
      refine gr_bipush (M := gm_Mo_cart) (v := 26) dq_Mo_cart_150 (by decide) ⟨by decide, by decide⟩ 152 rfl ?_
      refine gr_iload_n (M := gm_Mo_cart) dq_Mo_cart_152 rfl 1 rfl 153 rfl ?_
      refine gr_iadd (M := gm_Mo_cart) dq_Mo_cart_153 154 rfl ?_
      refine gr_iald (M := gm_Mo_cart) dq_Mo_cart_154 155 rfl gsh_92 (glj hL gsh_92 (by decide)) ?_
      refine gr_iconst (M := gm_Mo_cart) (v := 3) dq_Mo_cart_155 rfl ⟨by decide, by decide⟩ 156 rfl ?_
      refine gr_icmp_ne (M := gm_Mo_cart) dq_Mo_cart_156 178 159 rfl rfl (fun c14 => ?_) (fun c14 => ?_)
      · refine gr_iconst (M := gm_Mo_cart) (v := (-1)) dq_Mo_cart_178 rfl ⟨by decide, by decide⟩ 179 rfl ?_
        exact gr_ireturn (M := gm_Mo_cart) dq_Mo_cart_179 hF
      refine gr_aload_n (M := gm_Mo_cart) dq_Mo_cart_159 rfl 0 rfl 160 rfl ?_
      refine gr_getr (M := gm_Mo_cart) dq_Mo_cart_160 163 rfl gfl_Mo_34 gsh_83 rfl (gli hL gsh_83) 92 rfl ?_
      refine gr_bipush (M := gm_Mo_cart) (v := 38) dq_Mo_cart_163 (by decide) ⟨by decide, by decide⟩ 165 rfl ?_
      refine gr_iload_n (M := gm_Mo_cart) dq_Mo_cart_165 rfl 1 rfl 166 rfl ?_
      refine gr_iadd (M := gm_Mo_cart) dq_Mo_cart_166 167 rfl ?_
      refine gr_iald (M := gm_Mo_cart) dq_Mo_cart_167 168 rfl gsh_92 (glj hL gsh_92 (by decide)) ?_
      refine gr_aload_n (M := gm_Mo_cart) dq_Mo_cart_168 rfl 0 rfl 169 rfl ?_
      refine gr_getr (M := gm_Mo_cart) dq_Mo_cart_169 172 rfl gfl_Mo_25 gsh_83 rfl (gli hL gsh_83) 89 rfl ?_
      refine gr_iload_n (M := gm_Mo_cart) dq_Mo_cart_172 rfl 1 rfl 173 rfl ?_
      refine gr_iald (M := gm_Mo_cart) dq_Mo_cart_173 174 rfl gsh_89 (glj hL gsh_89 (by decide)) ?_
      refine gr_isub (M := gm_Mo_cart) dq_Mo_cart_174 175 rfl ?_
      refine gr_goto (M := gm_Mo_cart) dq_Mo_cart_175 179 rfl ?_
      exact gr_ireturn (M := gm_Mo_cart) dq_Mo_cart_179 hF
    refine gr_tswOut (M := gm_Mo_cart) dq_Mo_cart_12 (by omega) 180 rfl ?_
    refine gr_ldc (M := gm_Mo_cart) (v := (-1000000002)) dq_Mo_cart_180 gk_Mo_129 ⟨by decide, by decide⟩ 182 rfl ?_
    exact gr_ireturn (M := gm_Mo_cart) dq_Mo_cart_182 hF
  refine gr_ldc (M := gm_Mo_cart) (v := (-1000000001)) dq_Mo_cart_8 gk_Mo_208 ⟨by decide, by decide⟩ 10 rfl ?_
  exact gr_ireturn (M := gm_Mo_cart) dq_Mo_cart_10 hF

-- Mo_other
theorem dq_Mo_other_0 : decode gc_Mo_other 0 = .ok (.aload_n 0, 1) := by decide +kernel
theorem dq_Mo_other_1 : decode gc_Mo_other 1 = .ok (.getfield 7, 3) := by decide +kernel
theorem dq_Mo_other_4 : decode gc_Mo_other 4 = .ok (.iload_n 1, 1) := by decide +kernel
theorem dq_Mo_other_5 : decode gc_Mo_other 5 = .ok (.iaload, 1) := by decide +kernel
theorem dq_Mo_other_6 : decode gc_Mo_other 6 = .ok (.iload_n 2, 1) := by decide +kernel
theorem dq_Mo_other_7 : decode gc_Mo_other 7 = .ok (.if_icmp .ne 12, 3) := by decide +kernel
theorem dq_Mo_other_10 : decode gc_Mo_other 10 = .ok (.aload_n 0, 1) := by decide +kernel
theorem dq_Mo_other_11 : decode gc_Mo_other 11 = .ok (.getfield 13, 3) := by decide +kernel
theorem dq_Mo_other_14 : decode gc_Mo_other 14 = .ok (.iload_n 1, 1) := by decide +kernel
theorem dq_Mo_other_15 : decode gc_Mo_other 15 = .ok (.iaload, 1) := by decide +kernel
theorem dq_Mo_other_16 : decode gc_Mo_other 16 = .ok (.goto 23, 3) := by decide +kernel
theorem dq_Mo_other_19 : decode gc_Mo_other 19 = .ok (.aload_n 0, 1) := by decide +kernel
theorem dq_Mo_other_20 : decode gc_Mo_other 20 = .ok (.getfield 13, 3) := by decide +kernel
theorem dq_Mo_other_23 : decode gc_Mo_other 23 = .ok (.iload_n 1, 1) := by decide +kernel
theorem dq_Mo_other_24 : decode gc_Mo_other 24 = .ok (.iaload, 1) := by decide +kernel
theorem dq_Mo_other_25 : decode gc_Mo_other 25 = .ok (.iload_n 2, 1) := by decide +kernel
theorem dq_Mo_other_26 : decode gc_Mo_other 26 = .ok (.if_icmp .ne 12, 3) := by decide +kernel
theorem dq_Mo_other_29 : decode gc_Mo_other 29 = .ok (.aload_n 0, 1) := by decide +kernel
theorem dq_Mo_other_30 : decode gc_Mo_other 30 = .ok (.getfield 7, 3) := by decide +kernel
theorem dq_Mo_other_33 : decode gc_Mo_other 33 = .ok (.iload_n 1, 1) := by decide +kernel
theorem dq_Mo_other_34 : decode gc_Mo_other 34 = .ok (.iaload, 1) := by decide +kernel
theorem dq_Mo_other_35 : decode gc_Mo_other 35 = .ok (.goto 4, 3) := by decide +kernel
theorem dq_Mo_other_38 : decode gc_Mo_other 38 = .ok (.iconst (-1), 1) := by decide +kernel
theorem dq_Mo_other_39 : decode gc_Mo_other 39 = .ok (.ireturn, 1) := by decide +kernel
abbrev gm_Mo_other : gM := (gc_Mo_other, gR_7, 0, 0, 3)
def f_Mo_other (a1 : Int) (a2 : Int) (h : gH) : Option gO := gd (gix 9 a1) (if (h 84 a1.toNat) = a2 then (gd (gix 9 a1) (some (h, (h 85 a1.toNat)))) else (gd (gix 9 a1) (if (h 85 a1.toNat) = a2 then (gd (gix 9 a1) (some (h, (h 84 a1.toNat)))) else (some (h, (-1))))))
theorem c_Mo_other {Z : gZ} (hL : gLive Z) (hn : (zL Z).Nodup) {a1 : Int} {a2 : Int}  {h : gH} {o : gO} (hg : gRg h) (ha : gRl [.inr (.inr 83), .inl a1, .inl a2]) (hx : f_Mo_other a1 a2 h = some o) : gC Z gy_Mo_other gc_Mo_other 3 (some .int) 0 0 [.inr (.inr 83), .inl a1, .inl a2] h o := by
  unfold f_Mo_other at hx
  refine gC_of (lv := [(0, .inr (.inr 83)), (1, .inl a1), (2, .inl a2)]) (own := gR_7) (by decide +kernel) rfl (Nat.le_of_ble_eq_true rfl) rfl rfl hn hg ha hx (fun X hZ hF => ?_)
  subst hZ
  show gr _ o gm_Mo_other X h 0 _ _
  refine gr_aload_n (M := gm_Mo_other) dq_Mo_other_0 rfl 0 rfl 1 rfl ?_
  refine gr_getr (M := gm_Mo_other) dq_Mo_other_1 4 rfl gfl_Mo_7 gsh_83 rfl (gli hL gsh_83) 84 rfl ?_
  refine gr_iload_n (M := gm_Mo_other) dq_Mo_other_4 rfl 1 rfl 5 rfl ?_
  refine gr_iald (M := gm_Mo_other) dq_Mo_other_5 6 rfl gsh_84 (glj hL gsh_84 (by decide)) ?_
  refine gr_iload_n (M := gm_Mo_other) dq_Mo_other_6 rfl 2 rfl 7 rfl ?_
  refine gr_icmp_ne (M := gm_Mo_other) dq_Mo_other_7 19 10 rfl rfl (fun c1 => ?_) (fun c1 => ?_)
  · refine gr_aload_n (M := gm_Mo_other) dq_Mo_other_19 rfl 0 rfl 20 rfl ?_
    refine gr_getr (M := gm_Mo_other) dq_Mo_other_20 23 rfl gfl_Mo_13 gsh_83 rfl (gli hL gsh_83) 85 rfl ?_
    refine gr_iload_n (M := gm_Mo_other) dq_Mo_other_23 rfl 1 rfl 24 rfl ?_
    refine gr_iald (M := gm_Mo_other) dq_Mo_other_24 25 rfl gsh_85 (glj hL gsh_85 (by decide)) ?_
    refine gr_iload_n (M := gm_Mo_other) dq_Mo_other_25 rfl 2 rfl 26 rfl ?_
    refine gr_icmp_ne (M := gm_Mo_other) dq_Mo_other_26 38 29 rfl rfl (fun c2 => ?_) (fun c2 => ?_)
    · refine gr_iconst (M := gm_Mo_other) (v := (-1)) dq_Mo_other_38 rfl ⟨by decide, by decide⟩ 39 rfl ?_
      exact gr_ireturn (M := gm_Mo_other) dq_Mo_other_39 hF
    refine gr_aload_n (M := gm_Mo_other) dq_Mo_other_29 rfl 0 rfl 30 rfl ?_
    refine gr_getr (M := gm_Mo_other) dq_Mo_other_30 33 rfl gfl_Mo_7 gsh_83 rfl (gli hL gsh_83) 84 rfl ?_
    refine gr_iload_n (M := gm_Mo_other) dq_Mo_other_33 rfl 1 rfl 34 rfl ?_
    refine gr_iald (M := gm_Mo_other) dq_Mo_other_34 35 rfl gsh_84 (glj hL gsh_84 (by decide)) ?_
    refine gr_goto (M := gm_Mo_other) dq_Mo_other_35 39 rfl ?_
    exact gr_ireturn (M := gm_Mo_other) dq_Mo_other_39 hF
  refine gr_aload_n (M := gm_Mo_other) dq_Mo_other_10 rfl 0 rfl 11 rfl ?_
  refine gr_getr (M := gm_Mo_other) dq_Mo_other_11 14 rfl gfl_Mo_13 gsh_83 rfl (gli hL gsh_83) 85 rfl ?_
  refine gr_iload_n (M := gm_Mo_other) dq_Mo_other_14 rfl 1 rfl 15 rfl ?_
  refine gr_iald (M := gm_Mo_other) dq_Mo_other_15 16 rfl gsh_85 (glj hL gsh_85 (by decide)) ?_
  refine gr_goto (M := gm_Mo_other) dq_Mo_other_16 39 rfl ?_
  exact gr_ireturn (M := gm_Mo_other) dq_Mo_other_39 hF

-- Mo_nextFrom
theorem dq_Mo_nextFrom_0 : decode gc_Mo_nextFrom 0 = .ok (.iconst (-1), 1) := by decide +kernel
theorem dq_Mo_nextFrom_1 : decode gc_Mo_nextFrom 1 = .ok (.istore_n 3, 1) := by decide +kernel
theorem dq_Mo_nextFrom_2 : decode gc_Mo_nextFrom 2 = .ok (.aload_n 0, 1) := by decide +kernel
theorem dq_Mo_nextFrom_3 : decode gc_Mo_nextFrom 3 = .ok (.getfield 121, 3) := by decide +kernel
theorem dq_Mo_nextFrom_6 : decode gc_Mo_nextFrom 6 = .ok (.iconst 1, 1) := by decide +kernel
theorem dq_Mo_nextFrom_7 : decode gc_Mo_nextFrom 7 = .ok (.isub, 1) := by decide +kernel
theorem dq_Mo_nextFrom_8 : decode gc_Mo_nextFrom 8 = .ok (.istore 4, 2) := by decide +kernel
theorem dq_Mo_nextFrom_10 : decode gc_Mo_nextFrom 10 = .ok (.iload 4, 2) := by decide +kernel
theorem dq_Mo_nextFrom_12 : decode gc_Mo_nextFrom 12 = .ok (.ifCond .lt 92, 3) := by decide +kernel
theorem dq_Mo_nextFrom_15 : decode gc_Mo_nextFrom 15 = .ok (.aload_n 0, 1) := by decide +kernel
theorem dq_Mo_nextFrom_16 : decode gc_Mo_nextFrom 16 = .ok (.iload 4, 2) := by decide +kernel
theorem dq_Mo_nextFrom_18 : decode gc_Mo_nextFrom 18 = .ok (.iload_n 1, 1) := by decide +kernel
theorem dq_Mo_nextFrom_19 : decode gc_Mo_nextFrom 19 = .ok (.invokevirtual 218, 3) := by decide +kernel
theorem dq_Mo_nextFrom_22 : decode gc_Mo_nextFrom 22 = .ok (.istore 5, 2) := by decide +kernel
theorem dq_Mo_nextFrom_24 : decode gc_Mo_nextFrom 24 = .ok (.iload 5, 2) := by decide +kernel
theorem dq_Mo_nextFrom_26 : decode gc_Mo_nextFrom 26 = .ok (.ifCond .lt 57, 3) := by decide +kernel
theorem dq_Mo_nextFrom_29 : decode gc_Mo_nextFrom 29 = .ok (.aload_n 0, 1) := by decide +kernel
theorem dq_Mo_nextFrom_30 : decode gc_Mo_nextFrom 30 = .ok (.getfield 31, 3) := by decide +kernel
theorem dq_Mo_nextFrom_33 : decode gc_Mo_nextFrom 33 = .ok (.bipush 7, 2) := by decide +kernel
theorem dq_Mo_nextFrom_35 : decode gc_Mo_nextFrom 35 = .ok (.iload_n 1, 1) := by decide +kernel
theorem dq_Mo_nextFrom_36 : decode gc_Mo_nextFrom 36 = .ok (.imul, 1) := by decide +kernel
theorem dq_Mo_nextFrom_37 : decode gc_Mo_nextFrom 37 = .ok (.iload_n 2, 1) := by decide +kernel
theorem dq_Mo_nextFrom_38 : decode gc_Mo_nextFrom 38 = .ok (.iadd, 1) := by decide +kernel
theorem dq_Mo_nextFrom_39 : decode gc_Mo_nextFrom 39 = .ok (.iaload, 1) := by decide +kernel
theorem dq_Mo_nextFrom_40 : decode gc_Mo_nextFrom 40 = .ok (.ldc 181, 2) := by decide +kernel
theorem dq_Mo_nextFrom_42 : decode gc_Mo_nextFrom 42 = .ok (.if_icmp .ge 41, 3) := by decide +kernel
theorem dq_Mo_nextFrom_45 : decode gc_Mo_nextFrom 45 = .ok (.aload_n 0, 1) := by decide +kernel
theorem dq_Mo_nextFrom_46 : decode gc_Mo_nextFrom 46 = .ok (.getfield 16, 3) := by decide +kernel
theorem dq_Mo_nextFrom_49 : decode gc_Mo_nextFrom 49 = .ok (.iload 4, 2) := by decide +kernel
theorem dq_Mo_nextFrom_51 : decode gc_Mo_nextFrom 51 = .ok (.iaload, 1) := by decide +kernel
theorem dq_Mo_nextFrom_52 : decode gc_Mo_nextFrom 52 = .ok (.aload_n 0, 1) := by decide +kernel
theorem dq_Mo_nextFrom_53 : decode gc_Mo_nextFrom 53 = .ok (.getfield 31, 3) := by decide +kernel
theorem dq_Mo_nextFrom_56 : decode gc_Mo_nextFrom 56 = .ok (.bipush 7, 2) := by decide +kernel
theorem dq_Mo_nextFrom_58 : decode gc_Mo_nextFrom 58 = .ok (.iload 5, 2) := by decide +kernel
theorem dq_Mo_nextFrom_60 : decode gc_Mo_nextFrom 60 = .ok (.imul, 1) := by decide +kernel
theorem dq_Mo_nextFrom_61 : decode gc_Mo_nextFrom 61 = .ok (.iload_n 2, 1) := by decide +kernel
theorem dq_Mo_nextFrom_62 : decode gc_Mo_nextFrom 62 = .ok (.iadd, 1) := by decide +kernel
theorem dq_Mo_nextFrom_63 : decode gc_Mo_nextFrom 63 = .ok (.iaload, 1) := by decide +kernel
theorem dq_Mo_nextFrom_64 : decode gc_Mo_nextFrom 64 = .ok (.iadd, 1) := by decide +kernel
theorem dq_Mo_nextFrom_65 : decode gc_Mo_nextFrom 65 = .ok (.aload_n 0, 1) := by decide +kernel
theorem dq_Mo_nextFrom_66 : decode gc_Mo_nextFrom 66 = .ok (.getfield 31, 3) := by decide +kernel
theorem dq_Mo_nextFrom_69 : decode gc_Mo_nextFrom 69 = .ok (.bipush 7, 2) := by decide +kernel
theorem dq_Mo_nextFrom_71 : decode gc_Mo_nextFrom 71 = .ok (.iload_n 1, 1) := by decide +kernel
theorem dq_Mo_nextFrom_72 : decode gc_Mo_nextFrom 72 = .ok (.imul, 1) := by decide +kernel
theorem dq_Mo_nextFrom_73 : decode gc_Mo_nextFrom 73 = .ok (.iload_n 2, 1) := by decide +kernel
theorem dq_Mo_nextFrom_74 : decode gc_Mo_nextFrom 74 = .ok (.iadd, 1) := by decide +kernel
theorem dq_Mo_nextFrom_75 : decode gc_Mo_nextFrom 75 = .ok (.iaload, 1) := by decide +kernel
theorem dq_Mo_nextFrom_76 : decode gc_Mo_nextFrom 76 = .ok (.if_icmp .ne 7, 3) := by decide +kernel
theorem dq_Mo_nextFrom_79 : decode gc_Mo_nextFrom 79 = .ok (.iconst 1, 1) := by decide +kernel
theorem dq_Mo_nextFrom_80 : decode gc_Mo_nextFrom 80 = .ok (.goto 4, 3) := by decide +kernel
theorem dq_Mo_nextFrom_83 : decode gc_Mo_nextFrom 83 = .ok (.iconst 0, 1) := by decide +kernel
theorem dq_Mo_nextFrom_84 : decode gc_Mo_nextFrom 84 = .ok (.istore 6, 2) := by decide +kernel
theorem dq_Mo_nextFrom_86 : decode gc_Mo_nextFrom 86 = .ok (.iload 6, 2) := by decide +kernel
theorem dq_Mo_nextFrom_88 : decode gc_Mo_nextFrom 88 = .ok (.ifCond .eq 8, 3) := by decide +kernel
theorem dq_Mo_nextFrom_91 : decode gc_Mo_nextFrom 91 = .ok (.iload 4, 2) := by decide +kernel
theorem dq_Mo_nextFrom_93 : decode gc_Mo_nextFrom 93 = .ok (.goto 4, 3) := by decide +kernel
theorem dq_Mo_nextFrom_96 : decode gc_Mo_nextFrom 96 = .ok (.iload_n 3, 1) := by decide +kernel
theorem dq_Mo_nextFrom_97 : decode gc_Mo_nextFrom 97 = .ok (.istore_n 3, 1) := by decide +kernel
theorem dq_Mo_nextFrom_98 : decode gc_Mo_nextFrom 98 = .ok (.iinc 4 (-1), 3) := by decide +kernel
theorem dq_Mo_nextFrom_101 : decode gc_Mo_nextFrom 101 = .ok (.goto (-91), 3) := by decide +kernel
theorem dq_Mo_nextFrom_104 : decode gc_Mo_nextFrom 104 = .ok (.iload_n 3, 1) := by decide +kernel
theorem dq_Mo_nextFrom_105 : decode gc_Mo_nextFrom 105 = .ok (.ireturn, 1) := by decide +kernel
abbrev gm_Mo_nextFrom : gM := (gc_Mo_nextFrom, gR_7, 1, 22, 7)
set_option maxRecDepth 20000 in
theorem gcy_Mo_218 : gCy gR_7 218 gy_Mo_other gc_Mo_other 3 (some .int) 2 := ⟨(gtab_at 990 (by decide +kernel) rfl), (gtab_at 8 (by decide +kernel) rfl), (gtab_at 993 rfl rfl), by decide, by decide, by decide +kernel⟩
theorem gim_Mo_other : Cond.instanceMethod gy_Mo_other ∈ gtbl := (gtab_at 992 (by decide +kernel) rfl)
theorem gse_Mo_other : Cond.selects gy_Mo_other.cls gy_Mo_other gy_Mo_other ∈ gtbl := (by decide +kernel)
def f_Mo_nextFrom_J97  (k10 : Int → Int → gH → Option gO) (v1 : Int) (v2 : Int) (v4 : Int) (s0 : Int) (h : gH) : Option gO := k10 s0 (gadd v4 (-1)) h
theorem w_Mo_nextFrom_J97 {o : gO} {X : gX} (hL : gLive (xZ X)) (hn : (zL (xZ X)).Nodup) (hF : gFin X (some .int) o)    {k10 : Int → Int → gH → Option gO} {v1 : Int} {v2 : Int} {v4 : Int} {s0 : Int} {h : gH} (hk10 : ∀ (v3 : Int) (v4 : Int) (h : gH), gr (k10 v3 v4 h) o gm_Mo_nextFrom X h 10 [(0, .inr (.inr 83)), (1, .inl v1), (2, .inl v2), (3, .inl v3), (4, .inl v4)] []) : gr (f_Mo_nextFrom_J97  k10 v1 v2 v4 s0 h) o gm_Mo_nextFrom X h 97 [(0, .inr (.inr 83)), (1, .inl v1), (2, .inl v2), (4, .inl v4)] [.inl s0] := by
  unfold f_Mo_nextFrom_J97
  refine gr_istore_n (M := gm_Mo_nextFrom) (lv' := [(3, .inl s0), (0, .inr (.inr 83)), (1, .inl v1), (2, .inl v2), (4, .inl v4)]) dq_Mo_nextFrom_97 rfl (by decide) rfl 98 rfl ?_
  refine gr_iinc (M := gm_Mo_nextFrom) (lv' := [(4, .inl (gadd v4 (-1))), (3, .inl s0), (0, .inr (.inr 83)), (1, .inl v1), (2, .inl v2)]) dq_Mo_nextFrom_98 4 rfl rfl (by decide) rfl 101 rfl ?_
  refine gr_goto (M := gm_Mo_nextFrom) dq_Mo_nextFrom_101 10 rfl ?_
  refine gr_sub (M := gm_Mo_nextFrom) (lv' := [(0, .inr (.inr 83)), (1, .inl v1), (2, .inl v2), (3, .inl s0), (4, .inl (gadd v4 (-1)))]) [2, 3, 4, 1, 0] rfl ?_
  exact hk10 _ _ _

def f_Mo_nextFrom_J84  (k10 : Int → Int → gH → Option gO) (v1 : Int) (v2 : Int) (v3 : Int) (v4 : Int) (s0 : Int) (h : gH) : Option gO := if s0 = 0 then (f_Mo_nextFrom_J97  (k10) v1 v2 v4 v3 h) else (f_Mo_nextFrom_J97  (k10) v1 v2 v4 v4 h)
theorem w_Mo_nextFrom_J84 {o : gO} {X : gX} (hL : gLive (xZ X)) (hn : (zL (xZ X)).Nodup) (hF : gFin X (some .int) o)    {k10 : Int → Int → gH → Option gO} {v1 : Int} {v2 : Int} {v3 : Int} {v4 : Int} {s0 : Int} {h : gH} (hk10 : ∀ (v3 : Int) (v4 : Int) (h : gH), gr (k10 v3 v4 h) o gm_Mo_nextFrom X h 10 [(0, .inr (.inr 83)), (1, .inl v1), (2, .inl v2), (3, .inl v3), (4, .inl v4)] []) : gr (f_Mo_nextFrom_J84  k10 v1 v2 v3 v4 s0 h) o gm_Mo_nextFrom X h 84 [(0, .inr (.inr 83)), (1, .inl v1), (2, .inl v2), (3, .inl v3), (4, .inl v4)] [.inl s0] := by
  unfold f_Mo_nextFrom_J84
  refine gr_istore (M := gm_Mo_nextFrom) (kk := 0) (lv' := [(6, .inl s0), (0, .inr (.inr 83)), (1, .inl v1), (2, .inl v2), (3, .inl v3), (4, .inl v4)]) dq_Mo_nextFrom_84 (by decide) rfl 86 rfl ?_
  refine gr_iload (M := gm_Mo_nextFrom) dq_Mo_nextFrom_86 0 rfl 88 rfl ?_
  refine gr_if_eq (M := gm_Mo_nextFrom) dq_Mo_nextFrom_88 96 91 rfl rfl (fun c5 => ?_) (fun c5 => ?_)
  · refine gr_iload_n (M := gm_Mo_nextFrom) dq_Mo_nextFrom_96 rfl 4 rfl 97 rfl ?_
    refine gr_sub (M := gm_Mo_nextFrom) (lv' := [(0, .inr (.inr 83)), (1, .inl v1), (2, .inl v2), (4, .inl v4)]) [1, 2, 3, 5] rfl ?_
    exact w_Mo_nextFrom_J97 hL hn hF   hk10
  refine gr_iload (M := gm_Mo_nextFrom) dq_Mo_nextFrom_91 5 rfl 93 rfl ?_
  refine gr_goto (M := gm_Mo_nextFrom) dq_Mo_nextFrom_93 97 rfl ?_
  refine gr_sub (M := gm_Mo_nextFrom) (lv' := [(0, .inr (.inr 83)), (1, .inl v1), (2, .inl v2), (4, .inl v4)]) [1, 2, 3, 5] rfl ?_
  exact w_Mo_nextFrom_J97 hL hn hF   hk10

def f_Mo_nextFrom_J83  (k10 : Int → Int → gH → Option gO) (v1 : Int) (v2 : Int) (v3 : Int) (v4 : Int) (h : gH) : Option gO := f_Mo_nextFrom_J84  (k10) v1 v2 v3 v4 0 h
theorem w_Mo_nextFrom_J83 {o : gO} {X : gX} (hL : gLive (xZ X)) (hn : (zL (xZ X)).Nodup) (hF : gFin X (some .int) o)    {k10 : Int → Int → gH → Option gO} {v1 : Int} {v2 : Int} {v3 : Int} {v4 : Int} {h : gH} (hk10 : ∀ (v3 : Int) (v4 : Int) (h : gH), gr (k10 v3 v4 h) o gm_Mo_nextFrom X h 10 [(0, .inr (.inr 83)), (1, .inl v1), (2, .inl v2), (3, .inl v3), (4, .inl v4)] []) : gr (f_Mo_nextFrom_J83  k10 v1 v2 v3 v4 h) o gm_Mo_nextFrom X h 83 [(0, .inr (.inr 83)), (1, .inl v1), (2, .inl v2), (3, .inl v3), (4, .inl v4)] [] := by
  unfold f_Mo_nextFrom_J83
  refine gr_iconst (M := gm_Mo_nextFrom) (v := 0) dq_Mo_nextFrom_83 rfl ⟨by decide, by decide⟩ 84 rfl ?_
  exact w_Mo_nextFrom_J84 hL hn hF   hk10

def f_Mo_nextFrom_L10 (v1 : Int) (v2 : Int) (k104 : Int → gH → Option gO) : Nat → Int → Int → gH → Option gO
  | 0, _, _, _ => none
  | n + 1, v3, v4, h => if v4 < 0 then (k104 v3 h) else (gb (f_Mo_other v4 v1 h) (fun h2 r3 => if r3 < 0 then (f_Mo_nextFrom_J83  (f_Mo_nextFrom_L10 v1 v2 k104 n) v1 v2 v3 v4 h2) else (gd (gix 49 (gadd (gmul 7 v1) v2)) (if 1000000 ≤ (h2 91 (gadd (gmul 7 v1) v2).toNat) then (f_Mo_nextFrom_J83  (f_Mo_nextFrom_L10 v1 v2 k104 n) v1 v2 v3 v4 h2) else (gd (gix 9 v4) (gd (gix 49 (gadd (gmul 7 r3) v2)) (gd (gix 49 (gadd (gmul 7 v1) v2)) (if (gadd (h2 86 v4.toNat) (h2 91 (gadd (gmul 7 r3) v2).toNat)) = (h2 91 (gadd (gmul 7 v1) v2).toNat) then (f_Mo_nextFrom_J84  (f_Mo_nextFrom_L10 v1 v2 k104 n) v1 v2 v3 v4 1 h2) else (f_Mo_nextFrom_J83  (f_Mo_nextFrom_L10 v1 v2 k104 n) v1 v2 v3 v4 h2)))))))))
theorem w_Mo_nextFrom_L10 {o : gO} {X : gX} (hL : gLive (xZ X)) (hn : (zL (xZ X)).Nodup) (hF : gFin X (some .int) o) {v1 : Int} {v2 : Int}   {k104 : Int → gH → Option gO} (hk104 : ∀ (v3 : Int) (h : gH), gr (k104 v3 h) o gm_Mo_nextFrom X h 104 [(3, .inl v3)] []) : ∀ (n : Nat) (v3 : Int) (v4 : Int) (h : gH), gr (f_Mo_nextFrom_L10 v1 v2 k104 n v3 v4 h) o gm_Mo_nextFrom X h 10 [(0, .inr (.inr 83)), (1, .inl v1), (2, .inl v2), (3, .inl v3), (4, .inl v4)] [] := by
  intro n
  induction n with
  | zero => intros; exact gr_none
  | succ n ih =>
    intro v3 v4 h
    unfold f_Mo_nextFrom_L10
    refine gr_iload (M := gm_Mo_nextFrom) dq_Mo_nextFrom_10 4 rfl 12 rfl ?_
    refine gr_if_lt (M := gm_Mo_nextFrom) dq_Mo_nextFrom_12 104 15 rfl rfl (fun c1 => ?_) (fun c1 => ?_)
    · refine gr_sub (M := gm_Mo_nextFrom) (lv' := [(3, .inl v3)]) [3] rfl ?_
      exact hk104 _ _
    refine gr_aload_n (M := gm_Mo_nextFrom) dq_Mo_nextFrom_15 rfl 0 rfl 16 rfl ?_
    refine gr_iload (M := gm_Mo_nextFrom) dq_Mo_nextFrom_16 4 rfl 18 rfl ?_
    refine gr_iload_n (M := gm_Mo_nextFrom) dq_Mo_nextFrom_18 rfl 1 rfl 19 rfl ?_
    refine gr_callVi (M := gm_Mo_nextFrom) (as := [.inl v4, .inl v1]) dq_Mo_nextFrom_19 22 rfl rfl gcy_Mo_218 gim_Mo_other gse_Mo_other ⟨by decide, by decide⟩ (Nat.le_of_ble_eq_true rfl) gsh_83 rfl (gli hL gsh_83) (fun o1 hg ha hx => c_Mo_other hL hn  hg ha hx) (fun h2 r3 _ => ?_)
    refine gr_istore (M := gm_Mo_nextFrom) (kk := 0) (lv' := [(5, .inl r3), (0, .inr (.inr 83)), (1, .inl v1), (2, .inl v2), (3, .inl v3), (4, .inl v4)]) dq_Mo_nextFrom_22 (by decide) rfl 24 rfl ?_
    refine gr_iload (M := gm_Mo_nextFrom) dq_Mo_nextFrom_24 0 rfl 26 rfl ?_
    refine gr_if_lt (M := gm_Mo_nextFrom) dq_Mo_nextFrom_26 83 29 rfl rfl (fun c4 => ?_) (fun c4 => ?_)
    · refine gr_sub (M := gm_Mo_nextFrom) (lv' := [(0, .inr (.inr 83)), (1, .inl v1), (2, .inl v2), (3, .inl v3), (4, .inl v4)]) [1, 2, 3, 4, 5] rfl ?_
      exact w_Mo_nextFrom_J83 hL hn hF   ih
    refine gr_aload_n (M := gm_Mo_nextFrom) dq_Mo_nextFrom_29 rfl 1 rfl 30 rfl ?_
    refine gr_getr (M := gm_Mo_nextFrom) dq_Mo_nextFrom_30 33 rfl gfl_Mo_31 gsh_83 rfl (gli hL gsh_83) 91 rfl ?_
    refine gr_bipush (M := gm_Mo_nextFrom) (v := 7) dq_Mo_nextFrom_33 (by decide) ⟨by decide, by decide⟩ 35 rfl ?_
    refine gr_iload_n (M := gm_Mo_nextFrom) dq_Mo_nextFrom_35 rfl 2 rfl 36 rfl ?_
    refine gr_imul (M := gm_Mo_nextFrom) dq_Mo_nextFrom_36 37 rfl ?_
    refine gr_iload_n (M := gm_Mo_nextFrom) dq_Mo_nextFrom_37 rfl 3 rfl 38 rfl ?_
    refine gr_iadd (M := gm_Mo_nextFrom) dq_Mo_nextFrom_38 39 rfl ?_
    refine gr_iald (M := gm_Mo_nextFrom) dq_Mo_nextFrom_39 40 rfl gsh_91 (glj hL gsh_91 (by decide)) ?_
    refine gr_ldc (M := gm_Mo_nextFrom) (v := 1000000) dq_Mo_nextFrom_40 gk_Mo_181 ⟨by decide, by decide⟩ 42 rfl ?_
    refine gr_icmp_ge (M := gm_Mo_nextFrom) dq_Mo_nextFrom_42 83 45 rfl rfl (fun c6 => ?_) (fun c6 => ?_)
    · refine gr_sub (M := gm_Mo_nextFrom) (lv' := [(0, .inr (.inr 83)), (1, .inl v1), (2, .inl v2), (3, .inl v3), (4, .inl v4)]) [1, 2, 3, 4, 5] rfl ?_
      exact w_Mo_nextFrom_J83 hL hn hF   ih
    refine gr_aload_n (M := gm_Mo_nextFrom) dq_Mo_nextFrom_45 rfl 1 rfl 46 rfl ?_
    refine gr_getr (M := gm_Mo_nextFrom) dq_Mo_nextFrom_46 49 rfl gfl_Mo_16 gsh_83 rfl (gli hL gsh_83) 86 rfl ?_
    refine gr_iload (M := gm_Mo_nextFrom) dq_Mo_nextFrom_49 5 rfl 51 rfl ?_
    refine gr_iald (M := gm_Mo_nextFrom) dq_Mo_nextFrom_51 52 rfl gsh_86 (glj hL gsh_86 (by decide)) ?_
    refine gr_aload_n (M := gm_Mo_nextFrom) dq_Mo_nextFrom_52 rfl 1 rfl 53 rfl ?_
    refine gr_getr (M := gm_Mo_nextFrom) dq_Mo_nextFrom_53 56 rfl gfl_Mo_31 gsh_83 rfl (gli hL gsh_83) 91 rfl ?_
    refine gr_bipush (M := gm_Mo_nextFrom) (v := 7) dq_Mo_nextFrom_56 (by decide) ⟨by decide, by decide⟩ 58 rfl ?_
    refine gr_iload (M := gm_Mo_nextFrom) dq_Mo_nextFrom_58 0 rfl 60 rfl ?_
    refine gr_imul (M := gm_Mo_nextFrom) dq_Mo_nextFrom_60 61 rfl ?_
    refine gr_iload_n (M := gm_Mo_nextFrom) dq_Mo_nextFrom_61 rfl 3 rfl 62 rfl ?_
    refine gr_iadd (M := gm_Mo_nextFrom) dq_Mo_nextFrom_62 63 rfl ?_
    refine gr_iald (M := gm_Mo_nextFrom) dq_Mo_nextFrom_63 64 rfl gsh_91 (glj hL gsh_91 (by decide)) ?_
    refine gr_iadd (M := gm_Mo_nextFrom) dq_Mo_nextFrom_64 65 rfl ?_
    refine gr_aload_n (M := gm_Mo_nextFrom) dq_Mo_nextFrom_65 rfl 1 rfl 66 rfl ?_
    refine gr_getr (M := gm_Mo_nextFrom) dq_Mo_nextFrom_66 69 rfl gfl_Mo_31 gsh_83 rfl (gli hL gsh_83) 91 rfl ?_
    refine gr_bipush (M := gm_Mo_nextFrom) (v := 7) dq_Mo_nextFrom_69 (by decide) ⟨by decide, by decide⟩ 71 rfl ?_
    refine gr_iload_n (M := gm_Mo_nextFrom) dq_Mo_nextFrom_71 rfl 2 rfl 72 rfl ?_
    refine gr_imul (M := gm_Mo_nextFrom) dq_Mo_nextFrom_72 73 rfl ?_
    refine gr_iload_n (M := gm_Mo_nextFrom) dq_Mo_nextFrom_73 rfl 3 rfl 74 rfl ?_
    refine gr_iadd (M := gm_Mo_nextFrom) dq_Mo_nextFrom_74 75 rfl ?_
    refine gr_iald (M := gm_Mo_nextFrom) dq_Mo_nextFrom_75 76 rfl gsh_91 (glj hL gsh_91 (by decide)) ?_
    refine gr_icmp_ne (M := gm_Mo_nextFrom) dq_Mo_nextFrom_76 83 79 rfl rfl (fun c7 => ?_) (fun c7 => ?_)
    · refine gr_sub (M := gm_Mo_nextFrom) (lv' := [(0, .inr (.inr 83)), (1, .inl v1), (2, .inl v2), (3, .inl v3), (4, .inl v4)]) [1, 2, 3, 4, 5] rfl ?_
      exact w_Mo_nextFrom_J83 hL hn hF   ih
    refine gr_iconst (M := gm_Mo_nextFrom) (v := 1) dq_Mo_nextFrom_79 rfl ⟨by decide, by decide⟩ 80 rfl ?_
    refine gr_goto (M := gm_Mo_nextFrom) dq_Mo_nextFrom_80 84 rfl ?_
    refine gr_sub (M := gm_Mo_nextFrom) (lv' := [(0, .inr (.inr 83)), (1, .inl v1), (2, .inl v2), (3, .inl v3), (4, .inl v4)]) [1, 2, 3, 4, 5] rfl ?_
    exact w_Mo_nextFrom_J84 hL hn hF   ih

def f_Mo_nextFrom (a1 : Int) (a2 : Int) (h : gH) : Option gO := f_Mo_nextFrom_L10 a1 a2 (fun v8 h9 => some (h9, v8)) 50000 (-1) (gsub (h 83 2) 1) h
theorem c_Mo_nextFrom {Z : gZ} (hL : gLive Z) (hn : (zL Z).Nodup) {a1 : Int} {a2 : Int}  {h : gH} {o : gO} (hg : gRg h) (ha : gRl [.inr (.inr 83), .inl a1, .inl a2]) (hx : f_Mo_nextFrom a1 a2 h = some o) : gC Z gy_Mo_nextFrom gc_Mo_nextFrom 7 (some .int) 1 22 [.inr (.inr 83), .inl a1, .inl a2] h o := by
  unfold f_Mo_nextFrom at hx
  refine gC_of (lv := [(0, .inr (.inr 83)), (1, .inl a1), (2, .inl a2)]) (own := gR_7) (by decide +kernel) rfl (Nat.le_of_ble_eq_true rfl) rfl rfl hn hg ha hx (fun X hZ hF => ?_)
  subst hZ
  show gr _ o gm_Mo_nextFrom X h 0 _ _
  refine gr_iconst (M := gm_Mo_nextFrom) (v := (-1)) dq_Mo_nextFrom_0 rfl ⟨by decide, by decide⟩ 1 rfl ?_
  refine gr_istore_n (M := gm_Mo_nextFrom) (lv' := [(3, .inl (-1)), (0, .inr (.inr 83)), (1, .inl a1), (2, .inl a2)]) dq_Mo_nextFrom_1 rfl (by decide) rfl 2 rfl ?_
  refine gr_aload_n (M := gm_Mo_nextFrom) dq_Mo_nextFrom_2 rfl 1 rfl 3 rfl ?_
  refine gr_geti (M := gm_Mo_nextFrom) dq_Mo_nextFrom_3 6 rfl gfl_Mo_121 gsh_83 rfl (gli hL gsh_83) ?_
  refine gr_iconst (M := gm_Mo_nextFrom) (v := 1) dq_Mo_nextFrom_6 rfl ⟨by decide, by decide⟩ 7 rfl ?_
  refine gr_isub (M := gm_Mo_nextFrom) dq_Mo_nextFrom_7 8 rfl ?_
  refine gr_istore (M := gm_Mo_nextFrom) (kk := 0) (lv' := [(4, .inl (gsub (h 83 2) 1)), (3, .inl (-1)), (0, .inr (.inr 83)), (1, .inl a1), (2, .inl a2)]) dq_Mo_nextFrom_8 (by decide) rfl 10 rfl ?_
  refine gr_sub (M := gm_Mo_nextFrom) (lv' := [(0, .inr (.inr 83)), (1, .inl a1), (2, .inl a2), (3, .inl (-1)), (4, .inl (gsub (h 83 2) 1))]) [2, 3, 4, 1, 0] rfl ?_
  refine w_Mo_nextFrom_L10 hL hn hF   (fun v8 h9 => ?_) 50000 _ _ _
  refine gr_iload_n (M := gm_Mo_nextFrom) dq_Mo_nextFrom_104 rfl 0 rfl 105 rfl ?_
  exact gr_ireturn (M := gm_Mo_nextFrom) dq_Mo_nextFrom_105 hF

-- Mo_nextOf
theorem dq_Mo_nextOf_0 : decode gc_Mo_nextOf 0 = .ok (.aload_n 0, 1) := by decide +kernel
theorem dq_Mo_nextOf_1 : decode gc_Mo_nextOf 1 = .ok (.getfield 34, 3) := by decide +kernel
theorem dq_Mo_nextOf_4 : decode gc_Mo_nextOf 4 = .ok (.bipush 26, 2) := by decide +kernel
theorem dq_Mo_nextOf_6 : decode gc_Mo_nextOf 6 = .ok (.iload_n 1, 1) := by decide +kernel
theorem dq_Mo_nextOf_7 : decode gc_Mo_nextOf 7 = .ok (.iadd, 1) := by decide +kernel
theorem dq_Mo_nextOf_8 : decode gc_Mo_nextOf 8 = .ok (.iaload, 1) := by decide +kernel
theorem dq_Mo_nextOf_9 : decode gc_Mo_nextOf 9 = .ok (.iconst 1, 1) := by decide +kernel
theorem dq_Mo_nextOf_10 : decode gc_Mo_nextOf 10 = .ok (.if_icmp .ne 25, 3) := by decide +kernel
theorem dq_Mo_nextOf_13 : decode gc_Mo_nextOf 13 = .ok (.aload_n 0, 1) := by decide +kernel
theorem dq_Mo_nextOf_14 : decode gc_Mo_nextOf 14 = .ok (.aload_n 0, 1) := by decide +kernel
theorem dq_Mo_nextOf_15 : decode gc_Mo_nextOf 15 = .ok (.getfield 34, 3) := by decide +kernel
theorem dq_Mo_nextOf_18 : decode gc_Mo_nextOf 18 = .ok (.bipush 32, 2) := by decide +kernel
theorem dq_Mo_nextOf_20 : decode gc_Mo_nextOf 20 = .ok (.iload_n 1, 1) := by decide +kernel
theorem dq_Mo_nextOf_21 : decode gc_Mo_nextOf 21 = .ok (.iadd, 1) := by decide +kernel
theorem dq_Mo_nextOf_22 : decode gc_Mo_nextOf 22 = .ok (.iaload, 1) := by decide +kernel
theorem dq_Mo_nextOf_23 : decode gc_Mo_nextOf 23 = .ok (.aload_n 0, 1) := by decide +kernel
theorem dq_Mo_nextOf_24 : decode gc_Mo_nextOf 24 = .ok (.getfield 22, 3) := by decide +kernel
theorem dq_Mo_nextOf_27 : decode gc_Mo_nextOf 27 = .ok (.iload_n 1, 1) := by decide +kernel
theorem dq_Mo_nextOf_28 : decode gc_Mo_nextOf 28 = .ok (.iaload, 1) := by decide +kernel
theorem dq_Mo_nextOf_29 : decode gc_Mo_nextOf 29 = .ok (.invokevirtual 221, 3) := by decide +kernel
theorem dq_Mo_nextOf_32 : decode gc_Mo_nextOf 32 = .ok (.goto 4, 3) := by decide +kernel
theorem dq_Mo_nextOf_35 : decode gc_Mo_nextOf 35 = .ok (.iconst (-1), 1) := by decide +kernel
theorem dq_Mo_nextOf_36 : decode gc_Mo_nextOf 36 = .ok (.ireturn, 1) := by decide +kernel
abbrev gm_Mo_nextOf : gM := (gc_Mo_nextOf, gR_7, 2, 48, 2)
set_option maxRecDepth 20000 in
theorem gcy_Mo_221 : gCy gR_7 221 gy_Mo_nextFrom gc_Mo_nextFrom 7 (some .int) 2 := ⟨(gtab_at 986 (by decide +kernel) rfl), (gtab_at 8 (by decide +kernel) rfl), (gtab_at 989 rfl rfl), by decide, by decide, by decide +kernel⟩
theorem gim_Mo_nextFrom : Cond.instanceMethod gy_Mo_nextFrom ∈ gtbl := (gtab_at 988 (by decide +kernel) rfl)
theorem gse_Mo_nextFrom : Cond.selects gy_Mo_nextFrom.cls gy_Mo_nextFrom gy_Mo_nextFrom ∈ gtbl := (by decide +kernel)
def f_Mo_nextOf (a1 : Int) (h : gH) : Option gO := gd (gix 50 (gadd 26 a1)) (if (h 92 (gadd 26 a1).toNat) = 1 then (gd (gix 50 (gadd 32 a1)) (gd (gix 6 a1) (gb (f_Mo_nextFrom (h 92 (gadd 32 a1).toNat) (h 88 a1.toNat) h) (fun h2 r3 => some (h2, r3))))) else (some (h, (-1))))
theorem c_Mo_nextOf {Z : gZ} (hL : gLive Z) (hn : (zL Z).Nodup) {a1 : Int}  {h : gH} {o : gO} (hg : gRg h) (ha : gRl [.inr (.inr 83), .inl a1]) (hx : f_Mo_nextOf a1 h = some o) : gC Z gy_Mo_nextOf gc_Mo_nextOf 2 (some .int) 2 48 [.inr (.inr 83), .inl a1] h o := by
  unfold f_Mo_nextOf at hx
  refine gC_of (lv := [(0, .inr (.inr 83)), (1, .inl a1)]) (own := gR_7) (by decide +kernel) rfl (Nat.le_of_ble_eq_true rfl) rfl rfl hn hg ha hx (fun X hZ hF => ?_)
  subst hZ
  show gr _ o gm_Mo_nextOf X h 0 _ _
  refine gr_aload_n (M := gm_Mo_nextOf) dq_Mo_nextOf_0 rfl 0 rfl 1 rfl ?_
  refine gr_getr (M := gm_Mo_nextOf) dq_Mo_nextOf_1 4 rfl gfl_Mo_34 gsh_83 rfl (gli hL gsh_83) 92 rfl ?_
  refine gr_bipush (M := gm_Mo_nextOf) (v := 26) dq_Mo_nextOf_4 (by decide) ⟨by decide, by decide⟩ 6 rfl ?_
  refine gr_iload_n (M := gm_Mo_nextOf) dq_Mo_nextOf_6 rfl 1 rfl 7 rfl ?_
  refine gr_iadd (M := gm_Mo_nextOf) dq_Mo_nextOf_7 8 rfl ?_
  refine gr_iald (M := gm_Mo_nextOf) dq_Mo_nextOf_8 9 rfl gsh_92 (glj hL gsh_92 (by decide)) ?_
  refine gr_iconst (M := gm_Mo_nextOf) (v := 1) dq_Mo_nextOf_9 rfl ⟨by decide, by decide⟩ 10 rfl ?_
  refine gr_icmp_ne (M := gm_Mo_nextOf) dq_Mo_nextOf_10 35 13 rfl rfl (fun c1 => ?_) (fun c1 => ?_)
  · refine gr_iconst (M := gm_Mo_nextOf) (v := (-1)) dq_Mo_nextOf_35 rfl ⟨by decide, by decide⟩ 36 rfl ?_
    exact gr_ireturn (M := gm_Mo_nextOf) dq_Mo_nextOf_36 hF
  refine gr_aload_n (M := gm_Mo_nextOf) dq_Mo_nextOf_13 rfl 0 rfl 14 rfl ?_
  refine gr_aload_n (M := gm_Mo_nextOf) dq_Mo_nextOf_14 rfl 0 rfl 15 rfl ?_
  refine gr_getr (M := gm_Mo_nextOf) dq_Mo_nextOf_15 18 rfl gfl_Mo_34 gsh_83 rfl (gli hL gsh_83) 92 rfl ?_
  refine gr_bipush (M := gm_Mo_nextOf) (v := 32) dq_Mo_nextOf_18 (by decide) ⟨by decide, by decide⟩ 20 rfl ?_
  refine gr_iload_n (M := gm_Mo_nextOf) dq_Mo_nextOf_20 rfl 1 rfl 21 rfl ?_
  refine gr_iadd (M := gm_Mo_nextOf) dq_Mo_nextOf_21 22 rfl ?_
  refine gr_iald (M := gm_Mo_nextOf) dq_Mo_nextOf_22 23 rfl gsh_92 (glj hL gsh_92 (by decide)) ?_
  refine gr_aload_n (M := gm_Mo_nextOf) dq_Mo_nextOf_23 rfl 0 rfl 24 rfl ?_
  refine gr_getr (M := gm_Mo_nextOf) dq_Mo_nextOf_24 27 rfl gfl_Mo_22 gsh_83 rfl (gli hL gsh_83) 88 rfl ?_
  refine gr_iload_n (M := gm_Mo_nextOf) dq_Mo_nextOf_27 rfl 1 rfl 28 rfl ?_
  refine gr_iald (M := gm_Mo_nextOf) dq_Mo_nextOf_28 29 rfl gsh_88 (glj hL gsh_88 (by decide)) ?_
  refine gr_callVi (M := gm_Mo_nextOf) (as := [.inl (h 92 (gadd 32 a1).toNat), .inl (h 88 a1.toNat)]) dq_Mo_nextOf_29 32 rfl rfl gcy_Mo_221 gim_Mo_nextFrom gse_Mo_nextFrom ⟨by decide, by decide⟩ (Nat.le_of_ble_eq_true rfl) gsh_83 rfl (gli hL gsh_83) (fun o1 hg ha hx => c_Mo_nextFrom hL hn  hg ha hx) (fun h2 r3 _ => ?_)
  refine gr_goto (M := gm_Mo_nextOf) dq_Mo_nextOf_32 36 rfl ?_
  exact gr_ireturn (M := gm_Mo_nextOf) dq_Mo_nextOf_36 hF

-- Mo_next
theorem dq_Mo_next_0 : decode gc_Mo_next 0 = .ok (.aload_n 0, 1) := by decide +kernel
theorem dq_Mo_next_1 : decode gc_Mo_next 1 = .ok (.iload_n 1, 1) := by decide +kernel
theorem dq_Mo_next_2 : decode gc_Mo_next 2 = .ok (.invokevirtual 215, 3) := by decide +kernel
theorem dq_Mo_next_5 : decode gc_Mo_next 5 = .ok (.ifCond .eq 11, 3) := by decide +kernel
theorem dq_Mo_next_8 : decode gc_Mo_next 8 = .ok (.aload_n 0, 1) := by decide +kernel
theorem dq_Mo_next_9 : decode gc_Mo_next 9 = .ok (.iload_n 1, 1) := by decide +kernel
theorem dq_Mo_next_10 : decode gc_Mo_next 10 = .ok (.invokevirtual 224, 3) := by decide +kernel
theorem dq_Mo_next_13 : decode gc_Mo_next 13 = .ok (.goto 5, 3) := by decide +kernel
theorem dq_Mo_next_16 : decode gc_Mo_next 16 = .ok (.ldc 208, 2) := by decide +kernel
theorem dq_Mo_next_18 : decode gc_Mo_next 18 = .ok (.ireturn, 1) := by decide +kernel
abbrev gm_Mo_next : gM := (gc_Mo_next, gR_7, 3, 69, 2)
set_option maxRecDepth 20000 in
theorem gcy_Mo_224 : gCy gR_7 224 gy_Mo_nextOf gc_Mo_nextOf 2 (some .int) 1 := ⟨(gtab_at 982 (by decide +kernel) rfl), (gtab_at 8 (by decide +kernel) rfl), (gtab_at 985 rfl rfl), by decide, by decide, by decide +kernel⟩
theorem gim_Mo_nextOf : Cond.instanceMethod gy_Mo_nextOf ∈ gtbl := (gtab_at 984 (by decide +kernel) rfl)
theorem gse_Mo_nextOf : Cond.selects gy_Mo_nextOf.cls gy_Mo_nextOf gy_Mo_nextOf ∈ gtbl := (by decide +kernel)
def f_Mo_next (a1 : Int) (h : gH) : Option gO := gb (f_Mo_isCart a1 h) (fun h1 r2 => if r2 = 0 then (some (h1, (-1000000001))) else (gb (f_Mo_nextOf a1 h1) (fun h4 r5 => some (h4, r5))))
theorem c_Mo_next {Z : gZ} (hL : gLive Z) (hn : (zL Z).Nodup) {a1 : Int}  {h : gH} {o : gO} (hg : gRg h) (ha : gRl [.inr (.inr 83), .inl a1]) (hx : f_Mo_next a1 h = some o) : gC Z gy_Mo_next gc_Mo_next 2 (some .int) 3 69 [.inr (.inr 83), .inl a1] h o := by
  unfold f_Mo_next at hx
  refine gC_of (lv := [(0, .inr (.inr 83)), (1, .inl a1)]) (own := gR_7) (by decide +kernel) rfl (Nat.le_of_ble_eq_true rfl) rfl rfl hn hg ha hx (fun X hZ hF => ?_)
  subst hZ
  show gr _ o gm_Mo_next X h 0 _ _
  refine gr_aload_n (M := gm_Mo_next) dq_Mo_next_0 rfl 0 rfl 1 rfl ?_
  refine gr_iload_n (M := gm_Mo_next) dq_Mo_next_1 rfl 1 rfl 2 rfl ?_
  refine gr_callVi (M := gm_Mo_next) (as := [.inl a1]) dq_Mo_next_2 5 rfl rfl gcy_Mo_215 gim_Mo_isCart gse_Mo_isCart ⟨by decide, by decide⟩ (Nat.le_of_ble_eq_true rfl) gsh_83 rfl (gli hL gsh_83) (fun o1 hg ha hx => c_Mo_isCart hL hn  hg ha hx) (fun h1 r2 _ => ?_)
  refine gr_if_eq (M := gm_Mo_next) dq_Mo_next_5 16 8 rfl rfl (fun c3 => ?_) (fun c3 => ?_)
  · refine gr_ldc (M := gm_Mo_next) (v := (-1000000001)) dq_Mo_next_16 gk_Mo_208 ⟨by decide, by decide⟩ 18 rfl ?_
    exact gr_ireturn (M := gm_Mo_next) dq_Mo_next_18 hF
  refine gr_aload_n (M := gm_Mo_next) dq_Mo_next_8 rfl 0 rfl 9 rfl ?_
  refine gr_iload_n (M := gm_Mo_next) dq_Mo_next_9 rfl 1 rfl 10 rfl ?_
  refine gr_callVi (M := gm_Mo_next) (as := [.inl a1]) dq_Mo_next_10 13 rfl rfl gcy_Mo_224 gim_Mo_nextOf gse_Mo_nextOf ⟨by decide, by decide⟩ (Nat.le_of_ble_eq_true rfl) gsh_83 rfl (gli hL gsh_83) (fun o1 hg ha hx => c_Mo_nextOf hL hn  hg ha hx) (fun h4 r5 _ => ?_)
  refine gr_goto (M := gm_Mo_next) dq_Mo_next_13 18 rfl ?_
  exact gr_ireturn (M := gm_Mo_next) dq_Mo_next_18 hF

-- Mo_isWaiting
theorem dq_Mo_isWaiting_0 : decode gc_Mo_isWaiting 0 = .ok (.aload_n 0, 1) := by decide +kernel
theorem dq_Mo_isWaiting_1 : decode gc_Mo_isWaiting 1 = .ok (.iload_n 1, 1) := by decide +kernel
theorem dq_Mo_isWaiting_2 : decode gc_Mo_isWaiting 2 = .ok (.invokevirtual 224, 3) := by decide +kernel
theorem dq_Mo_isWaiting_5 : decode gc_Mo_isWaiting 5 = .ok (.iload_n 2, 1) := by decide +kernel
theorem dq_Mo_isWaiting_6 : decode gc_Mo_isWaiting 6 = .ok (.if_icmp .ne 38, 3) := by decide +kernel
theorem dq_Mo_isWaiting_9 : decode gc_Mo_isWaiting 9 = .ok (.aload_n 0, 1) := by decide +kernel
theorem dq_Mo_isWaiting_10 : decode gc_Mo_isWaiting 10 = .ok (.getfield 34, 3) := by decide +kernel
theorem dq_Mo_isWaiting_13 : decode gc_Mo_isWaiting 13 = .ok (.bipush 32, 2) := by decide +kernel
theorem dq_Mo_isWaiting_15 : decode gc_Mo_isWaiting 15 = .ok (.iload_n 1, 1) := by decide +kernel
theorem dq_Mo_isWaiting_16 : decode gc_Mo_isWaiting 16 = .ok (.iadd, 1) := by decide +kernel
theorem dq_Mo_isWaiting_17 : decode gc_Mo_isWaiting 17 = .ok (.iaload, 1) := by decide +kernel
theorem dq_Mo_isWaiting_18 : decode gc_Mo_isWaiting 18 = .ok (.iload_n 3, 1) := by decide +kernel
theorem dq_Mo_isWaiting_19 : decode gc_Mo_isWaiting 19 = .ok (.ifCond .ne 12, 3) := by decide +kernel
theorem dq_Mo_isWaiting_22 : decode gc_Mo_isWaiting 22 = .ok (.aload_n 0, 1) := by decide +kernel
theorem dq_Mo_isWaiting_23 : decode gc_Mo_isWaiting 23 = .ok (.getfield 7, 3) := by decide +kernel
theorem dq_Mo_isWaiting_26 : decode gc_Mo_isWaiting 26 = .ok (.iload_n 2, 1) := by decide +kernel
theorem dq_Mo_isWaiting_27 : decode gc_Mo_isWaiting 27 = .ok (.iaload, 1) := by decide +kernel
theorem dq_Mo_isWaiting_28 : decode gc_Mo_isWaiting 28 = .ok (.goto 9, 3) := by decide +kernel
theorem dq_Mo_isWaiting_31 : decode gc_Mo_isWaiting 31 = .ok (.aload_n 0, 1) := by decide +kernel
theorem dq_Mo_isWaiting_32 : decode gc_Mo_isWaiting 32 = .ok (.getfield 13, 3) := by decide +kernel
theorem dq_Mo_isWaiting_35 : decode gc_Mo_isWaiting 35 = .ok (.iload_n 2, 1) := by decide +kernel
theorem dq_Mo_isWaiting_36 : decode gc_Mo_isWaiting 36 = .ok (.iaload, 1) := by decide +kernel
theorem dq_Mo_isWaiting_37 : decode gc_Mo_isWaiting 37 = .ok (.if_icmp .ne 7, 3) := by decide +kernel
theorem dq_Mo_isWaiting_40 : decode gc_Mo_isWaiting 40 = .ok (.iconst 1, 1) := by decide +kernel
theorem dq_Mo_isWaiting_41 : decode gc_Mo_isWaiting 41 = .ok (.goto 4, 3) := by decide +kernel
theorem dq_Mo_isWaiting_44 : decode gc_Mo_isWaiting 44 = .ok (.iconst 0, 1) := by decide +kernel
theorem dq_Mo_isWaiting_45 : decode gc_Mo_isWaiting 45 = .ok (.ireturn, 1) := by decide +kernel
abbrev gm_Mo_isWaiting : gM := (gc_Mo_isWaiting, gR_7, 3, 69, 4)
def f_Mo_isWaiting_J37   (s1 : Int) (s0 : Int) (h : gH) : Option gO := if s0 = s1 then (gd (gz 1) (some (h, 1))) else (gd (gz 0) (some (h, 0)))
theorem w_Mo_isWaiting_J37 {o : gO} {X : gX} (hL : gLive (xZ X)) (hn : (zL (xZ X)).Nodup) (hF : gFin X (some .boolean) o)     {s1 : Int} {s0 : Int} {h : gH}  : gr (f_Mo_isWaiting_J37   s1 s0 h) o gm_Mo_isWaiting X h 37 [] [.inl s1, .inl s0] := by
  unfold f_Mo_isWaiting_J37
  refine gr_icmp_ne (M := gm_Mo_isWaiting) dq_Mo_isWaiting_37 44 40 rfl rfl (fun c5 => ?_) (fun c5 => ?_)
  · refine gr_iconst (M := gm_Mo_isWaiting) (v := 0) dq_Mo_isWaiting_44 rfl ⟨by decide, by decide⟩ 45 rfl ?_
    exact gr_zreturn (M := gm_Mo_isWaiting) dq_Mo_isWaiting_45 hF
  refine gr_iconst (M := gm_Mo_isWaiting) (v := 1) dq_Mo_isWaiting_40 rfl ⟨by decide, by decide⟩ 41 rfl ?_
  refine gr_goto (M := gm_Mo_isWaiting) dq_Mo_isWaiting_41 45 rfl ?_
  exact gr_zreturn (M := gm_Mo_isWaiting) dq_Mo_isWaiting_45 hF

def f_Mo_isWaiting (a1 : Int) (a2 : Int) (a3 : Int) (h : gH) : Option gO := gb (f_Mo_nextOf a1 h) (fun h1 r2 => if r2 = a2 then (gd (gix 50 (gadd 32 a1)) (if a3 = 0 then (gd (gix 9 a2) (f_Mo_isWaiting_J37   (h1 84 a2.toNat) (h1 92 (gadd 32 a1).toNat) h1)) else (gd (gix 9 a2) (f_Mo_isWaiting_J37   (h1 85 a2.toNat) (h1 92 (gadd 32 a1).toNat) h1)))) else (gd (gz 0) (some (h1, 0))))
theorem c_Mo_isWaiting {Z : gZ} (hL : gLive Z) (hn : (zL Z).Nodup) {a1 : Int} {a2 : Int} {a3 : Int}  {h : gH} {o : gO} (hg : gRg h) (ha : gRl [.inr (.inr 83), .inl a1, .inl a2, .inl a3]) (hx : f_Mo_isWaiting a1 a2 a3 h = some o) : gC Z gy_Mo_isWaiting gc_Mo_isWaiting 4 (some .boolean) 3 69 [.inr (.inr 83), .inl a1, .inl a2, .inl a3] h o := by
  unfold f_Mo_isWaiting at hx
  refine gC_of (lv := [(0, .inr (.inr 83)), (1, .inl a1), (2, .inl a2), (3, .inl a3)]) (own := gR_7) (by decide +kernel) rfl (Nat.le_of_ble_eq_true rfl) rfl rfl hn hg ha hx (fun X hZ hF => ?_)
  subst hZ
  show gr _ o gm_Mo_isWaiting X h 0 _ _
  refine gr_aload_n (M := gm_Mo_isWaiting) dq_Mo_isWaiting_0 rfl 0 rfl 1 rfl ?_
  refine gr_iload_n (M := gm_Mo_isWaiting) dq_Mo_isWaiting_1 rfl 1 rfl 2 rfl ?_
  refine gr_callVi (M := gm_Mo_isWaiting) (as := [.inl a1]) dq_Mo_isWaiting_2 5 rfl rfl gcy_Mo_224 gim_Mo_nextOf gse_Mo_nextOf ⟨by decide, by decide⟩ (Nat.le_of_ble_eq_true rfl) gsh_83 rfl (gli hL gsh_83) (fun o1 hg ha hx => c_Mo_nextOf hL hn  hg ha hx) (fun h1 r2 _ => ?_)
  refine gr_iload_n (M := gm_Mo_isWaiting) dq_Mo_isWaiting_5 rfl 2 rfl 6 rfl ?_
  refine gr_icmp_ne (M := gm_Mo_isWaiting) dq_Mo_isWaiting_6 44 9 rfl rfl (fun c3 => ?_) (fun c3 => ?_)
  · refine gr_iconst (M := gm_Mo_isWaiting) (v := 0) dq_Mo_isWaiting_44 rfl ⟨by decide, by decide⟩ 45 rfl ?_
    exact gr_zreturn (M := gm_Mo_isWaiting) dq_Mo_isWaiting_45 hF
  refine gr_aload_n (M := gm_Mo_isWaiting) dq_Mo_isWaiting_9 rfl 0 rfl 10 rfl ?_
  refine gr_getr (M := gm_Mo_isWaiting) dq_Mo_isWaiting_10 13 rfl gfl_Mo_34 gsh_83 rfl (gli hL gsh_83) 92 rfl ?_
  refine gr_bipush (M := gm_Mo_isWaiting) (v := 32) dq_Mo_isWaiting_13 (by decide) ⟨by decide, by decide⟩ 15 rfl ?_
  refine gr_iload_n (M := gm_Mo_isWaiting) dq_Mo_isWaiting_15 rfl 1 rfl 16 rfl ?_
  refine gr_iadd (M := gm_Mo_isWaiting) dq_Mo_isWaiting_16 17 rfl ?_
  refine gr_iald (M := gm_Mo_isWaiting) dq_Mo_isWaiting_17 18 rfl gsh_92 (glj hL gsh_92 (by decide)) ?_
  refine gr_iload_n (M := gm_Mo_isWaiting) dq_Mo_isWaiting_18 rfl 3 rfl 19 rfl ?_
  refine gr_if_ne (M := gm_Mo_isWaiting) dq_Mo_isWaiting_19 31 22 rfl rfl (fun c4 => ?_) (fun c4 => ?_)
  · refine gr_aload_n (M := gm_Mo_isWaiting) dq_Mo_isWaiting_31 rfl 0 rfl 32 rfl ?_
    refine gr_getr (M := gm_Mo_isWaiting) dq_Mo_isWaiting_32 35 rfl gfl_Mo_13 gsh_83 rfl (gli hL gsh_83) 85 rfl ?_
    refine gr_iload_n (M := gm_Mo_isWaiting) dq_Mo_isWaiting_35 rfl 2 rfl 36 rfl ?_
    refine gr_iald (M := gm_Mo_isWaiting) dq_Mo_isWaiting_36 37 rfl gsh_85 (glj hL gsh_85 (by decide)) ?_
    refine gr_sub (M := gm_Mo_isWaiting) (lv' := []) [] rfl ?_
    exact w_Mo_isWaiting_J37 hL hn hF   
  refine gr_aload_n (M := gm_Mo_isWaiting) dq_Mo_isWaiting_22 rfl 0 rfl 23 rfl ?_
  refine gr_getr (M := gm_Mo_isWaiting) dq_Mo_isWaiting_23 26 rfl gfl_Mo_7 gsh_83 rfl (gli hL gsh_83) 84 rfl ?_
  refine gr_iload_n (M := gm_Mo_isWaiting) dq_Mo_isWaiting_26 rfl 2 rfl 27 rfl ?_
  refine gr_iald (M := gm_Mo_isWaiting) dq_Mo_isWaiting_27 28 rfl gsh_84 (glj hL gsh_84 (by decide)) ?_
  refine gr_goto (M := gm_Mo_isWaiting) dq_Mo_isWaiting_28 37 rfl ?_
  refine gr_sub (M := gm_Mo_isWaiting) (lv' := []) [] rfl ?_
  exact w_Mo_isWaiting_J37 hL hn hF   

-- Mo_isAhead
theorem dq_Mo_isAhead_0 : decode gc_Mo_isAhead 0 = .ok (.aload_n 0, 1) := by decide +kernel
theorem dq_Mo_isAhead_1 : decode gc_Mo_isAhead 1 = .ok (.getfield 34, 3) := by decide +kernel
theorem dq_Mo_isAhead_4 : decode gc_Mo_isAhead 4 = .ok (.bipush 20, 2) := by decide +kernel
theorem dq_Mo_isAhead_6 : decode gc_Mo_isAhead 6 = .ok (.iload_n 1, 1) := by decide +kernel
theorem dq_Mo_isAhead_7 : decode gc_Mo_isAhead 7 = .ok (.iadd, 1) := by decide +kernel
theorem dq_Mo_isAhead_8 : decode gc_Mo_isAhead 8 = .ok (.iaload, 1) := by decide +kernel
theorem dq_Mo_isAhead_9 : decode gc_Mo_isAhead 9 = .ok (.aload_n 0, 1) := by decide +kernel
theorem dq_Mo_isAhead_10 : decode gc_Mo_isAhead 10 = .ok (.getfield 34, 3) := by decide +kernel
theorem dq_Mo_isAhead_13 : decode gc_Mo_isAhead 13 = .ok (.bipush 20, 2) := by decide +kernel
theorem dq_Mo_isAhead_15 : decode gc_Mo_isAhead 15 = .ok (.iload_n 2, 1) := by decide +kernel
theorem dq_Mo_isAhead_16 : decode gc_Mo_isAhead 16 = .ok (.iadd, 1) := by decide +kernel
theorem dq_Mo_isAhead_17 : decode gc_Mo_isAhead 17 = .ok (.iaload, 1) := by decide +kernel
theorem dq_Mo_isAhead_18 : decode gc_Mo_isAhead 18 = .ok (.if_icmp .eq 30, 3) := by decide +kernel
theorem dq_Mo_isAhead_21 : decode gc_Mo_isAhead 21 = .ok (.aload_n 0, 1) := by decide +kernel
theorem dq_Mo_isAhead_22 : decode gc_Mo_isAhead 22 = .ok (.getfield 34, 3) := by decide +kernel
theorem dq_Mo_isAhead_25 : decode gc_Mo_isAhead 25 = .ok (.bipush 20, 2) := by decide +kernel
theorem dq_Mo_isAhead_27 : decode gc_Mo_isAhead 27 = .ok (.iload_n 1, 1) := by decide +kernel
theorem dq_Mo_isAhead_28 : decode gc_Mo_isAhead 28 = .ok (.iadd, 1) := by decide +kernel
theorem dq_Mo_isAhead_29 : decode gc_Mo_isAhead 29 = .ok (.iaload, 1) := by decide +kernel
theorem dq_Mo_isAhead_30 : decode gc_Mo_isAhead 30 = .ok (.aload_n 0, 1) := by decide +kernel
theorem dq_Mo_isAhead_31 : decode gc_Mo_isAhead 31 = .ok (.getfield 34, 3) := by decide +kernel
theorem dq_Mo_isAhead_34 : decode gc_Mo_isAhead 34 = .ok (.bipush 20, 2) := by decide +kernel
theorem dq_Mo_isAhead_36 : decode gc_Mo_isAhead 36 = .ok (.iload_n 2, 1) := by decide +kernel
theorem dq_Mo_isAhead_37 : decode gc_Mo_isAhead 37 = .ok (.iadd, 1) := by decide +kernel
theorem dq_Mo_isAhead_38 : decode gc_Mo_isAhead 38 = .ok (.iaload, 1) := by decide +kernel
theorem dq_Mo_isAhead_39 : decode gc_Mo_isAhead 39 = .ok (.if_icmp .le 7, 3) := by decide +kernel
theorem dq_Mo_isAhead_42 : decode gc_Mo_isAhead 42 = .ok (.iconst 1, 1) := by decide +kernel
theorem dq_Mo_isAhead_43 : decode gc_Mo_isAhead 43 = .ok (.goto 4, 3) := by decide +kernel
theorem dq_Mo_isAhead_46 : decode gc_Mo_isAhead 46 = .ok (.iconst 0, 1) := by decide +kernel
theorem dq_Mo_isAhead_47 : decode gc_Mo_isAhead 47 = .ok (.ireturn, 1) := by decide +kernel
theorem dq_Mo_isAhead_48 : decode gc_Mo_isAhead 48 = .ok (.aload_n 0, 1) := by decide +kernel
theorem dq_Mo_isAhead_49 : decode gc_Mo_isAhead 49 = .ok (.getfield 34, 3) := by decide +kernel
theorem dq_Mo_isAhead_52 : decode gc_Mo_isAhead 52 = .ok (.bipush 38, 2) := by decide +kernel
theorem dq_Mo_isAhead_54 : decode gc_Mo_isAhead 54 = .ok (.iload_n 1, 1) := by decide +kernel
theorem dq_Mo_isAhead_55 : decode gc_Mo_isAhead 55 = .ok (.iadd, 1) := by decide +kernel
theorem dq_Mo_isAhead_56 : decode gc_Mo_isAhead 56 = .ok (.iaload, 1) := by decide +kernel
theorem dq_Mo_isAhead_57 : decode gc_Mo_isAhead 57 = .ok (.aload_n 0, 1) := by decide +kernel
theorem dq_Mo_isAhead_58 : decode gc_Mo_isAhead 58 = .ok (.getfield 34, 3) := by decide +kernel
theorem dq_Mo_isAhead_61 : decode gc_Mo_isAhead 61 = .ok (.bipush 38, 2) := by decide +kernel
theorem dq_Mo_isAhead_63 : decode gc_Mo_isAhead 63 = .ok (.iload_n 2, 1) := by decide +kernel
theorem dq_Mo_isAhead_64 : decode gc_Mo_isAhead 64 = .ok (.iadd, 1) := by decide +kernel
theorem dq_Mo_isAhead_65 : decode gc_Mo_isAhead 65 = .ok (.iaload, 1) := by decide +kernel
theorem dq_Mo_isAhead_66 : decode gc_Mo_isAhead 66 = .ok (.if_icmp .eq 32, 3) := by decide +kernel
theorem dq_Mo_isAhead_69 : decode gc_Mo_isAhead 69 = .ok (.aload_n 0, 1) := by decide +kernel
theorem dq_Mo_isAhead_70 : decode gc_Mo_isAhead 70 = .ok (.getfield 34, 3) := by decide +kernel
theorem dq_Mo_isAhead_73 : decode gc_Mo_isAhead 73 = .ok (.bipush 38, 2) := by decide +kernel
theorem dq_Mo_isAhead_75 : decode gc_Mo_isAhead 75 = .ok (.iload_n 1, 1) := by decide +kernel
theorem dq_Mo_isAhead_76 : decode gc_Mo_isAhead 76 = .ok (.iadd, 1) := by decide +kernel
theorem dq_Mo_isAhead_77 : decode gc_Mo_isAhead 77 = .ok (.iaload, 1) := by decide +kernel
theorem dq_Mo_isAhead_78 : decode gc_Mo_isAhead 78 = .ok (.aload_n 0, 1) := by decide +kernel
theorem dq_Mo_isAhead_79 : decode gc_Mo_isAhead 79 = .ok (.getfield 34, 3) := by decide +kernel
theorem dq_Mo_isAhead_82 : decode gc_Mo_isAhead 82 = .ok (.bipush 38, 2) := by decide +kernel
theorem dq_Mo_isAhead_84 : decode gc_Mo_isAhead 84 = .ok (.iload_n 2, 1) := by decide +kernel
theorem dq_Mo_isAhead_85 : decode gc_Mo_isAhead 85 = .ok (.iadd, 1) := by decide +kernel
theorem dq_Mo_isAhead_86 : decode gc_Mo_isAhead 86 = .ok (.iaload, 1) := by decide +kernel
theorem dq_Mo_isAhead_87 : decode gc_Mo_isAhead 87 = .ok (.if_icmp .ge 7, 3) := by decide +kernel
theorem dq_Mo_isAhead_90 : decode gc_Mo_isAhead 90 = .ok (.iconst 1, 1) := by decide +kernel
theorem dq_Mo_isAhead_91 : decode gc_Mo_isAhead 91 = .ok (.goto 17, 3) := by decide +kernel
theorem dq_Mo_isAhead_94 : decode gc_Mo_isAhead 94 = .ok (.iconst 0, 1) := by decide +kernel
theorem dq_Mo_isAhead_95 : decode gc_Mo_isAhead 95 = .ok (.goto 13, 3) := by decide +kernel
theorem dq_Mo_isAhead_98 : decode gc_Mo_isAhead 98 = .ok (.iload_n 1, 1) := by decide +kernel
theorem dq_Mo_isAhead_99 : decode gc_Mo_isAhead 99 = .ok (.iload_n 2, 1) := by decide +kernel
theorem dq_Mo_isAhead_100 : decode gc_Mo_isAhead 100 = .ok (.if_icmp .ge 7, 3) := by decide +kernel
theorem dq_Mo_isAhead_103 : decode gc_Mo_isAhead 103 = .ok (.iconst 1, 1) := by decide +kernel
theorem dq_Mo_isAhead_104 : decode gc_Mo_isAhead 104 = .ok (.goto 4, 3) := by decide +kernel
theorem dq_Mo_isAhead_107 : decode gc_Mo_isAhead 107 = .ok (.iconst 0, 1) := by decide +kernel
theorem dq_Mo_isAhead_108 : decode gc_Mo_isAhead 108 = .ok (.ireturn, 1) := by decide +kernel
abbrev gm_Mo_isAhead : gM := (gc_Mo_isAhead, gR_7, 0, 0, 3)
def f_Mo_isAhead (a1 : Int) (a2 : Int) (h : gH) : Option gO := gd (gix 50 (gadd 20 a1)) (gd (gix 50 (gadd 20 a2)) (if (h 92 (gadd 20 a1).toNat) = (h 92 (gadd 20 a2).toNat) then (gd (gix 50 (gadd 38 a1)) (gd (gix 50 (gadd 38 a2)) (if (h 92 (gadd 38 a1).toNat) = (h 92 (gadd 38 a2).toNat) then (if a2 ≤ a1 then (gd (gz 0) (some (h, 0))) else (gd (gz 1) (some (h, 1)))) else (gd (gix 50 (gadd 38 a1)) (gd (gix 50 (gadd 38 a2)) (if (h 92 (gadd 38 a2).toNat) ≤ (h 92 (gadd 38 a1).toNat) then (gd (gz 0) (some (h, 0))) else (gd (gz 1) (some (h, 1))))))))) else (gd (gix 50 (gadd 20 a1)) (gd (gix 50 (gadd 20 a2)) (if (h 92 (gadd 20 a1).toNat) ≤ (h 92 (gadd 20 a2).toNat) then (gd (gz 0) (some (h, 0))) else (gd (gz 1) (some (h, 1))))))))
theorem c_Mo_isAhead {Z : gZ} (hL : gLive Z) (hn : (zL Z).Nodup) {a1 : Int} {a2 : Int}  {h : gH} {o : gO} (hg : gRg h) (ha : gRl [.inr (.inr 83), .inl a1, .inl a2]) (hx : f_Mo_isAhead a1 a2 h = some o) : gC Z gy_Mo_isAhead gc_Mo_isAhead 3 (some .boolean) 0 0 [.inr (.inr 83), .inl a1, .inl a2] h o := by
  unfold f_Mo_isAhead at hx
  refine gC_of (lv := [(0, .inr (.inr 83)), (1, .inl a1), (2, .inl a2)]) (own := gR_7) (by decide +kernel) rfl (Nat.le_of_ble_eq_true rfl) rfl rfl hn hg ha hx (fun X hZ hF => ?_)
  subst hZ
  show gr _ o gm_Mo_isAhead X h 0 _ _
  refine gr_aload_n (M := gm_Mo_isAhead) dq_Mo_isAhead_0 rfl 0 rfl 1 rfl ?_
  refine gr_getr (M := gm_Mo_isAhead) dq_Mo_isAhead_1 4 rfl gfl_Mo_34 gsh_83 rfl (gli hL gsh_83) 92 rfl ?_
  refine gr_bipush (M := gm_Mo_isAhead) (v := 20) dq_Mo_isAhead_4 (by decide) ⟨by decide, by decide⟩ 6 rfl ?_
  refine gr_iload_n (M := gm_Mo_isAhead) dq_Mo_isAhead_6 rfl 1 rfl 7 rfl ?_
  refine gr_iadd (M := gm_Mo_isAhead) dq_Mo_isAhead_7 8 rfl ?_
  refine gr_iald (M := gm_Mo_isAhead) dq_Mo_isAhead_8 9 rfl gsh_92 (glj hL gsh_92 (by decide)) ?_
  refine gr_aload_n (M := gm_Mo_isAhead) dq_Mo_isAhead_9 rfl 0 rfl 10 rfl ?_
  refine gr_getr (M := gm_Mo_isAhead) dq_Mo_isAhead_10 13 rfl gfl_Mo_34 gsh_83 rfl (gli hL gsh_83) 92 rfl ?_
  refine gr_bipush (M := gm_Mo_isAhead) (v := 20) dq_Mo_isAhead_13 (by decide) ⟨by decide, by decide⟩ 15 rfl ?_
  refine gr_iload_n (M := gm_Mo_isAhead) dq_Mo_isAhead_15 rfl 2 rfl 16 rfl ?_
  refine gr_iadd (M := gm_Mo_isAhead) dq_Mo_isAhead_16 17 rfl ?_
  refine gr_iald (M := gm_Mo_isAhead) dq_Mo_isAhead_17 18 rfl gsh_92 (glj hL gsh_92 (by decide)) ?_
  refine gr_icmp_eq (M := gm_Mo_isAhead) dq_Mo_isAhead_18 48 21 rfl rfl (fun c1 => ?_) (fun c1 => ?_)
  · refine gr_aload_n (M := gm_Mo_isAhead) dq_Mo_isAhead_48 rfl 0 rfl 49 rfl ?_
    refine gr_getr (M := gm_Mo_isAhead) dq_Mo_isAhead_49 52 rfl gfl_Mo_34 gsh_83 rfl (gli hL gsh_83) 92 rfl ?_
    refine gr_bipush (M := gm_Mo_isAhead) (v := 38) dq_Mo_isAhead_52 (by decide) ⟨by decide, by decide⟩ 54 rfl ?_
    refine gr_iload_n (M := gm_Mo_isAhead) dq_Mo_isAhead_54 rfl 1 rfl 55 rfl ?_
    refine gr_iadd (M := gm_Mo_isAhead) dq_Mo_isAhead_55 56 rfl ?_
    refine gr_iald (M := gm_Mo_isAhead) dq_Mo_isAhead_56 57 rfl gsh_92 (glj hL gsh_92 (by decide)) ?_
    refine gr_aload_n (M := gm_Mo_isAhead) dq_Mo_isAhead_57 rfl 0 rfl 58 rfl ?_
    refine gr_getr (M := gm_Mo_isAhead) dq_Mo_isAhead_58 61 rfl gfl_Mo_34 gsh_83 rfl (gli hL gsh_83) 92 rfl ?_
    refine gr_bipush (M := gm_Mo_isAhead) (v := 38) dq_Mo_isAhead_61 (by decide) ⟨by decide, by decide⟩ 63 rfl ?_
    refine gr_iload_n (M := gm_Mo_isAhead) dq_Mo_isAhead_63 rfl 2 rfl 64 rfl ?_
    refine gr_iadd (M := gm_Mo_isAhead) dq_Mo_isAhead_64 65 rfl ?_
    refine gr_iald (M := gm_Mo_isAhead) dq_Mo_isAhead_65 66 rfl gsh_92 (glj hL gsh_92 (by decide)) ?_
    refine gr_icmp_eq (M := gm_Mo_isAhead) dq_Mo_isAhead_66 98 69 rfl rfl (fun c2 => ?_) (fun c2 => ?_)
    · refine gr_iload_n (M := gm_Mo_isAhead) dq_Mo_isAhead_98 rfl 1 rfl 99 rfl ?_
      refine gr_iload_n (M := gm_Mo_isAhead) dq_Mo_isAhead_99 rfl 2 rfl 100 rfl ?_
      refine gr_icmp_ge (M := gm_Mo_isAhead) dq_Mo_isAhead_100 107 103 rfl rfl (fun c3 => ?_) (fun c3 => ?_)
      · refine gr_iconst (M := gm_Mo_isAhead) (v := 0) dq_Mo_isAhead_107 rfl ⟨by decide, by decide⟩ 108 rfl ?_
        exact gr_zreturn (M := gm_Mo_isAhead) dq_Mo_isAhead_108 hF
      refine gr_iconst (M := gm_Mo_isAhead) (v := 1) dq_Mo_isAhead_103 rfl ⟨by decide, by decide⟩ 104 rfl ?_
      refine gr_goto (M := gm_Mo_isAhead) dq_Mo_isAhead_104 108 rfl ?_
      exact gr_zreturn (M := gm_Mo_isAhead) dq_Mo_isAhead_108 hF
    refine gr_aload_n (M := gm_Mo_isAhead) dq_Mo_isAhead_69 rfl 0 rfl 70 rfl ?_
    refine gr_getr (M := gm_Mo_isAhead) dq_Mo_isAhead_70 73 rfl gfl_Mo_34 gsh_83 rfl (gli hL gsh_83) 92 rfl ?_
    refine gr_bipush (M := gm_Mo_isAhead) (v := 38) dq_Mo_isAhead_73 (by decide) ⟨by decide, by decide⟩ 75 rfl ?_
    refine gr_iload_n (M := gm_Mo_isAhead) dq_Mo_isAhead_75 rfl 1 rfl 76 rfl ?_
    refine gr_iadd (M := gm_Mo_isAhead) dq_Mo_isAhead_76 77 rfl ?_
    refine gr_iald (M := gm_Mo_isAhead) dq_Mo_isAhead_77 78 rfl gsh_92 (glj hL gsh_92 (by decide)) ?_
    refine gr_aload_n (M := gm_Mo_isAhead) dq_Mo_isAhead_78 rfl 0 rfl 79 rfl ?_
    refine gr_getr (M := gm_Mo_isAhead) dq_Mo_isAhead_79 82 rfl gfl_Mo_34 gsh_83 rfl (gli hL gsh_83) 92 rfl ?_
    refine gr_bipush (M := gm_Mo_isAhead) (v := 38) dq_Mo_isAhead_82 (by decide) ⟨by decide, by decide⟩ 84 rfl ?_
    refine gr_iload_n (M := gm_Mo_isAhead) dq_Mo_isAhead_84 rfl 2 rfl 85 rfl ?_
    refine gr_iadd (M := gm_Mo_isAhead) dq_Mo_isAhead_85 86 rfl ?_
    refine gr_iald (M := gm_Mo_isAhead) dq_Mo_isAhead_86 87 rfl gsh_92 (glj hL gsh_92 (by decide)) ?_
    refine gr_icmp_ge (M := gm_Mo_isAhead) dq_Mo_isAhead_87 94 90 rfl rfl (fun c4 => ?_) (fun c4 => ?_)
    · refine gr_iconst (M := gm_Mo_isAhead) (v := 0) dq_Mo_isAhead_94 rfl ⟨by decide, by decide⟩ 95 rfl ?_
      refine gr_goto (M := gm_Mo_isAhead) dq_Mo_isAhead_95 108 rfl ?_
      exact gr_zreturn (M := gm_Mo_isAhead) dq_Mo_isAhead_108 hF
    refine gr_iconst (M := gm_Mo_isAhead) (v := 1) dq_Mo_isAhead_90 rfl ⟨by decide, by decide⟩ 91 rfl ?_
    refine gr_goto (M := gm_Mo_isAhead) dq_Mo_isAhead_91 108 rfl ?_
    exact gr_zreturn (M := gm_Mo_isAhead) dq_Mo_isAhead_108 hF
  refine gr_aload_n (M := gm_Mo_isAhead) dq_Mo_isAhead_21 rfl 0 rfl 22 rfl ?_
  refine gr_getr (M := gm_Mo_isAhead) dq_Mo_isAhead_22 25 rfl gfl_Mo_34 gsh_83 rfl (gli hL gsh_83) 92 rfl ?_
  refine gr_bipush (M := gm_Mo_isAhead) (v := 20) dq_Mo_isAhead_25 (by decide) ⟨by decide, by decide⟩ 27 rfl ?_
  refine gr_iload_n (M := gm_Mo_isAhead) dq_Mo_isAhead_27 rfl 1 rfl 28 rfl ?_
  refine gr_iadd (M := gm_Mo_isAhead) dq_Mo_isAhead_28 29 rfl ?_
  refine gr_iald (M := gm_Mo_isAhead) dq_Mo_isAhead_29 30 rfl gsh_92 (glj hL gsh_92 (by decide)) ?_
  refine gr_aload_n (M := gm_Mo_isAhead) dq_Mo_isAhead_30 rfl 0 rfl 31 rfl ?_
  refine gr_getr (M := gm_Mo_isAhead) dq_Mo_isAhead_31 34 rfl gfl_Mo_34 gsh_83 rfl (gli hL gsh_83) 92 rfl ?_
  refine gr_bipush (M := gm_Mo_isAhead) (v := 20) dq_Mo_isAhead_34 (by decide) ⟨by decide, by decide⟩ 36 rfl ?_
  refine gr_iload_n (M := gm_Mo_isAhead) dq_Mo_isAhead_36 rfl 2 rfl 37 rfl ?_
  refine gr_iadd (M := gm_Mo_isAhead) dq_Mo_isAhead_37 38 rfl ?_
  refine gr_iald (M := gm_Mo_isAhead) dq_Mo_isAhead_38 39 rfl gsh_92 (glj hL gsh_92 (by decide)) ?_
  refine gr_icmp_le (M := gm_Mo_isAhead) dq_Mo_isAhead_39 46 42 rfl rfl (fun c5 => ?_) (fun c5 => ?_)
  · refine gr_iconst (M := gm_Mo_isAhead) (v := 0) dq_Mo_isAhead_46 rfl ⟨by decide, by decide⟩ 47 rfl ?_
    exact gr_zreturn (M := gm_Mo_isAhead) dq_Mo_isAhead_47 hF
  refine gr_iconst (M := gm_Mo_isAhead) (v := 1) dq_Mo_isAhead_42 rfl ⟨by decide, by decide⟩ 43 rfl ?_
  refine gr_goto (M := gm_Mo_isAhead) dq_Mo_isAhead_43 47 rfl ?_
  exact gr_zreturn (M := gm_Mo_isAhead) dq_Mo_isAhead_47 hF

-- Mo_foremostOf
theorem dq_Mo_foremostOf_0 : decode gc_Mo_foremostOf 0 = .ok (.iconst (-1), 1) := by decide +kernel
theorem dq_Mo_foremostOf_1 : decode gc_Mo_foremostOf 1 = .ok (.istore_n 3, 1) := by decide +kernel
theorem dq_Mo_foremostOf_2 : decode gc_Mo_foremostOf 2 = .ok (.iconst 0, 1) := by decide +kernel
theorem dq_Mo_foremostOf_3 : decode gc_Mo_foremostOf 3 = .ok (.istore 4, 2) := by decide +kernel
theorem dq_Mo_foremostOf_5 : decode gc_Mo_foremostOf 5 = .ok (.iload 4, 2) := by decide +kernel
theorem dq_Mo_foremostOf_7 : decode gc_Mo_foremostOf 7 = .ok (.aload_n 0, 1) := by decide +kernel
theorem dq_Mo_foremostOf_8 : decode gc_Mo_foremostOf 8 = .ok (.getfield 124, 3) := by decide +kernel
theorem dq_Mo_foremostOf_11 : decode gc_Mo_foremostOf 11 = .ok (.if_icmp .ge 41, 3) := by decide +kernel
theorem dq_Mo_foremostOf_14 : decode gc_Mo_foremostOf 14 = .ok (.aload_n 0, 1) := by decide +kernel
theorem dq_Mo_foremostOf_15 : decode gc_Mo_foremostOf 15 = .ok (.iload 4, 2) := by decide +kernel
theorem dq_Mo_foremostOf_17 : decode gc_Mo_foremostOf 17 = .ok (.iload_n 1, 1) := by decide +kernel
theorem dq_Mo_foremostOf_18 : decode gc_Mo_foremostOf 18 = .ok (.iload_n 2, 1) := by decide +kernel
theorem dq_Mo_foremostOf_19 : decode gc_Mo_foremostOf 19 = .ok (.invokevirtual 227, 3) := by decide +kernel
theorem dq_Mo_foremostOf_22 : decode gc_Mo_foremostOf 22 = .ok (.ifCond .eq 22, 3) := by decide +kernel
theorem dq_Mo_foremostOf_25 : decode gc_Mo_foremostOf 25 = .ok (.iload_n 3, 1) := by decide +kernel
theorem dq_Mo_foremostOf_26 : decode gc_Mo_foremostOf 26 = .ok (.ifCond .lt 13, 3) := by decide +kernel
theorem dq_Mo_foremostOf_29 : decode gc_Mo_foremostOf 29 = .ok (.aload_n 0, 1) := by decide +kernel
theorem dq_Mo_foremostOf_30 : decode gc_Mo_foremostOf 30 = .ok (.iload 4, 2) := by decide +kernel
theorem dq_Mo_foremostOf_32 : decode gc_Mo_foremostOf 32 = .ok (.iload_n 3, 1) := by decide +kernel
theorem dq_Mo_foremostOf_33 : decode gc_Mo_foremostOf 33 = .ok (.invokevirtual 231, 3) := by decide +kernel
theorem dq_Mo_foremostOf_36 : decode gc_Mo_foremostOf 36 = .ok (.ifCond .eq 8, 3) := by decide +kernel
theorem dq_Mo_foremostOf_39 : decode gc_Mo_foremostOf 39 = .ok (.iload 4, 2) := by decide +kernel
theorem dq_Mo_foremostOf_41 : decode gc_Mo_foremostOf 41 = .ok (.goto 4, 3) := by decide +kernel
theorem dq_Mo_foremostOf_44 : decode gc_Mo_foremostOf 44 = .ok (.iload_n 3, 1) := by decide +kernel
theorem dq_Mo_foremostOf_45 : decode gc_Mo_foremostOf 45 = .ok (.istore_n 3, 1) := by decide +kernel
theorem dq_Mo_foremostOf_46 : decode gc_Mo_foremostOf 46 = .ok (.iinc 4 1, 3) := by decide +kernel
theorem dq_Mo_foremostOf_49 : decode gc_Mo_foremostOf 49 = .ok (.goto (-44), 3) := by decide +kernel
theorem dq_Mo_foremostOf_52 : decode gc_Mo_foremostOf 52 = .ok (.iload_n 3, 1) := by decide +kernel
theorem dq_Mo_foremostOf_53 : decode gc_Mo_foremostOf 53 = .ok (.ireturn, 1) := by decide +kernel
abbrev gm_Mo_foremostOf : gM := (gc_Mo_foremostOf, gR_7, 4, 92, 5)
set_option maxRecDepth 20000 in
theorem gcy_Mo_227 : gCy gR_7 227 gy_Mo_isWaiting gc_Mo_isWaiting 4 (some .boolean) 3 := ⟨(gtab_at 1002 (by decide +kernel) rfl), (gtab_at 8 (by decide +kernel) rfl), (gtab_at 1005 rfl rfl), by decide, by decide, by decide +kernel⟩
theorem gim_Mo_isWaiting : Cond.instanceMethod gy_Mo_isWaiting ∈ gtbl := (gtab_at 1004 (by decide +kernel) rfl)
theorem gse_Mo_isWaiting : Cond.selects gy_Mo_isWaiting.cls gy_Mo_isWaiting gy_Mo_isWaiting ∈ gtbl := (by decide +kernel)
set_option maxRecDepth 20000 in
theorem gcy_Mo_231 : gCy gR_7 231 gy_Mo_isAhead gc_Mo_isAhead 3 (some .boolean) 2 := ⟨(gtab_at 1006 (by decide +kernel) rfl), (gtab_at 8 (by decide +kernel) rfl), (gtab_at 1009 rfl rfl), by decide, by decide, by decide +kernel⟩
theorem gim_Mo_isAhead : Cond.instanceMethod gy_Mo_isAhead ∈ gtbl := (gtab_at 1008 (by decide +kernel) rfl)
theorem gse_Mo_isAhead : Cond.selects gy_Mo_isAhead.cls gy_Mo_isAhead gy_Mo_isAhead ∈ gtbl := (by decide +kernel)
def f_Mo_foremostOf_J45  (k5 : Int → Int → gH → Option gO) (v1 : Int) (v2 : Int) (v4 : Int) (s0 : Int) (h : gH) : Option gO := k5 s0 (gadd v4 1) h
theorem w_Mo_foremostOf_J45 {o : gO} {X : gX} (hL : gLive (xZ X)) (hn : (zL (xZ X)).Nodup) (hF : gFin X (some .int) o)    {k5 : Int → Int → gH → Option gO} {v1 : Int} {v2 : Int} {v4 : Int} {s0 : Int} {h : gH} (hk5 : ∀ (v3 : Int) (v4 : Int) (h : gH), gr (k5 v3 v4 h) o gm_Mo_foremostOf X h 5 [(0, .inr (.inr 83)), (1, .inl v1), (2, .inl v2), (3, .inl v3), (4, .inl v4)] []) : gr (f_Mo_foremostOf_J45  k5 v1 v2 v4 s0 h) o gm_Mo_foremostOf X h 45 [(0, .inr (.inr 83)), (1, .inl v1), (2, .inl v2), (4, .inl v4)] [.inl s0] := by
  unfold f_Mo_foremostOf_J45
  refine gr_istore_n (M := gm_Mo_foremostOf) (lv' := [(3, .inl s0), (0, .inr (.inr 83)), (1, .inl v1), (2, .inl v2), (4, .inl v4)]) dq_Mo_foremostOf_45 rfl (by decide) rfl 46 rfl ?_
  refine gr_iinc (M := gm_Mo_foremostOf) (lv' := [(4, .inl (gadd v4 1)), (3, .inl s0), (0, .inr (.inr 83)), (1, .inl v1), (2, .inl v2)]) dq_Mo_foremostOf_46 4 rfl rfl (by decide) rfl 49 rfl ?_
  refine gr_goto (M := gm_Mo_foremostOf) dq_Mo_foremostOf_49 5 rfl ?_
  refine gr_sub (M := gm_Mo_foremostOf) (lv' := [(0, .inr (.inr 83)), (1, .inl v1), (2, .inl v2), (3, .inl s0), (4, .inl (gadd v4 1))]) [2, 3, 4, 1, 0] rfl ?_
  exact hk5 _ _ _

def f_Mo_foremostOf_J44  (k5 : Int → Int → gH → Option gO) (v1 : Int) (v2 : Int) (v3 : Int) (v4 : Int) (h : gH) : Option gO := f_Mo_foremostOf_J45  (k5) v1 v2 v4 v3 h
theorem w_Mo_foremostOf_J44 {o : gO} {X : gX} (hL : gLive (xZ X)) (hn : (zL (xZ X)).Nodup) (hF : gFin X (some .int) o)    {k5 : Int → Int → gH → Option gO} {v1 : Int} {v2 : Int} {v3 : Int} {v4 : Int} {h : gH} (hk5 : ∀ (v3 : Int) (v4 : Int) (h : gH), gr (k5 v3 v4 h) o gm_Mo_foremostOf X h 5 [(0, .inr (.inr 83)), (1, .inl v1), (2, .inl v2), (3, .inl v3), (4, .inl v4)] []) : gr (f_Mo_foremostOf_J44  k5 v1 v2 v3 v4 h) o gm_Mo_foremostOf X h 44 [(0, .inr (.inr 83)), (1, .inl v1), (2, .inl v2), (3, .inl v3), (4, .inl v4)] [] := by
  unfold f_Mo_foremostOf_J44
  refine gr_iload_n (M := gm_Mo_foremostOf) dq_Mo_foremostOf_44 rfl 3 rfl 45 rfl ?_
  refine gr_sub (M := gm_Mo_foremostOf) (lv' := [(0, .inr (.inr 83)), (1, .inl v1), (2, .inl v2), (4, .inl v4)]) [0, 1, 2, 4] rfl ?_
  exact w_Mo_foremostOf_J45 hL hn hF   hk5

def f_Mo_foremostOf_J39  (k5 : Int → Int → gH → Option gO) (v1 : Int) (v2 : Int) (v4 : Int) (h : gH) : Option gO := f_Mo_foremostOf_J45  (k5) v1 v2 v4 v4 h
theorem w_Mo_foremostOf_J39 {o : gO} {X : gX} (hL : gLive (xZ X)) (hn : (zL (xZ X)).Nodup) (hF : gFin X (some .int) o)    {k5 : Int → Int → gH → Option gO} {v1 : Int} {v2 : Int} {v4 : Int} {h : gH} (hk5 : ∀ (v3 : Int) (v4 : Int) (h : gH), gr (k5 v3 v4 h) o gm_Mo_foremostOf X h 5 [(0, .inr (.inr 83)), (1, .inl v1), (2, .inl v2), (3, .inl v3), (4, .inl v4)] []) : gr (f_Mo_foremostOf_J39  k5 v1 v2 v4 h) o gm_Mo_foremostOf X h 39 [(0, .inr (.inr 83)), (1, .inl v1), (2, .inl v2), (4, .inl v4)] [] := by
  unfold f_Mo_foremostOf_J39
  refine gr_iload (M := gm_Mo_foremostOf) dq_Mo_foremostOf_39 3 rfl 41 rfl ?_
  refine gr_goto (M := gm_Mo_foremostOf) dq_Mo_foremostOf_41 45 rfl ?_
  exact w_Mo_foremostOf_J45 hL hn hF   hk5

def f_Mo_foremostOf_L5 (v1 : Int) (v2 : Int) (k52 : Int → gH → Option gO) : Nat → Int → Int → gH → Option gO
  | 0, _, _, _ => none
  | n + 1, v3, v4, h => if (h 83 6) ≤ v4 then (k52 v3 h) else (gb (f_Mo_isWaiting v4 v1 v2 h) (fun h2 r3 => if r3 = 0 then (f_Mo_foremostOf_J44  (f_Mo_foremostOf_L5 v1 v2 k52 n) v1 v2 v3 v4 h2) else (if v3 < 0 then (f_Mo_foremostOf_J39  (f_Mo_foremostOf_L5 v1 v2 k52 n) v1 v2 v4 h2) else (gb (f_Mo_isAhead v4 v3 h2) (fun h6 r7 => if r7 = 0 then (f_Mo_foremostOf_J44  (f_Mo_foremostOf_L5 v1 v2 k52 n) v1 v2 v3 v4 h6) else (f_Mo_foremostOf_J39  (f_Mo_foremostOf_L5 v1 v2 k52 n) v1 v2 v4 h6))))))
theorem w_Mo_foremostOf_L5 {o : gO} {X : gX} (hL : gLive (xZ X)) (hn : (zL (xZ X)).Nodup) (hF : gFin X (some .int) o) {v1 : Int} {v2 : Int}   {k52 : Int → gH → Option gO} (hk52 : ∀ (v3 : Int) (h : gH), gr (k52 v3 h) o gm_Mo_foremostOf X h 52 [(3, .inl v3)] []) : ∀ (n : Nat) (v3 : Int) (v4 : Int) (h : gH), gr (f_Mo_foremostOf_L5 v1 v2 k52 n v3 v4 h) o gm_Mo_foremostOf X h 5 [(0, .inr (.inr 83)), (1, .inl v1), (2, .inl v2), (3, .inl v3), (4, .inl v4)] [] := by
  intro n
  induction n with
  | zero => intros; exact gr_none
  | succ n ih =>
    intro v3 v4 h
    unfold f_Mo_foremostOf_L5
    refine gr_iload (M := gm_Mo_foremostOf) dq_Mo_foremostOf_5 4 rfl 7 rfl ?_
    refine gr_aload_n (M := gm_Mo_foremostOf) dq_Mo_foremostOf_7 rfl 0 rfl 8 rfl ?_
    refine gr_geti (M := gm_Mo_foremostOf) dq_Mo_foremostOf_8 11 rfl gfl_Mo_124 gsh_83 rfl (gli hL gsh_83) ?_
    refine gr_icmp_ge (M := gm_Mo_foremostOf) dq_Mo_foremostOf_11 52 14 rfl rfl (fun c1 => ?_) (fun c1 => ?_)
    · refine gr_sub (M := gm_Mo_foremostOf) (lv' := [(3, .inl v3)]) [3] rfl ?_
      exact hk52 _ _
    refine gr_aload_n (M := gm_Mo_foremostOf) dq_Mo_foremostOf_14 rfl 0 rfl 15 rfl ?_
    refine gr_iload (M := gm_Mo_foremostOf) dq_Mo_foremostOf_15 4 rfl 17 rfl ?_
    refine gr_iload_n (M := gm_Mo_foremostOf) dq_Mo_foremostOf_17 rfl 1 rfl 18 rfl ?_
    refine gr_iload_n (M := gm_Mo_foremostOf) dq_Mo_foremostOf_18 rfl 2 rfl 19 rfl ?_
    refine gr_callVi (M := gm_Mo_foremostOf) (as := [.inl v4, .inl v1, .inl v2]) dq_Mo_foremostOf_19 22 rfl rfl gcy_Mo_227 gim_Mo_isWaiting gse_Mo_isWaiting ⟨by decide, by decide⟩ (Nat.le_of_ble_eq_true rfl) gsh_83 rfl (gli hL gsh_83) (fun o1 hg ha hx => c_Mo_isWaiting hL hn  hg ha hx) (fun h2 r3 _ => ?_)
    refine gr_if_eq (M := gm_Mo_foremostOf) dq_Mo_foremostOf_22 44 25 rfl rfl (fun c4 => ?_) (fun c4 => ?_)
    · exact w_Mo_foremostOf_J44 hL hn hF   ih
    refine gr_iload_n (M := gm_Mo_foremostOf) dq_Mo_foremostOf_25 rfl 3 rfl 26 rfl ?_
    refine gr_if_lt (M := gm_Mo_foremostOf) dq_Mo_foremostOf_26 39 29 rfl rfl (fun c5 => ?_) (fun c5 => ?_)
    · refine gr_sub (M := gm_Mo_foremostOf) (lv' := [(0, .inr (.inr 83)), (1, .inl v1), (2, .inl v2), (4, .inl v4)]) [0, 1, 2, 4] rfl ?_
      exact w_Mo_foremostOf_J39 hL hn hF   ih
    refine gr_aload_n (M := gm_Mo_foremostOf) dq_Mo_foremostOf_29 rfl 0 rfl 30 rfl ?_
    refine gr_iload (M := gm_Mo_foremostOf) dq_Mo_foremostOf_30 4 rfl 32 rfl ?_
    refine gr_iload_n (M := gm_Mo_foremostOf) dq_Mo_foremostOf_32 rfl 3 rfl 33 rfl ?_
    refine gr_callVi (M := gm_Mo_foremostOf) (as := [.inl v4, .inl v3]) dq_Mo_foremostOf_33 36 rfl rfl gcy_Mo_231 gim_Mo_isAhead gse_Mo_isAhead ⟨by decide, by decide⟩ (Nat.le_of_ble_eq_true rfl) gsh_83 rfl (gli hL gsh_83) (fun o1 hg ha hx => c_Mo_isAhead hL hn  hg ha hx) (fun h6 r7 _ => ?_)
    refine gr_if_eq (M := gm_Mo_foremostOf) dq_Mo_foremostOf_36 44 39 rfl rfl (fun c8 => ?_) (fun c8 => ?_)
    · exact w_Mo_foremostOf_J44 hL hn hF   ih
    refine gr_sub (M := gm_Mo_foremostOf) (lv' := [(0, .inr (.inr 83)), (1, .inl v1), (2, .inl v2), (4, .inl v4)]) [0, 1, 2, 4] rfl ?_
    exact w_Mo_foremostOf_J39 hL hn hF   ih

def f_Mo_foremostOf (a1 : Int) (a2 : Int) (h : gH) : Option gO := f_Mo_foremostOf_L5 a1 a2 (fun v9 h10 => some (h10, v9)) 50000 (-1) 0 h
theorem c_Mo_foremostOf {Z : gZ} (hL : gLive Z) (hn : (zL Z).Nodup) {a1 : Int} {a2 : Int}  {h : gH} {o : gO} (hg : gRg h) (ha : gRl [.inr (.inr 83), .inl a1, .inl a2]) (hx : f_Mo_foremostOf a1 a2 h = some o) : gC Z gy_Mo_foremostOf gc_Mo_foremostOf 5 (some .int) 4 92 [.inr (.inr 83), .inl a1, .inl a2] h o := by
  unfold f_Mo_foremostOf at hx
  refine gC_of (lv := [(0, .inr (.inr 83)), (1, .inl a1), (2, .inl a2)]) (own := gR_7) (by decide +kernel) rfl (Nat.le_of_ble_eq_true rfl) rfl rfl hn hg ha hx (fun X hZ hF => ?_)
  subst hZ
  show gr _ o gm_Mo_foremostOf X h 0 _ _
  refine gr_iconst (M := gm_Mo_foremostOf) (v := (-1)) dq_Mo_foremostOf_0 rfl ⟨by decide, by decide⟩ 1 rfl ?_
  refine gr_istore_n (M := gm_Mo_foremostOf) (lv' := [(3, .inl (-1)), (0, .inr (.inr 83)), (1, .inl a1), (2, .inl a2)]) dq_Mo_foremostOf_1 rfl (by decide) rfl 2 rfl ?_
  refine gr_iconst (M := gm_Mo_foremostOf) (v := 0) dq_Mo_foremostOf_2 rfl ⟨by decide, by decide⟩ 3 rfl ?_
  refine gr_istore (M := gm_Mo_foremostOf) (kk := 0) (lv' := [(4, .inl 0), (3, .inl (-1)), (0, .inr (.inr 83)), (1, .inl a1), (2, .inl a2)]) dq_Mo_foremostOf_3 (by decide) rfl 5 rfl ?_
  refine gr_sub (M := gm_Mo_foremostOf) (lv' := [(0, .inr (.inr 83)), (1, .inl a1), (2, .inl a2), (3, .inl (-1)), (4, .inl 0)]) [2, 3, 4, 1, 0] rfl ?_
  refine w_Mo_foremostOf_L5 hL hn hF   (fun v9 h10 => ?_) 50000 _ _ _
  refine gr_iload_n (M := gm_Mo_foremostOf) dq_Mo_foremostOf_52 rfl 0 rfl 53 rfl ?_
  exact gr_ireturn (M := gm_Mo_foremostOf) dq_Mo_foremostOf_53 hF

-- Mo_foremost
theorem dq_Mo_foremost_0 : decode gc_Mo_foremost 0 = .ok (.aload_n 0, 1) := by decide +kernel
theorem dq_Mo_foremost_1 : decode gc_Mo_foremost 1 = .ok (.iload_n 1, 1) := by decide +kernel
theorem dq_Mo_foremost_2 : decode gc_Mo_foremost 2 = .ok (.invokevirtual 209, 3) := by decide +kernel
theorem dq_Mo_foremost_5 : decode gc_Mo_foremost 5 = .ok (.ifCond .ne 6, 3) := by decide +kernel
theorem dq_Mo_foremost_8 : decode gc_Mo_foremost 8 = .ok (.ldc 208, 2) := by decide +kernel
theorem dq_Mo_foremost_10 : decode gc_Mo_foremost 10 = .ok (.ireturn, 1) := by decide +kernel
theorem dq_Mo_foremost_11 : decode gc_Mo_foremost 11 = .ok (.iload_n 2, 1) := by decide +kernel
theorem dq_Mo_foremost_12 : decode gc_Mo_foremost 12 = .ok (.i2l, 1) := by decide +kernel
theorem dq_Mo_foremost_13 : decode gc_Mo_foremost 13 = .ok (.lconst 0, 1) := by decide +kernel
theorem dq_Mo_foremost_14 : decode gc_Mo_foremost 14 = .ok (.lconst 1, 1) := by decide +kernel
theorem dq_Mo_foremost_15 : decode gc_Mo_foremost 15 = .ok (.invokestatic 117, 3) := by decide +kernel
theorem dq_Mo_foremost_18 : decode gc_Mo_foremost 18 = .ok (.ifCond .eq 12, 3) := by decide +kernel
theorem dq_Mo_foremost_21 : decode gc_Mo_foremost 21 = .ok (.aload_n 0, 1) := by decide +kernel
theorem dq_Mo_foremost_22 : decode gc_Mo_foremost 22 = .ok (.iload_n 1, 1) := by decide +kernel
theorem dq_Mo_foremost_23 : decode gc_Mo_foremost 23 = .ok (.iload_n 2, 1) := by decide +kernel
theorem dq_Mo_foremost_24 : decode gc_Mo_foremost 24 = .ok (.invokevirtual 235, 3) := by decide +kernel
theorem dq_Mo_foremost_27 : decode gc_Mo_foremost 27 = .ok (.goto 5, 3) := by decide +kernel
theorem dq_Mo_foremost_30 : decode gc_Mo_foremost 30 = .ok (.ldc 129, 2) := by decide +kernel
theorem dq_Mo_foremost_32 : decode gc_Mo_foremost 32 = .ok (.ireturn, 1) := by decide +kernel
abbrev gm_Mo_foremost : gM := (gc_Mo_foremost, gR_7, 5, 116, 3)
set_option maxRecDepth 20000 in
theorem gcy_Mo_235 : gCy gR_7 235 gy_Mo_foremostOf gc_Mo_foremostOf 5 (some .int) 2 := ⟨(gtab_at 998 (by decide +kernel) rfl), (gtab_at 8 (by decide +kernel) rfl), (gtab_at 1001 rfl rfl), by decide, by decide, by decide +kernel⟩
theorem gim_Mo_foremostOf : Cond.instanceMethod gy_Mo_foremostOf ∈ gtbl := (gtab_at 1000 (by decide +kernel) rfl)
theorem gse_Mo_foremostOf : Cond.selects gy_Mo_foremostOf.cls gy_Mo_foremostOf gy_Mo_foremostOf ∈ gtbl := (by decide +kernel)
def f_Mo_foremost (a1 : Int) (a2 : Int) (h : gH) : Option gO := gb (f_Mo_isStreet a1 h) (fun h1 r2 => if r2 = 0 then (some (h1, (-1000000001))) else (gb (f_Mo_in a2 0 1 h1) (fun h4 r5 => if r5 = 0 then (some (h4, (-1000000002))) else (gb (f_Mo_foremostOf a1 a2 h4) (fun h7 r8 => some (h7, r8))))))
theorem c_Mo_foremost {Z : gZ} (hL : gLive Z) (hn : (zL Z).Nodup) {a1 : Int} {a2 : Int}  {h : gH} {o : gO} (hg : gRg h) (ha : gRl [.inr (.inr 83), .inl a1, .inl a2]) (hx : f_Mo_foremost a1 a2 h = some o) : gC Z gy_Mo_foremost gc_Mo_foremost 3 (some .int) 5 116 [.inr (.inr 83), .inl a1, .inl a2] h o := by
  unfold f_Mo_foremost at hx
  refine gC_of (lv := [(0, .inr (.inr 83)), (1, .inl a1), (2, .inl a2)]) (own := gR_7) (by decide +kernel) rfl (Nat.le_of_ble_eq_true rfl) rfl rfl hn hg ha hx (fun X hZ hF => ?_)
  subst hZ
  show gr _ o gm_Mo_foremost X h 0 _ _
  refine gr_aload_n (M := gm_Mo_foremost) dq_Mo_foremost_0 rfl 0 rfl 1 rfl ?_
  refine gr_iload_n (M := gm_Mo_foremost) dq_Mo_foremost_1 rfl 1 rfl 2 rfl ?_
  refine gr_callVi (M := gm_Mo_foremost) (as := [.inl a1]) dq_Mo_foremost_2 5 rfl rfl gcy_Mo_209 gim_Mo_isStreet gse_Mo_isStreet ⟨by decide, by decide⟩ (Nat.le_of_ble_eq_true rfl) gsh_83 rfl (gli hL gsh_83) (fun o1 hg ha hx => c_Mo_isStreet hL hn  hg ha hx) (fun h1 r2 _ => ?_)
  refine gr_if_ne (M := gm_Mo_foremost) dq_Mo_foremost_5 11 8 rfl rfl (fun c3 => ?_) (fun c3 => ?_)
  · refine gr_iload_n (M := gm_Mo_foremost) dq_Mo_foremost_11 rfl 2 rfl 12 rfl ?_
    refine gr_i2l (M := gm_Mo_foremost) dq_Mo_foremost_12 13 rfl ?_
    refine gr_lconst (M := gm_Mo_foremost) (v := 0) dq_Mo_foremost_13 (by decide) ⟨by decide, by decide⟩ 14 rfl ?_
    refine gr_lconst (M := gm_Mo_foremost) (v := 1) dq_Mo_foremost_14 (by decide) ⟨by decide, by decide⟩ 15 rfl ?_
    refine gr_callSi (M := gm_Mo_foremost) (as := [.inr (.inl a2), .inr (.inl 0), .inr (.inl 1)]) dq_Mo_foremost_15 18 rfl rfl gcy_Mo_117 gst_Mo_in ⟨by decide, by decide⟩ (Nat.le_of_ble_eq_true rfl) (fun o1 hg ha hx => c_Mo_in hL hn  hg ha hx) (fun h4 r5 _ => ?_)
    refine gr_if_eq (M := gm_Mo_foremost) dq_Mo_foremost_18 30 21 rfl rfl (fun c6 => ?_) (fun c6 => ?_)
    · refine gr_ldc (M := gm_Mo_foremost) (v := (-1000000002)) dq_Mo_foremost_30 gk_Mo_129 ⟨by decide, by decide⟩ 32 rfl ?_
      exact gr_ireturn (M := gm_Mo_foremost) dq_Mo_foremost_32 hF
    refine gr_aload_n (M := gm_Mo_foremost) dq_Mo_foremost_21 rfl 0 rfl 22 rfl ?_
    refine gr_iload_n (M := gm_Mo_foremost) dq_Mo_foremost_22 rfl 1 rfl 23 rfl ?_
    refine gr_iload_n (M := gm_Mo_foremost) dq_Mo_foremost_23 rfl 2 rfl 24 rfl ?_
    refine gr_callVi (M := gm_Mo_foremost) (as := [.inl a1, .inl a2]) dq_Mo_foremost_24 27 rfl rfl gcy_Mo_235 gim_Mo_foremostOf gse_Mo_foremostOf ⟨by decide, by decide⟩ (Nat.le_of_ble_eq_true rfl) gsh_83 rfl (gli hL gsh_83) (fun o1 hg ha hx => c_Mo_foremostOf hL hn  hg ha hx) (fun h7 r8 _ => ?_)
    refine gr_goto (M := gm_Mo_foremost) dq_Mo_foremost_27 32 rfl ?_
    exact gr_ireturn (M := gm_Mo_foremost) dq_Mo_foremost_32 hF
  refine gr_ldc (M := gm_Mo_foremost) (v := (-1000000001)) dq_Mo_foremost_8 gk_Mo_208 ⟨by decide, by decide⟩ 10 rfl ?_
  exact gr_ireturn (M := gm_Mo_foremost) dq_Mo_foremost_10 hF

-- Mo_longest
theorem dq_Mo_longest_0 : decode gc_Mo_longest 0 = .ok (.ldc 181, 2) := by decide +kernel
theorem dq_Mo_longest_2 : decode gc_Mo_longest 2 = .ok (.istore_n 3, 1) := by decide +kernel
theorem dq_Mo_longest_3 : decode gc_Mo_longest 3 = .ok (.iconst 0, 1) := by decide +kernel
theorem dq_Mo_longest_4 : decode gc_Mo_longest 4 = .ok (.istore 4, 2) := by decide +kernel
theorem dq_Mo_longest_6 : decode gc_Mo_longest 6 = .ok (.iload 4, 2) := by decide +kernel
theorem dq_Mo_longest_8 : decode gc_Mo_longest 8 = .ok (.aload_n 0, 1) := by decide +kernel
theorem dq_Mo_longest_9 : decode gc_Mo_longest 9 = .ok (.getfield 124, 3) := by decide +kernel
theorem dq_Mo_longest_12 : decode gc_Mo_longest 12 = .ok (.if_icmp .ge 49, 3) := by decide +kernel
theorem dq_Mo_longest_15 : decode gc_Mo_longest 15 = .ok (.aload_n 0, 1) := by decide +kernel
theorem dq_Mo_longest_16 : decode gc_Mo_longest 16 = .ok (.iload 4, 2) := by decide +kernel
theorem dq_Mo_longest_18 : decode gc_Mo_longest 18 = .ok (.iload_n 1, 1) := by decide +kernel
theorem dq_Mo_longest_19 : decode gc_Mo_longest 19 = .ok (.iload_n 2, 1) := by decide +kernel
theorem dq_Mo_longest_20 : decode gc_Mo_longest 20 = .ok (.invokevirtual 227, 3) := by decide +kernel
theorem dq_Mo_longest_23 : decode gc_Mo_longest 23 = .ok (.ifCond .eq 30, 3) := by decide +kernel
theorem dq_Mo_longest_26 : decode gc_Mo_longest 26 = .ok (.aload_n 0, 1) := by decide +kernel
theorem dq_Mo_longest_27 : decode gc_Mo_longest 27 = .ok (.getfield 34, 3) := by decide +kernel
theorem dq_Mo_longest_30 : decode gc_Mo_longest 30 = .ok (.bipush 38, 2) := by decide +kernel
theorem dq_Mo_longest_32 : decode gc_Mo_longest 32 = .ok (.iload 4, 2) := by decide +kernel
theorem dq_Mo_longest_34 : decode gc_Mo_longest 34 = .ok (.iadd, 1) := by decide +kernel
theorem dq_Mo_longest_35 : decode gc_Mo_longest 35 = .ok (.iaload, 1) := by decide +kernel
theorem dq_Mo_longest_36 : decode gc_Mo_longest 36 = .ok (.iload_n 3, 1) := by decide +kernel
theorem dq_Mo_longest_37 : decode gc_Mo_longest 37 = .ok (.if_icmp .ge 16, 3) := by decide +kernel
theorem dq_Mo_longest_40 : decode gc_Mo_longest 40 = .ok (.aload_n 0, 1) := by decide +kernel
theorem dq_Mo_longest_41 : decode gc_Mo_longest 41 = .ok (.getfield 34, 3) := by decide +kernel
theorem dq_Mo_longest_44 : decode gc_Mo_longest 44 = .ok (.bipush 38, 2) := by decide +kernel
theorem dq_Mo_longest_46 : decode gc_Mo_longest 46 = .ok (.iload 4, 2) := by decide +kernel
theorem dq_Mo_longest_48 : decode gc_Mo_longest 48 = .ok (.iadd, 1) := by decide +kernel
theorem dq_Mo_longest_49 : decode gc_Mo_longest 49 = .ok (.iaload, 1) := by decide +kernel
theorem dq_Mo_longest_50 : decode gc_Mo_longest 50 = .ok (.goto 4, 3) := by decide +kernel
theorem dq_Mo_longest_53 : decode gc_Mo_longest 53 = .ok (.iload_n 3, 1) := by decide +kernel
theorem dq_Mo_longest_54 : decode gc_Mo_longest 54 = .ok (.istore_n 3, 1) := by decide +kernel
theorem dq_Mo_longest_55 : decode gc_Mo_longest 55 = .ok (.iinc 4 1, 3) := by decide +kernel
theorem dq_Mo_longest_58 : decode gc_Mo_longest 58 = .ok (.goto (-52), 3) := by decide +kernel
theorem dq_Mo_longest_61 : decode gc_Mo_longest 61 = .ok (.iload_n 3, 1) := by decide +kernel
theorem dq_Mo_longest_62 : decode gc_Mo_longest 62 = .ok (.ireturn, 1) := by decide +kernel
abbrev gm_Mo_longest : gM := (gc_Mo_longest, gR_7, 4, 92, 5)
def f_Mo_longest_J54  (k6 : Int → Int → gH → Option gO) (v1 : Int) (v2 : Int) (v4 : Int) (s0 : Int) (h : gH) : Option gO := k6 s0 (gadd v4 1) h
theorem w_Mo_longest_J54 {o : gO} {X : gX} (hL : gLive (xZ X)) (hn : (zL (xZ X)).Nodup) (hF : gFin X (some .int) o)    {k6 : Int → Int → gH → Option gO} {v1 : Int} {v2 : Int} {v4 : Int} {s0 : Int} {h : gH} (hk6 : ∀ (v3 : Int) (v4 : Int) (h : gH), gr (k6 v3 v4 h) o gm_Mo_longest X h 6 [(0, .inr (.inr 83)), (1, .inl v1), (2, .inl v2), (3, .inl v3), (4, .inl v4)] []) : gr (f_Mo_longest_J54  k6 v1 v2 v4 s0 h) o gm_Mo_longest X h 54 [(0, .inr (.inr 83)), (1, .inl v1), (2, .inl v2), (4, .inl v4)] [.inl s0] := by
  unfold f_Mo_longest_J54
  refine gr_istore_n (M := gm_Mo_longest) (lv' := [(3, .inl s0), (0, .inr (.inr 83)), (1, .inl v1), (2, .inl v2), (4, .inl v4)]) dq_Mo_longest_54 rfl (by decide) rfl 55 rfl ?_
  refine gr_iinc (M := gm_Mo_longest) (lv' := [(4, .inl (gadd v4 1)), (3, .inl s0), (0, .inr (.inr 83)), (1, .inl v1), (2, .inl v2)]) dq_Mo_longest_55 4 rfl rfl (by decide) rfl 58 rfl ?_
  refine gr_goto (M := gm_Mo_longest) dq_Mo_longest_58 6 rfl ?_
  refine gr_sub (M := gm_Mo_longest) (lv' := [(0, .inr (.inr 83)), (1, .inl v1), (2, .inl v2), (3, .inl s0), (4, .inl (gadd v4 1))]) [2, 3, 4, 1, 0] rfl ?_
  exact hk6 _ _ _

def f_Mo_longest_J53  (k6 : Int → Int → gH → Option gO) (v1 : Int) (v2 : Int) (v3 : Int) (v4 : Int) (h : gH) : Option gO := f_Mo_longest_J54  (k6) v1 v2 v4 v3 h
theorem w_Mo_longest_J53 {o : gO} {X : gX} (hL : gLive (xZ X)) (hn : (zL (xZ X)).Nodup) (hF : gFin X (some .int) o)    {k6 : Int → Int → gH → Option gO} {v1 : Int} {v2 : Int} {v3 : Int} {v4 : Int} {h : gH} (hk6 : ∀ (v3 : Int) (v4 : Int) (h : gH), gr (k6 v3 v4 h) o gm_Mo_longest X h 6 [(0, .inr (.inr 83)), (1, .inl v1), (2, .inl v2), (3, .inl v3), (4, .inl v4)] []) : gr (f_Mo_longest_J53  k6 v1 v2 v3 v4 h) o gm_Mo_longest X h 53 [(0, .inr (.inr 83)), (1, .inl v1), (2, .inl v2), (3, .inl v3), (4, .inl v4)] [] := by
  unfold f_Mo_longest_J53
  refine gr_iload_n (M := gm_Mo_longest) dq_Mo_longest_53 rfl 3 rfl 54 rfl ?_
  refine gr_sub (M := gm_Mo_longest) (lv' := [(0, .inr (.inr 83)), (1, .inl v1), (2, .inl v2), (4, .inl v4)]) [0, 1, 2, 4] rfl ?_
  exact w_Mo_longest_J54 hL hn hF   hk6

def f_Mo_longest_L6 (v1 : Int) (v2 : Int) (k61 : Int → gH → Option gO) : Nat → Int → Int → gH → Option gO
  | 0, _, _, _ => none
  | n + 1, v3, v4, h => if (h 83 6) ≤ v4 then (k61 v3 h) else (gb (f_Mo_isWaiting v4 v1 v2 h) (fun h2 r3 => if r3 = 0 then (f_Mo_longest_J53  (f_Mo_longest_L6 v1 v2 k61 n) v1 v2 v3 v4 h2) else (gd (gix 50 (gadd 38 v4)) (if v3 ≤ (h2 92 (gadd 38 v4).toNat) then (f_Mo_longest_J53  (f_Mo_longest_L6 v1 v2 k61 n) v1 v2 v3 v4 h2) else (gd (gix 50 (gadd 38 v4)) (f_Mo_longest_J54  (f_Mo_longest_L6 v1 v2 k61 n) v1 v2 v4 (h2 92 (gadd 38 v4).toNat) h2))))))
theorem w_Mo_longest_L6 {o : gO} {X : gX} (hL : gLive (xZ X)) (hn : (zL (xZ X)).Nodup) (hF : gFin X (some .int) o) {v1 : Int} {v2 : Int}   {k61 : Int → gH → Option gO} (hk61 : ∀ (v3 : Int) (h : gH), gr (k61 v3 h) o gm_Mo_longest X h 61 [(3, .inl v3)] []) : ∀ (n : Nat) (v3 : Int) (v4 : Int) (h : gH), gr (f_Mo_longest_L6 v1 v2 k61 n v3 v4 h) o gm_Mo_longest X h 6 [(0, .inr (.inr 83)), (1, .inl v1), (2, .inl v2), (3, .inl v3), (4, .inl v4)] [] := by
  intro n
  induction n with
  | zero => intros; exact gr_none
  | succ n ih =>
    intro v3 v4 h
    unfold f_Mo_longest_L6
    refine gr_iload (M := gm_Mo_longest) dq_Mo_longest_6 4 rfl 8 rfl ?_
    refine gr_aload_n (M := gm_Mo_longest) dq_Mo_longest_8 rfl 0 rfl 9 rfl ?_
    refine gr_geti (M := gm_Mo_longest) dq_Mo_longest_9 12 rfl gfl_Mo_124 gsh_83 rfl (gli hL gsh_83) ?_
    refine gr_icmp_ge (M := gm_Mo_longest) dq_Mo_longest_12 61 15 rfl rfl (fun c1 => ?_) (fun c1 => ?_)
    · refine gr_sub (M := gm_Mo_longest) (lv' := [(3, .inl v3)]) [3] rfl ?_
      exact hk61 _ _
    refine gr_aload_n (M := gm_Mo_longest) dq_Mo_longest_15 rfl 0 rfl 16 rfl ?_
    refine gr_iload (M := gm_Mo_longest) dq_Mo_longest_16 4 rfl 18 rfl ?_
    refine gr_iload_n (M := gm_Mo_longest) dq_Mo_longest_18 rfl 1 rfl 19 rfl ?_
    refine gr_iload_n (M := gm_Mo_longest) dq_Mo_longest_19 rfl 2 rfl 20 rfl ?_
    refine gr_callVi (M := gm_Mo_longest) (as := [.inl v4, .inl v1, .inl v2]) dq_Mo_longest_20 23 rfl rfl gcy_Mo_227 gim_Mo_isWaiting gse_Mo_isWaiting ⟨by decide, by decide⟩ (Nat.le_of_ble_eq_true rfl) gsh_83 rfl (gli hL gsh_83) (fun o1 hg ha hx => c_Mo_isWaiting hL hn  hg ha hx) (fun h2 r3 _ => ?_)
    refine gr_if_eq (M := gm_Mo_longest) dq_Mo_longest_23 53 26 rfl rfl (fun c4 => ?_) (fun c4 => ?_)
    · exact w_Mo_longest_J53 hL hn hF   ih
    refine gr_aload_n (M := gm_Mo_longest) dq_Mo_longest_26 rfl 0 rfl 27 rfl ?_
    refine gr_getr (M := gm_Mo_longest) dq_Mo_longest_27 30 rfl gfl_Mo_34 gsh_83 rfl (gli hL gsh_83) 92 rfl ?_
    refine gr_bipush (M := gm_Mo_longest) (v := 38) dq_Mo_longest_30 (by decide) ⟨by decide, by decide⟩ 32 rfl ?_
    refine gr_iload (M := gm_Mo_longest) dq_Mo_longest_32 4 rfl 34 rfl ?_
    refine gr_iadd (M := gm_Mo_longest) dq_Mo_longest_34 35 rfl ?_
    refine gr_iald (M := gm_Mo_longest) dq_Mo_longest_35 36 rfl gsh_92 (glj hL gsh_92 (by decide)) ?_
    refine gr_iload_n (M := gm_Mo_longest) dq_Mo_longest_36 rfl 3 rfl 37 rfl ?_
    refine gr_icmp_ge (M := gm_Mo_longest) dq_Mo_longest_37 53 40 rfl rfl (fun c5 => ?_) (fun c5 => ?_)
    · exact w_Mo_longest_J53 hL hn hF   ih
    refine gr_aload_n (M := gm_Mo_longest) dq_Mo_longest_40 rfl 0 rfl 41 rfl ?_
    refine gr_getr (M := gm_Mo_longest) dq_Mo_longest_41 44 rfl gfl_Mo_34 gsh_83 rfl (gli hL gsh_83) 92 rfl ?_
    refine gr_bipush (M := gm_Mo_longest) (v := 38) dq_Mo_longest_44 (by decide) ⟨by decide, by decide⟩ 46 rfl ?_
    refine gr_iload (M := gm_Mo_longest) dq_Mo_longest_46 4 rfl 48 rfl ?_
    refine gr_iadd (M := gm_Mo_longest) dq_Mo_longest_48 49 rfl ?_
    refine gr_iald (M := gm_Mo_longest) dq_Mo_longest_49 50 rfl gsh_92 (glj hL gsh_92 (by decide)) ?_
    refine gr_goto (M := gm_Mo_longest) dq_Mo_longest_50 54 rfl ?_
    refine gr_sub (M := gm_Mo_longest) (lv' := [(0, .inr (.inr 83)), (1, .inl v1), (2, .inl v2), (4, .inl v4)]) [0, 1, 2, 4] rfl ?_
    exact w_Mo_longest_J54 hL hn hF   ih

def f_Mo_longest (a1 : Int) (a2 : Int) (h : gH) : Option gO := f_Mo_longest_L6 a1 a2 (fun v6 h7 => some (h7, v6)) 50000 1000000 0 h
theorem c_Mo_longest {Z : gZ} (hL : gLive Z) (hn : (zL Z).Nodup) {a1 : Int} {a2 : Int}  {h : gH} {o : gO} (hg : gRg h) (ha : gRl [.inr (.inr 83), .inl a1, .inl a2]) (hx : f_Mo_longest a1 a2 h = some o) : gC Z gy_Mo_longest gc_Mo_longest 5 (some .int) 4 92 [.inr (.inr 83), .inl a1, .inl a2] h o := by
  unfold f_Mo_longest at hx
  refine gC_of (lv := [(0, .inr (.inr 83)), (1, .inl a1), (2, .inl a2)]) (own := gR_7) (by decide +kernel) rfl (Nat.le_of_ble_eq_true rfl) rfl rfl hn hg ha hx (fun X hZ hF => ?_)
  subst hZ
  show gr _ o gm_Mo_longest X h 0 _ _
  refine gr_ldc (M := gm_Mo_longest) (v := 1000000) dq_Mo_longest_0 gk_Mo_181 ⟨by decide, by decide⟩ 2 rfl ?_
  refine gr_istore_n (M := gm_Mo_longest) (lv' := [(3, .inl 1000000), (0, .inr (.inr 83)), (1, .inl a1), (2, .inl a2)]) dq_Mo_longest_2 rfl (by decide) rfl 3 rfl ?_
  refine gr_iconst (M := gm_Mo_longest) (v := 0) dq_Mo_longest_3 rfl ⟨by decide, by decide⟩ 4 rfl ?_
  refine gr_istore (M := gm_Mo_longest) (kk := 0) (lv' := [(4, .inl 0), (3, .inl 1000000), (0, .inr (.inr 83)), (1, .inl a1), (2, .inl a2)]) dq_Mo_longest_4 (by decide) rfl 6 rfl ?_
  refine gr_sub (M := gm_Mo_longest) (lv' := [(0, .inr (.inr 83)), (1, .inl a1), (2, .inl a2), (3, .inl 1000000), (4, .inl 0)]) [2, 3, 4, 1, 0] rfl ?_
  refine w_Mo_longest_L6 hL hn hF   (fun v6 h7 => ?_) 50000 _ _ _
  refine gr_iload_n (M := gm_Mo_longest) dq_Mo_longest_61 rfl 0 rfl 62 rfl ?_
  exact gr_ireturn (M := gm_Mo_longest) dq_Mo_longest_62 hF

-- Mo_waiting
theorem dq_Mo_waiting_0 : decode gc_Mo_waiting 0 = .ok (.iconst 0, 1) := by decide +kernel
theorem dq_Mo_waiting_1 : decode gc_Mo_waiting 1 = .ok (.istore_n 3, 1) := by decide +kernel
theorem dq_Mo_waiting_2 : decode gc_Mo_waiting 2 = .ok (.iconst 0, 1) := by decide +kernel
theorem dq_Mo_waiting_3 : decode gc_Mo_waiting 3 = .ok (.istore 4, 2) := by decide +kernel
theorem dq_Mo_waiting_5 : decode gc_Mo_waiting 5 = .ok (.iload 4, 2) := by decide +kernel
theorem dq_Mo_waiting_7 : decode gc_Mo_waiting 7 = .ok (.aload_n 0, 1) := by decide +kernel
theorem dq_Mo_waiting_8 : decode gc_Mo_waiting 8 = .ok (.getfield 124, 3) := by decide +kernel
theorem dq_Mo_waiting_11 : decode gc_Mo_waiting 11 = .ok (.if_icmp .ge 28, 3) := by decide +kernel
theorem dq_Mo_waiting_14 : decode gc_Mo_waiting 14 = .ok (.iload_n 3, 1) := by decide +kernel
theorem dq_Mo_waiting_15 : decode gc_Mo_waiting 15 = .ok (.aload_n 0, 1) := by decide +kernel
theorem dq_Mo_waiting_16 : decode gc_Mo_waiting 16 = .ok (.iload 4, 2) := by decide +kernel
theorem dq_Mo_waiting_18 : decode gc_Mo_waiting 18 = .ok (.iload_n 1, 1) := by decide +kernel
theorem dq_Mo_waiting_19 : decode gc_Mo_waiting 19 = .ok (.iload_n 2, 1) := by decide +kernel
theorem dq_Mo_waiting_20 : decode gc_Mo_waiting 20 = .ok (.invokevirtual 227, 3) := by decide +kernel
theorem dq_Mo_waiting_23 : decode gc_Mo_waiting 23 = .ok (.ifCond .eq 7, 3) := by decide +kernel
theorem dq_Mo_waiting_26 : decode gc_Mo_waiting 26 = .ok (.iconst 1, 1) := by decide +kernel
theorem dq_Mo_waiting_27 : decode gc_Mo_waiting 27 = .ok (.goto 4, 3) := by decide +kernel
theorem dq_Mo_waiting_30 : decode gc_Mo_waiting 30 = .ok (.iconst 0, 1) := by decide +kernel
theorem dq_Mo_waiting_31 : decode gc_Mo_waiting 31 = .ok (.iadd, 1) := by decide +kernel
theorem dq_Mo_waiting_32 : decode gc_Mo_waiting 32 = .ok (.istore_n 3, 1) := by decide +kernel
theorem dq_Mo_waiting_33 : decode gc_Mo_waiting 33 = .ok (.iinc 4 1, 3) := by decide +kernel
theorem dq_Mo_waiting_36 : decode gc_Mo_waiting 36 = .ok (.goto (-31), 3) := by decide +kernel
theorem dq_Mo_waiting_39 : decode gc_Mo_waiting 39 = .ok (.iload_n 3, 1) := by decide +kernel
theorem dq_Mo_waiting_40 : decode gc_Mo_waiting 40 = .ok (.ireturn, 1) := by decide +kernel
abbrev gm_Mo_waiting : gM := (gc_Mo_waiting, gR_7, 4, 92, 5)
def f_Mo_waiting_J31  (k5 : Int → Int → gH → Option gO) (v1 : Int) (v2 : Int) (v4 : Int) (s1 : Int) (s0 : Int) (h : gH) : Option gO := k5 (gadd s0 s1) (gadd v4 1) h
theorem w_Mo_waiting_J31 {o : gO} {X : gX} (hL : gLive (xZ X)) (hn : (zL (xZ X)).Nodup) (hF : gFin X (some .int) o)    {k5 : Int → Int → gH → Option gO} {v1 : Int} {v2 : Int} {v4 : Int} {s1 : Int} {s0 : Int} {h : gH} (hk5 : ∀ (v3 : Int) (v4 : Int) (h : gH), gr (k5 v3 v4 h) o gm_Mo_waiting X h 5 [(0, .inr (.inr 83)), (1, .inl v1), (2, .inl v2), (3, .inl v3), (4, .inl v4)] []) : gr (f_Mo_waiting_J31  k5 v1 v2 v4 s1 s0 h) o gm_Mo_waiting X h 31 [(0, .inr (.inr 83)), (1, .inl v1), (2, .inl v2), (4, .inl v4)] [.inl s1, .inl s0] := by
  unfold f_Mo_waiting_J31
  refine gr_iadd (M := gm_Mo_waiting) dq_Mo_waiting_31 32 rfl ?_
  refine gr_istore_n (M := gm_Mo_waiting) (lv' := [(3, .inl (gadd s0 s1)), (0, .inr (.inr 83)), (1, .inl v1), (2, .inl v2), (4, .inl v4)]) dq_Mo_waiting_32 rfl (by decide) rfl 33 rfl ?_
  refine gr_iinc (M := gm_Mo_waiting) (lv' := [(4, .inl (gadd v4 1)), (3, .inl (gadd s0 s1)), (0, .inr (.inr 83)), (1, .inl v1), (2, .inl v2)]) dq_Mo_waiting_33 4 rfl rfl (by decide) rfl 36 rfl ?_
  refine gr_goto (M := gm_Mo_waiting) dq_Mo_waiting_36 5 rfl ?_
  refine gr_sub (M := gm_Mo_waiting) (lv' := [(0, .inr (.inr 83)), (1, .inl v1), (2, .inl v2), (3, .inl (gadd s0 s1)), (4, .inl (gadd v4 1))]) [2, 3, 4, 1, 0] rfl ?_
  exact hk5 _ _ _

def f_Mo_waiting_L5 (v1 : Int) (v2 : Int) (k39 : Int → gH → Option gO) : Nat → Int → Int → gH → Option gO
  | 0, _, _, _ => none
  | n + 1, v3, v4, h => if (h 83 6) ≤ v4 then (k39 v3 h) else (gb (f_Mo_isWaiting v4 v1 v2 h) (fun h2 r3 => if r3 = 0 then (f_Mo_waiting_J31  (f_Mo_waiting_L5 v1 v2 k39 n) v1 v2 v4 0 v3 h2) else (f_Mo_waiting_J31  (f_Mo_waiting_L5 v1 v2 k39 n) v1 v2 v4 1 v3 h2)))
theorem w_Mo_waiting_L5 {o : gO} {X : gX} (hL : gLive (xZ X)) (hn : (zL (xZ X)).Nodup) (hF : gFin X (some .int) o) {v1 : Int} {v2 : Int}   {k39 : Int → gH → Option gO} (hk39 : ∀ (v3 : Int) (h : gH), gr (k39 v3 h) o gm_Mo_waiting X h 39 [(3, .inl v3)] []) : ∀ (n : Nat) (v3 : Int) (v4 : Int) (h : gH), gr (f_Mo_waiting_L5 v1 v2 k39 n v3 v4 h) o gm_Mo_waiting X h 5 [(0, .inr (.inr 83)), (1, .inl v1), (2, .inl v2), (3, .inl v3), (4, .inl v4)] [] := by
  intro n
  induction n with
  | zero => intros; exact gr_none
  | succ n ih =>
    intro v3 v4 h
    unfold f_Mo_waiting_L5
    refine gr_iload (M := gm_Mo_waiting) dq_Mo_waiting_5 4 rfl 7 rfl ?_
    refine gr_aload_n (M := gm_Mo_waiting) dq_Mo_waiting_7 rfl 0 rfl 8 rfl ?_
    refine gr_geti (M := gm_Mo_waiting) dq_Mo_waiting_8 11 rfl gfl_Mo_124 gsh_83 rfl (gli hL gsh_83) ?_
    refine gr_icmp_ge (M := gm_Mo_waiting) dq_Mo_waiting_11 39 14 rfl rfl (fun c1 => ?_) (fun c1 => ?_)
    · refine gr_sub (M := gm_Mo_waiting) (lv' := [(3, .inl v3)]) [3] rfl ?_
      exact hk39 _ _
    refine gr_iload_n (M := gm_Mo_waiting) dq_Mo_waiting_14 rfl 3 rfl 15 rfl ?_
    refine gr_aload_n (M := gm_Mo_waiting) dq_Mo_waiting_15 rfl 0 rfl 16 rfl ?_
    refine gr_iload (M := gm_Mo_waiting) dq_Mo_waiting_16 4 rfl 18 rfl ?_
    refine gr_iload_n (M := gm_Mo_waiting) dq_Mo_waiting_18 rfl 1 rfl 19 rfl ?_
    refine gr_iload_n (M := gm_Mo_waiting) dq_Mo_waiting_19 rfl 2 rfl 20 rfl ?_
    refine gr_callVi (M := gm_Mo_waiting) (as := [.inl v4, .inl v1, .inl v2]) dq_Mo_waiting_20 23 rfl rfl gcy_Mo_227 gim_Mo_isWaiting gse_Mo_isWaiting ⟨by decide, by decide⟩ (Nat.le_of_ble_eq_true rfl) gsh_83 rfl (gli hL gsh_83) (fun o1 hg ha hx => c_Mo_isWaiting hL hn  hg ha hx) (fun h2 r3 _ => ?_)
    refine gr_if_eq (M := gm_Mo_waiting) dq_Mo_waiting_23 30 26 rfl rfl (fun c4 => ?_) (fun c4 => ?_)
    · refine gr_iconst (M := gm_Mo_waiting) (v := 0) dq_Mo_waiting_30 rfl ⟨by decide, by decide⟩ 31 rfl ?_
      refine gr_sub (M := gm_Mo_waiting) (lv' := [(0, .inr (.inr 83)), (1, .inl v1), (2, .inl v2), (4, .inl v4)]) [0, 1, 2, 4] rfl ?_
      exact w_Mo_waiting_J31 hL hn hF   ih
    refine gr_iconst (M := gm_Mo_waiting) (v := 1) dq_Mo_waiting_26 rfl ⟨by decide, by decide⟩ 27 rfl ?_
    refine gr_goto (M := gm_Mo_waiting) dq_Mo_waiting_27 31 rfl ?_
    refine gr_sub (M := gm_Mo_waiting) (lv' := [(0, .inr (.inr 83)), (1, .inl v1), (2, .inl v2), (4, .inl v4)]) [0, 1, 2, 4] rfl ?_
    exact w_Mo_waiting_J31 hL hn hF   ih

def f_Mo_waiting (a1 : Int) (a2 : Int) (h : gH) : Option gO := f_Mo_waiting_L5 a1 a2 (fun v5 h6 => some (h6, v5)) 50000 0 0 h
theorem c_Mo_waiting {Z : gZ} (hL : gLive Z) (hn : (zL Z).Nodup) {a1 : Int} {a2 : Int}  {h : gH} {o : gO} (hg : gRg h) (ha : gRl [.inr (.inr 83), .inl a1, .inl a2]) (hx : f_Mo_waiting a1 a2 h = some o) : gC Z gy_Mo_waiting gc_Mo_waiting 5 (some .int) 4 92 [.inr (.inr 83), .inl a1, .inl a2] h o := by
  unfold f_Mo_waiting at hx
  refine gC_of (lv := [(0, .inr (.inr 83)), (1, .inl a1), (2, .inl a2)]) (own := gR_7) (by decide +kernel) rfl (Nat.le_of_ble_eq_true rfl) rfl rfl hn hg ha hx (fun X hZ hF => ?_)
  subst hZ
  show gr _ o gm_Mo_waiting X h 0 _ _
  refine gr_iconst (M := gm_Mo_waiting) (v := 0) dq_Mo_waiting_0 rfl ⟨by decide, by decide⟩ 1 rfl ?_
  refine gr_istore_n (M := gm_Mo_waiting) (lv' := [(3, .inl 0), (0, .inr (.inr 83)), (1, .inl a1), (2, .inl a2)]) dq_Mo_waiting_1 rfl (by decide) rfl 2 rfl ?_
  refine gr_iconst (M := gm_Mo_waiting) (v := 0) dq_Mo_waiting_2 rfl ⟨by decide, by decide⟩ 3 rfl ?_
  refine gr_istore (M := gm_Mo_waiting) (kk := 0) (lv' := [(4, .inl 0), (3, .inl 0), (0, .inr (.inr 83)), (1, .inl a1), (2, .inl a2)]) dq_Mo_waiting_3 (by decide) rfl 5 rfl ?_
  refine gr_sub (M := gm_Mo_waiting) (lv' := [(0, .inr (.inr 83)), (1, .inl a1), (2, .inl a2), (3, .inl 0), (4, .inl 0)]) [2, 3, 4, 1, 0] rfl ?_
  refine w_Mo_waiting_L5 hL hn hF   (fun v5 h6 => ?_) 50000 _ _ _
  refine gr_iload_n (M := gm_Mo_waiting) dq_Mo_waiting_39 rfl 0 rfl 40 rfl ?_
  exact gr_ireturn (M := gm_Mo_waiting) dq_Mo_waiting_40 hF

