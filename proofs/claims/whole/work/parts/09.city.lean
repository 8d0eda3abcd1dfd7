-- City_clear
theorem dq_City_clear_0 : decode gc_City_clear 0 = .ok (.aload_n 0, 1) := by decide +kernel
theorem dq_City_clear_1 : decode gc_City_clear 1 = .ok (.iconst 0, 1) := by decide +kernel
theorem dq_City_clear_2 : decode gc_City_clear 2 = .ok (.putfield 45, 3) := by decide +kernel
theorem dq_City_clear_5 : decode gc_City_clear 5 = .ok (.aload_n 0, 1) := by decide +kernel
theorem dq_City_clear_6 : decode gc_City_clear 6 = .ok (.iconst 0, 1) := by decide +kernel
theorem dq_City_clear_7 : decode gc_City_clear 7 = .ok (.putfield 49, 3) := by decide +kernel
theorem dq_City_clear_10 : decode gc_City_clear 10 = .ok (.aload_n 0, 1) := by decide +kernel
theorem dq_City_clear_11 : decode gc_City_clear 11 = .ok (.iconst 0, 1) := by decide +kernel
theorem dq_City_clear_12 : decode gc_City_clear 12 = .ok (.putfield 52, 3) := by decide +kernel
theorem dq_City_clear_15 : decode gc_City_clear 15 = .ok (.aload_n 0, 1) := by decide +kernel
theorem dq_City_clear_16 : decode gc_City_clear 16 = .ok (.iconst 0, 1) := by decide +kernel
theorem dq_City_clear_17 : decode gc_City_clear 17 = .ok (.putfield 55, 3) := by decide +kernel
theorem dq_City_clear_20 : decode gc_City_clear 20 = .ok (.return_, 1) := by decide +kernel
abbrev gm_City_clear : gM := (gc_City_clear, gR_0, 0, 0, 1)
theorem gfp_City_45 : gFp gR_0 45 0 0 .int := ⟨_, _, _, gt_0, rfl, by decide, (gtab_at 26 (by decide +kernel) rfl), gin_0, gto_0, gnm_0, rfl, by decide +kernel⟩
theorem gfp_City_49 : gFp gR_0 49 0 1 .int := ⟨_, _, _, gt_0, rfl, by decide, (gtab_at 29 (by decide +kernel) rfl), gin_0, gto_0, gnm_0, rfl, by decide +kernel⟩
theorem gfp_City_52 : gFp gR_0 52 0 2 .int := ⟨_, _, _, gt_0, rfl, by decide, (gtab_at 34 (by decide +kernel) rfl), gin_0, gto_0, gnm_0, rfl, by decide +kernel⟩
theorem gfp_City_55 : gFp gR_0 55 0 3 .int := ⟨_, _, _, gt_0, rfl, by decide, (gtab_at 39 (by decide +kernel) rfl), gin_0, gto_0, gnm_0, rfl, by decide +kernel⟩
def f_City_clear (t : Nat) (h : gH) : Option gO := gs (gup h t 0 0) (fun h1 => gs (gup h1 t 1 0) (fun h2 => gs (gup h2 t 2 0) (fun h3 => gs (gup h3 t 3 0) (fun h4 => some (h4, 0)))))
theorem c_City_clear {Z : gZ} (hL : gLive Z) (hn : (zL Z).Nodup) {t : Nat} (ht : gsh t = .inr 0) {h : gH} {o : gO} (hg : gRg h) (ha : gRl [.inr (.inr t)]) (hx : f_City_clear t h = some o) : gC Z gy_City_clear gc_City_clear 1 none 0 0 [.inr (.inr t)] h o := by
  unfold f_City_clear at hx
  refine gC_of (lv := [(0, .inr (.inr t))]) (own := gR_0) (by decide +kernel) rfl (Nat.le_of_ble_eq_true rfl) rfl rfl hn hg ha hx (fun X hZ hF => ?_)
  subst hZ
  show gr _ o gm_City_clear X h 0 _ _
  refine gr_aload_n (M := gm_City_clear) dq_City_clear_0 rfl 0 rfl 1 rfl ?_
  refine gr_iconst (M := gm_City_clear) (v := 0) dq_City_clear_1 rfl ⟨by decide, by decide⟩ 2 rfl ?_
  refine gr_puti (M := gm_City_clear) dq_City_clear_2 5 rfl gfp_City_45 ht rfl (gli hL ht) (fun h1 _ => ?_)
  refine gr_aload_n (M := gm_City_clear) dq_City_clear_5 rfl 0 rfl 6 rfl ?_
  refine gr_iconst (M := gm_City_clear) (v := 0) dq_City_clear_6 rfl ⟨by decide, by decide⟩ 7 rfl ?_
  refine gr_puti (M := gm_City_clear) dq_City_clear_7 10 rfl gfp_City_49 ht rfl (gli hL ht) (fun h2 _ => ?_)
  refine gr_aload_n (M := gm_City_clear) dq_City_clear_10 rfl 0 rfl 11 rfl ?_
  refine gr_iconst (M := gm_City_clear) (v := 0) dq_City_clear_11 rfl ⟨by decide, by decide⟩ 12 rfl ?_
  refine gr_puti (M := gm_City_clear) dq_City_clear_12 15 rfl gfp_City_52 ht rfl (gli hL ht) (fun h3 _ => ?_)
  refine gr_aload_n (M := gm_City_clear) dq_City_clear_15 rfl 0 rfl 16 rfl ?_
  refine gr_iconst (M := gm_City_clear) (v := 0) dq_City_clear_16 rfl ⟨by decide, by decide⟩ 17 rfl ?_
  refine gr_puti (M := gm_City_clear) dq_City_clear_17 20 rfl gfp_City_55 ht rfl (gli hL ht) (fun h4 _ => ?_)
  exact gr_return (M := gm_City_clear) dq_City_clear_20 hF

-- City_distance
theorem dq_City_distance_0 : decode gc_City_distance 0 = .ok (.aload_n 0, 1) := by decide +kernel
theorem dq_City_distance_1 : decode gc_City_distance 1 = .ok (.getfield 39, 3) := by decide +kernel
theorem dq_City_distance_4 : decode gc_City_distance 4 = .ok (.iload_n 1, 1) := by decide +kernel
theorem dq_City_distance_5 : decode gc_City_distance 5 = .ok (.bipush 7, 2) := by decide +kernel
theorem dq_City_distance_7 : decode gc_City_distance 7 = .ok (.imul, 1) := by decide +kernel
theorem dq_City_distance_8 : decode gc_City_distance 8 = .ok (.iload_n 2, 1) := by decide +kernel
theorem dq_City_distance_9 : decode gc_City_distance 9 = .ok (.iadd, 1) := by decide +kernel
theorem dq_City_distance_10 : decode gc_City_distance 10 = .ok (.iaload, 1) := by decide +kernel
theorem dq_City_distance_11 : decode gc_City_distance 11 = .ok (.ireturn, 1) := by decide +kernel
abbrev gm_City_distance : gM := (gc_City_distance, gR_0, 0, 0, 3)
theorem gfl_City_39 : gFl gR_0 39 0 13 := ⟨_, _, _, rfl, by decide, (gtab_at 81 (by decide +kernel) rfl), gin_0⟩
def f_City_distance (t : Nat) (a1 : Int) (a2 : Int) (h : gH) : Option gO := gd (gix 49 (gadd (gmul a1 7) a2)) (some (h, (h (t + 10) (gadd (gmul a1 7) a2).toNat)))
theorem c_City_distance {Z : gZ} (hL : gLive Z) (hn : (zL Z).Nodup) {t : Nat} {a1 : Int} {a2 : Int} (ht : gsh t = .inr 0) {h : gH} {o : gO} (hg : gRg h) (ha : gRl [.inr (.inr t), .inl a1, .inl a2]) (hx : f_City_distance t a1 a2 h = some o) : gC Z gy_City_distance gc_City_distance 3 (some .int) 0 0 [.inr (.inr t), .inl a1, .inl a2] h o := by
  unfold f_City_distance at hx
  refine gC_of (lv := [(0, .inr (.inr t)), (1, .inl a1), (2, .inl a2)]) (own := gR_0) (by decide +kernel) rfl (Nat.le_of_ble_eq_true rfl) rfl rfl hn hg ha hx (fun X hZ hF => ?_)
  subst hZ
  show gr _ o gm_City_distance X h 0 _ _
  refine gr_aload_n (M := gm_City_distance) dq_City_distance_0 rfl 0 rfl 1 rfl ?_
  refine gr_getr (M := gm_City_distance) dq_City_distance_1 4 rfl gfl_City_39 ht rfl (gli hL ht) (t + 10) rfl ?_
  refine gr_iload_n (M := gm_City_distance) dq_City_distance_4 rfl 1 rfl 5 rfl ?_
  refine gr_bipush (M := gm_City_distance) (v := 7) dq_City_distance_5 (by decide) ⟨by decide, by decide⟩ 7 rfl ?_
  refine gr_imul (M := gm_City_distance) dq_City_distance_7 8 rfl ?_
  refine gr_iload_n (M := gm_City_distance) dq_City_distance_8 rfl 2 rfl 9 rfl ?_
  refine gr_iadd (M := gm_City_distance) dq_City_distance_9 10 rfl ?_
  refine gr_iald (M := gm_City_distance) dq_City_distance_10 11 rfl (gsC_10 ht) (glj hL (gsC_10 ht) (by decide)) ?_
  exact gr_ireturn (M := gm_City_distance) dq_City_distance_11 hF

-- City_nextStreet
theorem dq_City_nextStreet_0 : decode gc_City_nextStreet 0 = .ok (.aload_n 0, 1) := by decide +kernel
theorem dq_City_nextStreet_1 : decode gc_City_nextStreet 1 = .ok (.getfield 42, 3) := by decide +kernel
theorem dq_City_nextStreet_4 : decode gc_City_nextStreet 4 = .ok (.iload_n 1, 1) := by decide +kernel
theorem dq_City_nextStreet_5 : decode gc_City_nextStreet 5 = .ok (.bipush 7, 2) := by decide +kernel
theorem dq_City_nextStreet_7 : decode gc_City_nextStreet 7 = .ok (.imul, 1) := by decide +kernel
theorem dq_City_nextStreet_8 : decode gc_City_nextStreet 8 = .ok (.iload_n 2, 1) := by decide +kernel
theorem dq_City_nextStreet_9 : decode gc_City_nextStreet 9 = .ok (.iadd, 1) := by decide +kernel
theorem dq_City_nextStreet_10 : decode gc_City_nextStreet 10 = .ok (.iaload, 1) := by decide +kernel
theorem dq_City_nextStreet_11 : decode gc_City_nextStreet 11 = .ok (.ireturn, 1) := by decide +kernel
abbrev gm_City_nextStreet : gM := (gc_City_nextStreet, gR_0, 0, 0, 3)
theorem gfl_City_42 : gFl gR_0 42 0 14 := ⟨_, _, _, rfl, by decide, (gtab_at 82 (by decide +kernel) rfl), gin_0⟩
def f_City_nextStreet (t : Nat) (a1 : Int) (a2 : Int) (h : gH) : Option gO := gd (gix 49 (gadd (gmul a1 7) a2)) (some (h, (h (t + 11) (gadd (gmul a1 7) a2).toNat)))
theorem c_City_nextStreet {Z : gZ} (hL : gLive Z) (hn : (zL Z).Nodup) {t : Nat} {a1 : Int} {a2 : Int} (ht : gsh t = .inr 0) {h : gH} {o : gO} (hg : gRg h) (ha : gRl [.inr (.inr t), .inl a1, .inl a2]) (hx : f_City_nextStreet t a1 a2 h = some o) : gC Z gy_City_nextStreet gc_City_nextStreet 3 (some .int) 0 0 [.inr (.inr t), .inl a1, .inl a2] h o := by
  unfold f_City_nextStreet at hx
  refine gC_of (lv := [(0, .inr (.inr t)), (1, .inl a1), (2, .inl a2)]) (own := gR_0) (by decide +kernel) rfl (Nat.le_of_ble_eq_true rfl) rfl rfl hn hg ha hx (fun X hZ hF => ?_)
  subst hZ
  show gr _ o gm_City_nextStreet X h 0 _ _
  refine gr_aload_n (M := gm_City_nextStreet) dq_City_nextStreet_0 rfl 0 rfl 1 rfl ?_
  refine gr_getr (M := gm_City_nextStreet) dq_City_nextStreet_1 4 rfl gfl_City_42 ht rfl (gli hL ht) (t + 11) rfl ?_
  refine gr_iload_n (M := gm_City_nextStreet) dq_City_nextStreet_4 rfl 1 rfl 5 rfl ?_
  refine gr_bipush (M := gm_City_nextStreet) (v := 7) dq_City_nextStreet_5 (by decide) ⟨by decide, by decide⟩ 7 rfl ?_
  refine gr_imul (M := gm_City_nextStreet) dq_City_nextStreet_7 8 rfl ?_
  refine gr_iload_n (M := gm_City_nextStreet) dq_City_nextStreet_8 rfl 2 rfl 9 rfl ?_
  refine gr_iadd (M := gm_City_nextStreet) dq_City_nextStreet_9 10 rfl ?_
  refine gr_iald (M := gm_City_nextStreet) dq_City_nextStreet_10 11 rfl (gsC_11 ht) (glj hL (gsC_11 ht) (by decide)) ?_
  exact gr_ireturn (M := gm_City_nextStreet) dq_City_nextStreet_11 hF

-- City_otherEnd
theorem dq_City_otherEnd_0 : decode gc_City_otherEnd 0 = .ok (.aload_n 0, 1) := by decide +kernel
theorem dq_City_otherEnd_1 : decode gc_City_otherEnd 1 = .ok (.getfield 11, 3) := by decide +kernel
theorem dq_City_otherEnd_4 : decode gc_City_otherEnd 4 = .ok (.iload_n 1, 1) := by decide +kernel
theorem dq_City_otherEnd_5 : decode gc_City_otherEnd 5 = .ok (.iaload, 1) := by decide +kernel
theorem dq_City_otherEnd_6 : decode gc_City_otherEnd 6 = .ok (.iload_n 2, 1) := by decide +kernel
theorem dq_City_otherEnd_7 : decode gc_City_otherEnd 7 = .ok (.if_icmp .ne 10, 3) := by decide +kernel
theorem dq_City_otherEnd_10 : decode gc_City_otherEnd 10 = .ok (.aload_n 0, 1) := by decide +kernel
theorem dq_City_otherEnd_11 : decode gc_City_otherEnd 11 = .ok (.getfield 15, 3) := by decide +kernel
theorem dq_City_otherEnd_14 : decode gc_City_otherEnd 14 = .ok (.iload_n 1, 1) := by decide +kernel
theorem dq_City_otherEnd_15 : decode gc_City_otherEnd 15 = .ok (.iaload, 1) := by decide +kernel
theorem dq_City_otherEnd_16 : decode gc_City_otherEnd 16 = .ok (.ireturn, 1) := by decide +kernel
theorem dq_City_otherEnd_17 : decode gc_City_otherEnd 17 = .ok (.aload_n 0, 1) := by decide +kernel
theorem dq_City_otherEnd_18 : decode gc_City_otherEnd 18 = .ok (.getfield 15, 3) := by decide +kernel
theorem dq_City_otherEnd_21 : decode gc_City_otherEnd 21 = .ok (.iload_n 1, 1) := by decide +kernel
theorem dq_City_otherEnd_22 : decode gc_City_otherEnd 22 = .ok (.iaload, 1) := by decide +kernel
theorem dq_City_otherEnd_23 : decode gc_City_otherEnd 23 = .ok (.iload_n 2, 1) := by decide +kernel
theorem dq_City_otherEnd_24 : decode gc_City_otherEnd 24 = .ok (.if_icmp .ne 12, 3) := by decide +kernel
theorem dq_City_otherEnd_27 : decode gc_City_otherEnd 27 = .ok (.aload_n 0, 1) := by decide +kernel
theorem dq_City_otherEnd_28 : decode gc_City_otherEnd 28 = .ok (.getfield 11, 3) := by decide +kernel
theorem dq_City_otherEnd_31 : decode gc_City_otherEnd 31 = .ok (.iload_n 1, 1) := by decide +kernel
theorem dq_City_otherEnd_32 : decode gc_City_otherEnd 32 = .ok (.iaload, 1) := by decide +kernel
theorem dq_City_otherEnd_33 : decode gc_City_otherEnd 33 = .ok (.goto 4, 3) := by decide +kernel
theorem dq_City_otherEnd_36 : decode gc_City_otherEnd 36 = .ok (.iconst (-1), 1) := by decide +kernel
theorem dq_City_otherEnd_37 : decode gc_City_otherEnd 37 = .ok (.ireturn, 1) := by decide +kernel
abbrev gm_City_otherEnd : gM := (gc_City_otherEnd, gR_0, 0, 0, 3)
theorem gfl_City_11 : gFl gR_0 11 0 4 := ⟨_, _, _, rfl, by decide, (gtab_at 44 (by decide +kernel) rfl), gin_0⟩
theorem gfl_City_15 : gFl gR_0 15 0 5 := ⟨_, _, _, rfl, by decide, (gtab_at 49 (by decide +kernel) rfl), gin_0⟩
def f_City_otherEnd (t : Nat) (a1 : Int) (a2 : Int) (h : gH) : Option gO := gd (gix 9 a1) (if (h (t + 1) a1.toNat) = a2 then (gd (gix 9 a1) (some (h, (h (t + 2) a1.toNat)))) else (gd (gix 9 a1) (if (h (t + 2) a1.toNat) = a2 then (gd (gix 9 a1) (some (h, (h (t + 1) a1.toNat)))) else (some (h, (-1))))))
theorem c_City_otherEnd {Z : gZ} (hL : gLive Z) (hn : (zL Z).Nodup) {t : Nat} {a1 : Int} {a2 : Int} (ht : gsh t = .inr 0) {h : gH} {o : gO} (hg : gRg h) (ha : gRl [.inr (.inr t), .inl a1, .inl a2]) (hx : f_City_otherEnd t a1 a2 h = some o) : gC Z gy_City_otherEnd gc_City_otherEnd 3 (some .int) 0 0 [.inr (.inr t), .inl a1, .inl a2] h o := by
  unfold f_City_otherEnd at hx
  refine gC_of (lv := [(0, .inr (.inr t)), (1, .inl a1), (2, .inl a2)]) (own := gR_0) (by decide +kernel) rfl (Nat.le_of_ble_eq_true rfl) rfl rfl hn hg ha hx (fun X hZ hF => ?_)
  subst hZ
  show gr _ o gm_City_otherEnd X h 0 _ _
  refine gr_aload_n (M := gm_City_otherEnd) dq_City_otherEnd_0 rfl 0 rfl 1 rfl ?_
  refine gr_getr (M := gm_City_otherEnd) dq_City_otherEnd_1 4 rfl gfl_City_11 ht rfl (gli hL ht) (t + 1) rfl ?_
  refine gr_iload_n (M := gm_City_otherEnd) dq_City_otherEnd_4 rfl 1 rfl 5 rfl ?_
  refine gr_iald (M := gm_City_otherEnd) dq_City_otherEnd_5 6 rfl (gsC_1 ht) (glj hL (gsC_1 ht) (by decide)) ?_
  refine gr_iload_n (M := gm_City_otherEnd) dq_City_otherEnd_6 rfl 2 rfl 7 rfl ?_
  refine gr_icmp_ne (M := gm_City_otherEnd) dq_City_otherEnd_7 17 10 rfl rfl (fun c1 => ?_) (fun c1 => ?_)
  · refine gr_aload_n (M := gm_City_otherEnd) dq_City_otherEnd_17 rfl 0 rfl 18 rfl ?_
    refine gr_getr (M := gm_City_otherEnd) dq_City_otherEnd_18 21 rfl gfl_City_15 ht rfl (gli hL ht) (t + 2) rfl ?_
    refine gr_iload_n (M := gm_City_otherEnd) dq_City_otherEnd_21 rfl 1 rfl 22 rfl ?_
    refine gr_iald (M := gm_City_otherEnd) dq_City_otherEnd_22 23 rfl (gsC_2 ht) (glj hL (gsC_2 ht) (by decide)) ?_
    refine gr_iload_n (M := gm_City_otherEnd) dq_City_otherEnd_23 rfl 2 rfl 24 rfl ?_
    refine gr_icmp_ne (M := gm_City_otherEnd) dq_City_otherEnd_24 36 27 rfl rfl (fun c2 => ?_) (fun c2 => ?_)
    · refine gr_iconst (M := gm_City_otherEnd) (v := (-1)) dq_City_otherEnd_36 rfl ⟨by decide, by decide⟩ 37 rfl ?_
      exact gr_ireturn (M := gm_City_otherEnd) dq_City_otherEnd_37 hF
    refine gr_aload_n (M := gm_City_otherEnd) dq_City_otherEnd_27 rfl 0 rfl 28 rfl ?_
    refine gr_getr (M := gm_City_otherEnd) dq_City_otherEnd_28 31 rfl gfl_City_11 ht rfl (gli hL ht) (t + 1) rfl ?_
    refine gr_iload_n (M := gm_City_otherEnd) dq_City_otherEnd_31 rfl 1 rfl 32 rfl ?_
    refine gr_iald (M := gm_City_otherEnd) dq_City_otherEnd_32 33 rfl (gsC_1 ht) (glj hL (gsC_1 ht) (by decide)) ?_
    refine gr_goto (M := gm_City_otherEnd) dq_City_otherEnd_33 37 rfl ?_
    exact gr_ireturn (M := gm_City_otherEnd) dq_City_otherEnd_37 hF
  refine gr_aload_n (M := gm_City_otherEnd) dq_City_otherEnd_10 rfl 0 rfl 11 rfl ?_
  refine gr_getr (M := gm_City_otherEnd) dq_City_otherEnd_11 14 rfl gfl_City_15 ht rfl (gli hL ht) (t + 2) rfl ?_
  refine gr_iload_n (M := gm_City_otherEnd) dq_City_otherEnd_14 rfl 1 rfl 15 rfl ?_
  refine gr_iald (M := gm_City_otherEnd) dq_City_otherEnd_15 16 rfl (gsC_2 ht) (glj hL (gsC_2 ht) (by decide)) ?_
  exact gr_ireturn (M := gm_City_otherEnd) dq_City_otherEnd_16 hF

-- City_sideOf
theorem dq_City_sideOf_0 : decode gc_City_sideOf 0 = .ok (.aload_n 0, 1) := by decide +kernel
theorem dq_City_sideOf_1 : decode gc_City_sideOf 1 = .ok (.getfield 11, 3) := by decide +kernel
theorem dq_City_sideOf_4 : decode gc_City_sideOf 4 = .ok (.iload_n 1, 1) := by decide +kernel
theorem dq_City_sideOf_5 : decode gc_City_sideOf 5 = .ok (.iaload, 1) := by decide +kernel
theorem dq_City_sideOf_6 : decode gc_City_sideOf 6 = .ok (.iload_n 2, 1) := by decide +kernel
theorem dq_City_sideOf_7 : decode gc_City_sideOf 7 = .ok (.if_icmp .ne 7, 3) := by decide +kernel
theorem dq_City_sideOf_10 : decode gc_City_sideOf 10 = .ok (.iconst 0, 1) := by decide +kernel
theorem dq_City_sideOf_11 : decode gc_City_sideOf 11 = .ok (.goto 4, 3) := by decide +kernel
theorem dq_City_sideOf_14 : decode gc_City_sideOf 14 = .ok (.iconst 1, 1) := by decide +kernel
theorem dq_City_sideOf_15 : decode gc_City_sideOf 15 = .ok (.ireturn, 1) := by decide +kernel
abbrev gm_City_sideOf : gM := (gc_City_sideOf, gR_0, 0, 0, 3)
def f_City_sideOf (t : Nat) (a1 : Int) (a2 : Int) (h : gH) : Option gO := gd (gix 9 a1) (if (h (t + 1) a1.toNat) = a2 then (some (h, 0)) else (some (h, 1)))
theorem c_City_sideOf {Z : gZ} (hL : gLive Z) (hn : (zL Z).Nodup) {t : Nat} {a1 : Int} {a2 : Int} (ht : gsh t = .inr 0) {h : gH} {o : gO} (hg : gRg h) (ha : gRl [.inr (.inr t), .inl a1, .inl a2]) (hx : f_City_sideOf t a1 a2 h = some o) : gC Z gy_City_sideOf gc_City_sideOf 3 (some .int) 0 0 [.inr (.inr t), .inl a1, .inl a2] h o := by
  unfold f_City_sideOf at hx
  refine gC_of (lv := [(0, .inr (.inr t)), (1, .inl a1), (2, .inl a2)]) (own := gR_0) (by decide +kernel) rfl (Nat.le_of_ble_eq_true rfl) rfl rfl hn hg ha hx (fun X hZ hF => ?_)
  subst hZ
  show gr _ o gm_City_sideOf X h 0 _ _
  refine gr_aload_n (M := gm_City_sideOf) dq_City_sideOf_0 rfl 0 rfl 1 rfl ?_
  refine gr_getr (M := gm_City_sideOf) dq_City_sideOf_1 4 rfl gfl_City_11 ht rfl (gli hL ht) (t + 1) rfl ?_
  refine gr_iload_n (M := gm_City_sideOf) dq_City_sideOf_4 rfl 1 rfl 5 rfl ?_
  refine gr_iald (M := gm_City_sideOf) dq_City_sideOf_5 6 rfl (gsC_1 ht) (glj hL (gsC_1 ht) (by decide)) ?_
  refine gr_iload_n (M := gm_City_sideOf) dq_City_sideOf_6 rfl 2 rfl 7 rfl ?_
  refine gr_icmp_ne (M := gm_City_sideOf) dq_City_sideOf_7 14 10 rfl rfl (fun c1 => ?_) (fun c1 => ?_)
  · refine gr_iconst (M := gm_City_sideOf) (v := 1) dq_City_sideOf_14 rfl ⟨by decide, by decide⟩ 15 rfl ?_
    exact gr_ireturn (M := gm_City_sideOf) dq_City_sideOf_15 hF
  refine gr_iconst (M := gm_City_sideOf) (v := 0) dq_City_sideOf_10 rfl ⟨by decide, by decide⟩ 11 rfl ?_
  refine gr_goto (M := gm_City_sideOf) dq_City_sideOf_11 15 rfl ?_
  exact gr_ireturn (M := gm_City_sideOf) dq_City_sideOf_15 hF

-- City_shorten
theorem dq_City_shorten_0 : decode gc_City_shorten 0 = .ok (.iload_n 3, 1) := by decide +kernel
theorem dq_City_shorten_1 : decode gc_City_shorten 1 = .ok (.aload_n 0, 1) := by decide +kernel
theorem dq_City_shorten_2 : decode gc_City_shorten 2 = .ok (.iload_n 1, 1) := by decide +kernel
theorem dq_City_shorten_3 : decode gc_City_shorten 3 = .ok (.iload_n 2, 1) := by decide +kernel
theorem dq_City_shorten_4 : decode gc_City_shorten 4 = .ok (.invokevirtual 62, 3) := by decide +kernel
theorem dq_City_shorten_7 : decode gc_City_shorten 7 = .ok (.if_icmp .ge 15, 3) := by decide +kernel
theorem dq_City_shorten_10 : decode gc_City_shorten 10 = .ok (.aload_n 0, 1) := by decide +kernel
theorem dq_City_shorten_11 : decode gc_City_shorten 11 = .ok (.getfield 39, 3) := by decide +kernel
theorem dq_City_shorten_14 : decode gc_City_shorten 14 = .ok (.iload_n 1, 1) := by decide +kernel
theorem dq_City_shorten_15 : decode gc_City_shorten 15 = .ok (.bipush 7, 2) := by decide +kernel
theorem dq_City_shorten_17 : decode gc_City_shorten 17 = .ok (.imul, 1) := by decide +kernel
theorem dq_City_shorten_18 : decode gc_City_shorten 18 = .ok (.iload_n 2, 1) := by decide +kernel
theorem dq_City_shorten_19 : decode gc_City_shorten 19 = .ok (.iadd, 1) := by decide +kernel
theorem dq_City_shorten_20 : decode gc_City_shorten 20 = .ok (.iload_n 3, 1) := by decide +kernel
theorem dq_City_shorten_21 : decode gc_City_shorten 21 = .ok (.iastore, 1) := by decide +kernel
theorem dq_City_shorten_22 : decode gc_City_shorten 22 = .ok (.return_, 1) := by decide +kernel
abbrev gm_City_shorten : gM := (gc_City_shorten, gR_0, 1, 22, 4)
set_option maxRecDepth 20000 in
theorem gcy_City_62 : gCy gR_0 62 gy_City_distance gc_City_distance 3 (some .int) 2 := ⟨(gtab_at 382 (by decide +kernel) rfl), (gtab_at 2 (by decide +kernel) rfl), (gtab_at 385 rfl rfl), by decide, by decide, by decide +kernel⟩
theorem gim_City_distance : Cond.instanceMethod gy_City_distance ∈ gtbl := (gtab_at 383 (by decide +kernel) rfl)
theorem gse_City_distance : Cond.selects gy_City_distance.cls gy_City_distance gy_City_distance ∈ gtbl := (gtab_at 384 (by decide +kernel) rfl)
def f_City_shorten (t : Nat) (a1 : Int) (a2 : Int) (a3 : Int) (h : gH) : Option gO := gb (f_City_distance t a1 a2 h) (fun h1 r2 => if r2 ≤ a3 then (some (h1, 0)) else (gd (gix 49 (gadd (gmul a1 7) a2)) (gs (gup h1 (t + 10) (gadd (gmul a1 7) a2).toNat a3) (fun h4 => some (h4, 0)))))
theorem c_City_shorten {Z : gZ} (hL : gLive Z) (hn : (zL Z).Nodup) {t : Nat} {a1 : Int} {a2 : Int} {a3 : Int} (ht : gsh t = .inr 0) {h : gH} {o : gO} (hg : gRg h) (ha : gRl [.inr (.inr t), .inl a1, .inl a2, .inl a3]) (hx : f_City_shorten t a1 a2 a3 h = some o) : gC Z gy_City_shorten gc_City_shorten 4 none 1 22 [.inr (.inr t), .inl a1, .inl a2, .inl a3] h o := by
  unfold f_City_shorten at hx
  refine gC_of (lv := [(0, .inr (.inr t)), (1, .inl a1), (2, .inl a2), (3, .inl a3)]) (own := gR_0) (by decide +kernel) rfl (Nat.le_of_ble_eq_true rfl) rfl rfl hn hg ha hx (fun X hZ hF => ?_)
  subst hZ
  show gr _ o gm_City_shorten X h 0 _ _
  refine gr_iload_n (M := gm_City_shorten) dq_City_shorten_0 rfl 3 rfl 1 rfl ?_
  refine gr_aload_n (M := gm_City_shorten) dq_City_shorten_1 rfl 0 rfl 2 rfl ?_
  refine gr_iload_n (M := gm_City_shorten) dq_City_shorten_2 rfl 1 rfl 3 rfl ?_
  refine gr_iload_n (M := gm_City_shorten) dq_City_shorten_3 rfl 2 rfl 4 rfl ?_
  refine gr_callVi (M := gm_City_shorten) (as := [.inl a1, .inl a2]) dq_City_shorten_4 7 rfl rfl gcy_City_62 gim_City_distance gse_City_distance ⟨by decide, by decide⟩ (Nat.le_of_ble_eq_true rfl) ht rfl (gli hL ht) (fun o1 hg ha hx => c_City_distance hL hn ht hg ha hx) (fun h1 r2 _ => ?_)
  refine gr_icmp_ge (M := gm_City_shorten) dq_City_shorten_7 22 10 rfl rfl (fun c3 => ?_) (fun c3 => ?_)
  · exact gr_return (M := gm_City_shorten) dq_City_shorten_22 hF
  refine gr_aload_n (M := gm_City_shorten) dq_City_shorten_10 rfl 0 rfl 11 rfl ?_
  refine gr_getr (M := gm_City_shorten) dq_City_shorten_11 14 rfl gfl_City_39 ht rfl (gli hL ht) (t + 10) rfl ?_
  refine gr_iload_n (M := gm_City_shorten) dq_City_shorten_14 rfl 1 rfl 15 rfl ?_
  refine gr_bipush (M := gm_City_shorten) (v := 7) dq_City_shorten_15 (by decide) ⟨by decide, by decide⟩ 17 rfl ?_
  refine gr_imul (M := gm_City_shorten) dq_City_shorten_17 18 rfl ?_
  refine gr_iload_n (M := gm_City_shorten) dq_City_shorten_18 rfl 2 rfl 19 rfl ?_
  refine gr_iadd (M := gm_City_shorten) dq_City_shorten_19 20 rfl ?_
  refine gr_iload_n (M := gm_City_shorten) dq_City_shorten_20 rfl 3 rfl 21 rfl ?_
  refine gr_iast (M := gm_City_shorten) dq_City_shorten_21 22 rfl (gsC_10 ht) (glj hL (gsC_10 ht) (by decide)) (fun h4 _ => ?_)
  exact gr_return (M := gm_City_shorten) dq_City_shorten_22 hF

-- City_leastNearer
theorem dq_City_leastNearer_0 : decode gc_City_leastNearer 0 = .ok (.aload_n 0, 1) := by decide +kernel
theorem dq_City_leastNearer_1 : decode gc_City_leastNearer 1 = .ok (.iload_n 1, 1) := by decide +kernel
theorem dq_City_leastNearer_2 : decode gc_City_leastNearer 2 = .ok (.iload_n 2, 1) := by decide +kernel
theorem dq_City_leastNearer_3 : decode gc_City_leastNearer 3 = .ok (.invokevirtual 62, 3) := by decide +kernel
theorem dq_City_leastNearer_6 : decode gc_City_leastNearer 6 = .ok (.istore_n 3, 1) := by decide +kernel
theorem dq_City_leastNearer_7 : decode gc_City_leastNearer 7 = .ok (.iload_n 3, 1) := by decide +kernel
theorem dq_City_leastNearer_8 : decode gc_City_leastNearer 8 = .ok (.sipush 1000, 3) := by decide +kernel
theorem dq_City_leastNearer_11 : decode gc_City_leastNearer 11 = .ok (.if_icmp .lt 5, 3) := by decide +kernel
theorem dq_City_leastNearer_14 : decode gc_City_leastNearer 14 = .ok (.iconst (-1), 1) := by decide +kernel
theorem dq_City_leastNearer_15 : decode gc_City_leastNearer 15 = .ok (.ireturn, 1) := by decide +kernel
theorem dq_City_leastNearer_16 : decode gc_City_leastNearer 16 = .ok (.iconst 0, 1) := by decide +kernel
theorem dq_City_leastNearer_17 : decode gc_City_leastNearer 17 = .ok (.istore 4, 2) := by decide +kernel
theorem dq_City_leastNearer_19 : decode gc_City_leastNearer 19 = .ok (.iload 4, 2) := by decide +kernel
theorem dq_City_leastNearer_21 : decode gc_City_leastNearer 21 = .ok (.aload_n 0, 1) := by decide +kernel
theorem dq_City_leastNearer_22 : decode gc_City_leastNearer 22 = .ok (.getfield 52, 3) := by decide +kernel
theorem dq_City_leastNearer_25 : decode gc_City_leastNearer 25 = .ok (.if_icmp .ge 46, 3) := by decide +kernel
theorem dq_City_leastNearer_28 : decode gc_City_leastNearer 28 = .ok (.aload_n 0, 1) := by decide +kernel
theorem dq_City_leastNearer_29 : decode gc_City_leastNearer 29 = .ok (.iload 4, 2) := by decide +kernel
theorem dq_City_leastNearer_31 : decode gc_City_leastNearer 31 = .ok (.iload_n 1, 1) := by decide +kernel
theorem dq_City_leastNearer_32 : decode gc_City_leastNearer 32 = .ok (.invokevirtual 72, 3) := by decide +kernel
theorem dq_City_leastNearer_35 : decode gc_City_leastNearer 35 = .ok (.istore 5, 2) := by decide +kernel
theorem dq_City_leastNearer_37 : decode gc_City_leastNearer 37 = .ok (.iload 5, 2) := by decide +kernel
theorem dq_City_leastNearer_39 : decode gc_City_leastNearer 39 = .ok (.iconst (-1), 1) := by decide +kernel
theorem dq_City_leastNearer_40 : decode gc_City_leastNearer 40 = .ok (.if_icmp .eq 25, 3) := by decide +kernel
theorem dq_City_leastNearer_43 : decode gc_City_leastNearer 43 = .ok (.aload_n 0, 1) := by decide +kernel
theorem dq_City_leastNearer_44 : decode gc_City_leastNearer 44 = .ok (.getfield 18, 3) := by decide +kernel
theorem dq_City_leastNearer_47 : decode gc_City_leastNearer 47 = .ok (.iload 4, 2) := by decide +kernel
theorem dq_City_leastNearer_49 : decode gc_City_leastNearer 49 = .ok (.iaload, 1) := by decide +kernel
theorem dq_City_leastNearer_50 : decode gc_City_leastNearer 50 = .ok (.aload_n 0, 1) := by decide +kernel
theorem dq_City_leastNearer_51 : decode gc_City_leastNearer 51 = .ok (.iload 5, 2) := by decide +kernel
theorem dq_City_leastNearer_53 : decode gc_City_leastNearer 53 = .ok (.iload_n 2, 1) := by decide +kernel
theorem dq_City_leastNearer_54 : decode gc_City_leastNearer 54 = .ok (.invokevirtual 62, 3) := by decide +kernel
theorem dq_City_leastNearer_57 : decode gc_City_leastNearer 57 = .ok (.iadd, 1) := by decide +kernel
theorem dq_City_leastNearer_58 : decode gc_City_leastNearer 58 = .ok (.iload_n 3, 1) := by decide +kernel
theorem dq_City_leastNearer_59 : decode gc_City_leastNearer 59 = .ok (.if_icmp .ne 6, 3) := by decide +kernel
theorem dq_City_leastNearer_62 : decode gc_City_leastNearer 62 = .ok (.iload 4, 2) := by decide +kernel
theorem dq_City_leastNearer_64 : decode gc_City_leastNearer 64 = .ok (.ireturn, 1) := by decide +kernel
theorem dq_City_leastNearer_65 : decode gc_City_leastNearer 65 = .ok (.iinc 4 1, 3) := by decide +kernel
theorem dq_City_leastNearer_68 : decode gc_City_leastNearer 68 = .ok (.goto (-49), 3) := by decide +kernel
theorem dq_City_leastNearer_71 : decode gc_City_leastNearer 71 = .ok (.iconst (-1), 1) := by decide +kernel
theorem dq_City_leastNearer_72 : decode gc_City_leastNearer 72 = .ok (.ireturn, 1) := by decide +kernel
abbrev gm_City_leastNearer : gM := (gc_City_leastNearer, gR_0, 1, 22, 6)
theorem gfl_City_52 : gFl gR_0 52 0 2 := ⟨_, _, _, rfl, by decide, (gtab_at 34 (by decide +kernel) rfl), gin_0⟩
set_option maxRecDepth 20000 in
theorem gcy_City_72 : gCy gR_0 72 gy_City_otherEnd gc_City_otherEnd 3 (some .int) 2 := ⟨(gtab_at 394 (by decide +kernel) rfl), (gtab_at 2 (by decide +kernel) rfl), (gtab_at 397 rfl rfl), by decide, by decide, by decide +kernel⟩
theorem gim_City_otherEnd : Cond.instanceMethod gy_City_otherEnd ∈ gtbl := (gtab_at 395 (by decide +kernel) rfl)
theorem gse_City_otherEnd : Cond.selects gy_City_otherEnd.cls gy_City_otherEnd gy_City_otherEnd ∈ gtbl := (gtab_at 396 (by decide +kernel) rfl)
theorem gfl_City_18 : gFl gR_0 18 0 6 := ⟨_, _, _, rfl, by decide, (gtab_at 54 (by decide +kernel) rfl), gin_0⟩
def f_City_leastNearer_J65 (t : Nat) (k19 : Int → gH → Option gO) (v1 : Int) (v2 : Int) (v3 : Int) (v4 : Int) (h : gH) : Option gO := k19 (gadd v4 1) h
theorem w_City_leastNearer_J65 {o : gO} {X : gX} (hL : gLive (xZ X)) (hn : (zL (xZ X)).Nodup) (hF : gFin X (some .int) o) {t : Nat} (ht : gsh t = .inr 0)  {k19 : Int → gH → Option gO} {v1 : Int} {v2 : Int} {v3 : Int} {v4 : Int} {h : gH} (hk19 : ∀ (v4 : Int) (h : gH), gr (k19 v4 h) o gm_City_leastNearer X h 19 [(0, .inr (.inr t)), (1, .inl v1), (2, .inl v2), (3, .inl v3), (4, .inl v4)] []) : gr (f_City_leastNearer_J65 t k19 v1 v2 v3 v4 h) o gm_City_leastNearer X h 65 [(0, .inr (.inr t)), (1, .inl v1), (2, .inl v2), (3, .inl v3), (4, .inl v4)] [] := by
  unfold f_City_leastNearer_J65
  refine gr_iinc (M := gm_City_leastNearer) (lv' := [(4, .inl (gadd v4 1)), (0, .inr (.inr t)), (1, .inl v1), (2, .inl v2), (3, .inl v3)]) dq_City_leastNearer_65 4 rfl rfl (by decide) rfl 68 rfl ?_
  refine gr_goto (M := gm_City_leastNearer) dq_City_leastNearer_68 19 rfl ?_
  refine gr_sub (M := gm_City_leastNearer) (lv' := [(0, .inr (.inr t)), (1, .inl v1), (2, .inl v2), (3, .inl v3), (4, .inl (gadd v4 1))]) [1, 2, 3, 4, 0] rfl ?_
  exact hk19 _ _

def f_City_leastNearer_L19 (t : Nat) (v1 : Int) (v2 : Int) (v3 : Int) (k71 : gH → Option gO) : Nat → Int → gH → Option gO
  | 0, _, _ => none
  | n + 1, v4, h => if (h t 2) ≤ v4 then (k71  h) else (gb (f_City_otherEnd t v4 v1 h) (fun h5 r6 => if r6 = (-1) then (f_City_leastNearer_J65 t (f_City_leastNearer_L19 t v1 v2 v3 k71 n) v1 v2 v3 v4 h5) else (gd (gix 9 v4) (gb (f_City_distance t r6 v2 h5) (fun h8 r9 => if (gadd (h5 (t + 3) v4.toNat) r9) = v3 then (some (h8, v4)) else (f_City_leastNearer_J65 t (f_City_leastNearer_L19 t v1 v2 v3 k71 n) v1 v2 v3 v4 h8))))))
theorem w_City_leastNearer_L19 {o : gO} {X : gX} (hL : gLive (xZ X)) (hn : (zL (xZ X)).Nodup) (hF : gFin X (some .int) o) {t : Nat} {v1 : Int} {v2 : Int} {v3 : Int} (ht : gsh t = .inr 0)  {k71 : gH → Option gO} (hk71 : ∀ (h : gH), gr (k71 h) o gm_City_leastNearer X h 71 [] []) : ∀ (n : Nat) (v4 : Int) (h : gH), gr (f_City_leastNearer_L19 t v1 v2 v3 k71 n v4 h) o gm_City_leastNearer X h 19 [(0, .inr (.inr t)), (1, .inl v1), (2, .inl v2), (3, .inl v3), (4, .inl v4)] [] := by
  intro n
  induction n with
  | zero => intros; exact gr_none
  | succ n ih =>
    intro v4 h
    unfold f_City_leastNearer_L19
    refine gr_iload (M := gm_City_leastNearer) dq_City_leastNearer_19 4 rfl 21 rfl ?_
    refine gr_aload_n (M := gm_City_leastNearer) dq_City_leastNearer_21 rfl 0 rfl 22 rfl ?_
    refine gr_geti (M := gm_City_leastNearer) dq_City_leastNearer_22 25 rfl gfl_City_52 ht rfl (gli hL ht) ?_
    refine gr_icmp_ge (M := gm_City_leastNearer) dq_City_leastNearer_25 71 28 rfl rfl (fun c4 => ?_) (fun c4 => ?_)
    · refine gr_sub (M := gm_City_leastNearer) (lv' := []) [] rfl ?_
      exact hk71  _
    refine gr_aload_n (M := gm_City_leastNearer) dq_City_leastNearer_28 rfl 0 rfl 29 rfl ?_
    refine gr_iload (M := gm_City_leastNearer) dq_City_leastNearer_29 4 rfl 31 rfl ?_
    refine gr_iload_n (M := gm_City_leastNearer) dq_City_leastNearer_31 rfl 1 rfl 32 rfl ?_
    refine gr_callVi (M := gm_City_leastNearer) (as := [.inl v4, .inl v1]) dq_City_leastNearer_32 35 rfl rfl gcy_City_72 gim_City_otherEnd gse_City_otherEnd ⟨by decide, by decide⟩ (Nat.le_of_ble_eq_true rfl) ht rfl (gli hL ht) (fun o1 hg ha hx => c_City_otherEnd hL hn ht hg ha hx) (fun h5 r6 _ => ?_)
    refine gr_istore (M := gm_City_leastNearer) (kk := 0) (lv' := [(5, .inl r6), (0, .inr (.inr t)), (1, .inl v1), (2, .inl v2), (3, .inl v3), (4, .inl v4)]) dq_City_leastNearer_35 (by decide) rfl 37 rfl ?_
    refine gr_iload (M := gm_City_leastNearer) dq_City_leastNearer_37 0 rfl 39 rfl ?_
    refine gr_iconst (M := gm_City_leastNearer) (v := (-1)) dq_City_leastNearer_39 rfl ⟨by decide, by decide⟩ 40 rfl ?_
    refine gr_icmp_eq (M := gm_City_leastNearer) dq_City_leastNearer_40 65 43 rfl rfl (fun c7 => ?_) (fun c7 => ?_)
    · refine gr_sub (M := gm_City_leastNearer) (lv' := [(0, .inr (.inr t)), (1, .inl v1), (2, .inl v2), (3, .inl v3), (4, .inl v4)]) [1, 2, 3, 4, 5] rfl ?_
      exact w_City_leastNearer_J65 hL hn hF ht  ih
    refine gr_aload_n (M := gm_City_leastNearer) dq_City_leastNearer_43 rfl 1 rfl 44 rfl ?_
    refine gr_getr (M := gm_City_leastNearer) dq_City_leastNearer_44 47 rfl gfl_City_18 ht rfl (gli hL ht) (t + 3) rfl ?_
    refine gr_iload (M := gm_City_leastNearer) dq_City_leastNearer_47 5 rfl 49 rfl ?_
    refine gr_iald (M := gm_City_leastNearer) dq_City_leastNearer_49 50 rfl (gsC_3 ht) (glj hL (gsC_3 ht) (by decide)) ?_
    refine gr_aload_n (M := gm_City_leastNearer) dq_City_leastNearer_50 rfl 1 rfl 51 rfl ?_
    refine gr_iload (M := gm_City_leastNearer) dq_City_leastNearer_51 0 rfl 53 rfl ?_
    refine gr_iload_n (M := gm_City_leastNearer) dq_City_leastNearer_53 rfl 3 rfl 54 rfl ?_
    refine gr_callVi (M := gm_City_leastNearer) (as := [.inl r6, .inl v2]) dq_City_leastNearer_54 57 rfl rfl gcy_City_62 gim_City_distance gse_City_distance ⟨by decide, by decide⟩ (Nat.le_of_ble_eq_true rfl) ht rfl (gli hL ht) (fun o1 hg ha hx => c_City_distance hL hn ht hg ha hx) (fun h8 r9 _ => ?_)
    refine gr_iadd (M := gm_City_leastNearer) dq_City_leastNearer_57 58 rfl ?_
    refine gr_iload_n (M := gm_City_leastNearer) dq_City_leastNearer_58 rfl 4 rfl 59 rfl ?_
    refine gr_icmp_ne (M := gm_City_leastNearer) dq_City_leastNearer_59 65 62 rfl rfl (fun c10 => ?_) (fun c10 => ?_)
    · refine gr_sub (M := gm_City_leastNearer) (lv' := [(0, .inr (.inr t)), (1, .inl v1), (2, .inl v2), (3, .inl v3), (4, .inl v4)]) [1, 2, 3, 4, 5] rfl ?_
      exact w_City_leastNearer_J65 hL hn hF ht  ih
    refine gr_iload (M := gm_City_leastNearer) dq_City_leastNearer_62 5 rfl 64 rfl ?_
    exact gr_ireturn (M := gm_City_leastNearer) dq_City_leastNearer_64 hF

def f_City_leastNearer (t : Nat) (a1 : Int) (a2 : Int) (h : gH) : Option gO := gb (f_City_distance t a1 a2 h) (fun h1 r2 => if r2 < 1000 then (f_City_leastNearer_L19 t a1 a2 r2 (fun  h11 => some (h11, (-1))) 50000 0 h1) else (some (h1, (-1))))
theorem c_City_leastNearer {Z : gZ} (hL : gLive Z) (hn : (zL Z).Nodup) {t : Nat} {a1 : Int} {a2 : Int} (ht : gsh t = .inr 0) {h : gH} {o : gO} (hg : gRg h) (ha : gRl [.inr (.inr t), .inl a1, .inl a2]) (hx : f_City_leastNearer t a1 a2 h = some o) : gC Z gy_City_leastNearer gc_City_leastNearer 6 (some .int) 1 22 [.inr (.inr t), .inl a1, .inl a2] h o := by
  unfold f_City_leastNearer at hx
  refine gC_of (lv := [(0, .inr (.inr t)), (1, .inl a1), (2, .inl a2)]) (own := gR_0) (by decide +kernel) rfl (Nat.le_of_ble_eq_true rfl) rfl rfl hn hg ha hx (fun X hZ hF => ?_)
  subst hZ
  show gr _ o gm_City_leastNearer X h 0 _ _
  refine gr_aload_n (M := gm_City_leastNearer) dq_City_leastNearer_0 rfl 0 rfl 1 rfl ?_
  refine gr_iload_n (M := gm_City_leastNearer) dq_City_leastNearer_1 rfl 1 rfl 2 rfl ?_
  refine gr_iload_n (M := gm_City_leastNearer) dq_City_leastNearer_2 rfl 2 rfl 3 rfl ?_
  refine gr_callVi (M := gm_City_leastNearer) (as := [.inl a1, .inl a2]) dq_City_leastNearer_3 6 rfl rfl gcy_City_62 gim_City_distance gse_City_distance ⟨by decide, by decide⟩ (Nat.le_of_ble_eq_true rfl) ht rfl (gli hL ht) (fun o1 hg ha hx => c_City_distance hL hn ht hg ha hx) (fun h1 r2 _ => ?_)
  refine gr_istore_n (M := gm_City_leastNearer) (lv' := [(3, .inl r2), (0, .inr (.inr t)), (1, .inl a1), (2, .inl a2)]) dq_City_leastNearer_6 rfl (by decide) rfl 7 rfl ?_
  refine gr_iload_n (M := gm_City_leastNearer) dq_City_leastNearer_7 rfl 0 rfl 8 rfl ?_
  refine gr_sipush (M := gm_City_leastNearer) (v := 1000) dq_City_leastNearer_8 (by decide) ⟨by decide, by decide⟩ 11 rfl ?_
  refine gr_icmp_lt (M := gm_City_leastNearer) dq_City_leastNearer_11 16 14 rfl rfl (fun c3 => ?_) (fun c3 => ?_)
  · refine gr_iconst (M := gm_City_leastNearer) (v := 0) dq_City_leastNearer_16 rfl ⟨by decide, by decide⟩ 17 rfl ?_
    refine gr_istore (M := gm_City_leastNearer) (kk := 0) (lv' := [(4, .inl 0), (3, .inl r2), (0, .inr (.inr t)), (1, .inl a1), (2, .inl a2)]) dq_City_leastNearer_17 (by decide) rfl 19 rfl ?_
    refine gr_sub (M := gm_City_leastNearer) (lv' := [(0, .inr (.inr t)), (1, .inl a1), (2, .inl a2), (3, .inl r2), (4, .inl 0)]) [2, 3, 4, 1, 0] rfl ?_
    refine w_City_leastNearer_L19 hL hn hF ht  (fun h11 => ?_) 50000 _ _
    refine gr_iconst (M := gm_City_leastNearer) (v := (-1)) dq_City_leastNearer_71 rfl ⟨by decide, by decide⟩ 72 rfl ?_
    exact gr_ireturn (M := gm_City_leastNearer) dq_City_leastNearer_72 hF
  refine gr_iconst (M := gm_City_leastNearer) (v := (-1)) dq_City_leastNearer_14 rfl ⟨by decide, by decide⟩ 15 rfl ?_
  exact gr_ireturn (M := gm_City_leastNearer) dq_City_leastNearer_15 hF

-- City_lead
theorem dq_City_lead_0 : decode gc_City_lead 0 = .ok (.iconst 0, 1) := by decide +kernel
theorem dq_City_lead_1 : decode gc_City_lead 1 = .ok (.istore_n 1, 1) := by decide +kernel
theorem dq_City_lead_2 : decode gc_City_lead 2 = .ok (.iload_n 1, 1) := by decide +kernel
theorem dq_City_lead_3 : decode gc_City_lead 3 = .ok (.aload_n 0, 1) := by decide +kernel
theorem dq_City_lead_4 : decode gc_City_lead 4 = .ok (.getfield 45, 3) := by decide +kernel
theorem dq_City_lead_7 : decode gc_City_lead 7 = .ok (.if_icmp .ge 42, 3) := by decide +kernel
theorem dq_City_lead_10 : decode gc_City_lead 10 = .ok (.iconst 0, 1) := by decide +kernel
theorem dq_City_lead_11 : decode gc_City_lead 11 = .ok (.istore_n 2, 1) := by decide +kernel
theorem dq_City_lead_12 : decode gc_City_lead 12 = .ok (.iload_n 2, 1) := by decide +kernel
theorem dq_City_lead_13 : decode gc_City_lead 13 = .ok (.aload_n 0, 1) := by decide +kernel
theorem dq_City_lead_14 : decode gc_City_lead 14 = .ok (.getfield 45, 3) := by decide +kernel
theorem dq_City_lead_17 : decode gc_City_lead 17 = .ok (.if_icmp .ge 26, 3) := by decide +kernel
theorem dq_City_lead_20 : decode gc_City_lead 20 = .ok (.aload_n 0, 1) := by decide +kernel
theorem dq_City_lead_21 : decode gc_City_lead 21 = .ok (.getfield 42, 3) := by decide +kernel
theorem dq_City_lead_24 : decode gc_City_lead 24 = .ok (.iload_n 1, 1) := by decide +kernel
theorem dq_City_lead_25 : decode gc_City_lead 25 = .ok (.bipush 7, 2) := by decide +kernel
theorem dq_City_lead_27 : decode gc_City_lead 27 = .ok (.imul, 1) := by decide +kernel
theorem dq_City_lead_28 : decode gc_City_lead 28 = .ok (.iload_n 2, 1) := by decide +kernel
theorem dq_City_lead_29 : decode gc_City_lead 29 = .ok (.iadd, 1) := by decide +kernel
theorem dq_City_lead_30 : decode gc_City_lead 30 = .ok (.aload_n 0, 1) := by decide +kernel
theorem dq_City_lead_31 : decode gc_City_lead 31 = .ok (.iload_n 1, 1) := by decide +kernel
theorem dq_City_lead_32 : decode gc_City_lead 32 = .ok (.iload_n 2, 1) := by decide +kernel
theorem dq_City_lead_33 : decode gc_City_lead 33 = .ok (.invokevirtual 69, 3) := by decide +kernel
theorem dq_City_lead_36 : decode gc_City_lead 36 = .ok (.iastore, 1) := by decide +kernel
theorem dq_City_lead_37 : decode gc_City_lead 37 = .ok (.iinc 2 1, 3) := by decide +kernel
theorem dq_City_lead_40 : decode gc_City_lead 40 = .ok (.goto (-28), 3) := by decide +kernel
theorem dq_City_lead_43 : decode gc_City_lead 43 = .ok (.iinc 1 1, 3) := by decide +kernel
theorem dq_City_lead_46 : decode gc_City_lead 46 = .ok (.goto (-44), 3) := by decide +kernel
theorem dq_City_lead_49 : decode gc_City_lead 49 = .ok (.return_, 1) := by decide +kernel
abbrev gm_City_lead : gM := (gc_City_lead, gR_0, 2, 47, 3)
theorem gfl_City_45 : gFl gR_0 45 0 0 := ⟨_, _, _, rfl, by decide, (gtab_at 26 (by decide +kernel) rfl), gin_0⟩
set_option maxRecDepth 20000 in
theorem gcy_City_69 : gCy gR_0 69 gy_City_leastNearer gc_City_leastNearer 6 (some .int) 2 := ⟨(gtab_at 390 (by decide +kernel) rfl), (gtab_at 2 (by decide +kernel) rfl), (gtab_at 393 rfl rfl), by decide, by decide, by decide +kernel⟩
theorem gim_City_leastNearer : Cond.instanceMethod gy_City_leastNearer ∈ gtbl := (gtab_at 392 (by decide +kernel) rfl)
theorem gse_City_leastNearer : Cond.selects gy_City_leastNearer.cls gy_City_leastNearer gy_City_leastNearer ∈ gtbl := (by decide +kernel)
def f_City_lead_L12 (t : Nat) (v1 : Int) (k43 : gH → Option gO) : Nat → Int → gH → Option gO
  | 0, _, _ => none
  | n + 1, v2, h => if (h t 0) ≤ v2 then (k43  h) else (gb (f_City_leastNearer t v1 v2 h) (fun h3 r4 => gd (gix 49 (gadd (gmul v1 7) v2)) (gs (gup h3 (t + 11) (gadd (gmul v1 7) v2).toNat r4) (fun h5 => f_City_lead_L12 t v1 k43 n (gadd v2 1) h5))))
theorem w_City_lead_L12 {o : gO} {X : gX} (hL : gLive (xZ X)) (hn : (zL (xZ X)).Nodup) (hF : gFin X none o) {t : Nat} {v1 : Int} (ht : gsh t = .inr 0)  {k43 : gH → Option gO} (hk43 : ∀ (h : gH), gr (k43 h) o gm_City_lead X h 43 [(0, .inr (.inr t)), (1, .inl v1)] []) : ∀ (n : Nat) (v2 : Int) (h : gH), gr (f_City_lead_L12 t v1 k43 n v2 h) o gm_City_lead X h 12 [(0, .inr (.inr t)), (1, .inl v1), (2, .inl v2)] [] := by
  intro n
  induction n with
  | zero => intros; exact gr_none
  | succ n ih =>
    intro v2 h
    unfold f_City_lead_L12
    refine gr_iload_n (M := gm_City_lead) dq_City_lead_12 rfl 2 rfl 13 rfl ?_
    refine gr_aload_n (M := gm_City_lead) dq_City_lead_13 rfl 0 rfl 14 rfl ?_
    refine gr_geti (M := gm_City_lead) dq_City_lead_14 17 rfl gfl_City_45 ht rfl (gli hL ht) ?_
    refine gr_icmp_ge (M := gm_City_lead) dq_City_lead_17 43 20 rfl rfl (fun c2 => ?_) (fun c2 => ?_)
    · refine gr_sub (M := gm_City_lead) (lv' := [(0, .inr (.inr t)), (1, .inl v1)]) [0, 1] rfl ?_
      exact hk43  _
    refine gr_aload_n (M := gm_City_lead) dq_City_lead_20 rfl 0 rfl 21 rfl ?_
    refine gr_getr (M := gm_City_lead) dq_City_lead_21 24 rfl gfl_City_42 ht rfl (gli hL ht) (t + 11) rfl ?_
    refine gr_iload_n (M := gm_City_lead) dq_City_lead_24 rfl 1 rfl 25 rfl ?_
    refine gr_bipush (M := gm_City_lead) (v := 7) dq_City_lead_25 (by decide) ⟨by decide, by decide⟩ 27 rfl ?_
    refine gr_imul (M := gm_City_lead) dq_City_lead_27 28 rfl ?_
    refine gr_iload_n (M := gm_City_lead) dq_City_lead_28 rfl 2 rfl 29 rfl ?_
    refine gr_iadd (M := gm_City_lead) dq_City_lead_29 30 rfl ?_
    refine gr_aload_n (M := gm_City_lead) dq_City_lead_30 rfl 0 rfl 31 rfl ?_
    refine gr_iload_n (M := gm_City_lead) dq_City_lead_31 rfl 1 rfl 32 rfl ?_
    refine gr_iload_n (M := gm_City_lead) dq_City_lead_32 rfl 2 rfl 33 rfl ?_
    refine gr_callVi (M := gm_City_lead) (as := [.inl v1, .inl v2]) dq_City_lead_33 36 rfl rfl gcy_City_69 gim_City_leastNearer gse_City_leastNearer ⟨by decide, by decide⟩ (Nat.le_of_ble_eq_true rfl) ht rfl (gli hL ht) (fun o1 hg ha hx => c_City_leastNearer hL hn ht hg ha hx) (fun h3 r4 _ => ?_)
    refine gr_iast (M := gm_City_lead) dq_City_lead_36 37 rfl (gsC_11 ht) (glj hL (gsC_11 ht) (by decide)) (fun h5 _ => ?_)
    refine gr_iinc (M := gm_City_lead) (lv' := [(2, .inl (gadd v2 1)), (0, .inr (.inr t)), (1, .inl v1)]) dq_City_lead_37 2 rfl rfl (by decide) rfl 40 rfl ?_
    refine gr_goto (M := gm_City_lead) dq_City_lead_40 12 rfl ?_
    refine gr_sub (M := gm_City_lead) (lv' := [(0, .inr (.inr t)), (1, .inl v1), (2, .inl (gadd v2 1))]) [1, 2, 0] rfl ?_
    exact ih _ _

def f_City_lead_L2 (t : Nat) (k49 : gH → Option gO) : Nat → Int → gH → Option gO
  | 0, _, _ => none
  | n + 1, v1, h => if (h t 0) ≤ v1 then (k49  h) else (f_City_lead_L12 t v1 (fun  h6 => f_City_lead_L2 t k49 n (gadd v1 1) h6) 50000 0 h)
theorem w_City_lead_L2 {o : gO} {X : gX} (hL : gLive (xZ X)) (hn : (zL (xZ X)).Nodup) (hF : gFin X none o) {t : Nat} (ht : gsh t = .inr 0)  {k49 : gH → Option gO} (hk49 : ∀ (h : gH), gr (k49 h) o gm_City_lead X h 49 [] []) : ∀ (n : Nat) (v1 : Int) (h : gH), gr (f_City_lead_L2 t k49 n v1 h) o gm_City_lead X h 2 [(0, .inr (.inr t)), (1, .inl v1)] [] := by
  intro n
  induction n with
  | zero => intros; exact gr_none
  | succ n ih =>
    intro v1 h
    unfold f_City_lead_L2
    refine gr_iload_n (M := gm_City_lead) dq_City_lead_2 rfl 1 rfl 3 rfl ?_
    refine gr_aload_n (M := gm_City_lead) dq_City_lead_3 rfl 0 rfl 4 rfl ?_
    refine gr_geti (M := gm_City_lead) dq_City_lead_4 7 rfl gfl_City_45 ht rfl (gli hL ht) ?_
    refine gr_icmp_ge (M := gm_City_lead) dq_City_lead_7 49 10 rfl rfl (fun c1 => ?_) (fun c1 => ?_)
    · refine gr_sub (M := gm_City_lead) (lv' := []) [] rfl ?_
      exact hk49  _
    refine gr_iconst (M := gm_City_lead) (v := 0) dq_City_lead_10 rfl ⟨by decide, by decide⟩ 11 rfl ?_
    refine gr_istore_n (M := gm_City_lead) (lv' := [(2, .inl 0), (0, .inr (.inr t)), (1, .inl v1)]) dq_City_lead_11 rfl (by decide) rfl 12 rfl ?_
    refine gr_sub (M := gm_City_lead) (lv' := [(0, .inr (.inr t)), (1, .inl v1), (2, .inl 0)]) [1, 2, 0] rfl ?_
    refine w_City_lead_L12 hL hn hF ht  (fun h6 => ?_) 50000 _ _
    refine gr_iinc (M := gm_City_lead) (lv' := [(1, .inl (gadd v1 1)), (0, .inr (.inr t))]) dq_City_lead_43 1 rfl rfl (by decide) rfl 46 rfl ?_
    refine gr_goto (M := gm_City_lead) dq_City_lead_46 2 rfl ?_
    refine gr_sub (M := gm_City_lead) (lv' := [(0, .inr (.inr t)), (1, .inl (gadd v1 1))]) [1, 0] rfl ?_
    exact ih _ _

def f_City_lead (t : Nat) (h : gH) : Option gO := f_City_lead_L2 t (fun  h7 => some (h7, 0)) 50000 0 h
theorem c_City_lead {Z : gZ} (hL : gLive Z) (hn : (zL Z).Nodup) {t : Nat} (ht : gsh t = .inr 0) {h : gH} {o : gO} (hg : gRg h) (ha : gRl [.inr (.inr t)]) (hx : f_City_lead t h = some o) : gC Z gy_City_lead gc_City_lead 3 none 2 47 [.inr (.inr t)] h o := by
  unfold f_City_lead at hx
  refine gC_of (lv := [(0, .inr (.inr t))]) (own := gR_0) (by decide +kernel) rfl (Nat.le_of_ble_eq_true rfl) rfl rfl hn hg ha hx (fun X hZ hF => ?_)
  subst hZ
  show gr _ o gm_City_lead X h 0 _ _
  refine gr_iconst (M := gm_City_lead) (v := 0) dq_City_lead_0 rfl ⟨by decide, by decide⟩ 1 rfl ?_
  refine gr_istore_n (M := gm_City_lead) (lv' := [(1, .inl 0), (0, .inr (.inr t))]) dq_City_lead_1 rfl (by decide) rfl 2 rfl ?_
  refine gr_sub (M := gm_City_lead) (lv' := [(0, .inr (.inr t)), (1, .inl 0)]) [1, 0] rfl ?_
  refine w_City_lead_L2 hL hn hF ht  (fun h7 => ?_) 50000 _ _
  exact gr_return (M := gm_City_lead) dq_City_lead_49 hF

-- City_measure
theorem dq_City_measure_0 : decode gc_City_measure 0 = .ok (.iconst 0, 1) := by decide +kernel
theorem dq_City_measure_1 : decode gc_City_measure 1 = .ok (.istore_n 1, 1) := by decide +kernel
theorem dq_City_measure_2 : decode gc_City_measure 2 = .ok (.iload_n 1, 1) := by decide +kernel
theorem dq_City_measure_3 : decode gc_City_measure 3 = .ok (.aload_n 0, 1) := by decide +kernel
theorem dq_City_measure_4 : decode gc_City_measure 4 = .ok (.getfield 45, 3) := by decide +kernel
theorem dq_City_measure_7 : decode gc_City_measure 7 = .ok (.if_icmp .ge 48, 3) := by decide +kernel
theorem dq_City_measure_10 : decode gc_City_measure 10 = .ok (.iconst 0, 1) := by decide +kernel
theorem dq_City_measure_11 : decode gc_City_measure 11 = .ok (.istore_n 2, 1) := by decide +kernel
theorem dq_City_measure_12 : decode gc_City_measure 12 = .ok (.iload_n 2, 1) := by decide +kernel
theorem dq_City_measure_13 : decode gc_City_measure 13 = .ok (.aload_n 0, 1) := by decide +kernel
theorem dq_City_measure_14 : decode gc_City_measure 14 = .ok (.getfield 45, 3) := by decide +kernel
theorem dq_City_measure_17 : decode gc_City_measure 17 = .ok (.if_icmp .ge 32, 3) := by decide +kernel
theorem dq_City_measure_20 : decode gc_City_measure 20 = .ok (.aload_n 0, 1) := by decide +kernel
theorem dq_City_measure_21 : decode gc_City_measure 21 = .ok (.getfield 39, 3) := by decide +kernel
theorem dq_City_measure_24 : decode gc_City_measure 24 = .ok (.iload_n 1, 1) := by decide +kernel
theorem dq_City_measure_25 : decode gc_City_measure 25 = .ok (.bipush 7, 2) := by decide +kernel
theorem dq_City_measure_27 : decode gc_City_measure 27 = .ok (.imul, 1) := by decide +kernel
theorem dq_City_measure_28 : decode gc_City_measure 28 = .ok (.iload_n 2, 1) := by decide +kernel
theorem dq_City_measure_29 : decode gc_City_measure 29 = .ok (.iadd, 1) := by decide +kernel
theorem dq_City_measure_30 : decode gc_City_measure 30 = .ok (.iload_n 1, 1) := by decide +kernel
theorem dq_City_measure_31 : decode gc_City_measure 31 = .ok (.iload_n 2, 1) := by decide +kernel
theorem dq_City_measure_32 : decode gc_City_measure 32 = .ok (.if_icmp .ne 7, 3) := by decide +kernel
theorem dq_City_measure_35 : decode gc_City_measure 35 = .ok (.iconst 0, 1) := by decide +kernel
theorem dq_City_measure_36 : decode gc_City_measure 36 = .ok (.goto 6, 3) := by decide +kernel
theorem dq_City_measure_39 : decode gc_City_measure 39 = .ok (.sipush 1000, 3) := by decide +kernel
theorem dq_City_measure_42 : decode gc_City_measure 42 = .ok (.iastore, 1) := by decide +kernel
theorem dq_City_measure_43 : decode gc_City_measure 43 = .ok (.iinc 2 1, 3) := by decide +kernel
theorem dq_City_measure_46 : decode gc_City_measure 46 = .ok (.goto (-34), 3) := by decide +kernel
theorem dq_City_measure_49 : decode gc_City_measure 49 = .ok (.iinc 1 1, 3) := by decide +kernel
theorem dq_City_measure_52 : decode gc_City_measure 52 = .ok (.goto (-50), 3) := by decide +kernel
theorem dq_City_measure_55 : decode gc_City_measure 55 = .ok (.iconst 0, 1) := by decide +kernel
theorem dq_City_measure_56 : decode gc_City_measure 56 = .ok (.istore_n 1, 1) := by decide +kernel
theorem dq_City_measure_57 : decode gc_City_measure 57 = .ok (.iload_n 1, 1) := by decide +kernel
theorem dq_City_measure_58 : decode gc_City_measure 58 = .ok (.aload_n 0, 1) := by decide +kernel
theorem dq_City_measure_59 : decode gc_City_measure 59 = .ok (.getfield 52, 3) := by decide +kernel
theorem dq_City_measure_62 : decode gc_City_measure 62 = .ok (.if_icmp .ge 53, 3) := by decide +kernel
theorem dq_City_measure_65 : decode gc_City_measure 65 = .ok (.aload_n 0, 1) := by decide +kernel
theorem dq_City_measure_66 : decode gc_City_measure 66 = .ok (.aload_n 0, 1) := by decide +kernel
theorem dq_City_measure_67 : decode gc_City_measure 67 = .ok (.getfield 11, 3) := by decide +kernel
theorem dq_City_measure_70 : decode gc_City_measure 70 = .ok (.iload_n 1, 1) := by decide +kernel
theorem dq_City_measure_71 : decode gc_City_measure 71 = .ok (.iaload, 1) := by decide +kernel
theorem dq_City_measure_72 : decode gc_City_measure 72 = .ok (.aload_n 0, 1) := by decide +kernel
theorem dq_City_measure_73 : decode gc_City_measure 73 = .ok (.getfield 15, 3) := by decide +kernel
theorem dq_City_measure_76 : decode gc_City_measure 76 = .ok (.iload_n 1, 1) := by decide +kernel
theorem dq_City_measure_77 : decode gc_City_measure 77 = .ok (.iaload, 1) := by decide +kernel
theorem dq_City_measure_78 : decode gc_City_measure 78 = .ok (.aload_n 0, 1) := by decide +kernel
theorem dq_City_measure_79 : decode gc_City_measure 79 = .ok (.getfield 18, 3) := by decide +kernel
theorem dq_City_measure_82 : decode gc_City_measure 82 = .ok (.iload_n 1, 1) := by decide +kernel
theorem dq_City_measure_83 : decode gc_City_measure 83 = .ok (.iaload, 1) := by decide +kernel
theorem dq_City_measure_84 : decode gc_City_measure 84 = .ok (.invokevirtual 58, 3) := by decide +kernel
theorem dq_City_measure_87 : decode gc_City_measure 87 = .ok (.aload_n 0, 1) := by decide +kernel
theorem dq_City_measure_88 : decode gc_City_measure 88 = .ok (.aload_n 0, 1) := by decide +kernel
theorem dq_City_measure_89 : decode gc_City_measure 89 = .ok (.getfield 15, 3) := by decide +kernel
theorem dq_City_measure_92 : decode gc_City_measure 92 = .ok (.iload_n 1, 1) := by decide +kernel
theorem dq_City_measure_93 : decode gc_City_measure 93 = .ok (.iaload, 1) := by decide +kernel
theorem dq_City_measure_94 : decode gc_City_measure 94 = .ok (.aload_n 0, 1) := by decide +kernel
theorem dq_City_measure_95 : decode gc_City_measure 95 = .ok (.getfield 11, 3) := by decide +kernel
theorem dq_City_measure_98 : decode gc_City_measure 98 = .ok (.iload_n 1, 1) := by decide +kernel
theorem dq_City_measure_99 : decode gc_City_measure 99 = .ok (.iaload, 1) := by decide +kernel
theorem dq_City_measure_100 : decode gc_City_measure 100 = .ok (.aload_n 0, 1) := by decide +kernel
theorem dq_City_measure_101 : decode gc_City_measure 101 = .ok (.getfield 18, 3) := by decide +kernel
theorem dq_City_measure_104 : decode gc_City_measure 104 = .ok (.iload_n 1, 1) := by decide +kernel
theorem dq_City_measure_105 : decode gc_City_measure 105 = .ok (.iaload, 1) := by decide +kernel
theorem dq_City_measure_106 : decode gc_City_measure 106 = .ok (.invokevirtual 58, 3) := by decide +kernel
theorem dq_City_measure_109 : decode gc_City_measure 109 = .ok (.iinc 1 1, 3) := by decide +kernel
theorem dq_City_measure_112 : decode gc_City_measure 112 = .ok (.goto (-55), 3) := by decide +kernel
theorem dq_City_measure_115 : decode gc_City_measure 115 = .ok (.iconst 0, 1) := by decide +kernel
theorem dq_City_measure_116 : decode gc_City_measure 116 = .ok (.istore_n 1, 1) := by decide +kernel
theorem dq_City_measure_117 : decode gc_City_measure 117 = .ok (.iload_n 1, 1) := by decide +kernel
theorem dq_City_measure_118 : decode gc_City_measure 118 = .ok (.aload_n 0, 1) := by decide +kernel
theorem dq_City_measure_119 : decode gc_City_measure 119 = .ok (.getfield 45, 3) := by decide +kernel
theorem dq_City_measure_122 : decode gc_City_measure 122 = .ok (.if_icmp .ge 60, 3) := by decide +kernel
theorem dq_City_measure_125 : decode gc_City_measure 125 = .ok (.iconst 0, 1) := by decide +kernel
theorem dq_City_measure_126 : decode gc_City_measure 126 = .ok (.istore_n 2, 1) := by decide +kernel
theorem dq_City_measure_127 : decode gc_City_measure 127 = .ok (.iload_n 2, 1) := by decide +kernel
theorem dq_City_measure_128 : decode gc_City_measure 128 = .ok (.aload_n 0, 1) := by decide +kernel
theorem dq_City_measure_129 : decode gc_City_measure 129 = .ok (.getfield 45, 3) := by decide +kernel
theorem dq_City_measure_132 : decode gc_City_measure 132 = .ok (.if_icmp .ge 44, 3) := by decide +kernel
theorem dq_City_measure_135 : decode gc_City_measure 135 = .ok (.iconst 0, 1) := by decide +kernel
theorem dq_City_measure_136 : decode gc_City_measure 136 = .ok (.istore_n 3, 1) := by decide +kernel
theorem dq_City_measure_137 : decode gc_City_measure 137 = .ok (.iload_n 3, 1) := by decide +kernel
theorem dq_City_measure_138 : decode gc_City_measure 138 = .ok (.aload_n 0, 1) := by decide +kernel
theorem dq_City_measure_139 : decode gc_City_measure 139 = .ok (.getfield 45, 3) := by decide +kernel
theorem dq_City_measure_142 : decode gc_City_measure 142 = .ok (.if_icmp .ge 28, 3) := by decide +kernel
theorem dq_City_measure_145 : decode gc_City_measure 145 = .ok (.aload_n 0, 1) := by decide +kernel
theorem dq_City_measure_146 : decode gc_City_measure 146 = .ok (.iload_n 2, 1) := by decide +kernel
theorem dq_City_measure_147 : decode gc_City_measure 147 = .ok (.iload_n 3, 1) := by decide +kernel
theorem dq_City_measure_148 : decode gc_City_measure 148 = .ok (.aload_n 0, 1) := by decide +kernel
theorem dq_City_measure_149 : decode gc_City_measure 149 = .ok (.iload_n 2, 1) := by decide +kernel
theorem dq_City_measure_150 : decode gc_City_measure 150 = .ok (.iload_n 1, 1) := by decide +kernel
theorem dq_City_measure_151 : decode gc_City_measure 151 = .ok (.invokevirtual 62, 3) := by decide +kernel
theorem dq_City_measure_154 : decode gc_City_measure 154 = .ok (.aload_n 0, 1) := by decide +kernel
theorem dq_City_measure_155 : decode gc_City_measure 155 = .ok (.iload_n 1, 1) := by decide +kernel
theorem dq_City_measure_156 : decode gc_City_measure 156 = .ok (.iload_n 3, 1) := by decide +kernel
theorem dq_City_measure_157 : decode gc_City_measure 157 = .ok (.invokevirtual 62, 3) := by decide +kernel
theorem dq_City_measure_160 : decode gc_City_measure 160 = .ok (.iadd, 1) := by decide +kernel
theorem dq_City_measure_161 : decode gc_City_measure 161 = .ok (.invokevirtual 58, 3) := by decide +kernel
theorem dq_City_measure_164 : decode gc_City_measure 164 = .ok (.iinc 3 1, 3) := by decide +kernel
theorem dq_City_measure_167 : decode gc_City_measure 167 = .ok (.goto (-30), 3) := by decide +kernel
theorem dq_City_measure_170 : decode gc_City_measure 170 = .ok (.iinc 2 1, 3) := by decide +kernel
theorem dq_City_measure_173 : decode gc_City_measure 173 = .ok (.goto (-46), 3) := by decide +kernel
theorem dq_City_measure_176 : decode gc_City_measure 176 = .ok (.iinc 1 1, 3) := by decide +kernel
theorem dq_City_measure_179 : decode gc_City_measure 179 = .ok (.goto (-62), 3) := by decide +kernel
theorem dq_City_measure_182 : decode gc_City_measure 182 = .ok (.aload_n 0, 1) := by decide +kernel
theorem dq_City_measure_183 : decode gc_City_measure 183 = .ok (.invokevirtual 66, 3) := by decide +kernel
theorem dq_City_measure_186 : decode gc_City_measure 186 = .ok (.return_, 1) := by decide +kernel
abbrev gm_City_measure : gM := (gc_City_measure, gR_0, 3, 69, 4)
set_option maxRecDepth 20000 in
theorem gcy_City_58 : gCy gR_0 58 gy_City_shorten gc_City_shorten 4 none 3 := ⟨(gtab_at 378 (by decide +kernel) rfl), (gtab_at 2 (by decide +kernel) rfl), (gtab_at 381 rfl rfl), by decide, by decide, by decide +kernel⟩
theorem gim_City_shorten : Cond.instanceMethod gy_City_shorten ∈ gtbl := (gtab_at 380 (by decide +kernel) rfl)
theorem gse_City_shorten : Cond.selects gy_City_shorten.cls gy_City_shorten gy_City_shorten ∈ gtbl := (by decide +kernel)
set_option maxRecDepth 20000 in
theorem gcy_City_66 : gCy gR_0 66 gy_City_lead gc_City_lead 3 none 0 := ⟨(gtab_at 386 (by decide +kernel) rfl), (gtab_at 2 (by decide +kernel) rfl), (gtab_at 389 rfl rfl), by decide, by decide, by decide +kernel⟩
theorem gim_City_lead : Cond.instanceMethod gy_City_lead ∈ gtbl := (gtab_at 388 (by decide +kernel) rfl)
theorem gse_City_lead : Cond.selects gy_City_lead.cls gy_City_lead gy_City_lead ∈ gtbl := (by decide +kernel)
def f_City_measure_J42 (t : Nat) (k12 : Int → gH → Option gO) (v1 : Int) (v2 : Int) (s2 : Int) (s1 : Int) (h : gH) : Option gO := gd (gix 49 s1) (gs (gup h (t + 10) s1.toNat s2) (fun h4 => k12 (gadd v2 1) h4))
theorem w_City_measure_J42 {o : gO} {X : gX} (hL : gLive (xZ X)) (hn : (zL (xZ X)).Nodup) (hF : gFin X none o) {t : Nat} (ht : gsh t = .inr 0)  {k12 : Int → gH → Option gO} {v1 : Int} {v2 : Int} {s2 : Int} {s1 : Int} {h : gH} (hk12 : ∀ (v2 : Int) (h : gH), gr (k12 v2 h) o gm_City_measure X h 12 [(0, .inr (.inr t)), (1, .inl v1), (2, .inl v2)] []) : gr (f_City_measure_J42 t k12 v1 v2 s2 s1 h) o gm_City_measure X h 42 [(0, .inr (.inr t)), (1, .inl v1), (2, .inl v2)] [.inl s2, .inl s1, .inr (.inr (t + 10))] := by
  unfold f_City_measure_J42
  refine gr_iast (M := gm_City_measure) dq_City_measure_42 43 rfl (gsC_10 ht) (glj hL (gsC_10 ht) (by decide)) (fun h4 _ => ?_)
  refine gr_iinc (M := gm_City_measure) (lv' := [(2, .inl (gadd v2 1)), (0, .inr (.inr t)), (1, .inl v1)]) dq_City_measure_43 2 rfl rfl (by decide) rfl 46 rfl ?_
  refine gr_goto (M := gm_City_measure) dq_City_measure_46 12 rfl ?_
  refine gr_sub (M := gm_City_measure) (lv' := [(0, .inr (.inr t)), (1, .inl v1), (2, .inl (gadd v2 1))]) [1, 2, 0] rfl ?_
  exact hk12 _ _

def f_City_measure_L12 (t : Nat) (v1 : Int) (k49 : gH → Option gO) : Nat → Int → gH → Option gO
  | 0, _, _ => none
  | n + 1, v2, h => if (h t 0) ≤ v2 then (k49  h) else (if v1 = v2 then (f_City_measure_J42 t (f_City_measure_L12 t v1 k49 n) v1 v2 0 (gadd (gmul v1 7) v2) h) else (f_City_measure_J42 t (f_City_measure_L12 t v1 k49 n) v1 v2 1000 (gadd (gmul v1 7) v2) h))
theorem w_City_measure_L12 {o : gO} {X : gX} (hL : gLive (xZ X)) (hn : (zL (xZ X)).Nodup) (hF : gFin X none o) {t : Nat} {v1 : Int} (ht : gsh t = .inr 0)  {k49 : gH → Option gO} (hk49 : ∀ (h : gH), gr (k49 h) o gm_City_measure X h 49 [(0, .inr (.inr t)), (1, .inl v1)] []) : ∀ (n : Nat) (v2 : Int) (h : gH), gr (f_City_measure_L12 t v1 k49 n v2 h) o gm_City_measure X h 12 [(0, .inr (.inr t)), (1, .inl v1), (2, .inl v2)] [] := by
  intro n
  induction n with
  | zero => intros; exact gr_none
  | succ n ih =>
    intro v2 h
    unfold f_City_measure_L12
    refine gr_iload_n (M := gm_City_measure) dq_City_measure_12 rfl 2 rfl 13 rfl ?_
    refine gr_aload_n (M := gm_City_measure) dq_City_measure_13 rfl 0 rfl 14 rfl ?_
    refine gr_geti (M := gm_City_measure) dq_City_measure_14 17 rfl gfl_City_45 ht rfl (gli hL ht) ?_
    refine gr_icmp_ge (M := gm_City_measure) dq_City_measure_17 49 20 rfl rfl (fun c2 => ?_) (fun c2 => ?_)
    · refine gr_sub (M := gm_City_measure) (lv' := [(0, .inr (.inr t)), (1, .inl v1)]) [0, 1] rfl ?_
      exact hk49  _
    refine gr_aload_n (M := gm_City_measure) dq_City_measure_20 rfl 0 rfl 21 rfl ?_
    refine gr_getr (M := gm_City_measure) dq_City_measure_21 24 rfl gfl_City_39 ht rfl (gli hL ht) (t + 10) rfl ?_
    refine gr_iload_n (M := gm_City_measure) dq_City_measure_24 rfl 1 rfl 25 rfl ?_
    refine gr_bipush (M := gm_City_measure) (v := 7) dq_City_measure_25 (by decide) ⟨by decide, by decide⟩ 27 rfl ?_
    refine gr_imul (M := gm_City_measure) dq_City_measure_27 28 rfl ?_
    refine gr_iload_n (M := gm_City_measure) dq_City_measure_28 rfl 2 rfl 29 rfl ?_
    refine gr_iadd (M := gm_City_measure) dq_City_measure_29 30 rfl ?_
    refine gr_iload_n (M := gm_City_measure) dq_City_measure_30 rfl 1 rfl 31 rfl ?_
    refine gr_iload_n (M := gm_City_measure) dq_City_measure_31 rfl 2 rfl 32 rfl ?_
    refine gr_icmp_ne (M := gm_City_measure) dq_City_measure_32 39 35 rfl rfl (fun c3 => ?_) (fun c3 => ?_)
    · refine gr_sipush (M := gm_City_measure) (v := 1000) dq_City_measure_39 (by decide) ⟨by decide, by decide⟩ 42 rfl ?_
      exact w_City_measure_J42 hL hn hF ht  ih
    refine gr_iconst (M := gm_City_measure) (v := 0) dq_City_measure_35 rfl ⟨by decide, by decide⟩ 36 rfl ?_
    refine gr_goto (M := gm_City_measure) dq_City_measure_36 42 rfl ?_
    exact w_City_measure_J42 hL hn hF ht  ih

def f_City_measure_L2 (t : Nat) (k55 : gH → Option gO) : Nat → Int → gH → Option gO
  | 0, _, _ => none
  | n + 1, v1, h => if (h t 0) ≤ v1 then (k55  h) else (f_City_measure_L12 t v1 (fun  h5 => f_City_measure_L2 t k55 n (gadd v1 1) h5) 50000 0 h)
theorem w_City_measure_L2 {o : gO} {X : gX} (hL : gLive (xZ X)) (hn : (zL (xZ X)).Nodup) (hF : gFin X none o) {t : Nat} (ht : gsh t = .inr 0)  {k55 : gH → Option gO} (hk55 : ∀ (h : gH), gr (k55 h) o gm_City_measure X h 55 [(0, .inr (.inr t))] []) : ∀ (n : Nat) (v1 : Int) (h : gH), gr (f_City_measure_L2 t k55 n v1 h) o gm_City_measure X h 2 [(0, .inr (.inr t)), (1, .inl v1)] [] := by
  intro n
  induction n with
  | zero => intros; exact gr_none
  | succ n ih =>
    intro v1 h
    unfold f_City_measure_L2
    refine gr_iload_n (M := gm_City_measure) dq_City_measure_2 rfl 1 rfl 3 rfl ?_
    refine gr_aload_n (M := gm_City_measure) dq_City_measure_3 rfl 0 rfl 4 rfl ?_
    refine gr_geti (M := gm_City_measure) dq_City_measure_4 7 rfl gfl_City_45 ht rfl (gli hL ht) ?_
    refine gr_icmp_ge (M := gm_City_measure) dq_City_measure_7 55 10 rfl rfl (fun c1 => ?_) (fun c1 => ?_)
    · refine gr_sub (M := gm_City_measure) (lv' := [(0, .inr (.inr t))]) [0] rfl ?_
      exact hk55  _
    refine gr_iconst (M := gm_City_measure) (v := 0) dq_City_measure_10 rfl ⟨by decide, by decide⟩ 11 rfl ?_
    refine gr_istore_n (M := gm_City_measure) (lv' := [(2, .inl 0), (0, .inr (.inr t)), (1, .inl v1)]) dq_City_measure_11 rfl (by decide) rfl 12 rfl ?_
    refine gr_sub (M := gm_City_measure) (lv' := [(0, .inr (.inr t)), (1, .inl v1), (2, .inl 0)]) [1, 2, 0] rfl ?_
    refine w_City_measure_L12 hL hn hF ht  (fun h5 => ?_) 50000 _ _
    refine gr_iinc (M := gm_City_measure) (lv' := [(1, .inl (gadd v1 1)), (0, .inr (.inr t))]) dq_City_measure_49 1 rfl rfl (by decide) rfl 52 rfl ?_
    refine gr_goto (M := gm_City_measure) dq_City_measure_52 2 rfl ?_
    refine gr_sub (M := gm_City_measure) (lv' := [(0, .inr (.inr t)), (1, .inl (gadd v1 1))]) [1, 0] rfl ?_
    exact ih _ _

def f_City_measure_L57 (t : Nat) (k115 : gH → Option gO) : Nat → Int → gH → Option gO
  | 0, _, _ => none
  | n + 1, v1, h => if (h t 2) ≤ v1 then (k115  h) else (gd (gix 9 v1) (gd (gix 9 v1) (gd (gix 9 v1) (gb (f_City_shorten t (h (t + 1) v1.toNat) (h (t + 2) v1.toNat) (h (t + 3) v1.toNat) h) (fun h8 r9 => gd (gix 9 v1) (gd (gix 9 v1) (gd (gix 9 v1) (gb (f_City_shorten t (h8 (t + 2) v1.toNat) (h8 (t + 1) v1.toNat) (h8 (t + 3) v1.toNat) h8) (fun h10 r11 => f_City_measure_L57 t k115 n (gadd v1 1) h10)))))))))
theorem w_City_measure_L57 {o : gO} {X : gX} (hL : gLive (xZ X)) (hn : (zL (xZ X)).Nodup) (hF : gFin X none o) {t : Nat} (ht : gsh t = .inr 0)  {k115 : gH → Option gO} (hk115 : ∀ (h : gH), gr (k115 h) o gm_City_measure X h 115 [(0, .inr (.inr t))] []) : ∀ (n : Nat) (v1 : Int) (h : gH), gr (f_City_measure_L57 t k115 n v1 h) o gm_City_measure X h 57 [(0, .inr (.inr t)), (1, .inl v1)] [] := by
  intro n
  induction n with
  | zero => intros; exact gr_none
  | succ n ih =>
    intro v1 h
    unfold f_City_measure_L57
    refine gr_iload_n (M := gm_City_measure) dq_City_measure_57 rfl 1 rfl 58 rfl ?_
    refine gr_aload_n (M := gm_City_measure) dq_City_measure_58 rfl 0 rfl 59 rfl ?_
    refine gr_geti (M := gm_City_measure) dq_City_measure_59 62 rfl gfl_City_52 ht rfl (gli hL ht) ?_
    refine gr_icmp_ge (M := gm_City_measure) dq_City_measure_62 115 65 rfl rfl (fun c7 => ?_) (fun c7 => ?_)
    · refine gr_sub (M := gm_City_measure) (lv' := [(0, .inr (.inr t))]) [0] rfl ?_
      exact hk115  _
    refine gr_aload_n (M := gm_City_measure) dq_City_measure_65 rfl 0 rfl 66 rfl ?_
    refine gr_aload_n (M := gm_City_measure) dq_City_measure_66 rfl 0 rfl 67 rfl ?_
    refine gr_getr (M := gm_City_measure) dq_City_measure_67 70 rfl gfl_City_11 ht rfl (gli hL ht) (t + 1) rfl ?_
    refine gr_iload_n (M := gm_City_measure) dq_City_measure_70 rfl 1 rfl 71 rfl ?_
    refine gr_iald (M := gm_City_measure) dq_City_measure_71 72 rfl (gsC_1 ht) (glj hL (gsC_1 ht) (by decide)) ?_
    refine gr_aload_n (M := gm_City_measure) dq_City_measure_72 rfl 0 rfl 73 rfl ?_
    refine gr_getr (M := gm_City_measure) dq_City_measure_73 76 rfl gfl_City_15 ht rfl (gli hL ht) (t + 2) rfl ?_
    refine gr_iload_n (M := gm_City_measure) dq_City_measure_76 rfl 1 rfl 77 rfl ?_
    refine gr_iald (M := gm_City_measure) dq_City_measure_77 78 rfl (gsC_2 ht) (glj hL (gsC_2 ht) (by decide)) ?_
    refine gr_aload_n (M := gm_City_measure) dq_City_measure_78 rfl 0 rfl 79 rfl ?_
    refine gr_getr (M := gm_City_measure) dq_City_measure_79 82 rfl gfl_City_18 ht rfl (gli hL ht) (t + 3) rfl ?_
    refine gr_iload_n (M := gm_City_measure) dq_City_measure_82 rfl 1 rfl 83 rfl ?_
    refine gr_iald (M := gm_City_measure) dq_City_measure_83 84 rfl (gsC_3 ht) (glj hL (gsC_3 ht) (by decide)) ?_
    refine gr_callVv (M := gm_City_measure) (as := [.inl (h (t + 1) v1.toNat), .inl (h (t + 2) v1.toNat), .inl (h (t + 3) v1.toNat)]) dq_City_measure_84 87 rfl rfl gcy_City_58 gim_City_shorten gse_City_shorten ⟨by decide, by decide⟩ (Nat.le_of_ble_eq_true rfl) ht rfl (gli hL ht) (fun o1 hg ha hx => c_City_shorten hL hn ht hg ha hx) (fun h8 r9 _ => ?_)
    refine gr_aload_n (M := gm_City_measure) dq_City_measure_87 rfl 0 rfl 88 rfl ?_
    refine gr_aload_n (M := gm_City_measure) dq_City_measure_88 rfl 0 rfl 89 rfl ?_
    refine gr_getr (M := gm_City_measure) dq_City_measure_89 92 rfl gfl_City_15 ht rfl (gli hL ht) (t + 2) rfl ?_
    refine gr_iload_n (M := gm_City_measure) dq_City_measure_92 rfl 1 rfl 93 rfl ?_
    refine gr_iald (M := gm_City_measure) dq_City_measure_93 94 rfl (gsC_2 ht) (glj hL (gsC_2 ht) (by decide)) ?_
    refine gr_aload_n (M := gm_City_measure) dq_City_measure_94 rfl 0 rfl 95 rfl ?_
    refine gr_getr (M := gm_City_measure) dq_City_measure_95 98 rfl gfl_City_11 ht rfl (gli hL ht) (t + 1) rfl ?_
    refine gr_iload_n (M := gm_City_measure) dq_City_measure_98 rfl 1 rfl 99 rfl ?_
    refine gr_iald (M := gm_City_measure) dq_City_measure_99 100 rfl (gsC_1 ht) (glj hL (gsC_1 ht) (by decide)) ?_
    refine gr_aload_n (M := gm_City_measure) dq_City_measure_100 rfl 0 rfl 101 rfl ?_
    refine gr_getr (M := gm_City_measure) dq_City_measure_101 104 rfl gfl_City_18 ht rfl (gli hL ht) (t + 3) rfl ?_
    refine gr_iload_n (M := gm_City_measure) dq_City_measure_104 rfl 1 rfl 105 rfl ?_
    refine gr_iald (M := gm_City_measure) dq_City_measure_105 106 rfl (gsC_3 ht) (glj hL (gsC_3 ht) (by decide)) ?_
    refine gr_callVv (M := gm_City_measure) (as := [.inl (h8 (t + 2) v1.toNat), .inl (h8 (t + 1) v1.toNat), .inl (h8 (t + 3) v1.toNat)]) dq_City_measure_106 109 rfl rfl gcy_City_58 gim_City_shorten gse_City_shorten ⟨by decide, by decide⟩ (Nat.le_of_ble_eq_true rfl) ht rfl (gli hL ht) (fun o1 hg ha hx => c_City_shorten hL hn ht hg ha hx) (fun h10 r11 _ => ?_)
    refine gr_iinc (M := gm_City_measure) (lv' := [(1, .inl (gadd v1 1)), (0, .inr (.inr t))]) dq_City_measure_109 1 rfl rfl (by decide) rfl 112 rfl ?_
    refine gr_goto (M := gm_City_measure) dq_City_measure_112 57 rfl ?_
    refine gr_sub (M := gm_City_measure) (lv' := [(0, .inr (.inr t)), (1, .inl (gadd v1 1))]) [1, 0] rfl ?_
    exact ih _ _

def f_City_measure_L137 (t : Nat) (v1 : Int) (v2 : Int) (k170 : gH → Option gO) : Nat → Int → gH → Option gO
  | 0, _, _ => none
  | n + 1, v3, h => if (h t 0) ≤ v3 then (k170  h) else (gb (f_City_distance t v2 v1 h) (fun h16 r17 => gb (f_City_distance t v1 v3 h16) (fun h18 r19 => gb (f_City_shorten t v2 v3 (gadd r17 r19) h18) (fun h20 r21 => f_City_measure_L137 t v1 v2 k170 n (gadd v3 1) h20))))
theorem w_City_measure_L137 {o : gO} {X : gX} (hL : gLive (xZ X)) (hn : (zL (xZ X)).Nodup) (hF : gFin X none o) {t : Nat} {v1 : Int} {v2 : Int} (ht : gsh t = .inr 0)  {k170 : gH → Option gO} (hk170 : ∀ (h : gH), gr (k170 h) o gm_City_measure X h 170 [(0, .inr (.inr t)), (1, .inl v1), (2, .inl v2)] []) : ∀ (n : Nat) (v3 : Int) (h : gH), gr (f_City_measure_L137 t v1 v2 k170 n v3 h) o gm_City_measure X h 137 [(0, .inr (.inr t)), (1, .inl v1), (2, .inl v2), (3, .inl v3)] [] := by
  intro n
  induction n with
  | zero => intros; exact gr_none
  | succ n ih =>
    intro v3 h
    unfold f_City_measure_L137
    refine gr_iload_n (M := gm_City_measure) dq_City_measure_137 rfl 3 rfl 138 rfl ?_
    refine gr_aload_n (M := gm_City_measure) dq_City_measure_138 rfl 0 rfl 139 rfl ?_
    refine gr_geti (M := gm_City_measure) dq_City_measure_139 142 rfl gfl_City_45 ht rfl (gli hL ht) ?_
    refine gr_icmp_ge (M := gm_City_measure) dq_City_measure_142 170 145 rfl rfl (fun c15 => ?_) (fun c15 => ?_)
    · refine gr_sub (M := gm_City_measure) (lv' := [(0, .inr (.inr t)), (1, .inl v1), (2, .inl v2)]) [0, 1, 2] rfl ?_
      exact hk170  _
    refine gr_aload_n (M := gm_City_measure) dq_City_measure_145 rfl 0 rfl 146 rfl ?_
    refine gr_iload_n (M := gm_City_measure) dq_City_measure_146 rfl 2 rfl 147 rfl ?_
    refine gr_iload_n (M := gm_City_measure) dq_City_measure_147 rfl 3 rfl 148 rfl ?_
    refine gr_aload_n (M := gm_City_measure) dq_City_measure_148 rfl 0 rfl 149 rfl ?_
    refine gr_iload_n (M := gm_City_measure) dq_City_measure_149 rfl 2 rfl 150 rfl ?_
    refine gr_iload_n (M := gm_City_measure) dq_City_measure_150 rfl 1 rfl 151 rfl ?_
    refine gr_callVi (M := gm_City_measure) (as := [.inl v2, .inl v1]) dq_City_measure_151 154 rfl rfl gcy_City_62 gim_City_distance gse_City_distance ⟨by decide, by decide⟩ (Nat.le_of_ble_eq_true rfl) ht rfl (gli hL ht) (fun o1 hg ha hx => c_City_distance hL hn ht hg ha hx) (fun h16 r17 _ => ?_)
    refine gr_aload_n (M := gm_City_measure) dq_City_measure_154 rfl 0 rfl 155 rfl ?_
    refine gr_iload_n (M := gm_City_measure) dq_City_measure_155 rfl 1 rfl 156 rfl ?_
    refine gr_iload_n (M := gm_City_measure) dq_City_measure_156 rfl 3 rfl 157 rfl ?_
    refine gr_callVi (M := gm_City_measure) (as := [.inl v1, .inl v3]) dq_City_measure_157 160 rfl rfl gcy_City_62 gim_City_distance gse_City_distance ⟨by decide, by decide⟩ (Nat.le_of_ble_eq_true rfl) ht rfl (gli hL ht) (fun o1 hg ha hx => c_City_distance hL hn ht hg ha hx) (fun h18 r19 _ => ?_)
    refine gr_iadd (M := gm_City_measure) dq_City_measure_160 161 rfl ?_
    refine gr_callVv (M := gm_City_measure) (as := [.inl v2, .inl v3, .inl (gadd r17 r19)]) dq_City_measure_161 164 rfl rfl gcy_City_58 gim_City_shorten gse_City_shorten ⟨by decide, by decide⟩ (Nat.le_of_ble_eq_true rfl) ht rfl (gli hL ht) (fun o1 hg ha hx => c_City_shorten hL hn ht hg ha hx) (fun h20 r21 _ => ?_)
    refine gr_iinc (M := gm_City_measure) (lv' := [(3, .inl (gadd v3 1)), (0, .inr (.inr t)), (1, .inl v1), (2, .inl v2)]) dq_City_measure_164 3 rfl rfl (by decide) rfl 167 rfl ?_
    refine gr_goto (M := gm_City_measure) dq_City_measure_167 137 rfl ?_
    refine gr_sub (M := gm_City_measure) (lv' := [(0, .inr (.inr t)), (1, .inl v1), (2, .inl v2), (3, .inl (gadd v3 1))]) [1, 2, 3, 0] rfl ?_
    exact ih _ _

def f_City_measure_L127 (t : Nat) (v1 : Int) (k176 : gH → Option gO) : Nat → Int → gH → Option gO
  | 0, _, _ => none
  | n + 1, v2, h => if (h t 0) ≤ v2 then (k176  h) else (f_City_measure_L137 t v1 v2 (fun  h22 => f_City_measure_L127 t v1 k176 n (gadd v2 1) h22) 50000 0 h)
theorem w_City_measure_L127 {o : gO} {X : gX} (hL : gLive (xZ X)) (hn : (zL (xZ X)).Nodup) (hF : gFin X none o) {t : Nat} {v1 : Int} (ht : gsh t = .inr 0)  {k176 : gH → Option gO} (hk176 : ∀ (h : gH), gr (k176 h) o gm_City_measure X h 176 [(0, .inr (.inr t)), (1, .inl v1)] []) : ∀ (n : Nat) (v2 : Int) (h : gH), gr (f_City_measure_L127 t v1 k176 n v2 h) o gm_City_measure X h 127 [(0, .inr (.inr t)), (1, .inl v1), (2, .inl v2)] [] := by
  intro n
  induction n with
  | zero => intros; exact gr_none
  | succ n ih =>
    intro v2 h
    unfold f_City_measure_L127
    refine gr_iload_n (M := gm_City_measure) dq_City_measure_127 rfl 2 rfl 128 rfl ?_
    refine gr_aload_n (M := gm_City_measure) dq_City_measure_128 rfl 0 rfl 129 rfl ?_
    refine gr_geti (M := gm_City_measure) dq_City_measure_129 132 rfl gfl_City_45 ht rfl (gli hL ht) ?_
    refine gr_icmp_ge (M := gm_City_measure) dq_City_measure_132 176 135 rfl rfl (fun c14 => ?_) (fun c14 => ?_)
    · refine gr_sub (M := gm_City_measure) (lv' := [(0, .inr (.inr t)), (1, .inl v1)]) [0, 1] rfl ?_
      exact hk176  _
    refine gr_iconst (M := gm_City_measure) (v := 0) dq_City_measure_135 rfl ⟨by decide, by decide⟩ 136 rfl ?_
    refine gr_istore_n (M := gm_City_measure) (lv' := [(3, .inl 0), (0, .inr (.inr t)), (1, .inl v1), (2, .inl v2)]) dq_City_measure_136 rfl (by decide) rfl 137 rfl ?_
    refine gr_sub (M := gm_City_measure) (lv' := [(0, .inr (.inr t)), (1, .inl v1), (2, .inl v2), (3, .inl 0)]) [1, 2, 3, 0] rfl ?_
    refine w_City_measure_L137 hL hn hF ht  (fun h22 => ?_) 50000 _ _
    refine gr_iinc (M := gm_City_measure) (lv' := [(2, .inl (gadd v2 1)), (0, .inr (.inr t)), (1, .inl v1)]) dq_City_measure_170 2 rfl rfl (by decide) rfl 173 rfl ?_
    refine gr_goto (M := gm_City_measure) dq_City_measure_173 127 rfl ?_
    refine gr_sub (M := gm_City_measure) (lv' := [(0, .inr (.inr t)), (1, .inl v1), (2, .inl (gadd v2 1))]) [1, 2, 0] rfl ?_
    exact ih _ _

def f_City_measure_L117 (t : Nat) (k182 : gH → Option gO) : Nat → Int → gH → Option gO
  | 0, _, _ => none
  | n + 1, v1, h => if (h t 0) ≤ v1 then (k182  h) else (f_City_measure_L127 t v1 (fun  h23 => f_City_measure_L117 t k182 n (gadd v1 1) h23) 50000 0 h)
theorem w_City_measure_L117 {o : gO} {X : gX} (hL : gLive (xZ X)) (hn : (zL (xZ X)).Nodup) (hF : gFin X none o) {t : Nat} (ht : gsh t = .inr 0)  {k182 : gH → Option gO} (hk182 : ∀ (h : gH), gr (k182 h) o gm_City_measure X h 182 [(0, .inr (.inr t))] []) : ∀ (n : Nat) (v1 : Int) (h : gH), gr (f_City_measure_L117 t k182 n v1 h) o gm_City_measure X h 117 [(0, .inr (.inr t)), (1, .inl v1)] [] := by
  intro n
  induction n with
  | zero => intros; exact gr_none
  | succ n ih =>
    intro v1 h
    unfold f_City_measure_L117
    refine gr_iload_n (M := gm_City_measure) dq_City_measure_117 rfl 1 rfl 118 rfl ?_
    refine gr_aload_n (M := gm_City_measure) dq_City_measure_118 rfl 0 rfl 119 rfl ?_
    refine gr_geti (M := gm_City_measure) dq_City_measure_119 122 rfl gfl_City_45 ht rfl (gli hL ht) ?_
    refine gr_icmp_ge (M := gm_City_measure) dq_City_measure_122 182 125 rfl rfl (fun c13 => ?_) (fun c13 => ?_)
    · refine gr_sub (M := gm_City_measure) (lv' := [(0, .inr (.inr t))]) [0] rfl ?_
      exact hk182  _
    refine gr_iconst (M := gm_City_measure) (v := 0) dq_City_measure_125 rfl ⟨by decide, by decide⟩ 126 rfl ?_
    refine gr_istore_n (M := gm_City_measure) (lv' := [(2, .inl 0), (0, .inr (.inr t)), (1, .inl v1)]) dq_City_measure_126 rfl (by decide) rfl 127 rfl ?_
    refine gr_sub (M := gm_City_measure) (lv' := [(0, .inr (.inr t)), (1, .inl v1), (2, .inl 0)]) [1, 2, 0] rfl ?_
    refine w_City_measure_L127 hL hn hF ht  (fun h23 => ?_) 50000 _ _
    refine gr_iinc (M := gm_City_measure) (lv' := [(1, .inl (gadd v1 1)), (0, .inr (.inr t))]) dq_City_measure_176 1 rfl rfl (by decide) rfl 179 rfl ?_
    refine gr_goto (M := gm_City_measure) dq_City_measure_179 117 rfl ?_
    refine gr_sub (M := gm_City_measure) (lv' := [(0, .inr (.inr t)), (1, .inl (gadd v1 1))]) [1, 0] rfl ?_
    exact ih _ _

def f_City_measure (t : Nat) (h : gH) : Option gO := f_City_measure_L2 t (fun  h6 => f_City_measure_L57 t (fun  h12 => f_City_measure_L117 t (fun  h24 => gb (f_City_lead t h24) (fun h25 r26 => some (h25, 0))) 50000 0 h12) 50000 0 h6) 50000 0 h
theorem c_City_measure {Z : gZ} (hL : gLive Z) (hn : (zL Z).Nodup) {t : Nat} (ht : gsh t = .inr 0) {h : gH} {o : gO} (hg : gRg h) (ha : gRl [.inr (.inr t)]) (hx : f_City_measure t h = some o) : gC Z gy_City_measure gc_City_measure 4 none 3 69 [.inr (.inr t)] h o := by
  unfold f_City_measure at hx
  refine gC_of (lv := [(0, .inr (.inr t))]) (own := gR_0) (by decide +kernel) rfl (Nat.le_of_ble_eq_true rfl) rfl rfl hn hg ha hx (fun X hZ hF => ?_)
  subst hZ
  show gr _ o gm_City_measure X h 0 _ _
  refine gr_iconst (M := gm_City_measure) (v := 0) dq_City_measure_0 rfl ⟨by decide, by decide⟩ 1 rfl ?_
  refine gr_istore_n (M := gm_City_measure) (lv' := [(1, .inl 0), (0, .inr (.inr t))]) dq_City_measure_1 rfl (by decide) rfl 2 rfl ?_
  refine gr_sub (M := gm_City_measure) (lv' := [(0, .inr (.inr t)), (1, .inl 0)]) [1, 0] rfl ?_
  refine w_City_measure_L2 hL hn hF ht  (fun h6 => ?_) 50000 _ _
  refine gr_iconst (M := gm_City_measure) (v := 0) dq_City_measure_55 rfl ⟨by decide, by decide⟩ 56 rfl ?_
  refine gr_istore_n (M := gm_City_measure) (lv' := [(1, .inl 0), (0, .inr (.inr t))]) dq_City_measure_56 rfl (by decide) rfl 57 rfl ?_
  refine gr_sub (M := gm_City_measure) (lv' := [(0, .inr (.inr t)), (1, .inl 0)]) [1, 0] rfl ?_
  refine w_City_measure_L57 hL hn hF ht  (fun h12 => ?_) 50000 _ _
  refine gr_iconst (M := gm_City_measure) (v := 0) dq_City_measure_115 rfl ⟨by decide, by decide⟩ 116 rfl ?_
  refine gr_istore_n (M := gm_City_measure) (lv' := [(1, .inl 0), (0, .inr (.inr t))]) dq_City_measure_116 rfl (by decide) rfl 117 rfl ?_
  refine gr_sub (M := gm_City_measure) (lv' := [(0, .inr (.inr t)), (1, .inl 0)]) [1, 0] rfl ?_
  refine w_City_measure_L117 hL hn hF ht  (fun h24 => ?_) 50000 _ _
  refine gr_aload_n (M := gm_City_measure) dq_City_measure_182 rfl 0 rfl 183 rfl ?_
  refine gr_callVv (M := gm_City_measure) (as := []) dq_City_measure_183 186 rfl rfl gcy_City_66 gim_City_lead gse_City_lead ⟨by decide, by decide⟩ (Nat.le_of_ble_eq_true rfl) ht rfl (gli hL ht) (fun o1 hg ha hx => c_City_lead hL hn ht hg ha hx) (fun h25 r26 _ => ?_)
  exact gr_return (M := gm_City_measure) dq_City_measure_186 hF

