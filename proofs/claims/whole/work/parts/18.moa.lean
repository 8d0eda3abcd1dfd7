-- Mo_in
theorem dq_Mo_in_0 : decode gc_Mo_in 0 = .ok (.lload_n 0, 1) := by decide +kernel
theorem dq_Mo_in_1 : decode gc_Mo_in 1 = .ok (.lload_n 2, 1) := by decide +kernel
theorem dq_Mo_in_2 : decode gc_Mo_in 2 = .ok (.lcmp, 1) := by decide +kernel
theorem dq_Mo_in_3 : decode gc_Mo_in 3 = .ok (.ifCond .lt 14, 3) := by decide +kernel
theorem dq_Mo_in_6 : decode gc_Mo_in 6 = .ok (.lload_n 0, 1) := by decide +kernel
theorem dq_Mo_in_7 : decode gc_Mo_in 7 = .ok (.lload 4, 2) := by decide +kernel
theorem dq_Mo_in_9 : decode gc_Mo_in 9 = .ok (.lcmp, 1) := by decide +kernel
theorem dq_Mo_in_10 : decode gc_Mo_in 10 = .ok (.ifCond .gt 7, 3) := by decide +kernel
theorem dq_Mo_in_13 : decode gc_Mo_in 13 = .ok (.iconst 1, 1) := by decide +kernel
theorem dq_Mo_in_14 : decode gc_Mo_in 14 = .ok (.goto 4, 3) := by decide +kernel
theorem dq_Mo_in_17 : decode gc_Mo_in 17 = .ok (.iconst 0, 1) := by decide +kernel
theorem dq_Mo_in_18 : decode gc_Mo_in 18 = .ok (.ireturn, 1) := by decide +kernel
abbrev gm_Mo_in : gM := (gc_Mo_in, gR_7, 0, 0, 6)
def f_Mo_in (a0 : Int) (a2 : Int) (a4 : Int) (h : gH) : Option gO := if (glcmp a0 a2) < 0 then (gd (gz 0) (some (h, 0))) else (if 0 < (glcmp a0 a4) then (gd (gz 0) (some (h, 0))) else (gd (gz 1) (some (h, 1))))
theorem c_Mo_in {Z : gZ} (hL : gLive Z) (hn : (zL Z).Nodup) {a0 : Int} {a2 : Int} {a4 : Int}  {h : gH} {o : gO} (hg : gRg h) (ha : gRl [.inr (.inl a0), .inr (.inl a2), .inr (.inl a4)]) (hx : f_Mo_in a0 a2 a4 h = some o) : gC Z gy_Mo_in gc_Mo_in 6 (some .boolean) 0 0 [.inr (.inl a0), .inr (.inl a2), .inr (.inl a4)] h o := by
  unfold f_Mo_in at hx
  refine gC_of (lv := [(0, .inr (.inl a0)), (2, .inr (.inl a2)), (4, .inr (.inl a4))]) (own := gR_7) (by decide +kernel) rfl (Nat.le_of_ble_eq_true rfl) rfl rfl hn hg ha hx (fun X hZ hF => ?_)
  subst hZ
  show gr _ o gm_Mo_in X h 0 _ _
  refine gr_lload_n (M := gm_Mo_in) dq_Mo_in_0 rfl 0 rfl 1 rfl ?_
  refine gr_lload_n (M := gm_Mo_in) dq_Mo_in_1 rfl 1 rfl 2 rfl ?_
  refine gr_lcmp (M := gm_Mo_in) dq_Mo_in_2 3 rfl ?_
  refine gr_if_lt (M := gm_Mo_in) dq_Mo_in_3 17 6 rfl rfl (fun c1 => ?_) (fun c1 => ?_)
  · refine gr_iconst (M := gm_Mo_in) (v := 0) dq_Mo_in_17 rfl ⟨by decide, by decide⟩ 18 rfl ?_
    exact gr_zreturn (M := gm_Mo_in) dq_Mo_in_18 hF
  refine gr_lload_n (M := gm_Mo_in) dq_Mo_in_6 rfl 0 rfl 7 rfl ?_
  refine gr_lload (M := gm_Mo_in) dq_Mo_in_7 2 rfl 9 rfl ?_
  refine gr_lcmp (M := gm_Mo_in) dq_Mo_in_9 10 rfl ?_
  refine gr_if_gt (M := gm_Mo_in) dq_Mo_in_10 17 13 rfl rfl (fun c2 => ?_) (fun c2 => ?_)
  · refine gr_iconst (M := gm_Mo_in) (v := 0) dq_Mo_in_17 rfl ⟨by decide, by decide⟩ 18 rfl ?_
    exact gr_zreturn (M := gm_Mo_in) dq_Mo_in_18 hF
  refine gr_iconst (M := gm_Mo_in) (v := 1) dq_Mo_in_13 rfl ⟨by decide, by decide⟩ 14 rfl ?_
  refine gr_goto (M := gm_Mo_in) dq_Mo_in_14 18 rfl ?_
  exact gr_zreturn (M := gm_Mo_in) dq_Mo_in_18 hF

-- Mo_isCorner
theorem dq_Mo_isCorner_0 : decode gc_Mo_isCorner 0 = .ok (.iload_n 1, 1) := by decide +kernel
theorem dq_Mo_isCorner_1 : decode gc_Mo_isCorner 1 = .ok (.i2l, 1) := by decide +kernel
theorem dq_Mo_isCorner_2 : decode gc_Mo_isCorner 2 = .ok (.lconst 0, 1) := by decide +kernel
theorem dq_Mo_isCorner_3 : decode gc_Mo_isCorner 3 = .ok (.aload_n 0, 1) := by decide +kernel
theorem dq_Mo_isCorner_4 : decode gc_Mo_isCorner 4 = .ok (.getfield 114, 3) := by decide +kernel
theorem dq_Mo_isCorner_7 : decode gc_Mo_isCorner 7 = .ok (.iconst 1, 1) := by decide +kernel
theorem dq_Mo_isCorner_8 : decode gc_Mo_isCorner 8 = .ok (.isub, 1) := by decide +kernel
theorem dq_Mo_isCorner_9 : decode gc_Mo_isCorner 9 = .ok (.i2l, 1) := by decide +kernel
theorem dq_Mo_isCorner_10 : decode gc_Mo_isCorner 10 = .ok (.invokestatic 117, 3) := by decide +kernel
theorem dq_Mo_isCorner_13 : decode gc_Mo_isCorner 13 = .ok (.ireturn, 1) := by decide +kernel
abbrev gm_Mo_isCorner : gM := (gc_Mo_isCorner, gR_7, 1, 25, 2)
theorem gfl_Mo_114 : gFl gR_7 114 7 0 := ⟨_, _, _, rfl, by decide, (gtab_at 734 (by decide +kernel) rfl), gin_7⟩
set_option maxRecDepth 20000 in
theorem gcy_Mo_117 : gCy gR_7 117 gy_Mo_in gc_Mo_in 6 (some .boolean) 3 := ⟨(gtab_at 881 (by decide +kernel) rfl), (gtab_at 8 (by decide +kernel) rfl), (gtab_at 883 rfl rfl), by decide, by decide, by decide +kernel⟩
theorem gst_Mo_in : Cond.static gy_Mo_in ∈ gtbl := (gtab_at 882 (by decide +kernel) rfl)
def f_Mo_isCorner (a1 : Int) (h : gH) : Option gO := gb (f_Mo_in a1 0 (gsub (h 83 0) 1) h) (fun h1 r2 => gd (gz r2) (some (h1, r2)))
theorem c_Mo_isCorner {Z : gZ} (hL : gLive Z) (hn : (zL Z).Nodup) {a1 : Int}  {h : gH} {o : gO} (hg : gRg h) (ha : gRl [.inr (.inr 83), .inl a1]) (hx : f_Mo_isCorner a1 h = some o) : gC Z gy_Mo_isCorner gc_Mo_isCorner 2 (some .boolean) 1 25 [.inr (.inr 83), .inl a1] h o := by
  unfold f_Mo_isCorner at hx
  refine gC_of (lv := [(0, .inr (.inr 83)), (1, .inl a1)]) (own := gR_7) (by decide +kernel) rfl (Nat.le_of_ble_eq_true rfl) rfl rfl hn hg ha hx (fun X hZ hF => ?_)
  subst hZ
  show gr _ o gm_Mo_isCorner X h 0 _ _
  refine gr_iload_n (M := gm_Mo_isCorner) dq_Mo_isCorner_0 rfl 1 rfl 1 rfl ?_
  refine gr_i2l (M := gm_Mo_isCorner) dq_Mo_isCorner_1 2 rfl ?_
  refine gr_lconst (M := gm_Mo_isCorner) (v := 0) dq_Mo_isCorner_2 (by decide) ⟨by decide, by decide⟩ 3 rfl ?_
  refine gr_aload_n (M := gm_Mo_isCorner) dq_Mo_isCorner_3 rfl 0 rfl 4 rfl ?_
  refine gr_geti (M := gm_Mo_isCorner) dq_Mo_isCorner_4 7 rfl gfl_Mo_114 gsh_83 rfl (gli hL gsh_83) ?_
  refine gr_iconst (M := gm_Mo_isCorner) (v := 1) dq_Mo_isCorner_7 rfl ⟨by decide, by decide⟩ 8 rfl ?_
  refine gr_isub (M := gm_Mo_isCorner) dq_Mo_isCorner_8 9 rfl ?_
  refine gr_i2l (M := gm_Mo_isCorner) dq_Mo_isCorner_9 10 rfl ?_
  refine gr_callSi (M := gm_Mo_isCorner) (as := [.inr (.inl a1), .inr (.inl 0), .inr (.inl (gsub (h 83 0) 1))]) dq_Mo_isCorner_10 13 rfl rfl gcy_Mo_117 gst_Mo_in ⟨by decide, by decide⟩ (Nat.le_of_ble_eq_true rfl) (fun o1 hg ha hx => c_Mo_in hL hn  hg ha hx) (fun h1 r2 _ => ?_)
  exact gr_zreturn (M := gm_Mo_isCorner) dq_Mo_isCorner_13 hF

-- Mo_isStreet
theorem dq_Mo_isStreet_0 : decode gc_Mo_isStreet 0 = .ok (.iload_n 1, 1) := by decide +kernel
theorem dq_Mo_isStreet_1 : decode gc_Mo_isStreet 1 = .ok (.i2l, 1) := by decide +kernel
theorem dq_Mo_isStreet_2 : decode gc_Mo_isStreet 2 = .ok (.lconst 0, 1) := by decide +kernel
theorem dq_Mo_isStreet_3 : decode gc_Mo_isStreet 3 = .ok (.aload_n 0, 1) := by decide +kernel
theorem dq_Mo_isStreet_4 : decode gc_Mo_isStreet 4 = .ok (.getfield 121, 3) := by decide +kernel
theorem dq_Mo_isStreet_7 : decode gc_Mo_isStreet 7 = .ok (.iconst 1, 1) := by decide +kernel
theorem dq_Mo_isStreet_8 : decode gc_Mo_isStreet 8 = .ok (.isub, 1) := by decide +kernel
theorem dq_Mo_isStreet_9 : decode gc_Mo_isStreet 9 = .ok (.i2l, 1) := by decide +kernel
theorem dq_Mo_isStreet_10 : decode gc_Mo_isStreet 10 = .ok (.invokestatic 117, 3) := by decide +kernel
theorem dq_Mo_isStreet_13 : decode gc_Mo_isStreet 13 = .ok (.ireturn, 1) := by decide +kernel
abbrev gm_Mo_isStreet : gM := (gc_Mo_isStreet, gR_7, 1, 25, 2)
theorem gfl_Mo_121 : gFl gR_7 121 7 2 := ⟨_, _, _, rfl, by decide, (gtab_at 736 (by decide +kernel) rfl), gin_7⟩
def f_Mo_isStreet (a1 : Int) (h : gH) : Option gO := gb (f_Mo_in a1 0 (gsub (h 83 2) 1) h) (fun h1 r2 => gd (gz r2) (some (h1, r2)))
theorem c_Mo_isStreet {Z : gZ} (hL : gLive Z) (hn : (zL Z).Nodup) {a1 : Int}  {h : gH} {o : gO} (hg : gRg h) (ha : gRl [.inr (.inr 83), .inl a1]) (hx : f_Mo_isStreet a1 h = some o) : gC Z gy_Mo_isStreet gc_Mo_isStreet 2 (some .boolean) 1 25 [.inr (.inr 83), .inl a1] h o := by
  unfold f_Mo_isStreet at hx
  refine gC_of (lv := [(0, .inr (.inr 83)), (1, .inl a1)]) (own := gR_7) (by decide +kernel) rfl (Nat.le_of_ble_eq_true rfl) rfl rfl hn hg ha hx (fun X hZ hF => ?_)
  subst hZ
  show gr _ o gm_Mo_isStreet X h 0 _ _
  refine gr_iload_n (M := gm_Mo_isStreet) dq_Mo_isStreet_0 rfl 1 rfl 1 rfl ?_
  refine gr_i2l (M := gm_Mo_isStreet) dq_Mo_isStreet_1 2 rfl ?_
  refine gr_lconst (M := gm_Mo_isStreet) (v := 0) dq_Mo_isStreet_2 (by decide) ⟨by decide, by decide⟩ 3 rfl ?_
  refine gr_aload_n (M := gm_Mo_isStreet) dq_Mo_isStreet_3 rfl 0 rfl 4 rfl ?_
  refine gr_geti (M := gm_Mo_isStreet) dq_Mo_isStreet_4 7 rfl gfl_Mo_121 gsh_83 rfl (gli hL gsh_83) ?_
  refine gr_iconst (M := gm_Mo_isStreet) (v := 1) dq_Mo_isStreet_7 rfl ⟨by decide, by decide⟩ 8 rfl ?_
  refine gr_isub (M := gm_Mo_isStreet) dq_Mo_isStreet_8 9 rfl ?_
  refine gr_i2l (M := gm_Mo_isStreet) dq_Mo_isStreet_9 10 rfl ?_
  refine gr_callSi (M := gm_Mo_isStreet) (as := [.inr (.inl a1), .inr (.inl 0), .inr (.inl (gsub (h 83 2) 1))]) dq_Mo_isStreet_10 13 rfl rfl gcy_Mo_117 gst_Mo_in ⟨by decide, by decide⟩ (Nat.le_of_ble_eq_true rfl) (fun o1 hg ha hx => c_Mo_in hL hn  hg ha hx) (fun h1 r2 _ => ?_)
  exact gr_zreturn (M := gm_Mo_isStreet) dq_Mo_isStreet_13 hF

-- Mo_isCart
theorem dq_Mo_isCart_0 : decode gc_Mo_isCart 0 = .ok (.iload_n 1, 1) := by decide +kernel
theorem dq_Mo_isCart_1 : decode gc_Mo_isCart 1 = .ok (.i2l, 1) := by decide +kernel
theorem dq_Mo_isCart_2 : decode gc_Mo_isCart 2 = .ok (.lconst 0, 1) := by decide +kernel
theorem dq_Mo_isCart_3 : decode gc_Mo_isCart 3 = .ok (.aload_n 0, 1) := by decide +kernel
theorem dq_Mo_isCart_4 : decode gc_Mo_isCart 4 = .ok (.getfield 124, 3) := by decide +kernel
theorem dq_Mo_isCart_7 : decode gc_Mo_isCart 7 = .ok (.iconst 1, 1) := by decide +kernel
theorem dq_Mo_isCart_8 : decode gc_Mo_isCart 8 = .ok (.isub, 1) := by decide +kernel
theorem dq_Mo_isCart_9 : decode gc_Mo_isCart 9 = .ok (.i2l, 1) := by decide +kernel
theorem dq_Mo_isCart_10 : decode gc_Mo_isCart 10 = .ok (.invokestatic 117, 3) := by decide +kernel
theorem dq_Mo_isCart_13 : decode gc_Mo_isCart 13 = .ok (.ireturn, 1) := by decide +kernel
abbrev gm_Mo_isCart : gM := (gc_Mo_isCart, gR_7, 1, 25, 2)
theorem gfl_Mo_124 : gFl gR_7 124 7 6 := ⟨_, _, _, rfl, by decide, (gtab_at 740 (by decide +kernel) rfl), gin_7⟩
def f_Mo_isCart (a1 : Int) (h : gH) : Option gO := gb (f_Mo_in a1 0 (gsub (h 83 6) 1) h) (fun h1 r2 => gd (gz r2) (some (h1, r2)))
theorem c_Mo_isCart {Z : gZ} (hL : gLive Z) (hn : (zL Z).Nodup) {a1 : Int}  {h : gH} {o : gO} (hg : gRg h) (ha : gRl [.inr (.inr 83), .inl a1]) (hx : f_Mo_isCart a1 h = some o) : gC Z gy_Mo_isCart gc_Mo_isCart 2 (some .boolean) 1 25 [.inr (.inr 83), .inl a1] h o := by
  unfold f_Mo_isCart at hx
  refine gC_of (lv := [(0, .inr (.inr 83)), (1, .inl a1)]) (own := gR_7) (by decide +kernel) rfl (Nat.le_of_ble_eq_true rfl) rfl rfl hn hg ha hx (fun X hZ hF => ?_)
  subst hZ
  show gr _ o gm_Mo_isCart X h 0 _ _
  refine gr_iload_n (M := gm_Mo_isCart) dq_Mo_isCart_0 rfl 1 rfl 1 rfl ?_
  refine gr_i2l (M := gm_Mo_isCart) dq_Mo_isCart_1 2 rfl ?_
  refine gr_lconst (M := gm_Mo_isCart) (v := 0) dq_Mo_isCart_2 (by decide) ⟨by decide, by decide⟩ 3 rfl ?_
  refine gr_aload_n (M := gm_Mo_isCart) dq_Mo_isCart_3 rfl 0 rfl 4 rfl ?_
  refine gr_geti (M := gm_Mo_isCart) dq_Mo_isCart_4 7 rfl gfl_Mo_124 gsh_83 rfl (gli hL gsh_83) ?_
  refine gr_iconst (M := gm_Mo_isCart) (v := 1) dq_Mo_isCart_7 rfl ⟨by decide, by decide⟩ 8 rfl ?_
  refine gr_isub (M := gm_Mo_isCart) dq_Mo_isCart_8 9 rfl ?_
  refine gr_i2l (M := gm_Mo_isCart) dq_Mo_isCart_9 10 rfl ?_
  refine gr_callSi (M := gm_Mo_isCart) (as := [.inr (.inl a1), .inr (.inl 0), .inr (.inl (gsub (h 83 6) 1))]) dq_Mo_isCart_10 13 rfl rfl gcy_Mo_117 gst_Mo_in ⟨by decide, by decide⟩ (Nat.le_of_ble_eq_true rfl) (fun o1 hg ha hx => c_Mo_in hL hn  hg ha hx) (fun h1 r2 _ => ?_)
  exact gr_zreturn (M := gm_Mo_isCart) dq_Mo_isCart_13 hF

-- Mo_feed
theorem dq_Mo_feed_0 : decode gc_Mo_feed 0 = .ok (.iload_n 1, 1) := by decide +kernel
theorem dq_Mo_feed_1 : decode gc_Mo_feed 1 = .ok (.i2l, 1) := by decide +kernel
theorem dq_Mo_feed_2 : decode gc_Mo_feed 2 = .ok (.lconst 0, 1) := by decide +kernel
theorem dq_Mo_feed_3 : decode gc_Mo_feed 3 = .ok (.ldc2_w 127, 3) := by decide +kernel
theorem dq_Mo_feed_6 : decode gc_Mo_feed 6 = .ok (.invokestatic 117, 3) := by decide +kernel
theorem dq_Mo_feed_9 : decode gc_Mo_feed 9 = .ok (.ifCond .ne 6, 3) := by decide +kernel
theorem dq_Mo_feed_12 : decode gc_Mo_feed 12 = .ok (.ldc 129, 2) := by decide +kernel
theorem dq_Mo_feed_14 : decode gc_Mo_feed 14 = .ok (.ireturn, 1) := by decide +kernel
theorem dq_Mo_feed_15 : decode gc_Mo_feed 15 = .ok (.aload_n 0, 1) := by decide +kernel
theorem dq_Mo_feed_16 : decode gc_Mo_feed 16 = .ok (.getfield 130, 3) := by decide +kernel
theorem dq_Mo_feed_19 : decode gc_Mo_feed 19 = .ok (.sipush 250, 3) := by decide +kernel
theorem dq_Mo_feed_22 : decode gc_Mo_feed 22 = .ok (.if_icmp .ne 6, 3) := by decide +kernel
theorem dq_Mo_feed_25 : decode gc_Mo_feed 25 = .ok (.ldc 133, 2) := by decide +kernel
theorem dq_Mo_feed_27 : decode gc_Mo_feed 27 = .ok (.ireturn, 1) := by decide +kernel
theorem dq_Mo_feed_28 : decode gc_Mo_feed 28 = .ok (.aload_n 0, 1) := by decide +kernel
theorem dq_Mo_feed_29 : decode gc_Mo_feed 29 = .ok (.getfield 37, 3) := by decide +kernel
theorem dq_Mo_feed_32 : decode gc_Mo_feed 32 = .ok (.aload_n 0, 1) := by decide +kernel
theorem dq_Mo_feed_33 : decode gc_Mo_feed 33 = .ok (.getfield 130, 3) := by decide +kernel
theorem dq_Mo_feed_36 : decode gc_Mo_feed 36 = .ok (.iload_n 1, 1) := by decide +kernel
theorem dq_Mo_feed_37 : decode gc_Mo_feed 37 = .ok (.iastore, 1) := by decide +kernel
theorem dq_Mo_feed_38 : decode gc_Mo_feed 38 = .ok (.aload_n 0, 1) := by decide +kernel
theorem dq_Mo_feed_39 : decode gc_Mo_feed 39 = .ok (.dup, 1) := by decide +kernel
theorem dq_Mo_feed_40 : decode gc_Mo_feed 40 = .ok (.getfield 130, 3) := by decide +kernel
theorem dq_Mo_feed_43 : decode gc_Mo_feed 43 = .ok (.iconst 1, 1) := by decide +kernel
theorem dq_Mo_feed_44 : decode gc_Mo_feed 44 = .ok (.iadd, 1) := by decide +kernel
theorem dq_Mo_feed_45 : decode gc_Mo_feed 45 = .ok (.putfield 130, 3) := by decide +kernel
theorem dq_Mo_feed_48 : decode gc_Mo_feed 48 = .ok (.aload_n 0, 1) := by decide +kernel
theorem dq_Mo_feed_49 : decode gc_Mo_feed 49 = .ok (.getfield 130, 3) := by decide +kernel
theorem dq_Mo_feed_52 : decode gc_Mo_feed 52 = .ok (.ireturn, 1) := by decide +kernel
abbrev gm_Mo_feed : gM := (gc_Mo_feed, gR_7, 1, 25, 2)
theorem gk_Mo_127 : Cond.constantLong gR_7 127 (Int64.ofInt 255) ∈ gtbl := (gtab_at 880 (by decide +kernel) rfl)
theorem gfl_Mo_130 : gFl gR_7 130 7 15 := ⟨_, _, _, rfl, by decide, (gtab_at 749 (by decide +kernel) rfl), gin_7⟩
theorem gfl_Mo_37 : gFl gR_7 37 7 14 := ⟨_, _, _, rfl, by decide, (gtab_at 748 (by decide +kernel) rfl), gin_7⟩
theorem gfp_Mo_130 : gFp gR_7 130 7 15 .int := ⟨_, _, _, gt_7, rfl, by decide, (gtab_at 749 (by decide +kernel) rfl), gin_7, gto_7, gnm_7, rfl, by decide +kernel⟩
theorem gk_Mo_133 : Cond.constant gR_7 133 (Int32.ofInt (-1000000004)) ∈ gtbl := (gtab_at 885 (by decide +kernel) rfl)
theorem gk_Mo_129 : Cond.constant gR_7 129 (Int32.ofInt (-1000000002)) ∈ gtbl := (gtab_at 884 (by decide +kernel) rfl)
def f_Mo_feed (a1 : Int) (h : gH) : Option gO := gb (f_Mo_in a1 0 255 h) (fun h1 r2 => if r2 = 0 then (some (h1, (-1000000002))) else (if (h1 83 15) = 250 then (some (h1, (-1000000004))) else (gd (gix 250 (h1 83 15)) (gs (gup h1 93 (h1 83 15).toNat a1) (fun h5 => gs (gup h5 83 15 (gadd (h5 83 15) 1)) (fun h6 => some (h6, (h6 83 15))))))))
theorem c_Mo_feed {Z : gZ} (hL : gLive Z) (hn : (zL Z).Nodup) {a1 : Int}  {h : gH} {o : gO} (hg : gRg h) (ha : gRl [.inr (.inr 83), .inl a1]) (hx : f_Mo_feed a1 h = some o) : gC Z gy_Mo_feed gc_Mo_feed 2 (some .int) 1 25 [.inr (.inr 83), .inl a1] h o := by
  unfold f_Mo_feed at hx
  refine gC_of (lv := [(0, .inr (.inr 83)), (1, .inl a1)]) (own := gR_7) (by decide +kernel) rfl (Nat.le_of_ble_eq_true rfl) rfl rfl hn hg ha hx (fun X hZ hF => ?_)
  subst hZ
  show gr _ o gm_Mo_feed X h 0 _ _
  refine gr_iload_n (M := gm_Mo_feed) dq_Mo_feed_0 rfl 1 rfl 1 rfl ?_
  refine gr_i2l (M := gm_Mo_feed) dq_Mo_feed_1 2 rfl ?_
  refine gr_lconst (M := gm_Mo_feed) (v := 0) dq_Mo_feed_2 (by decide) ⟨by decide, by decide⟩ 3 rfl ?_
  refine gr_ldc2_w (M := gm_Mo_feed) (v := 255) dq_Mo_feed_3 gk_Mo_127 ⟨by decide, by decide⟩ 6 rfl ?_
  refine gr_callSi (M := gm_Mo_feed) (as := [.inr (.inl a1), .inr (.inl 0), .inr (.inl 255)]) dq_Mo_feed_6 9 rfl rfl gcy_Mo_117 gst_Mo_in ⟨by decide, by decide⟩ (Nat.le_of_ble_eq_true rfl) (fun o1 hg ha hx => c_Mo_in hL hn  hg ha hx) (fun h1 r2 _ => ?_)
  refine gr_if_ne (M := gm_Mo_feed) dq_Mo_feed_9 15 12 rfl rfl (fun c3 => ?_) (fun c3 => ?_)
  · refine gr_aload_n (M := gm_Mo_feed) dq_Mo_feed_15 rfl 0 rfl 16 rfl ?_
    refine gr_geti (M := gm_Mo_feed) dq_Mo_feed_16 19 rfl gfl_Mo_130 gsh_83 rfl (gli hL gsh_83) ?_
    refine gr_sipush (M := gm_Mo_feed) (v := 250) dq_Mo_feed_19 (by decide) ⟨by decide, by decide⟩ 22 rfl ?_
    refine gr_icmp_ne (M := gm_Mo_feed) dq_Mo_feed_22 28 25 rfl rfl (fun c4 => ?_) (fun c4 => ?_)
    · refine gr_aload_n (M := gm_Mo_feed) dq_Mo_feed_28 rfl 0 rfl 29 rfl ?_
      refine gr_getr (M := gm_Mo_feed) dq_Mo_feed_29 32 rfl gfl_Mo_37 gsh_83 rfl (gli hL gsh_83) 93 rfl ?_
      refine gr_aload_n (M := gm_Mo_feed) dq_Mo_feed_32 rfl 0 rfl 33 rfl ?_
      refine gr_geti (M := gm_Mo_feed) dq_Mo_feed_33 36 rfl gfl_Mo_130 gsh_83 rfl (gli hL gsh_83) ?_
      refine gr_iload_n (M := gm_Mo_feed) dq_Mo_feed_36 rfl 1 rfl 37 rfl ?_
      refine gr_iast (M := gm_Mo_feed) dq_Mo_feed_37 38 rfl gsh_93 (glj hL gsh_93 (by decide)) (fun h5 _ => ?_)
      refine gr_aload_n (M := gm_Mo_feed) dq_Mo_feed_38 rfl 0 rfl 39 rfl ?_
      refine gr_dup (M := gm_Mo_feed) dq_Mo_feed_39 (fun _ q => by cases q) 40 rfl ?_
      refine gr_geti (M := gm_Mo_feed) dq_Mo_feed_40 43 rfl gfl_Mo_130 gsh_83 rfl (gli hL gsh_83) ?_
      refine gr_iconst (M := gm_Mo_feed) (v := 1) dq_Mo_feed_43 rfl ⟨by decide, by decide⟩ 44 rfl ?_
      refine gr_iadd (M := gm_Mo_feed) dq_Mo_feed_44 45 rfl ?_
      refine gr_puti (M := gm_Mo_feed) dq_Mo_feed_45 48 rfl gfp_Mo_130 gsh_83 rfl (gli hL gsh_83) (fun h6 _ => ?_)
      refine gr_aload_n (M := gm_Mo_feed) dq_Mo_feed_48 rfl 0 rfl 49 rfl ?_
      refine gr_geti (M := gm_Mo_feed) dq_Mo_feed_49 52 rfl gfl_Mo_130 gsh_83 rfl (gli hL gsh_83) ?_
      exact gr_ireturn (M := gm_Mo_feed) dq_Mo_feed_52 hF
    refine gr_ldc (M := gm_Mo_feed) (v := (-1000000004)) dq_Mo_feed_25 gk_Mo_133 ⟨by decide, by decide⟩ 27 rfl ?_
    exact gr_ireturn (M := gm_Mo_feed) dq_Mo_feed_27 hF
  refine gr_ldc (M := gm_Mo_feed) (v := (-1000000002)) dq_Mo_feed_12 gk_Mo_129 ⟨by decide, by decide⟩ 14 rfl ?_
  exact gr_ireturn (M := gm_Mo_feed) dq_Mo_feed_14 hF

-- Mo_here
theorem dq_Mo_here_0 : decode gc_Mo_here 0 = .ok (.aload_n 0, 1) := by decide +kernel
theorem dq_Mo_here_1 : decode gc_Mo_here 1 = .ok (.getfield 134, 3) := by decide +kernel
theorem dq_Mo_here_4 : decode gc_Mo_here 4 = .ok (.aload_n 0, 1) := by decide +kernel
theorem dq_Mo_here_5 : decode gc_Mo_here 5 = .ok (.getfield 130, 3) := by decide +kernel
theorem dq_Mo_here_8 : decode gc_Mo_here 8 = .ok (.if_icmp .ge 30, 3) := by decide +kernel
theorem dq_Mo_here_11 : decode gc_Mo_here 11 = .ok (.aload_n 0, 1) := by decide +kernel
theorem dq_Mo_here_12 : decode gc_Mo_here 12 = .ok (.getfield 37, 3) := by decide +kernel
theorem dq_Mo_here_15 : decode gc_Mo_here 15 = .ok (.aload_n 0, 1) := by decide +kernel
theorem dq_Mo_here_16 : decode gc_Mo_here 16 = .ok (.getfield 134, 3) := by decide +kernel
theorem dq_Mo_here_19 : decode gc_Mo_here 19 = .ok (.iaload, 1) := by decide +kernel
theorem dq_Mo_here_20 : decode gc_Mo_here 20 = .ok (.bipush 32, 2) := by decide +kernel
theorem dq_Mo_here_22 : decode gc_Mo_here 22 = .ok (.if_icmp .ne 16, 3) := by decide +kernel
theorem dq_Mo_here_25 : decode gc_Mo_here 25 = .ok (.aload_n 0, 1) := by decide +kernel
theorem dq_Mo_here_26 : decode gc_Mo_here 26 = .ok (.dup, 1) := by decide +kernel
theorem dq_Mo_here_27 : decode gc_Mo_here 27 = .ok (.getfield 134, 3) := by decide +kernel
theorem dq_Mo_here_30 : decode gc_Mo_here 30 = .ok (.iconst 1, 1) := by decide +kernel
theorem dq_Mo_here_31 : decode gc_Mo_here 31 = .ok (.iadd, 1) := by decide +kernel
theorem dq_Mo_here_32 : decode gc_Mo_here 32 = .ok (.putfield 134, 3) := by decide +kernel
theorem dq_Mo_here_35 : decode gc_Mo_here 35 = .ok (.goto (-35), 3) := by decide +kernel
theorem dq_Mo_here_38 : decode gc_Mo_here 38 = .ok (.aload_n 0, 1) := by decide +kernel
theorem dq_Mo_here_39 : decode gc_Mo_here 39 = .ok (.getfield 134, 3) := by decide +kernel
theorem dq_Mo_here_42 : decode gc_Mo_here 42 = .ok (.aload_n 0, 1) := by decide +kernel
theorem dq_Mo_here_43 : decode gc_Mo_here 43 = .ok (.getfield 130, 3) := by decide +kernel
theorem dq_Mo_here_46 : decode gc_Mo_here 46 = .ok (.if_icmp .ge 15, 3) := by decide +kernel
theorem dq_Mo_here_49 : decode gc_Mo_here 49 = .ok (.aload_n 0, 1) := by decide +kernel
theorem dq_Mo_here_50 : decode gc_Mo_here 50 = .ok (.getfield 37, 3) := by decide +kernel
theorem dq_Mo_here_53 : decode gc_Mo_here 53 = .ok (.aload_n 0, 1) := by decide +kernel
theorem dq_Mo_here_54 : decode gc_Mo_here 54 = .ok (.getfield 134, 3) := by decide +kernel
theorem dq_Mo_here_57 : decode gc_Mo_here 57 = .ok (.iaload, 1) := by decide +kernel
theorem dq_Mo_here_58 : decode gc_Mo_here 58 = .ok (.goto 4, 3) := by decide +kernel
theorem dq_Mo_here_61 : decode gc_Mo_here 61 = .ok (.iconst (-1), 1) := by decide +kernel
theorem dq_Mo_here_62 : decode gc_Mo_here 62 = .ok (.ireturn, 1) := by decide +kernel
abbrev gm_Mo_here : gM := (gc_Mo_here, gR_7, 0, 0, 1)
theorem gfl_Mo_134 : gFl gR_7 134 7 17 := ⟨_, _, _, rfl, by decide, (gtab_at 751 (by decide +kernel) rfl), gin_7⟩
theorem gfp_Mo_134 : gFp gR_7 134 7 17 .int := ⟨_, _, _, gt_7, rfl, by decide, (gtab_at 751 (by decide +kernel) rfl), gin_7, gto_7, gnm_7, rfl, by decide +kernel⟩
def f_Mo_here_L0  (k38 : gH → Option gO) : Nat → gH → Option gO
  | 0, _ => none
  | n + 1, h => if (h 83 15) ≤ (h 83 17) then (k38  h) else (gd (gix 250 (h 83 17)) (if (h 93 (h 83 17).toNat) = 32 then (gs (gup h 83 17 (gadd (h 83 17) 1)) (fun h3 => f_Mo_here_L0 k38 n  h3)) else (k38  h)))
theorem w_Mo_here_L0 {o : gO} {X : gX} (hL : gLive (xZ X)) (hn : (zL (xZ X)).Nodup) (hF : gFin X (some .int) o)    {k38 : gH → Option gO} (hk38 : ∀ (h : gH), gr (k38 h) o gm_Mo_here X h 38 [(0, .inr (.inr 83))] []) : ∀ (n : Nat) (h : gH), gr (f_Mo_here_L0  k38 n  h) o gm_Mo_here X h 0 [(0, .inr (.inr 83))] [] := by
  intro n
  induction n with
  | zero => intros; exact gr_none
  | succ n ih =>
    intro  h
    unfold f_Mo_here_L0
    refine gr_aload_n (M := gm_Mo_here) dq_Mo_here_0 rfl 0 rfl 1 rfl ?_
    refine gr_geti (M := gm_Mo_here) dq_Mo_here_1 4 rfl gfl_Mo_134 gsh_83 rfl (gli hL gsh_83) ?_
    refine gr_aload_n (M := gm_Mo_here) dq_Mo_here_4 rfl 0 rfl 5 rfl ?_
    refine gr_geti (M := gm_Mo_here) dq_Mo_here_5 8 rfl gfl_Mo_130 gsh_83 rfl (gli hL gsh_83) ?_
    refine gr_icmp_ge (M := gm_Mo_here) dq_Mo_here_8 38 11 rfl rfl (fun c1 => ?_) (fun c1 => ?_)
    · exact hk38  _
    refine gr_aload_n (M := gm_Mo_here) dq_Mo_here_11 rfl 0 rfl 12 rfl ?_
    refine gr_getr (M := gm_Mo_here) dq_Mo_here_12 15 rfl gfl_Mo_37 gsh_83 rfl (gli hL gsh_83) 93 rfl ?_
    refine gr_aload_n (M := gm_Mo_here) dq_Mo_here_15 rfl 0 rfl 16 rfl ?_
    refine gr_geti (M := gm_Mo_here) dq_Mo_here_16 19 rfl gfl_Mo_134 gsh_83 rfl (gli hL gsh_83) ?_
    refine gr_iald (M := gm_Mo_here) dq_Mo_here_19 20 rfl gsh_93 (glj hL gsh_93 (by decide)) ?_
    refine gr_bipush (M := gm_Mo_here) (v := 32) dq_Mo_here_20 (by decide) ⟨by decide, by decide⟩ 22 rfl ?_
    refine gr_icmp_ne (M := gm_Mo_here) dq_Mo_here_22 38 25 rfl rfl (fun c2 => ?_) (fun c2 => ?_)
    · exact hk38  _
    refine gr_aload_n (M := gm_Mo_here) dq_Mo_here_25 rfl 0 rfl 26 rfl ?_
    refine gr_dup (M := gm_Mo_here) dq_Mo_here_26 (fun _ q => by cases q) 27 rfl ?_
    refine gr_geti (M := gm_Mo_here) dq_Mo_here_27 30 rfl gfl_Mo_134 gsh_83 rfl (gli hL gsh_83) ?_
    refine gr_iconst (M := gm_Mo_here) (v := 1) dq_Mo_here_30 rfl ⟨by decide, by decide⟩ 31 rfl ?_
    refine gr_iadd (M := gm_Mo_here) dq_Mo_here_31 32 rfl ?_
    refine gr_puti (M := gm_Mo_here) dq_Mo_here_32 35 rfl gfp_Mo_134 gsh_83 rfl (gli hL gsh_83) (fun h3 _ => ?_)
    refine gr_goto (M := gm_Mo_here) dq_Mo_here_35 0 rfl ?_
    exact ih  _

def f_Mo_here_J38    (h : gH) : Option gO := if (h 83 15) ≤ (h 83 17) then (some (h, (-1))) else (gd (gix 250 (h 83 17)) (some (h, (h 93 (h 83 17).toNat))))
theorem w_Mo_here_J38 {o : gO} {X : gX} (hL : gLive (xZ X)) (hn : (zL (xZ X)).Nodup) (hF : gFin X (some .int) o)      {h : gH}  : gr (f_Mo_here_J38    h) o gm_Mo_here X h 38 [(0, .inr (.inr 83))] [] := by
  unfold f_Mo_here_J38
  refine gr_aload_n (M := gm_Mo_here) dq_Mo_here_38 rfl 0 rfl 39 rfl ?_
  refine gr_geti (M := gm_Mo_here) dq_Mo_here_39 42 rfl gfl_Mo_134 gsh_83 rfl (gli hL gsh_83) ?_
  refine gr_aload_n (M := gm_Mo_here) dq_Mo_here_42 rfl 0 rfl 43 rfl ?_
  refine gr_geti (M := gm_Mo_here) dq_Mo_here_43 46 rfl gfl_Mo_130 gsh_83 rfl (gli hL gsh_83) ?_
  refine gr_icmp_ge (M := gm_Mo_here) dq_Mo_here_46 61 49 rfl rfl (fun c5 => ?_) (fun c5 => ?_)
  · refine gr_iconst (M := gm_Mo_here) (v := (-1)) dq_Mo_here_61 rfl ⟨by decide, by decide⟩ 62 rfl ?_
    exact gr_ireturn (M := gm_Mo_here) dq_Mo_here_62 hF
  refine gr_aload_n (M := gm_Mo_here) dq_Mo_here_49 rfl 0 rfl 50 rfl ?_
  refine gr_getr (M := gm_Mo_here) dq_Mo_here_50 53 rfl gfl_Mo_37 gsh_83 rfl (gli hL gsh_83) 93 rfl ?_
  refine gr_aload_n (M := gm_Mo_here) dq_Mo_here_53 rfl 0 rfl 54 rfl ?_
  refine gr_geti (M := gm_Mo_here) dq_Mo_here_54 57 rfl gfl_Mo_134 gsh_83 rfl (gli hL gsh_83) ?_
  refine gr_iald (M := gm_Mo_here) dq_Mo_here_57 58 rfl gsh_93 (glj hL gsh_93 (by decide)) ?_
  refine gr_goto (M := gm_Mo_here) dq_Mo_here_58 62 rfl ?_
  exact gr_ireturn (M := gm_Mo_here) dq_Mo_here_62 hF

def f_Mo_here  (h : gH) : Option gO := f_Mo_here_L0  (fun  h4 => f_Mo_here_J38    h4) 50000  h
theorem c_Mo_here {Z : gZ} (hL : gLive Z) (hn : (zL Z).Nodup)   {h : gH} {o : gO} (hg : gRg h) (ha : gRl [.inr (.inr 83)]) (hx : f_Mo_here  h = some o) : gC Z gy_Mo_here gc_Mo_here 1 (some .int) 0 0 [.inr (.inr 83)] h o := by
  unfold f_Mo_here at hx
  refine gC_of (lv := [(0, .inr (.inr 83))]) (own := gR_7) (by decide +kernel) rfl (Nat.le_of_ble_eq_true rfl) rfl rfl hn hg ha hx (fun X hZ hF => ?_)
  subst hZ
  show gr _ o gm_Mo_here X h 0 _ _
  refine w_Mo_here_L0 hL hn hF   (fun h4 => ?_) 50000  _
  exact w_Mo_here_J38 hL hn hF   

-- Mo_fails
theorem dq_Mo_fails_0 : decode gc_Mo_fails 0 = .ok (.aload_n 0, 1) := by decide +kernel
theorem dq_Mo_fails_1 : decode gc_Mo_fails 1 = .ok (.iload_n 2, 1) := by decide +kernel
theorem dq_Mo_fails_2 : decode gc_Mo_fails 2 = .ok (.putfield 40, 3) := by decide +kernel
theorem dq_Mo_fails_5 : decode gc_Mo_fails 5 = .ok (.iload_n 1, 1) := by decide +kernel
theorem dq_Mo_fails_6 : decode gc_Mo_fails 6 = .ok (.ireturn, 1) := by decide +kernel
abbrev gm_Mo_fails : gM := (gc_Mo_fails, gR_7, 0, 0, 3)
theorem gfp_Mo_40 : gFp gR_7 40 7 16 .int := ⟨_, _, _, gt_7, rfl, by decide, (gtab_at 750 (by decide +kernel) rfl), gin_7, gto_7, gnm_7, rfl, by decide +kernel⟩
def f_Mo_fails (a1 : Int) (a2 : Int) (h : gH) : Option gO := gs (gup h 83 16 a2) (fun h1 => some (h1, a1))
theorem c_Mo_fails {Z : gZ} (hL : gLive Z) (hn : (zL Z).Nodup) {a1 : Int} {a2 : Int}  {h : gH} {o : gO} (hg : gRg h) (ha : gRl [.inr (.inr 83), .inl a1, .inl a2]) (hx : f_Mo_fails a1 a2 h = some o) : gC Z gy_Mo_fails gc_Mo_fails 3 (some .int) 0 0 [.inr (.inr 83), .inl a1, .inl a2] h o := by
  unfold f_Mo_fails at hx
  refine gC_of (lv := [(0, .inr (.inr 83)), (1, .inl a1), (2, .inl a2)]) (own := gR_7) (by decide +kernel) rfl (Nat.le_of_ble_eq_true rfl) rfl rfl hn hg ha hx (fun X hZ hF => ?_)
  subst hZ
  show gr _ o gm_Mo_fails X h 0 _ _
  refine gr_aload_n (M := gm_Mo_fails) dq_Mo_fails_0 rfl 0 rfl 1 rfl ?_
  refine gr_iload_n (M := gm_Mo_fails) dq_Mo_fails_1 rfl 2 rfl 2 rfl ?_
  refine gr_puti (M := gm_Mo_fails) dq_Mo_fails_2 5 rfl gfp_Mo_40 gsh_83 rfl (gli hL gsh_83) (fun h1 _ => ?_)
  refine gr_iload_n (M := gm_Mo_fails) dq_Mo_fails_5 rfl 1 rfl 6 rfl ?_
  exact gr_ireturn (M := gm_Mo_fails) dq_Mo_fails_6 hF

-- Mo_takeNumber
theorem dq_Mo_takeNumber_0 : decode gc_Mo_takeNumber 0 = .ok (.aload_n 0, 1) := by decide +kernel
theorem dq_Mo_takeNumber_1 : decode gc_Mo_takeNumber 1 = .ok (.invokevirtual 137, 3) := by decide +kernel
theorem dq_Mo_takeNumber_4 : decode gc_Mo_takeNumber 4 = .ok (.istore_n 3, 1) := by decide +kernel
theorem dq_Mo_takeNumber_5 : decode gc_Mo_takeNumber 5 = .ok (.iload_n 3, 1) := by decide +kernel
theorem dq_Mo_takeNumber_6 : decode gc_Mo_takeNumber 6 = .ok (.i2l, 1) := by decide +kernel
theorem dq_Mo_takeNumber_7 : decode gc_Mo_takeNumber 7 = .ok (.ldc2_w 141, 3) := by decide +kernel
theorem dq_Mo_takeNumber_10 : decode gc_Mo_takeNumber 10 = .ok (.ldc2_w 143, 3) := by decide +kernel
theorem dq_Mo_takeNumber_13 : decode gc_Mo_takeNumber 13 = .ok (.invokestatic 117, 3) := by decide +kernel
theorem dq_Mo_takeNumber_16 : decode gc_Mo_takeNumber 16 = .ok (.ifCond .ne 13, 3) := by decide +kernel
theorem dq_Mo_takeNumber_19 : decode gc_Mo_takeNumber 19 = .ok (.aload_n 0, 1) := by decide +kernel
theorem dq_Mo_takeNumber_20 : decode gc_Mo_takeNumber 20 = .ok (.iconst 1, 1) := by decide +kernel
theorem dq_Mo_takeNumber_21 : decode gc_Mo_takeNumber 21 = .ok (.aload_n 0, 1) := by decide +kernel
theorem dq_Mo_takeNumber_22 : decode gc_Mo_takeNumber 22 = .ok (.getfield 134, 3) := by decide +kernel
theorem dq_Mo_takeNumber_25 : decode gc_Mo_takeNumber 25 = .ok (.invokevirtual 145, 3) := by decide +kernel
theorem dq_Mo_takeNumber_28 : decode gc_Mo_takeNumber 28 = .ok (.ireturn, 1) := by decide +kernel
theorem dq_Mo_takeNumber_29 : decode gc_Mo_takeNumber 29 = .ok (.aload_n 0, 1) := by decide +kernel
theorem dq_Mo_takeNumber_30 : decode gc_Mo_takeNumber 30 = .ok (.aload_n 0, 1) := by decide +kernel
theorem dq_Mo_takeNumber_31 : decode gc_Mo_takeNumber 31 = .ok (.getfield 134, 3) := by decide +kernel
theorem dq_Mo_takeNumber_34 : decode gc_Mo_takeNumber 34 = .ok (.putfield 149, 3) := by decide +kernel
theorem dq_Mo_takeNumber_37 : decode gc_Mo_takeNumber 37 = .ok (.aload_n 0, 1) := by decide +kernel
theorem dq_Mo_takeNumber_38 : decode gc_Mo_takeNumber 38 = .ok (.iconst 0, 1) := by decide +kernel
theorem dq_Mo_takeNumber_39 : decode gc_Mo_takeNumber 39 = .ok (.putfield 152, 3) := by decide +kernel
theorem dq_Mo_takeNumber_42 : decode gc_Mo_takeNumber 42 = .ok (.aload_n 0, 1) := by decide +kernel
theorem dq_Mo_takeNumber_43 : decode gc_Mo_takeNumber 43 = .ok (.getfield 134, 3) := by decide +kernel
theorem dq_Mo_takeNumber_46 : decode gc_Mo_takeNumber 46 = .ok (.aload_n 0, 1) := by decide +kernel
theorem dq_Mo_takeNumber_47 : decode gc_Mo_takeNumber 47 = .ok (.getfield 130, 3) := by decide +kernel
theorem dq_Mo_takeNumber_50 : decode gc_Mo_takeNumber 50 = .ok (.if_icmp .ge 79, 3) := by decide +kernel
theorem dq_Mo_takeNumber_53 : decode gc_Mo_takeNumber 53 = .ok (.aload_n 0, 1) := by decide +kernel
theorem dq_Mo_takeNumber_54 : decode gc_Mo_takeNumber 54 = .ok (.getfield 37, 3) := by decide +kernel
theorem dq_Mo_takeNumber_57 : decode gc_Mo_takeNumber 57 = .ok (.aload_n 0, 1) := by decide +kernel
theorem dq_Mo_takeNumber_58 : decode gc_Mo_takeNumber 58 = .ok (.getfield 134, 3) := by decide +kernel
theorem dq_Mo_takeNumber_61 : decode gc_Mo_takeNumber 61 = .ok (.iaload, 1) := by decide +kernel
theorem dq_Mo_takeNumber_62 : decode gc_Mo_takeNumber 62 = .ok (.i2l, 1) := by decide +kernel
theorem dq_Mo_takeNumber_63 : decode gc_Mo_takeNumber 63 = .ok (.ldc2_w 141, 3) := by decide +kernel
theorem dq_Mo_takeNumber_66 : decode gc_Mo_takeNumber 66 = .ok (.ldc2_w 143, 3) := by decide +kernel
theorem dq_Mo_takeNumber_69 : decode gc_Mo_takeNumber 69 = .ok (.invokestatic 117, 3) := by decide +kernel
theorem dq_Mo_takeNumber_72 : decode gc_Mo_takeNumber 72 = .ok (.ifCond .eq 57, 3) := by decide +kernel
theorem dq_Mo_takeNumber_75 : decode gc_Mo_takeNumber 75 = .ok (.aload_n 0, 1) := by decide +kernel
theorem dq_Mo_takeNumber_76 : decode gc_Mo_takeNumber 76 = .ok (.aload_n 0, 1) := by decide +kernel
theorem dq_Mo_takeNumber_77 : decode gc_Mo_takeNumber 77 = .ok (.getfield 152, 3) := by decide +kernel
theorem dq_Mo_takeNumber_80 : decode gc_Mo_takeNumber 80 = .ok (.sipush 10000, 3) := by decide +kernel
theorem dq_Mo_takeNumber_83 : decode gc_Mo_takeNumber 83 = .ok (.if_icmp .le 10, 3) := by decide +kernel
theorem dq_Mo_takeNumber_86 : decode gc_Mo_takeNumber 86 = .ok (.aload_n 0, 1) := by decide +kernel
theorem dq_Mo_takeNumber_87 : decode gc_Mo_takeNumber 87 = .ok (.getfield 152, 3) := by decide +kernel
theorem dq_Mo_takeNumber_90 : decode gc_Mo_takeNumber 90 = .ok (.goto 23, 3) := by decide +kernel
theorem dq_Mo_takeNumber_93 : decode gc_Mo_takeNumber 93 = .ok (.bipush 10, 2) := by decide +kernel
theorem dq_Mo_takeNumber_95 : decode gc_Mo_takeNumber 95 = .ok (.aload_n 0, 1) := by decide +kernel
theorem dq_Mo_takeNumber_96 : decode gc_Mo_takeNumber 96 = .ok (.getfield 152, 3) := by decide +kernel
theorem dq_Mo_takeNumber_99 : decode gc_Mo_takeNumber 99 = .ok (.imul, 1) := by decide +kernel
theorem dq_Mo_takeNumber_100 : decode gc_Mo_takeNumber 100 = .ok (.aload_n 0, 1) := by decide +kernel
theorem dq_Mo_takeNumber_101 : decode gc_Mo_takeNumber 101 = .ok (.getfield 37, 3) := by decide +kernel
theorem dq_Mo_takeNumber_104 : decode gc_Mo_takeNumber 104 = .ok (.aload_n 0, 1) := by decide +kernel
theorem dq_Mo_takeNumber_105 : decode gc_Mo_takeNumber 105 = .ok (.getfield 134, 3) := by decide +kernel
theorem dq_Mo_takeNumber_108 : decode gc_Mo_takeNumber 108 = .ok (.iaload, 1) := by decide +kernel
theorem dq_Mo_takeNumber_109 : decode gc_Mo_takeNumber 109 = .ok (.iadd, 1) := by decide +kernel
theorem dq_Mo_takeNumber_110 : decode gc_Mo_takeNumber 110 = .ok (.bipush 48, 2) := by decide +kernel
theorem dq_Mo_takeNumber_112 : decode gc_Mo_takeNumber 112 = .ok (.isub, 1) := by decide +kernel
theorem dq_Mo_takeNumber_113 : decode gc_Mo_takeNumber 113 = .ok (.putfield 152, 3) := by decide +kernel
theorem dq_Mo_takeNumber_116 : decode gc_Mo_takeNumber 116 = .ok (.aload_n 0, 1) := by decide +kernel
theorem dq_Mo_takeNumber_117 : decode gc_Mo_takeNumber 117 = .ok (.dup, 1) := by decide +kernel
theorem dq_Mo_takeNumber_118 : decode gc_Mo_takeNumber 118 = .ok (.getfield 134, 3) := by decide +kernel
theorem dq_Mo_takeNumber_121 : decode gc_Mo_takeNumber 121 = .ok (.iconst 1, 1) := by decide +kernel
theorem dq_Mo_takeNumber_122 : decode gc_Mo_takeNumber 122 = .ok (.iadd, 1) := by decide +kernel
theorem dq_Mo_takeNumber_123 : decode gc_Mo_takeNumber 123 = .ok (.putfield 134, 3) := by decide +kernel
theorem dq_Mo_takeNumber_126 : decode gc_Mo_takeNumber 126 = .ok (.goto (-84), 3) := by decide +kernel
theorem dq_Mo_takeNumber_129 : decode gc_Mo_takeNumber 129 = .ok (.aload_n 0, 1) := by decide +kernel
theorem dq_Mo_takeNumber_130 : decode gc_Mo_takeNumber 130 = .ok (.getfield 134, 3) := by decide +kernel
theorem dq_Mo_takeNumber_133 : decode gc_Mo_takeNumber 133 = .ok (.aload_n 0, 1) := by decide +kernel
theorem dq_Mo_takeNumber_134 : decode gc_Mo_takeNumber 134 = .ok (.getfield 149, 3) := by decide +kernel
theorem dq_Mo_takeNumber_137 : decode gc_Mo_takeNumber 137 = .ok (.isub, 1) := by decide +kernel
theorem dq_Mo_takeNumber_138 : decode gc_Mo_takeNumber 138 = .ok (.iconst 3, 1) := by decide +kernel
theorem dq_Mo_takeNumber_139 : decode gc_Mo_takeNumber 139 = .ok (.if_icmp .gt 18, 3) := by decide +kernel
theorem dq_Mo_takeNumber_142 : decode gc_Mo_takeNumber 142 = .ok (.aload_n 0, 1) := by decide +kernel
theorem dq_Mo_takeNumber_143 : decode gc_Mo_takeNumber 143 = .ok (.getfield 152, 3) := by decide +kernel
theorem dq_Mo_takeNumber_146 : decode gc_Mo_takeNumber 146 = .ok (.i2l, 1) := by decide +kernel
theorem dq_Mo_takeNumber_147 : decode gc_Mo_takeNumber 147 = .ok (.iload_n 1, 1) := by decide +kernel
theorem dq_Mo_takeNumber_148 : decode gc_Mo_takeNumber 148 = .ok (.i2l, 1) := by decide +kernel
theorem dq_Mo_takeNumber_149 : decode gc_Mo_takeNumber 149 = .ok (.iload_n 2, 1) := by decide +kernel
theorem dq_Mo_takeNumber_150 : decode gc_Mo_takeNumber 150 = .ok (.i2l, 1) := by decide +kernel
theorem dq_Mo_takeNumber_151 : decode gc_Mo_takeNumber 151 = .ok (.invokestatic 117, 3) := by decide +kernel
theorem dq_Mo_takeNumber_154 : decode gc_Mo_takeNumber 154 = .ok (.ifCond .ne 15, 3) := by decide +kernel
theorem dq_Mo_takeNumber_157 : decode gc_Mo_takeNumber 157 = .ok (.aload_n 0, 1) := by decide +kernel
theorem dq_Mo_takeNumber_158 : decode gc_Mo_takeNumber 158 = .ok (.iconst 2, 1) := by decide +kernel
theorem dq_Mo_takeNumber_159 : decode gc_Mo_takeNumber 159 = .ok (.aload_n 0, 1) := by decide +kernel
theorem dq_Mo_takeNumber_160 : decode gc_Mo_takeNumber 160 = .ok (.getfield 149, 3) := by decide +kernel
theorem dq_Mo_takeNumber_163 : decode gc_Mo_takeNumber 163 = .ok (.invokevirtual 145, 3) := by decide +kernel
theorem dq_Mo_takeNumber_166 : decode gc_Mo_takeNumber 166 = .ok (.goto 4, 3) := by decide +kernel
theorem dq_Mo_takeNumber_169 : decode gc_Mo_takeNumber 169 = .ok (.iconst 0, 1) := by decide +kernel
theorem dq_Mo_takeNumber_170 : decode gc_Mo_takeNumber 170 = .ok (.ireturn, 1) := by decide +kernel
abbrev gm_Mo_takeNumber : gM := (gc_Mo_takeNumber, gR_7, 1, 25, 4)
set_option maxRecDepth 20000 in
theorem gcy_Mo_137 : gCy gR_7 137 gy_Mo_here gc_Mo_here 1 (some .int) 0 := ⟨(gtab_at 890 (by decide +kernel) rfl), (gtab_at 8 (by decide +kernel) rfl), (gtab_at 893 rfl rfl), by decide, by decide, by decide +kernel⟩
theorem gim_Mo_here : Cond.instanceMethod gy_Mo_here ∈ gtbl := (gtab_at 892 (by decide +kernel) rfl)
theorem gse_Mo_here : Cond.selects gy_Mo_here.cls gy_Mo_here gy_Mo_here ∈ gtbl := (by decide +kernel)
theorem gk_Mo_141 : Cond.constantLong gR_7 141 (Int64.ofInt 48) ∈ gtbl := (gtab_at 914 (by decide +kernel) rfl)
theorem gk_Mo_143 : Cond.constantLong gR_7 143 (Int64.ofInt 57) ∈ gtbl := (gtab_at 915 (by decide +kernel) rfl)
theorem gfp_Mo_149 : gFp gR_7 149 7 19 .int := ⟨_, _, _, gt_7, rfl, by decide, (gtab_at 753 (by decide +kernel) rfl), gin_7, gto_7, gnm_7, rfl, by decide +kernel⟩
theorem gfp_Mo_152 : gFp gR_7 152 7 18 .int := ⟨_, _, _, gt_7, rfl, by decide, (gtab_at 752 (by decide +kernel) rfl), gin_7, gto_7, gnm_7, rfl, by decide +kernel⟩
theorem gfl_Mo_152 : gFl gR_7 152 7 18 := ⟨_, _, _, rfl, by decide, (gtab_at 752 (by decide +kernel) rfl), gin_7⟩
theorem gfl_Mo_149 : gFl gR_7 149 7 19 := ⟨_, _, _, rfl, by decide, (gtab_at 753 (by decide +kernel) rfl), gin_7⟩
set_option maxRecDepth 20000 in
theorem gcy_Mo_145 : gCy gR_7 145 gy_Mo_fails gc_Mo_fails 3 (some .int) 2 := ⟨(gtab_at 898 (by decide +kernel) rfl), (gtab_at 8 (by decide +kernel) rfl), (gtab_at 901 rfl rfl), by decide, by decide, by decide +kernel⟩
theorem gim_Mo_fails : Cond.instanceMethod gy_Mo_fails ∈ gtbl := (gtab_at 900 (by decide +kernel) rfl)
theorem gse_Mo_fails : Cond.selects gy_Mo_fails.cls gy_Mo_fails gy_Mo_fails ∈ gtbl := (by decide +kernel)
def f_Mo_takeNumber_J113  (k42 : gH → Option gO) (v1 : Int) (v2 : Int) (s1 : Int) (h : gH) : Option gO := gs (gup h 83 18 s1) (fun h13 => gs (gup h13 83 17 (gadd (h13 83 17) 1)) (fun h14 => k42  h14))
theorem w_Mo_takeNumber_J113 {o : gO} {X : gX} (hL : gLive (xZ X)) (hn : (zL (xZ X)).Nodup) (hF : gFin X (some .int) o)    {k42 : gH → Option gO} {v1 : Int} {v2 : Int} {s1 : Int} {h : gH} (hk42 : ∀ (h : gH), gr (k42 h) o gm_Mo_takeNumber X h 42 [(0, .inr (.inr 83)), (1, .inl v1), (2, .inl v2)] []) : gr (f_Mo_takeNumber_J113  k42 v1 v2 s1 h) o gm_Mo_takeNumber X h 113 [(0, .inr (.inr 83)), (1, .inl v1), (2, .inl v2)] [.inl s1, .inr (.inr 83)] := by
  unfold f_Mo_takeNumber_J113
  refine gr_puti (M := gm_Mo_takeNumber) dq_Mo_takeNumber_113 116 rfl gfp_Mo_152 gsh_83 rfl (gli hL gsh_83) (fun h13 _ => ?_)
  refine gr_aload_n (M := gm_Mo_takeNumber) dq_Mo_takeNumber_116 rfl 0 rfl 117 rfl ?_
  refine gr_dup (M := gm_Mo_takeNumber) dq_Mo_takeNumber_117 (fun _ q => by cases q) 118 rfl ?_
  refine gr_geti (M := gm_Mo_takeNumber) dq_Mo_takeNumber_118 121 rfl gfl_Mo_134 gsh_83 rfl (gli hL gsh_83) ?_
  refine gr_iconst (M := gm_Mo_takeNumber) (v := 1) dq_Mo_takeNumber_121 rfl ⟨by decide, by decide⟩ 122 rfl ?_
  refine gr_iadd (M := gm_Mo_takeNumber) dq_Mo_takeNumber_122 123 rfl ?_
  refine gr_puti (M := gm_Mo_takeNumber) dq_Mo_takeNumber_123 126 rfl gfp_Mo_134 gsh_83 rfl (gli hL gsh_83) (fun h14 _ => ?_)
  refine gr_goto (M := gm_Mo_takeNumber) dq_Mo_takeNumber_126 42 rfl ?_
  exact hk42  _

def f_Mo_takeNumber_L42 (v1 : Int) (v2 : Int) (k129 : gH → Option gO) : Nat → gH → Option gO
  | 0, _ => none
  | n + 1, h => if (h 83 15) ≤ (h 83 17) then (k129  h) else (gd (gix 250 (h 83 17)) (gb (f_Mo_in (h 93 (h 83 17).toNat) 48 57 h) (fun h9 r10 => if r10 = 0 then (k129  h9) else (if (h9 83 18) ≤ 10000 then (gd (gix 250 (h9 83 17)) (f_Mo_takeNumber_J113  (f_Mo_takeNumber_L42 v1 v2 k129 n) v1 v2 (gsub (gadd (gmul 10 (h9 83 18)) (h9 93 (h9 83 17).toNat)) 48) h9)) else (f_Mo_takeNumber_J113  (f_Mo_takeNumber_L42 v1 v2 k129 n) v1 v2 (h9 83 18) h9)))))
theorem w_Mo_takeNumber_L42 {o : gO} {X : gX} (hL : gLive (xZ X)) (hn : (zL (xZ X)).Nodup) (hF : gFin X (some .int) o) {v1 : Int} {v2 : Int}   {k129 : gH → Option gO} (hk129 : ∀ (h : gH), gr (k129 h) o gm_Mo_takeNumber X h 129 [(0, .inr (.inr 83)), (1, .inl v1), (2, .inl v2)] []) : ∀ (n : Nat) (h : gH), gr (f_Mo_takeNumber_L42 v1 v2 k129 n  h) o gm_Mo_takeNumber X h 42 [(0, .inr (.inr 83)), (1, .inl v1), (2, .inl v2)] [] := by
  intro n
  induction n with
  | zero => intros; exact gr_none
  | succ n ih =>
    intro  h
    unfold f_Mo_takeNumber_L42
    refine gr_aload_n (M := gm_Mo_takeNumber) dq_Mo_takeNumber_42 rfl 0 rfl 43 rfl ?_
    refine gr_geti (M := gm_Mo_takeNumber) dq_Mo_takeNumber_43 46 rfl gfl_Mo_134 gsh_83 rfl (gli hL gsh_83) ?_
    refine gr_aload_n (M := gm_Mo_takeNumber) dq_Mo_takeNumber_46 rfl 0 rfl 47 rfl ?_
    refine gr_geti (M := gm_Mo_takeNumber) dq_Mo_takeNumber_47 50 rfl gfl_Mo_130 gsh_83 rfl (gli hL gsh_83) ?_
    refine gr_icmp_ge (M := gm_Mo_takeNumber) dq_Mo_takeNumber_50 129 53 rfl rfl (fun c8 => ?_) (fun c8 => ?_)
    · exact hk129  _
    refine gr_aload_n (M := gm_Mo_takeNumber) dq_Mo_takeNumber_53 rfl 0 rfl 54 rfl ?_
    refine gr_getr (M := gm_Mo_takeNumber) dq_Mo_takeNumber_54 57 rfl gfl_Mo_37 gsh_83 rfl (gli hL gsh_83) 93 rfl ?_
    refine gr_aload_n (M := gm_Mo_takeNumber) dq_Mo_takeNumber_57 rfl 0 rfl 58 rfl ?_
    refine gr_geti (M := gm_Mo_takeNumber) dq_Mo_takeNumber_58 61 rfl gfl_Mo_134 gsh_83 rfl (gli hL gsh_83) ?_
    refine gr_iald (M := gm_Mo_takeNumber) dq_Mo_takeNumber_61 62 rfl gsh_93 (glj hL gsh_93 (by decide)) ?_
    refine gr_i2l (M := gm_Mo_takeNumber) dq_Mo_takeNumber_62 63 rfl ?_
    refine gr_ldc2_w (M := gm_Mo_takeNumber) (v := 48) dq_Mo_takeNumber_63 gk_Mo_141 ⟨by decide, by decide⟩ 66 rfl ?_
    refine gr_ldc2_w (M := gm_Mo_takeNumber) (v := 57) dq_Mo_takeNumber_66 gk_Mo_143 ⟨by decide, by decide⟩ 69 rfl ?_
    refine gr_callSi (M := gm_Mo_takeNumber) (as := [.inr (.inl (h 93 (h 83 17).toNat)), .inr (.inl 48), .inr (.inl 57)]) dq_Mo_takeNumber_69 72 rfl rfl gcy_Mo_117 gst_Mo_in ⟨by decide, by decide⟩ (Nat.le_of_ble_eq_true rfl) (fun o1 hg ha hx => c_Mo_in hL hn  hg ha hx) (fun h9 r10 _ => ?_)
    refine gr_if_eq (M := gm_Mo_takeNumber) dq_Mo_takeNumber_72 129 75 rfl rfl (fun c11 => ?_) (fun c11 => ?_)
    · exact hk129  _
    refine gr_aload_n (M := gm_Mo_takeNumber) dq_Mo_takeNumber_75 rfl 0 rfl 76 rfl ?_
    refine gr_aload_n (M := gm_Mo_takeNumber) dq_Mo_takeNumber_76 rfl 0 rfl 77 rfl ?_
    refine gr_geti (M := gm_Mo_takeNumber) dq_Mo_takeNumber_77 80 rfl gfl_Mo_152 gsh_83 rfl (gli hL gsh_83) ?_
    refine gr_sipush (M := gm_Mo_takeNumber) (v := 10000) dq_Mo_takeNumber_80 (by decide) ⟨by decide, by decide⟩ 83 rfl ?_
    refine gr_icmp_le (M := gm_Mo_takeNumber) dq_Mo_takeNumber_83 93 86 rfl rfl (fun c12 => ?_) (fun c12 => ?_)
    · refine gr_bipush (M := gm_Mo_takeNumber) (v := 10) dq_Mo_takeNumber_93 (by decide) ⟨by decide, by decide⟩ 95 rfl ?_
      refine gr_aload_n (M := gm_Mo_takeNumber) dq_Mo_takeNumber_95 rfl 0 rfl 96 rfl ?_
      refine gr_geti (M := gm_Mo_takeNumber) dq_Mo_takeNumber_96 99 rfl gfl_Mo_152 gsh_83 rfl (gli hL gsh_83) ?_
      refine gr_imul (M := gm_Mo_takeNumber) dq_Mo_takeNumber_99 100 rfl ?_
      refine gr_aload_n (M := gm_Mo_takeNumber) dq_Mo_takeNumber_100 rfl 0 rfl 101 rfl ?_
      refine gr_getr (M := gm_Mo_takeNumber) dq_Mo_takeNumber_101 104 rfl gfl_Mo_37 gsh_83 rfl (gli hL gsh_83) 93 rfl ?_
      refine gr_aload_n (M := gm_Mo_takeNumber) dq_Mo_takeNumber_104 rfl 0 rfl 105 rfl ?_
      refine gr_geti (M := gm_Mo_takeNumber) dq_Mo_takeNumber_105 108 rfl gfl_Mo_134 gsh_83 rfl (gli hL gsh_83) ?_
      refine gr_iald (M := gm_Mo_takeNumber) dq_Mo_takeNumber_108 109 rfl gsh_93 (glj hL gsh_93 (by decide)) ?_
      refine gr_iadd (M := gm_Mo_takeNumber) dq_Mo_takeNumber_109 110 rfl ?_
      refine gr_bipush (M := gm_Mo_takeNumber) (v := 48) dq_Mo_takeNumber_110 (by decide) ⟨by decide, by decide⟩ 112 rfl ?_
      refine gr_isub (M := gm_Mo_takeNumber) dq_Mo_takeNumber_112 113 rfl ?_
      exact w_Mo_takeNumber_J113 hL hn hF   ih
    refine gr_aload_n (M := gm_Mo_takeNumber) dq_Mo_takeNumber_86 rfl 0 rfl 87 rfl ?_
    refine gr_geti (M := gm_Mo_takeNumber) dq_Mo_takeNumber_87 90 rfl gfl_Mo_152 gsh_83 rfl (gli hL gsh_83) ?_
    refine gr_goto (M := gm_Mo_takeNumber) dq_Mo_takeNumber_90 113 rfl ?_
    exact w_Mo_takeNumber_J113 hL hn hF   ih

def f_Mo_takeNumber_J157    (h : gH) : Option gO := gb (f_Mo_fails 2 (h 83 19) h) (fun h17 r18 => some (h17, r18))
theorem w_Mo_takeNumber_J157 {o : gO} {X : gX} (hL : gLive (xZ X)) (hn : (zL (xZ X)).Nodup) (hF : gFin X (some .int) o)      {h : gH}  : gr (f_Mo_takeNumber_J157    h) o gm_Mo_takeNumber X h 157 [(0, .inr (.inr 83))] [] := by
  unfold f_Mo_takeNumber_J157
  refine gr_aload_n (M := gm_Mo_takeNumber) dq_Mo_takeNumber_157 rfl 0 rfl 158 rfl ?_
  refine gr_iconst (M := gm_Mo_takeNumber) (v := 2) dq_Mo_takeNumber_158 rfl ⟨by decide, by decide⟩ 159 rfl ?_
  refine gr_aload_n (M := gm_Mo_takeNumber) dq_Mo_takeNumber_159 rfl 0 rfl 160 rfl ?_
  refine gr_geti (M := gm_Mo_takeNumber) dq_Mo_takeNumber_160 163 rfl gfl_Mo_149 gsh_83 rfl (gli hL gsh_83) ?_
  refine gr_callVi (M := gm_Mo_takeNumber) (as := [.inl 2, .inl (h 83 19)]) dq_Mo_takeNumber_163 166 rfl rfl gcy_Mo_145 gim_Mo_fails gse_Mo_fails ⟨by decide, by decide⟩ (Nat.le_of_ble_eq_true rfl) gsh_83 rfl (gli hL gsh_83) (fun o1 hg ha hx => c_Mo_fails hL hn  hg ha hx) (fun h17 r18 _ => ?_)
  refine gr_goto (M := gm_Mo_takeNumber) dq_Mo_takeNumber_166 170 rfl ?_
  exact gr_ireturn (M := gm_Mo_takeNumber) dq_Mo_takeNumber_170 hF

def f_Mo_takeNumber_J129   (v1 : Int) (v2 : Int) (h : gH) : Option gO := if 3 < (gsub (h 83 17) (h 83 19)) then (f_Mo_takeNumber_J157    h) else (gb (f_Mo_in (h 83 18) v1 v2 h) (fun h19 r20 => if r20 = 0 then (f_Mo_takeNumber_J157    h19) else (some (h19, 0))))
theorem w_Mo_takeNumber_J129 {o : gO} {X : gX} (hL : gLive (xZ X)) (hn : (zL (xZ X)).Nodup) (hF : gFin X (some .int) o)     {v1 : Int} {v2 : Int} {h : gH}  : gr (f_Mo_takeNumber_J129   v1 v2 h) o gm_Mo_takeNumber X h 129 [(0, .inr (.inr 83)), (1, .inl v1), (2, .inl v2)] [] := by
  unfold f_Mo_takeNumber_J129
  refine gr_aload_n (M := gm_Mo_takeNumber) dq_Mo_takeNumber_129 rfl 0 rfl 130 rfl ?_
  refine gr_geti (M := gm_Mo_takeNumber) dq_Mo_takeNumber_130 133 rfl gfl_Mo_134 gsh_83 rfl (gli hL gsh_83) ?_
  refine gr_aload_n (M := gm_Mo_takeNumber) dq_Mo_takeNumber_133 rfl 0 rfl 134 rfl ?_
  refine gr_geti (M := gm_Mo_takeNumber) dq_Mo_takeNumber_134 137 rfl gfl_Mo_149 gsh_83 rfl (gli hL gsh_83) ?_
  refine gr_isub (M := gm_Mo_takeNumber) dq_Mo_takeNumber_137 138 rfl ?_
  refine gr_iconst (M := gm_Mo_takeNumber) (v := 3) dq_Mo_takeNumber_138 rfl ⟨by decide, by decide⟩ 139 rfl ?_
  refine gr_icmp_gt (M := gm_Mo_takeNumber) dq_Mo_takeNumber_139 157 142 rfl rfl (fun c16 => ?_) (fun c16 => ?_)
  · refine gr_sub (M := gm_Mo_takeNumber) (lv' := [(0, .inr (.inr 83))]) [0] rfl ?_
    exact w_Mo_takeNumber_J157 hL hn hF   
  refine gr_aload_n (M := gm_Mo_takeNumber) dq_Mo_takeNumber_142 rfl 0 rfl 143 rfl ?_
  refine gr_geti (M := gm_Mo_takeNumber) dq_Mo_takeNumber_143 146 rfl gfl_Mo_152 gsh_83 rfl (gli hL gsh_83) ?_
  refine gr_i2l (M := gm_Mo_takeNumber) dq_Mo_takeNumber_146 147 rfl ?_
  refine gr_iload_n (M := gm_Mo_takeNumber) dq_Mo_takeNumber_147 rfl 1 rfl 148 rfl ?_
  refine gr_i2l (M := gm_Mo_takeNumber) dq_Mo_takeNumber_148 149 rfl ?_
  refine gr_iload_n (M := gm_Mo_takeNumber) dq_Mo_takeNumber_149 rfl 2 rfl 150 rfl ?_
  refine gr_i2l (M := gm_Mo_takeNumber) dq_Mo_takeNumber_150 151 rfl ?_
  refine gr_callSi (M := gm_Mo_takeNumber) (as := [.inr (.inl (h 83 18)), .inr (.inl v1), .inr (.inl v2)]) dq_Mo_takeNumber_151 154 rfl rfl gcy_Mo_117 gst_Mo_in ⟨by decide, by decide⟩ (Nat.le_of_ble_eq_true rfl) (fun o1 hg ha hx => c_Mo_in hL hn  hg ha hx) (fun h19 r20 _ => ?_)
  refine gr_if_ne (M := gm_Mo_takeNumber) dq_Mo_takeNumber_154 169 157 rfl rfl (fun c21 => ?_) (fun c21 => ?_)
  · refine gr_iconst (M := gm_Mo_takeNumber) (v := 0) dq_Mo_takeNumber_169 rfl ⟨by decide, by decide⟩ 170 rfl ?_
    exact gr_ireturn (M := gm_Mo_takeNumber) dq_Mo_takeNumber_170 hF
  refine gr_sub (M := gm_Mo_takeNumber) (lv' := [(0, .inr (.inr 83))]) [0] rfl ?_
  exact w_Mo_takeNumber_J157 hL hn hF   

def f_Mo_takeNumber (a1 : Int) (a2 : Int) (h : gH) : Option gO := gb (f_Mo_here  h) (fun h1 r2 => gb (f_Mo_in r2 48 57 h1) (fun h3 r4 => if r4 = 0 then (gb (f_Mo_fails 1 (h3 83 17) h3) (fun h22 r23 => some (h22, r23))) else (gs (gup h3 83 19 (h3 83 17)) (fun h6 => gs (gup h6 83 18 0) (fun h7 => f_Mo_takeNumber_L42 a1 a2 (fun  h15 => f_Mo_takeNumber_J129   a1 a2 h15) 50000  h7)))))
theorem c_Mo_takeNumber {Z : gZ} (hL : gLive Z) (hn : (zL Z).Nodup) {a1 : Int} {a2 : Int}  {h : gH} {o : gO} (hg : gRg h) (ha : gRl [.inr (.inr 83), .inl a1, .inl a2]) (hx : f_Mo_takeNumber a1 a2 h = some o) : gC Z gy_Mo_takeNumber gc_Mo_takeNumber 4 (some .int) 1 25 [.inr (.inr 83), .inl a1, .inl a2] h o := by
  unfold f_Mo_takeNumber at hx
  refine gC_of (lv := [(0, .inr (.inr 83)), (1, .inl a1), (2, .inl a2)]) (own := gR_7) (by decide +kernel) rfl (Nat.le_of_ble_eq_true rfl) rfl rfl hn hg ha hx (fun X hZ hF => ?_)
  subst hZ
  show gr _ o gm_Mo_takeNumber X h 0 _ _
  refine gr_aload_n (M := gm_Mo_takeNumber) dq_Mo_takeNumber_0 rfl 0 rfl 1 rfl ?_
  refine gr_callVi (M := gm_Mo_takeNumber) (as := []) dq_Mo_takeNumber_1 4 rfl rfl gcy_Mo_137 gim_Mo_here gse_Mo_here ⟨by decide, by decide⟩ (Nat.le_of_ble_eq_true rfl) gsh_83 rfl (gli hL gsh_83) (fun o1 hg ha hx => c_Mo_here hL hn  hg ha hx) (fun h1 r2 _ => ?_)
  refine gr_istore_n (M := gm_Mo_takeNumber) (lv' := [(3, .inl r2), (0, .inr (.inr 83)), (1, .inl a1), (2, .inl a2)]) dq_Mo_takeNumber_4 rfl (by decide) rfl 5 rfl ?_
  refine gr_iload_n (M := gm_Mo_takeNumber) dq_Mo_takeNumber_5 rfl 0 rfl 6 rfl ?_
  refine gr_i2l (M := gm_Mo_takeNumber) dq_Mo_takeNumber_6 7 rfl ?_
  refine gr_ldc2_w (M := gm_Mo_takeNumber) (v := 48) dq_Mo_takeNumber_7 gk_Mo_141 ⟨by decide, by decide⟩ 10 rfl ?_
  refine gr_ldc2_w (M := gm_Mo_takeNumber) (v := 57) dq_Mo_takeNumber_10 gk_Mo_143 ⟨by decide, by decide⟩ 13 rfl ?_
  refine gr_callSi (M := gm_Mo_takeNumber) (as := [.inr (.inl r2), .inr (.inl 48), .inr (.inl 57)]) dq_Mo_takeNumber_13 16 rfl rfl gcy_Mo_117 gst_Mo_in ⟨by decide, by decide⟩ (Nat.le_of_ble_eq_true rfl) (fun o1 hg ha hx => c_Mo_in hL hn  hg ha hx) (fun h3 r4 _ => ?_)
  refine gr_if_ne (M := gm_Mo_takeNumber) dq_Mo_takeNumber_16 29 19 rfl rfl (fun c5 => ?_) (fun c5 => ?_)
  · refine gr_aload_n (M := gm_Mo_takeNumber) dq_Mo_takeNumber_29 rfl 1 rfl 30 rfl ?_
    refine gr_aload_n (M := gm_Mo_takeNumber) dq_Mo_takeNumber_30 rfl 1 rfl 31 rfl ?_
    refine gr_geti (M := gm_Mo_takeNumber) dq_Mo_takeNumber_31 34 rfl gfl_Mo_134 gsh_83 rfl (gli hL gsh_83) ?_
    refine gr_puti (M := gm_Mo_takeNumber) dq_Mo_takeNumber_34 37 rfl gfp_Mo_149 gsh_83 rfl (gli hL gsh_83) (fun h6 _ => ?_)
    refine gr_aload_n (M := gm_Mo_takeNumber) dq_Mo_takeNumber_37 rfl 1 rfl 38 rfl ?_
    refine gr_iconst (M := gm_Mo_takeNumber) (v := 0) dq_Mo_takeNumber_38 rfl ⟨by decide, by decide⟩ 39 rfl ?_
    refine gr_puti (M := gm_Mo_takeNumber) dq_Mo_takeNumber_39 42 rfl gfp_Mo_152 gsh_83 rfl (gli hL gsh_83) (fun h7 _ => ?_)
    refine gr_sub (M := gm_Mo_takeNumber) (lv' := [(0, .inr (.inr 83)), (1, .inl a1), (2, .inl a2)]) [1, 2, 3] rfl ?_
    refine w_Mo_takeNumber_L42 hL hn hF   (fun h15 => ?_) 50000  _
    exact w_Mo_takeNumber_J129 hL hn hF   
  refine gr_aload_n (M := gm_Mo_takeNumber) dq_Mo_takeNumber_19 rfl 1 rfl 20 rfl ?_
  refine gr_iconst (M := gm_Mo_takeNumber) (v := 1) dq_Mo_takeNumber_20 rfl ⟨by decide, by decide⟩ 21 rfl ?_
  refine gr_aload_n (M := gm_Mo_takeNumber) dq_Mo_takeNumber_21 rfl 1 rfl 22 rfl ?_
  refine gr_geti (M := gm_Mo_takeNumber) dq_Mo_takeNumber_22 25 rfl gfl_Mo_134 gsh_83 rfl (gli hL gsh_83) ?_
  refine gr_callVi (M := gm_Mo_takeNumber) (as := [.inl 1, .inl (h3 83 17)]) dq_Mo_takeNumber_25 28 rfl rfl gcy_Mo_145 gim_Mo_fails gse_Mo_fails ⟨by decide, by decide⟩ (Nat.le_of_ble_eq_true rfl) gsh_83 rfl (gli hL gsh_83) (fun o1 hg ha hx => c_Mo_fails hL hn  hg ha hx) (fun h22 r23 _ => ?_)
  exact gr_ireturn (M := gm_Mo_takeNumber) dq_Mo_takeNumber_28 hF

-- Mo_into
theorem dq_Mo_into_0 : decode gc_Mo_into 0 = .ok (.aload_n 0, 1) := by decide +kernel
theorem dq_Mo_into_1 : decode gc_Mo_into 1 = .ok (.iload_n 3, 1) := by decide +kernel
theorem dq_Mo_into_2 : decode gc_Mo_into 2 = .ok (.iload 4, 2) := by decide +kernel
theorem dq_Mo_into_4 : decode gc_Mo_into 4 = .ok (.invokevirtual 155, 3) := by decide +kernel
theorem dq_Mo_into_7 : decode gc_Mo_into 7 = .ok (.istore 5, 2) := by decide +kernel
theorem dq_Mo_into_9 : decode gc_Mo_into 9 = .ok (.aload_n 1, 1) := by decide +kernel
theorem dq_Mo_into_10 : decode gc_Mo_into 10 = .ok (.iload_n 2, 1) := by decide +kernel
theorem dq_Mo_into_11 : decode gc_Mo_into 11 = .ok (.aload_n 0, 1) := by decide +kernel
theorem dq_Mo_into_12 : decode gc_Mo_into 12 = .ok (.getfield 152, 3) := by decide +kernel
theorem dq_Mo_into_15 : decode gc_Mo_into 15 = .ok (.iastore, 1) := by decide +kernel
theorem dq_Mo_into_16 : decode gc_Mo_into 16 = .ok (.iload 5, 2) := by decide +kernel
theorem dq_Mo_into_18 : decode gc_Mo_into 18 = .ok (.ireturn, 1) := by decide +kernel
abbrev gm_Mo_into : gM := (gc_Mo_into, gR_7, 2, 48, 6)
set_option maxRecDepth 20000 in
theorem gcy_Mo_155 : gCy gR_7 155 gy_Mo_takeNumber gc_Mo_takeNumber 4 (some .int) 2 := ⟨(gtab_at 910 (by decide +kernel) rfl), (gtab_at 8 (by decide +kernel) rfl), (gtab_at 913 rfl rfl), by decide, by decide, by decide +kernel⟩
theorem gim_Mo_takeNumber : Cond.instanceMethod gy_Mo_takeNumber ∈ gtbl := (gtab_at 912 (by decide +kernel) rfl)
theorem gse_Mo_takeNumber : Cond.selects gy_Mo_takeNumber.cls gy_Mo_takeNumber gy_Mo_takeNumber ∈ gtbl := (by decide +kernel)
def f_Mo_into (p1 : Nat) (a2 : Int) (a3 : Int) (a4 : Int) (h : gH) : Option gO := gb (f_Mo_takeNumber a3 a4 h) (fun h1 r2 => gd (gix (gln p1) a2) (gs (gup h1 p1 a2.toNat (h1 83 18)) (fun h3 => some (h3, r2))))
theorem c_Mo_into {Z : gZ} (hL : gLive Z) (hn : (zL Z).Nodup) {p1 : Nat} {a2 : Int} {a3 : Int} {a4 : Int} (hp1 : gia p1 = true) {h : gH} {o : gO} (hg : gRg h) (ha : gRl [.inr (.inr 83), .inr (.inr p1), .inl a2, .inl a3, .inl a4]) (hx : f_Mo_into p1 a2 a3 a4 h = some o) : gC Z gy_Mo_into gc_Mo_into 6 (some .int) 2 48 [.inr (.inr 83), .inr (.inr p1), .inl a2, .inl a3, .inl a4] h o := by
  unfold f_Mo_into at hx
  refine gC_of (lv := [(0, .inr (.inr 83)), (1, .inr (.inr p1)), (2, .inl a2), (3, .inl a3), (4, .inl a4)]) (own := gR_7) (by decide +kernel) rfl (Nat.le_of_ble_eq_true rfl) rfl rfl hn hg ha hx (fun X hZ hF => ?_)
  subst hZ
  show gr _ o gm_Mo_into X h 0 _ _
  refine gr_aload_n (M := gm_Mo_into) dq_Mo_into_0 rfl 0 rfl 1 rfl ?_
  refine gr_iload_n (M := gm_Mo_into) dq_Mo_into_1 rfl 3 rfl 2 rfl ?_
  refine gr_iload (M := gm_Mo_into) dq_Mo_into_2 4 rfl 4 rfl ?_
  refine gr_callVi (M := gm_Mo_into) (as := [.inl a3, .inl a4]) dq_Mo_into_4 7 rfl rfl gcy_Mo_155 gim_Mo_takeNumber gse_Mo_takeNumber ⟨by decide, by decide⟩ (Nat.le_of_ble_eq_true rfl) gsh_83 rfl (gli hL gsh_83) (fun o1 hg ha hx => c_Mo_takeNumber hL hn  hg ha hx) (fun h1 r2 _ => ?_)
  refine gr_istore (M := gm_Mo_into) (kk := 0) (lv' := [(5, .inl r2), (0, .inr (.inr 83)), (1, .inr (.inr p1)), (2, .inl a2), (3, .inl a3), (4, .inl a4)]) dq_Mo_into_7 (by decide) rfl 9 rfl ?_
  refine gr_aload_n (M := gm_Mo_into) dq_Mo_into_9 rfl 2 rfl 10 rfl ?_
  refine gr_iload_n (M := gm_Mo_into) dq_Mo_into_10 rfl 3 rfl 11 rfl ?_
  refine gr_aload_n (M := gm_Mo_into) dq_Mo_into_11 rfl 1 rfl 12 rfl ?_
  refine gr_geti (M := gm_Mo_into) dq_Mo_into_12 15 rfl gfl_Mo_152 gsh_83 rfl (gli hL gsh_83) ?_
  refine gr_iastP (M := gm_Mo_into) dq_Mo_into_15 16 rfl hp1 hL (fun h3 _ => ?_)
  refine gr_iload (M := gm_Mo_into) dq_Mo_into_16 0 rfl 18 rfl ?_
  exact gr_ireturn (M := gm_Mo_into) dq_Mo_into_18 hF

-- Mo_takeTwo
theorem dq_Mo_takeTwo_0 : decode gc_Mo_takeTwo 0 = .ok (.aload_n 0, 1) := by decide +kernel
theorem dq_Mo_takeTwo_1 : decode gc_Mo_takeTwo 1 = .ok (.aload_n 1, 1) := by decide +kernel
theorem dq_Mo_takeTwo_2 : decode gc_Mo_takeTwo 2 = .ok (.iload_n 3, 1) := by decide +kernel
theorem dq_Mo_takeTwo_3 : decode gc_Mo_takeTwo 3 = .ok (.iconst 0, 1) := by decide +kernel
theorem dq_Mo_takeTwo_4 : decode gc_Mo_takeTwo 4 = .ok (.aload_n 0, 1) := by decide +kernel
theorem dq_Mo_takeTwo_5 : decode gc_Mo_takeTwo 5 = .ok (.getfield 44, 3) := by decide +kernel
theorem dq_Mo_takeTwo_8 : decode gc_Mo_takeTwo 8 = .ok (.iconst 0, 1) := by decide +kernel
theorem dq_Mo_takeTwo_9 : decode gc_Mo_takeTwo 9 = .ok (.iaload, 1) := by decide +kernel
theorem dq_Mo_takeTwo_10 : decode gc_Mo_takeTwo 10 = .ok (.iconst 1, 1) := by decide +kernel
theorem dq_Mo_takeTwo_11 : decode gc_Mo_takeTwo 11 = .ok (.isub, 1) := by decide +kernel
theorem dq_Mo_takeTwo_12 : decode gc_Mo_takeTwo 12 = .ok (.invokevirtual 158, 3) := by decide +kernel
theorem dq_Mo_takeTwo_15 : decode gc_Mo_takeTwo 15 = .ok (.istore 4, 2) := by decide +kernel
theorem dq_Mo_takeTwo_17 : decode gc_Mo_takeTwo 17 = .ok (.iload 4, 2) := by decide +kernel
theorem dq_Mo_takeTwo_19 : decode gc_Mo_takeTwo 19 = .ok (.ifCond .le 8, 3) := by decide +kernel
theorem dq_Mo_takeTwo_22 : decode gc_Mo_takeTwo 22 = .ok (.iload 4, 2) := by decide +kernel
theorem dq_Mo_takeTwo_24 : decode gc_Mo_takeTwo 24 = .ok (.goto 18, 3) := by decide +kernel
theorem dq_Mo_takeTwo_27 : decode gc_Mo_takeTwo 27 = .ok (.aload_n 0, 1) := by decide +kernel
theorem dq_Mo_takeTwo_28 : decode gc_Mo_takeTwo 28 = .ok (.aload_n 2, 1) := by decide +kernel
theorem dq_Mo_takeTwo_29 : decode gc_Mo_takeTwo 29 = .ok (.iload_n 3, 1) := by decide +kernel
theorem dq_Mo_takeTwo_30 : decode gc_Mo_takeTwo 30 = .ok (.iconst 0, 1) := by decide +kernel
theorem dq_Mo_takeTwo_31 : decode gc_Mo_takeTwo 31 = .ok (.aload_n 0, 1) := by decide +kernel
theorem dq_Mo_takeTwo_32 : decode gc_Mo_takeTwo 32 = .ok (.getfield 44, 3) := by decide +kernel
theorem dq_Mo_takeTwo_35 : decode gc_Mo_takeTwo 35 = .ok (.iconst 0, 1) := by decide +kernel
theorem dq_Mo_takeTwo_36 : decode gc_Mo_takeTwo 36 = .ok (.iaload, 1) := by decide +kernel
theorem dq_Mo_takeTwo_37 : decode gc_Mo_takeTwo 37 = .ok (.iconst 1, 1) := by decide +kernel
theorem dq_Mo_takeTwo_38 : decode gc_Mo_takeTwo 38 = .ok (.isub, 1) := by decide +kernel
theorem dq_Mo_takeTwo_39 : decode gc_Mo_takeTwo 39 = .ok (.invokevirtual 158, 3) := by decide +kernel
theorem dq_Mo_takeTwo_42 : decode gc_Mo_takeTwo 42 = .ok (.istore 4, 2) := by decide +kernel
theorem dq_Mo_takeTwo_44 : decode gc_Mo_takeTwo 44 = .ok (.iload 4, 2) := by decide +kernel
theorem dq_Mo_takeTwo_46 : decode gc_Mo_takeTwo 46 = .ok (.ifCond .le 8, 3) := by decide +kernel
theorem dq_Mo_takeTwo_49 : decode gc_Mo_takeTwo 49 = .ok (.iload 4, 2) := by decide +kernel
theorem dq_Mo_takeTwo_51 : decode gc_Mo_takeTwo 51 = .ok (.goto 25, 3) := by decide +kernel
theorem dq_Mo_takeTwo_54 : decode gc_Mo_takeTwo 54 = .ok (.aload_n 1, 1) := by decide +kernel
theorem dq_Mo_takeTwo_55 : decode gc_Mo_takeTwo 55 = .ok (.iload_n 3, 1) := by decide +kernel
theorem dq_Mo_takeTwo_56 : decode gc_Mo_takeTwo 56 = .ok (.iaload, 1) := by decide +kernel
theorem dq_Mo_takeTwo_57 : decode gc_Mo_takeTwo 57 = .ok (.aload_n 2, 1) := by decide +kernel
theorem dq_Mo_takeTwo_58 : decode gc_Mo_takeTwo 58 = .ok (.iload_n 3, 1) := by decide +kernel
theorem dq_Mo_takeTwo_59 : decode gc_Mo_takeTwo 59 = .ok (.iaload, 1) := by decide +kernel
theorem dq_Mo_takeTwo_60 : decode gc_Mo_takeTwo 60 = .ok (.if_icmp .ne 15, 3) := by decide +kernel
theorem dq_Mo_takeTwo_63 : decode gc_Mo_takeTwo 63 = .ok (.aload_n 0, 1) := by decide +kernel
theorem dq_Mo_takeTwo_64 : decode gc_Mo_takeTwo 64 = .ok (.iconst 4, 1) := by decide +kernel
theorem dq_Mo_takeTwo_65 : decode gc_Mo_takeTwo 65 = .ok (.aload_n 0, 1) := by decide +kernel
theorem dq_Mo_takeTwo_66 : decode gc_Mo_takeTwo 66 = .ok (.getfield 149, 3) := by decide +kernel
theorem dq_Mo_takeTwo_69 : decode gc_Mo_takeTwo 69 = .ok (.invokevirtual 145, 3) := by decide +kernel
theorem dq_Mo_takeTwo_72 : decode gc_Mo_takeTwo 72 = .ok (.goto 4, 3) := by decide +kernel
theorem dq_Mo_takeTwo_75 : decode gc_Mo_takeTwo 75 = .ok (.iconst 0, 1) := by decide +kernel
theorem dq_Mo_takeTwo_76 : decode gc_Mo_takeTwo 76 = .ok (.ireturn, 1) := by decide +kernel
abbrev gm_Mo_takeTwo : gM := (gc_Mo_takeTwo, gR_7, 3, 73, 5)
theorem gfl_Mo_44 : gFl gR_7 44 7 20 := ⟨_, _, _, rfl, by decide, (gtab_at 754 (by decide +kernel) rfl), gin_7⟩
set_option maxRecDepth 20000 in
theorem gcy_Mo_158 : gCy gR_7 158 gy_Mo_into gc_Mo_into 6 (some .int) 4 := ⟨(gtab_at 906 (by decide +kernel) rfl), (gtab_at 8 (by decide +kernel) rfl), (gtab_at 909 rfl rfl), by decide, by decide, by decide +kernel⟩
theorem gim_Mo_into : Cond.instanceMethod gy_Mo_into ∈ gtbl := (gtab_at 908 (by decide +kernel) rfl)
theorem gse_Mo_into : Cond.selects gy_Mo_into.cls gy_Mo_into gy_Mo_into ∈ gtbl := (by decide +kernel)
def f_Mo_takeTwo_J42 (p1 : Nat) (p2 : Nat)  (v3 : Int) (s0 : Int) (h : gH) : Option gO := if s0 ≤ 0 then (gd (gix (gln p1) v3) (gd (gix (gln p2) v3) (if (h p1 v3.toNat) = (h p2 v3.toNat) then (gb (f_Mo_fails 4 (h 83 19) h) (fun h8 r9 => some (h8, r9))) else (some (h, 0))))) else (some (h, s0))
theorem w_Mo_takeTwo_J42 {o : gO} {X : gX} (hL : gLive (xZ X)) (hn : (zL (xZ X)).Nodup) (hF : gFin X (some .int) o) {p1 : Nat} {p2 : Nat} (hp1 : gia p1 = true) (hp2 : gia p2 = true)   {v3 : Int} {s0 : Int} {h : gH}  : gr (f_Mo_takeTwo_J42 p1 p2  v3 s0 h) o gm_Mo_takeTwo X h 42 [(0, .inr (.inr 83)), (1, .inr (.inr p1)), (2, .inr (.inr p2)), (3, .inl v3)] [.inl s0] := by
  unfold f_Mo_takeTwo_J42
  refine gr_istore (M := gm_Mo_takeTwo) (kk := 0) (lv' := [(4, .inl s0), (0, .inr (.inr 83)), (1, .inr (.inr p1)), (2, .inr (.inr p2)), (3, .inl v3)]) dq_Mo_takeTwo_42 (by decide) rfl 44 rfl ?_
  refine gr_iload (M := gm_Mo_takeTwo) dq_Mo_takeTwo_44 0 rfl 46 rfl ?_
  refine gr_if_le (M := gm_Mo_takeTwo) dq_Mo_takeTwo_46 54 49 rfl rfl (fun c6 => ?_) (fun c6 => ?_)
  · refine gr_aload_n (M := gm_Mo_takeTwo) dq_Mo_takeTwo_54 rfl 2 rfl 55 rfl ?_
    refine gr_iload_n (M := gm_Mo_takeTwo) dq_Mo_takeTwo_55 rfl 4 rfl 56 rfl ?_
    refine gr_ialdP (M := gm_Mo_takeTwo) dq_Mo_takeTwo_56 57 rfl hp1 hL ?_
    refine gr_aload_n (M := gm_Mo_takeTwo) dq_Mo_takeTwo_57 rfl 3 rfl 58 rfl ?_
    refine gr_iload_n (M := gm_Mo_takeTwo) dq_Mo_takeTwo_58 rfl 4 rfl 59 rfl ?_
    refine gr_ialdP (M := gm_Mo_takeTwo) dq_Mo_takeTwo_59 60 rfl hp2 hL ?_
    refine gr_icmp_ne (M := gm_Mo_takeTwo) dq_Mo_takeTwo_60 75 63 rfl rfl (fun c7 => ?_) (fun c7 => ?_)
    · refine gr_iconst (M := gm_Mo_takeTwo) (v := 0) dq_Mo_takeTwo_75 rfl ⟨by decide, by decide⟩ 76 rfl ?_
      exact gr_ireturn (M := gm_Mo_takeTwo) dq_Mo_takeTwo_76 hF
    refine gr_aload_n (M := gm_Mo_takeTwo) dq_Mo_takeTwo_63 rfl 1 rfl 64 rfl ?_
    refine gr_iconst (M := gm_Mo_takeTwo) (v := 4) dq_Mo_takeTwo_64 rfl ⟨by decide, by decide⟩ 65 rfl ?_
    refine gr_aload_n (M := gm_Mo_takeTwo) dq_Mo_takeTwo_65 rfl 1 rfl 66 rfl ?_
    refine gr_geti (M := gm_Mo_takeTwo) dq_Mo_takeTwo_66 69 rfl gfl_Mo_149 gsh_83 rfl (gli hL gsh_83) ?_
    refine gr_callVi (M := gm_Mo_takeTwo) (as := [.inl 4, .inl (h 83 19)]) dq_Mo_takeTwo_69 72 rfl rfl gcy_Mo_145 gim_Mo_fails gse_Mo_fails ⟨by decide, by decide⟩ (Nat.le_of_ble_eq_true rfl) gsh_83 rfl (gli hL gsh_83) (fun o1 hg ha hx => c_Mo_fails hL hn  hg ha hx) (fun h8 r9 _ => ?_)
    refine gr_goto (M := gm_Mo_takeTwo) dq_Mo_takeTwo_72 76 rfl ?_
    exact gr_ireturn (M := gm_Mo_takeTwo) dq_Mo_takeTwo_76 hF
  refine gr_iload (M := gm_Mo_takeTwo) dq_Mo_takeTwo_49 0 rfl 51 rfl ?_
  refine gr_goto (M := gm_Mo_takeTwo) dq_Mo_takeTwo_51 76 rfl ?_
  exact gr_ireturn (M := gm_Mo_takeTwo) dq_Mo_takeTwo_76 hF

def f_Mo_takeTwo (p1 : Nat) (p2 : Nat) (a3 : Int) (h : gH) : Option gO := gd (gix 2 0) (gb (f_Mo_into p1 a3 0 (gsub (h 94 0) 1) h) (fun h1 r2 => if r2 ≤ 0 then (gd (gix 2 0) (gb (f_Mo_into p2 a3 0 (gsub (h1 94 0) 1) h1) (fun h4 r5 => f_Mo_takeTwo_J42 p1 p2  a3 r5 h4))) else (f_Mo_takeTwo_J42 p1 p2  a3 r2 h1)))
theorem c_Mo_takeTwo {Z : gZ} (hL : gLive Z) (hn : (zL Z).Nodup) {p1 : Nat} {p2 : Nat} {a3 : Int} (hp1 : gia p1 = true) (hp2 : gia p2 = true) {h : gH} {o : gO} (hg : gRg h) (ha : gRl [.inr (.inr 83), .inr (.inr p1), .inr (.inr p2), .inl a3]) (hx : f_Mo_takeTwo p1 p2 a3 h = some o) : gC Z gy_Mo_takeTwo gc_Mo_takeTwo 5 (some .int) 3 73 [.inr (.inr 83), .inr (.inr p1), .inr (.inr p2), .inl a3] h o := by
  unfold f_Mo_takeTwo at hx
  refine gC_of (lv := [(0, .inr (.inr 83)), (1, .inr (.inr p1)), (2, .inr (.inr p2)), (3, .inl a3)]) (own := gR_7) (by decide +kernel) rfl (Nat.le_of_ble_eq_true rfl) rfl rfl hn hg ha hx (fun X hZ hF => ?_)
  subst hZ
  show gr _ o gm_Mo_takeTwo X h 0 _ _
  refine gr_aload_n (M := gm_Mo_takeTwo) dq_Mo_takeTwo_0 rfl 0 rfl 1 rfl ?_
  refine gr_aload_n (M := gm_Mo_takeTwo) dq_Mo_takeTwo_1 rfl 1 rfl 2 rfl ?_
  refine gr_iload_n (M := gm_Mo_takeTwo) dq_Mo_takeTwo_2 rfl 3 rfl 3 rfl ?_
  refine gr_iconst (M := gm_Mo_takeTwo) (v := 0) dq_Mo_takeTwo_3 rfl ⟨by decide, by decide⟩ 4 rfl ?_
  refine gr_aload_n (M := gm_Mo_takeTwo) dq_Mo_takeTwo_4 rfl 0 rfl 5 rfl ?_
  refine gr_getr (M := gm_Mo_takeTwo) dq_Mo_takeTwo_5 8 rfl gfl_Mo_44 gsh_83 rfl (gli hL gsh_83) 94 rfl ?_
  refine gr_iconst (M := gm_Mo_takeTwo) (v := 0) dq_Mo_takeTwo_8 rfl ⟨by decide, by decide⟩ 9 rfl ?_
  refine gr_iald (M := gm_Mo_takeTwo) dq_Mo_takeTwo_9 10 rfl gsh_94 (glj hL gsh_94 (by decide)) ?_
  refine gr_iconst (M := gm_Mo_takeTwo) (v := 1) dq_Mo_takeTwo_10 rfl ⟨by decide, by decide⟩ 11 rfl ?_
  refine gr_isub (M := gm_Mo_takeTwo) dq_Mo_takeTwo_11 12 rfl ?_
  refine gr_callVi (M := gm_Mo_takeTwo) (as := [.inr (.inr p1), .inl a3, .inl 0, .inl (gsub (h 94 0) 1)]) dq_Mo_takeTwo_12 15 rfl rfl gcy_Mo_158 gim_Mo_into gse_Mo_into ⟨by decide, by decide⟩ (Nat.le_of_ble_eq_true rfl) gsh_83 rfl (gli hL gsh_83) (fun o1 hg ha hx => c_Mo_into hL hn hp1 hg ha hx) (fun h1 r2 _ => ?_)
  refine gr_istore (M := gm_Mo_takeTwo) (kk := 0) (lv' := [(4, .inl r2), (0, .inr (.inr 83)), (1, .inr (.inr p1)), (2, .inr (.inr p2)), (3, .inl a3)]) dq_Mo_takeTwo_15 (by decide) rfl 17 rfl ?_
  refine gr_iload (M := gm_Mo_takeTwo) dq_Mo_takeTwo_17 0 rfl 19 rfl ?_
  refine gr_if_le (M := gm_Mo_takeTwo) dq_Mo_takeTwo_19 27 22 rfl rfl (fun c3 => ?_) (fun c3 => ?_)
  · refine gr_aload_n (M := gm_Mo_takeTwo) dq_Mo_takeTwo_27 rfl 1 rfl 28 rfl ?_
    refine gr_aload_n (M := gm_Mo_takeTwo) dq_Mo_takeTwo_28 rfl 3 rfl 29 rfl ?_
    refine gr_iload_n (M := gm_Mo_takeTwo) dq_Mo_takeTwo_29 rfl 4 rfl 30 rfl ?_
    refine gr_iconst (M := gm_Mo_takeTwo) (v := 0) dq_Mo_takeTwo_30 rfl ⟨by decide, by decide⟩ 31 rfl ?_
    refine gr_aload_n (M := gm_Mo_takeTwo) dq_Mo_takeTwo_31 rfl 1 rfl 32 rfl ?_
    refine gr_getr (M := gm_Mo_takeTwo) dq_Mo_takeTwo_32 35 rfl gfl_Mo_44 gsh_83 rfl (gli hL gsh_83) 94 rfl ?_
    refine gr_iconst (M := gm_Mo_takeTwo) (v := 0) dq_Mo_takeTwo_35 rfl ⟨by decide, by decide⟩ 36 rfl ?_
    refine gr_iald (M := gm_Mo_takeTwo) dq_Mo_takeTwo_36 37 rfl gsh_94 (glj hL gsh_94 (by decide)) ?_
    refine gr_iconst (M := gm_Mo_takeTwo) (v := 1) dq_Mo_takeTwo_37 rfl ⟨by decide, by decide⟩ 38 rfl ?_
    refine gr_isub (M := gm_Mo_takeTwo) dq_Mo_takeTwo_38 39 rfl ?_
    refine gr_callVi (M := gm_Mo_takeTwo) (as := [.inr (.inr p2), .inl a3, .inl 0, .inl (gsub (h1 94 0) 1)]) dq_Mo_takeTwo_39 42 rfl rfl gcy_Mo_158 gim_Mo_into gse_Mo_into ⟨by decide, by decide⟩ (Nat.le_of_ble_eq_true rfl) gsh_83 rfl (gli hL gsh_83) (fun o1 hg ha hx => c_Mo_into hL hn hp2 hg ha hx) (fun h4 r5 _ => ?_)
    refine gr_sub (M := gm_Mo_takeTwo) (lv' := [(0, .inr (.inr 83)), (1, .inr (.inr p1)), (2, .inr (.inr p2)), (3, .inl a3)]) [1, 2, 3, 4] rfl ?_
    exact w_Mo_takeTwo_J42 hL hn hF hp1 hp2  
  refine gr_iload (M := gm_Mo_takeTwo) dq_Mo_takeTwo_22 0 rfl 24 rfl ?_
  refine gr_goto (M := gm_Mo_takeTwo) dq_Mo_takeTwo_24 42 rfl ?_
  refine gr_sub (M := gm_Mo_takeTwo) (lv' := [(0, .inr (.inr 83)), (1, .inr (.inr p1)), (2, .inr (.inr p2)), (3, .inl a3)]) [1, 2, 3, 4] rfl ?_
  exact w_Mo_takeTwo_J42 hL hn hF hp1 hp2  

-- Mo_takeStreet
theorem dq_Mo_takeStreet_0 : decode gc_Mo_takeStreet 0 = .ok (.aload_n 0, 1) := by decide +kernel
theorem dq_Mo_takeStreet_1 : decode gc_Mo_takeStreet 1 = .ok (.getfield 162, 3) := by decide +kernel
theorem dq_Mo_takeStreet_4 : decode gc_Mo_takeStreet 4 = .ok (.istore_n 1, 1) := by decide +kernel
theorem dq_Mo_takeStreet_5 : decode gc_Mo_takeStreet 5 = .ok (.aload_n 0, 1) := by decide +kernel
theorem dq_Mo_takeStreet_6 : decode gc_Mo_takeStreet 6 = .ok (.dup, 1) := by decide +kernel
theorem dq_Mo_takeStreet_7 : decode gc_Mo_takeStreet 7 = .ok (.getfield 162, 3) := by decide +kernel
theorem dq_Mo_takeStreet_10 : decode gc_Mo_takeStreet 10 = .ok (.iconst 1, 1) := by decide +kernel
theorem dq_Mo_takeStreet_11 : decode gc_Mo_takeStreet 11 = .ok (.iadd, 1) := by decide +kernel
theorem dq_Mo_takeStreet_12 : decode gc_Mo_takeStreet 12 = .ok (.putfield 162, 3) := by decide +kernel
theorem dq_Mo_takeStreet_15 : decode gc_Mo_takeStreet 15 = .ok (.aload_n 0, 1) := by decide +kernel
theorem dq_Mo_takeStreet_16 : decode gc_Mo_takeStreet 16 = .ok (.aload_n 0, 1) := by decide +kernel
theorem dq_Mo_takeStreet_17 : decode gc_Mo_takeStreet 17 = .ok (.getfield 47, 3) := by decide +kernel
theorem dq_Mo_takeStreet_20 : decode gc_Mo_takeStreet 20 = .ok (.aload_n 0, 1) := by decide +kernel
theorem dq_Mo_takeStreet_21 : decode gc_Mo_takeStreet 21 = .ok (.getfield 50, 3) := by decide +kernel
theorem dq_Mo_takeStreet_24 : decode gc_Mo_takeStreet 24 = .ok (.iload_n 1, 1) := by decide +kernel
theorem dq_Mo_takeStreet_25 : decode gc_Mo_takeStreet 25 = .ok (.invokevirtual 165, 3) := by decide +kernel
theorem dq_Mo_takeStreet_28 : decode gc_Mo_takeStreet 28 = .ok (.istore_n 2, 1) := by decide +kernel
theorem dq_Mo_takeStreet_29 : decode gc_Mo_takeStreet 29 = .ok (.iload_n 2, 1) := by decide +kernel
theorem dq_Mo_takeStreet_30 : decode gc_Mo_takeStreet 30 = .ok (.ifCond .le 7, 3) := by decide +kernel
theorem dq_Mo_takeStreet_33 : decode gc_Mo_takeStreet 33 = .ok (.iload_n 2, 1) := by decide +kernel
theorem dq_Mo_takeStreet_34 : decode gc_Mo_takeStreet 34 = .ok (.goto 15, 3) := by decide +kernel
theorem dq_Mo_takeStreet_37 : decode gc_Mo_takeStreet 37 = .ok (.aload_n 0, 1) := by decide +kernel
theorem dq_Mo_takeStreet_38 : decode gc_Mo_takeStreet 38 = .ok (.aload_n 0, 1) := by decide +kernel
theorem dq_Mo_takeStreet_39 : decode gc_Mo_takeStreet 39 = .ok (.getfield 53, 3) := by decide +kernel
theorem dq_Mo_takeStreet_42 : decode gc_Mo_takeStreet 42 = .ok (.iload_n 1, 1) := by decide +kernel
theorem dq_Mo_takeStreet_43 : decode gc_Mo_takeStreet 43 = .ok (.iconst 1, 1) := by decide +kernel
theorem dq_Mo_takeStreet_44 : decode gc_Mo_takeStreet 44 = .ok (.bipush 9, 2) := by decide +kernel
theorem dq_Mo_takeStreet_46 : decode gc_Mo_takeStreet 46 = .ok (.invokevirtual 158, 3) := by decide +kernel
theorem dq_Mo_takeStreet_49 : decode gc_Mo_takeStreet 49 = .ok (.istore_n 2, 1) := by decide +kernel
theorem dq_Mo_takeStreet_50 : decode gc_Mo_takeStreet 50 = .ok (.iload_n 2, 1) := by decide +kernel
theorem dq_Mo_takeStreet_51 : decode gc_Mo_takeStreet 51 = .ok (.ifCond .le 7, 3) := by decide +kernel
theorem dq_Mo_takeStreet_54 : decode gc_Mo_takeStreet 54 = .ok (.iload_n 2, 1) := by decide +kernel
theorem dq_Mo_takeStreet_55 : decode gc_Mo_takeStreet 55 = .ok (.goto 14, 3) := by decide +kernel
theorem dq_Mo_takeStreet_58 : decode gc_Mo_takeStreet 58 = .ok (.aload_n 0, 1) := by decide +kernel
theorem dq_Mo_takeStreet_59 : decode gc_Mo_takeStreet 59 = .ok (.aload_n 0, 1) := by decide +kernel
theorem dq_Mo_takeStreet_60 : decode gc_Mo_takeStreet 60 = .ok (.getfield 56, 3) := by decide +kernel
theorem dq_Mo_takeStreet_63 : decode gc_Mo_takeStreet 63 = .ok (.iload_n 1, 1) := by decide +kernel
theorem dq_Mo_takeStreet_64 : decode gc_Mo_takeStreet 64 = .ok (.iconst 0, 1) := by decide +kernel
theorem dq_Mo_takeStreet_65 : decode gc_Mo_takeStreet 65 = .ok (.iconst 4, 1) := by decide +kernel
theorem dq_Mo_takeStreet_66 : decode gc_Mo_takeStreet 66 = .ok (.invokevirtual 158, 3) := by decide +kernel
theorem dq_Mo_takeStreet_69 : decode gc_Mo_takeStreet 69 = .ok (.ireturn, 1) := by decide +kernel
abbrev gm_Mo_takeStreet : gM := (gc_Mo_takeStreet, gR_7, 4, 97, 3)
theorem gfl_Mo_162 : gFl gR_7 162 7 21 := ⟨_, _, _, rfl, by decide, (gtab_at 755 (by decide +kernel) rfl), gin_7⟩
theorem gfp_Mo_162 : gFp gR_7 162 7 21 .int := ⟨_, _, _, gt_7, rfl, by decide, (gtab_at 755 (by decide +kernel) rfl), gin_7, gto_7, gnm_7, rfl, by decide +kernel⟩
theorem gfl_Mo_47 : gFl gR_7 47 7 22 := ⟨_, _, _, rfl, by decide, (gtab_at 756 (by decide +kernel) rfl), gin_7⟩
theorem gfl_Mo_50 : gFl gR_7 50 7 23 := ⟨_, _, _, rfl, by decide, (gtab_at 757 (by decide +kernel) rfl), gin_7⟩
set_option maxRecDepth 20000 in
theorem gcy_Mo_165 : gCy gR_7 165 gy_Mo_takeTwo gc_Mo_takeTwo 5 (some .int) 3 := ⟨(gtab_at 920 (by decide +kernel) rfl), (gtab_at 8 (by decide +kernel) rfl), (gtab_at 923 rfl rfl), by decide, by decide, by decide +kernel⟩
theorem gim_Mo_takeTwo : Cond.instanceMethod gy_Mo_takeTwo ∈ gtbl := (gtab_at 922 (by decide +kernel) rfl)
theorem gse_Mo_takeTwo : Cond.selects gy_Mo_takeTwo.cls gy_Mo_takeTwo gy_Mo_takeTwo ∈ gtbl := (by decide +kernel)
theorem gfl_Mo_53 : gFl gR_7 53 7 24 := ⟨_, _, _, rfl, by decide, (gtab_at 758 (by decide +kernel) rfl), gin_7⟩
theorem gfl_Mo_56 : gFl gR_7 56 7 25 := ⟨_, _, _, rfl, by decide, (gtab_at 759 (by decide +kernel) rfl), gin_7⟩
def f_Mo_takeStreet_J49   (v1 : Int) (s0 : Int) (h : gH) : Option gO := if s0 ≤ 0 then (gb (f_Mo_into 98 v1 0 4 h) (fun h8 r9 => some (h8, r9))) else (some (h, s0))
theorem w_Mo_takeStreet_J49 {o : gO} {X : gX} (hL : gLive (xZ X)) (hn : (zL (xZ X)).Nodup) (hF : gFin X (some .int) o)     {v1 : Int} {s0 : Int} {h : gH}  : gr (f_Mo_takeStreet_J49   v1 s0 h) o gm_Mo_takeStreet X h 49 [(0, .inr (.inr 83)), (1, .inl v1)] [.inl s0] := by
  unfold f_Mo_takeStreet_J49
  refine gr_istore_n (M := gm_Mo_takeStreet) (lv' := [(2, .inl s0), (0, .inr (.inr 83)), (1, .inl v1)]) dq_Mo_takeStreet_49 rfl (by decide) rfl 50 rfl ?_
  refine gr_iload_n (M := gm_Mo_takeStreet) dq_Mo_takeStreet_50 rfl 0 rfl 51 rfl ?_
  refine gr_if_le (M := gm_Mo_takeStreet) dq_Mo_takeStreet_51 58 54 rfl rfl (fun c7 => ?_) (fun c7 => ?_)
  · refine gr_aload_n (M := gm_Mo_takeStreet) dq_Mo_takeStreet_58 rfl 1 rfl 59 rfl ?_
    refine gr_aload_n (M := gm_Mo_takeStreet) dq_Mo_takeStreet_59 rfl 1 rfl 60 rfl ?_
    refine gr_getr (M := gm_Mo_takeStreet) dq_Mo_takeStreet_60 63 rfl gfl_Mo_56 gsh_83 rfl (gli hL gsh_83) 98 rfl ?_
    refine gr_iload_n (M := gm_Mo_takeStreet) dq_Mo_takeStreet_63 rfl 2 rfl 64 rfl ?_
    refine gr_iconst (M := gm_Mo_takeStreet) (v := 0) dq_Mo_takeStreet_64 rfl ⟨by decide, by decide⟩ 65 rfl ?_
    refine gr_iconst (M := gm_Mo_takeStreet) (v := 4) dq_Mo_takeStreet_65 rfl ⟨by decide, by decide⟩ 66 rfl ?_
    refine gr_callVi (M := gm_Mo_takeStreet) (as := [.inr (.inr 98), .inl v1, .inl 0, .inl 4]) dq_Mo_takeStreet_66 69 rfl rfl gcy_Mo_158 gim_Mo_into gse_Mo_into ⟨by decide, by decide⟩ (Nat.le_of_ble_eq_true rfl) gsh_83 rfl (gli hL gsh_83) (fun o1 hg ha hx => c_Mo_into hL hn (gia_of gsh_98) hg ha hx) (fun h8 r9 _ => ?_)
    exact gr_ireturn (M := gm_Mo_takeStreet) dq_Mo_takeStreet_69 hF
  refine gr_iload_n (M := gm_Mo_takeStreet) dq_Mo_takeStreet_54 rfl 0 rfl 55 rfl ?_
  refine gr_goto (M := gm_Mo_takeStreet) dq_Mo_takeStreet_55 69 rfl ?_
  exact gr_ireturn (M := gm_Mo_takeStreet) dq_Mo_takeStreet_69 hF

def f_Mo_takeStreet  (h : gH) : Option gO := gs (gup h 83 21 (gadd (h 83 21) 1)) (fun h1 => gb (f_Mo_takeTwo 95 96 (h 83 21) h1) (fun h2 r3 => if r3 ≤ 0 then (gb (f_Mo_into 97 (h 83 21) 1 9 h2) (fun h5 r6 => f_Mo_takeStreet_J49   (h 83 21) r6 h5)) else (f_Mo_takeStreet_J49   (h 83 21) r3 h2)))
theorem c_Mo_takeStreet {Z : gZ} (hL : gLive Z) (hn : (zL Z).Nodup)   {h : gH} {o : gO} (hg : gRg h) (ha : gRl [.inr (.inr 83)]) (hx : f_Mo_takeStreet  h = some o) : gC Z gy_Mo_takeStreet gc_Mo_takeStreet 3 (some .int) 4 97 [.inr (.inr 83)] h o := by
  unfold f_Mo_takeStreet at hx
  refine gC_of (lv := [(0, .inr (.inr 83))]) (own := gR_7) (by decide +kernel) rfl (Nat.le_of_ble_eq_true rfl) rfl rfl hn hg ha hx (fun X hZ hF => ?_)
  subst hZ
  show gr _ o gm_Mo_takeStreet X h 0 _ _
  refine gr_aload_n (M := gm_Mo_takeStreet) dq_Mo_takeStreet_0 rfl 0 rfl 1 rfl ?_
  refine gr_geti (M := gm_Mo_takeStreet) dq_Mo_takeStreet_1 4 rfl gfl_Mo_162 gsh_83 rfl (gli hL gsh_83) ?_
  refine gr_istore_n (M := gm_Mo_takeStreet) (lv' := [(1, .inl (h 83 21)), (0, .inr (.inr 83))]) dq_Mo_takeStreet_4 rfl (by decide) rfl 5 rfl ?_
  refine gr_aload_n (M := gm_Mo_takeStreet) dq_Mo_takeStreet_5 rfl 1 rfl 6 rfl ?_
  refine gr_dup (M := gm_Mo_takeStreet) dq_Mo_takeStreet_6 (fun _ q => by cases q) 7 rfl ?_
  refine gr_geti (M := gm_Mo_takeStreet) dq_Mo_takeStreet_7 10 rfl gfl_Mo_162 gsh_83 rfl (gli hL gsh_83) ?_
  refine gr_iconst (M := gm_Mo_takeStreet) (v := 1) dq_Mo_takeStreet_10 rfl ⟨by decide, by decide⟩ 11 rfl ?_
  refine gr_iadd (M := gm_Mo_takeStreet) dq_Mo_takeStreet_11 12 rfl ?_
  refine gr_puti (M := gm_Mo_takeStreet) dq_Mo_takeStreet_12 15 rfl gfp_Mo_162 gsh_83 rfl (gli hL gsh_83) (fun h1 _ => ?_)
  refine gr_aload_n (M := gm_Mo_takeStreet) dq_Mo_takeStreet_15 rfl 1 rfl 16 rfl ?_
  refine gr_aload_n (M := gm_Mo_takeStreet) dq_Mo_takeStreet_16 rfl 1 rfl 17 rfl ?_
  refine gr_getr (M := gm_Mo_takeStreet) dq_Mo_takeStreet_17 20 rfl gfl_Mo_47 gsh_83 rfl (gli hL gsh_83) 95 rfl ?_
  refine gr_aload_n (M := gm_Mo_takeStreet) dq_Mo_takeStreet_20 rfl 1 rfl 21 rfl ?_
  refine gr_getr (M := gm_Mo_takeStreet) dq_Mo_takeStreet_21 24 rfl gfl_Mo_50 gsh_83 rfl (gli hL gsh_83) 96 rfl ?_
  refine gr_iload_n (M := gm_Mo_takeStreet) dq_Mo_takeStreet_24 rfl 0 rfl 25 rfl ?_
  refine gr_callVi (M := gm_Mo_takeStreet) (as := [.inr (.inr 95), .inr (.inr 96), .inl (h 83 21)]) dq_Mo_takeStreet_25 28 rfl rfl gcy_Mo_165 gim_Mo_takeTwo gse_Mo_takeTwo ⟨by decide, by decide⟩ (Nat.le_of_ble_eq_true rfl) gsh_83 rfl (gli hL gsh_83) (fun o1 hg ha hx => c_Mo_takeTwo hL hn (gia_of gsh_95) (gia_of gsh_96) hg ha hx) (fun h2 r3 _ => ?_)
  refine gr_istore_n (M := gm_Mo_takeStreet) (lv' := [(2, .inl r3), (1, .inl (h 83 21)), (0, .inr (.inr 83))]) dq_Mo_takeStreet_28 rfl (by decide) rfl 29 rfl ?_
  refine gr_iload_n (M := gm_Mo_takeStreet) dq_Mo_takeStreet_29 rfl 0 rfl 30 rfl ?_
  refine gr_if_le (M := gm_Mo_takeStreet) dq_Mo_takeStreet_30 37 33 rfl rfl (fun c4 => ?_) (fun c4 => ?_)
  · refine gr_aload_n (M := gm_Mo_takeStreet) dq_Mo_takeStreet_37 rfl 2 rfl 38 rfl ?_
    refine gr_aload_n (M := gm_Mo_takeStreet) dq_Mo_takeStreet_38 rfl 2 rfl 39 rfl ?_
    refine gr_getr (M := gm_Mo_takeStreet) dq_Mo_takeStreet_39 42 rfl gfl_Mo_53 gsh_83 rfl (gli hL gsh_83) 97 rfl ?_
    refine gr_iload_n (M := gm_Mo_takeStreet) dq_Mo_takeStreet_42 rfl 1 rfl 43 rfl ?_
    refine gr_iconst (M := gm_Mo_takeStreet) (v := 1) dq_Mo_takeStreet_43 rfl ⟨by decide, by decide⟩ 44 rfl ?_
    refine gr_bipush (M := gm_Mo_takeStreet) (v := 9) dq_Mo_takeStreet_44 (by decide) ⟨by decide, by decide⟩ 46 rfl ?_
    refine gr_callVi (M := gm_Mo_takeStreet) (as := [.inr (.inr 97), .inl (h 83 21), .inl 1, .inl 9]) dq_Mo_takeStreet_46 49 rfl rfl gcy_Mo_158 gim_Mo_into gse_Mo_into ⟨by decide, by decide⟩ (Nat.le_of_ble_eq_true rfl) gsh_83 rfl (gli hL gsh_83) (fun o1 hg ha hx => c_Mo_into hL hn (gia_of gsh_97) hg ha hx) (fun h5 r6 _ => ?_)
    refine gr_sub (M := gm_Mo_takeStreet) (lv' := [(0, .inr (.inr 83)), (1, .inl (h 83 21))]) [2, 1] rfl ?_
    exact w_Mo_takeStreet_J49 hL hn hF   
  refine gr_iload_n (M := gm_Mo_takeStreet) dq_Mo_takeStreet_33 rfl 0 rfl 34 rfl ?_
  refine gr_goto (M := gm_Mo_takeStreet) dq_Mo_takeStreet_34 49 rfl ?_
  refine gr_sub (M := gm_Mo_takeStreet) (lv' := [(0, .inr (.inr 83)), (1, .inl (h 83 21))]) [2, 1] rfl ?_
  exact w_Mo_takeStreet_J49 hL hn hF   

-- Mo_takeCart
theorem dq_Mo_takeCart_0 : decode gc_Mo_takeCart 0 = .ok (.aload_n 0, 1) := by decide +kernel
theorem dq_Mo_takeCart_1 : decode gc_Mo_takeCart 1 = .ok (.getfield 169, 3) := by decide +kernel
theorem dq_Mo_takeCart_4 : decode gc_Mo_takeCart 4 = .ok (.istore_n 1, 1) := by decide +kernel
theorem dq_Mo_takeCart_5 : decode gc_Mo_takeCart 5 = .ok (.aload_n 0, 1) := by decide +kernel
theorem dq_Mo_takeCart_6 : decode gc_Mo_takeCart 6 = .ok (.dup, 1) := by decide +kernel
theorem dq_Mo_takeCart_7 : decode gc_Mo_takeCart 7 = .ok (.getfield 169, 3) := by decide +kernel
theorem dq_Mo_takeCart_10 : decode gc_Mo_takeCart 10 = .ok (.iconst 1, 1) := by decide +kernel
theorem dq_Mo_takeCart_11 : decode gc_Mo_takeCart 11 = .ok (.iadd, 1) := by decide +kernel
theorem dq_Mo_takeCart_12 : decode gc_Mo_takeCart 12 = .ok (.putfield 169, 3) := by decide +kernel
theorem dq_Mo_takeCart_15 : decode gc_Mo_takeCart 15 = .ok (.aload_n 0, 1) := by decide +kernel
theorem dq_Mo_takeCart_16 : decode gc_Mo_takeCart 16 = .ok (.aload_n 0, 1) := by decide +kernel
theorem dq_Mo_takeCart_17 : decode gc_Mo_takeCart 17 = .ok (.getfield 59, 3) := by decide +kernel
theorem dq_Mo_takeCart_20 : decode gc_Mo_takeCart 20 = .ok (.aload_n 0, 1) := by decide +kernel
theorem dq_Mo_takeCart_21 : decode gc_Mo_takeCart 21 = .ok (.getfield 62, 3) := by decide +kernel
theorem dq_Mo_takeCart_24 : decode gc_Mo_takeCart 24 = .ok (.iload_n 1, 1) := by decide +kernel
theorem dq_Mo_takeCart_25 : decode gc_Mo_takeCart 25 = .ok (.invokevirtual 165, 3) := by decide +kernel
theorem dq_Mo_takeCart_28 : decode gc_Mo_takeCart 28 = .ok (.istore_n 2, 1) := by decide +kernel
theorem dq_Mo_takeCart_29 : decode gc_Mo_takeCart 29 = .ok (.iload_n 2, 1) := by decide +kernel
theorem dq_Mo_takeCart_30 : decode gc_Mo_takeCart 30 = .ok (.ifCond .le 7, 3) := by decide +kernel
theorem dq_Mo_takeCart_33 : decode gc_Mo_takeCart 33 = .ok (.iload_n 2, 1) := by decide +kernel
theorem dq_Mo_takeCart_34 : decode gc_Mo_takeCart 34 = .ok (.goto 16, 3) := by decide +kernel
theorem dq_Mo_takeCart_37 : decode gc_Mo_takeCart 37 = .ok (.aload_n 0, 1) := by decide +kernel
theorem dq_Mo_takeCart_38 : decode gc_Mo_takeCart 38 = .ok (.aload_n 0, 1) := by decide +kernel
theorem dq_Mo_takeCart_39 : decode gc_Mo_takeCart 39 = .ok (.getfield 65, 3) := by decide +kernel
theorem dq_Mo_takeCart_42 : decode gc_Mo_takeCart 42 = .ok (.iload_n 1, 1) := by decide +kernel
theorem dq_Mo_takeCart_43 : decode gc_Mo_takeCart 43 = .ok (.iconst 0, 1) := by decide +kernel
theorem dq_Mo_takeCart_44 : decode gc_Mo_takeCart 44 = .ok (.sipush 200, 3) := by decide +kernel
theorem dq_Mo_takeCart_47 : decode gc_Mo_takeCart 47 = .ok (.invokevirtual 158, 3) := by decide +kernel
theorem dq_Mo_takeCart_50 : decode gc_Mo_takeCart 50 = .ok (.istore_n 2, 1) := by decide +kernel
theorem dq_Mo_takeCart_51 : decode gc_Mo_takeCart 51 = .ok (.iload_n 2, 1) := by decide +kernel
theorem dq_Mo_takeCart_52 : decode gc_Mo_takeCart 52 = .ok (.ifCond .le 7, 3) := by decide +kernel
theorem dq_Mo_takeCart_55 : decode gc_Mo_takeCart 55 = .ok (.iload_n 2, 1) := by decide +kernel
theorem dq_Mo_takeCart_56 : decode gc_Mo_takeCart 56 = .ok (.goto 15, 3) := by decide +kernel
theorem dq_Mo_takeCart_59 : decode gc_Mo_takeCart 59 = .ok (.aload_n 0, 1) := by decide +kernel
theorem dq_Mo_takeCart_60 : decode gc_Mo_takeCart 60 = .ok (.aload_n 0, 1) := by decide +kernel
theorem dq_Mo_takeCart_61 : decode gc_Mo_takeCart 61 = .ok (.getfield 68, 3) := by decide +kernel
theorem dq_Mo_takeCart_64 : decode gc_Mo_takeCart 64 = .ok (.iload_n 1, 1) := by decide +kernel
theorem dq_Mo_takeCart_65 : decode gc_Mo_takeCart 65 = .ok (.iconst 1, 1) := by decide +kernel
theorem dq_Mo_takeCart_66 : decode gc_Mo_takeCart 66 = .ok (.bipush 9, 2) := by decide +kernel
theorem dq_Mo_takeCart_68 : decode gc_Mo_takeCart 68 = .ok (.invokevirtual 158, 3) := by decide +kernel
theorem dq_Mo_takeCart_71 : decode gc_Mo_takeCart 71 = .ok (.istore_n 2, 1) := by decide +kernel
theorem dq_Mo_takeCart_72 : decode gc_Mo_takeCart 72 = .ok (.iload_n 2, 1) := by decide +kernel
theorem dq_Mo_takeCart_73 : decode gc_Mo_takeCart 73 = .ok (.ifCond .le 7, 3) := by decide +kernel
theorem dq_Mo_takeCart_76 : decode gc_Mo_takeCart 76 = .ok (.iload_n 2, 1) := by decide +kernel
theorem dq_Mo_takeCart_77 : decode gc_Mo_takeCart 77 = .ok (.goto 15, 3) := by decide +kernel
theorem dq_Mo_takeCart_80 : decode gc_Mo_takeCart 80 = .ok (.aload_n 0, 1) := by decide +kernel
theorem dq_Mo_takeCart_81 : decode gc_Mo_takeCart 81 = .ok (.aload_n 0, 1) := by decide +kernel
theorem dq_Mo_takeCart_82 : decode gc_Mo_takeCart 82 = .ok (.getfield 71, 3) := by decide +kernel
theorem dq_Mo_takeCart_85 : decode gc_Mo_takeCart 85 = .ok (.iload_n 1, 1) := by decide +kernel
theorem dq_Mo_takeCart_86 : decode gc_Mo_takeCart 86 = .ok (.iconst 0, 1) := by decide +kernel
theorem dq_Mo_takeCart_87 : decode gc_Mo_takeCart 87 = .ok (.bipush 99, 2) := by decide +kernel
theorem dq_Mo_takeCart_89 : decode gc_Mo_takeCart 89 = .ok (.invokevirtual 158, 3) := by decide +kernel
theorem dq_Mo_takeCart_92 : decode gc_Mo_takeCart 92 = .ok (.ireturn, 1) := by decide +kernel
abbrev gm_Mo_takeCart : gM := (gc_Mo_takeCart, gR_7, 4, 97, 3)
theorem gfl_Mo_169 : gFl gR_7 169 7 26 := ⟨_, _, _, rfl, by decide, (gtab_at 760 (by decide +kernel) rfl), gin_7⟩
theorem gfp_Mo_169 : gFp gR_7 169 7 26 .int := ⟨_, _, _, gt_7, rfl, by decide, (gtab_at 760 (by decide +kernel) rfl), gin_7, gto_7, gnm_7, rfl, by decide +kernel⟩
theorem gfl_Mo_59 : gFl gR_7 59 7 27 := ⟨_, _, _, rfl, by decide, (gtab_at 761 (by decide +kernel) rfl), gin_7⟩
theorem gfl_Mo_62 : gFl gR_7 62 7 28 := ⟨_, _, _, rfl, by decide, (gtab_at 762 (by decide +kernel) rfl), gin_7⟩
theorem gfl_Mo_65 : gFl gR_7 65 7 29 := ⟨_, _, _, rfl, by decide, (gtab_at 763 (by decide +kernel) rfl), gin_7⟩
theorem gfl_Mo_68 : gFl gR_7 68 7 30 := ⟨_, _, _, rfl, by decide, (gtab_at 764 (by decide +kernel) rfl), gin_7⟩
theorem gfl_Mo_71 : gFl gR_7 71 7 31 := ⟨_, _, _, rfl, by decide, (gtab_at 765 (by decide +kernel) rfl), gin_7⟩
def f_Mo_takeCart_J71   (v1 : Int) (s0 : Int) (h : gH) : Option gO := if s0 ≤ 0 then (gb (f_Mo_into 103 v1 0 99 h) (fun h11 r12 => some (h11, r12))) else (some (h, s0))
theorem w_Mo_takeCart_J71 {o : gO} {X : gX} (hL : gLive (xZ X)) (hn : (zL (xZ X)).Nodup) (hF : gFin X (some .int) o)     {v1 : Int} {s0 : Int} {h : gH}  : gr (f_Mo_takeCart_J71   v1 s0 h) o gm_Mo_takeCart X h 71 [(0, .inr (.inr 83)), (1, .inl v1)] [.inl s0] := by
  unfold f_Mo_takeCart_J71
  refine gr_istore_n (M := gm_Mo_takeCart) (lv' := [(2, .inl s0), (0, .inr (.inr 83)), (1, .inl v1)]) dq_Mo_takeCart_71 rfl (by decide) rfl 72 rfl ?_
  refine gr_iload_n (M := gm_Mo_takeCart) dq_Mo_takeCart_72 rfl 0 rfl 73 rfl ?_
  refine gr_if_le (M := gm_Mo_takeCart) dq_Mo_takeCart_73 80 76 rfl rfl (fun c10 => ?_) (fun c10 => ?_)
  · refine gr_aload_n (M := gm_Mo_takeCart) dq_Mo_takeCart_80 rfl 1 rfl 81 rfl ?_
    refine gr_aload_n (M := gm_Mo_takeCart) dq_Mo_takeCart_81 rfl 1 rfl 82 rfl ?_
    refine gr_getr (M := gm_Mo_takeCart) dq_Mo_takeCart_82 85 rfl gfl_Mo_71 gsh_83 rfl (gli hL gsh_83) 103 rfl ?_
    refine gr_iload_n (M := gm_Mo_takeCart) dq_Mo_takeCart_85 rfl 2 rfl 86 rfl ?_
    refine gr_iconst (M := gm_Mo_takeCart) (v := 0) dq_Mo_takeCart_86 rfl ⟨by decide, by decide⟩ 87 rfl ?_
    refine gr_bipush (M := gm_Mo_takeCart) (v := 99) dq_Mo_takeCart_87 (by decide) ⟨by decide, by decide⟩ 89 rfl ?_
    refine gr_callVi (M := gm_Mo_takeCart) (as := [.inr (.inr 103), .inl v1, .inl 0, .inl 99]) dq_Mo_takeCart_89 92 rfl rfl gcy_Mo_158 gim_Mo_into gse_Mo_into ⟨by decide, by decide⟩ (Nat.le_of_ble_eq_true rfl) gsh_83 rfl (gli hL gsh_83) (fun o1 hg ha hx => c_Mo_into hL hn (gia_of gsh_103) hg ha hx) (fun h11 r12 _ => ?_)
    exact gr_ireturn (M := gm_Mo_takeCart) dq_Mo_takeCart_92 hF
  refine gr_iload_n (M := gm_Mo_takeCart) dq_Mo_takeCart_76 rfl 0 rfl 77 rfl ?_
  refine gr_goto (M := gm_Mo_takeCart) dq_Mo_takeCart_77 92 rfl ?_
  exact gr_ireturn (M := gm_Mo_takeCart) dq_Mo_takeCart_92 hF

def f_Mo_takeCart_J50   (v1 : Int) (s0 : Int) (h : gH) : Option gO := if s0 ≤ 0 then (gb (f_Mo_into 102 v1 1 9 h) (fun h8 r9 => f_Mo_takeCart_J71   v1 r9 h8)) else (f_Mo_takeCart_J71   v1 s0 h)
theorem w_Mo_takeCart_J50 {o : gO} {X : gX} (hL : gLive (xZ X)) (hn : (zL (xZ X)).Nodup) (hF : gFin X (some .int) o)     {v1 : Int} {s0 : Int} {h : gH}  : gr (f_Mo_takeCart_J50   v1 s0 h) o gm_Mo_takeCart X h 50 [(0, .inr (.inr 83)), (1, .inl v1)] [.inl s0] := by
  unfold f_Mo_takeCart_J50
  refine gr_istore_n (M := gm_Mo_takeCart) (lv' := [(2, .inl s0), (0, .inr (.inr 83)), (1, .inl v1)]) dq_Mo_takeCart_50 rfl (by decide) rfl 51 rfl ?_
  refine gr_iload_n (M := gm_Mo_takeCart) dq_Mo_takeCart_51 rfl 0 rfl 52 rfl ?_
  refine gr_if_le (M := gm_Mo_takeCart) dq_Mo_takeCart_52 59 55 rfl rfl (fun c7 => ?_) (fun c7 => ?_)
  · refine gr_aload_n (M := gm_Mo_takeCart) dq_Mo_takeCart_59 rfl 1 rfl 60 rfl ?_
    refine gr_aload_n (M := gm_Mo_takeCart) dq_Mo_takeCart_60 rfl 1 rfl 61 rfl ?_
    refine gr_getr (M := gm_Mo_takeCart) dq_Mo_takeCart_61 64 rfl gfl_Mo_68 gsh_83 rfl (gli hL gsh_83) 102 rfl ?_
    refine gr_iload_n (M := gm_Mo_takeCart) dq_Mo_takeCart_64 rfl 2 rfl 65 rfl ?_
    refine gr_iconst (M := gm_Mo_takeCart) (v := 1) dq_Mo_takeCart_65 rfl ⟨by decide, by decide⟩ 66 rfl ?_
    refine gr_bipush (M := gm_Mo_takeCart) (v := 9) dq_Mo_takeCart_66 (by decide) ⟨by decide, by decide⟩ 68 rfl ?_
    refine gr_callVi (M := gm_Mo_takeCart) (as := [.inr (.inr 102), .inl v1, .inl 1, .inl 9]) dq_Mo_takeCart_68 71 rfl rfl gcy_Mo_158 gim_Mo_into gse_Mo_into ⟨by decide, by decide⟩ (Nat.le_of_ble_eq_true rfl) gsh_83 rfl (gli hL gsh_83) (fun o1 hg ha hx => c_Mo_into hL hn (gia_of gsh_102) hg ha hx) (fun h8 r9 _ => ?_)
    refine gr_sub (M := gm_Mo_takeCart) (lv' := [(0, .inr (.inr 83)), (1, .inl v1)]) [1, 2] rfl ?_
    exact w_Mo_takeCart_J71 hL hn hF   
  refine gr_iload_n (M := gm_Mo_takeCart) dq_Mo_takeCart_55 rfl 0 rfl 56 rfl ?_
  refine gr_goto (M := gm_Mo_takeCart) dq_Mo_takeCart_56 71 rfl ?_
  refine gr_sub (M := gm_Mo_takeCart) (lv' := [(0, .inr (.inr 83)), (1, .inl v1)]) [1, 2] rfl ?_
  exact w_Mo_takeCart_J71 hL hn hF   

def f_Mo_takeCart  (h : gH) : Option gO := gs (gup h 83 26 (gadd (h 83 26) 1)) (fun h1 => gb (f_Mo_takeTwo 99 100 (h 83 26) h1) (fun h2 r3 => if r3 ≤ 0 then (gb (f_Mo_into 101 (h 83 26) 0 200 h2) (fun h5 r6 => f_Mo_takeCart_J50   (h 83 26) r6 h5)) else (f_Mo_takeCart_J50   (h 83 26) r3 h2)))
theorem c_Mo_takeCart {Z : gZ} (hL : gLive Z) (hn : (zL Z).Nodup)   {h : gH} {o : gO} (hg : gRg h) (ha : gRl [.inr (.inr 83)]) (hx : f_Mo_takeCart  h = some o) : gC Z gy_Mo_takeCart gc_Mo_takeCart 3 (some .int) 4 97 [.inr (.inr 83)] h o := by
  unfold f_Mo_takeCart at hx
  refine gC_of (lv := [(0, .inr (.inr 83))]) (own := gR_7) (by decide +kernel) rfl (Nat.le_of_ble_eq_true rfl) rfl rfl hn hg ha hx (fun X hZ hF => ?_)
  subst hZ
  show gr _ o gm_Mo_takeCart X h 0 _ _
  refine gr_aload_n (M := gm_Mo_takeCart) dq_Mo_takeCart_0 rfl 0 rfl 1 rfl ?_
  refine gr_geti (M := gm_Mo_takeCart) dq_Mo_takeCart_1 4 rfl gfl_Mo_169 gsh_83 rfl (gli hL gsh_83) ?_
  refine gr_istore_n (M := gm_Mo_takeCart) (lv' := [(1, .inl (h 83 26)), (0, .inr (.inr 83))]) dq_Mo_takeCart_4 rfl (by decide) rfl 5 rfl ?_
  refine gr_aload_n (M := gm_Mo_takeCart) dq_Mo_takeCart_5 rfl 1 rfl 6 rfl ?_
  refine gr_dup (M := gm_Mo_takeCart) dq_Mo_takeCart_6 (fun _ q => by cases q) 7 rfl ?_
  refine gr_geti (M := gm_Mo_takeCart) dq_Mo_takeCart_7 10 rfl gfl_Mo_169 gsh_83 rfl (gli hL gsh_83) ?_
  refine gr_iconst (M := gm_Mo_takeCart) (v := 1) dq_Mo_takeCart_10 rfl ⟨by decide, by decide⟩ 11 rfl ?_
  refine gr_iadd (M := gm_Mo_takeCart) dq_Mo_takeCart_11 12 rfl ?_
  refine gr_puti (M := gm_Mo_takeCart) dq_Mo_takeCart_12 15 rfl gfp_Mo_169 gsh_83 rfl (gli hL gsh_83) (fun h1 _ => ?_)
  refine gr_aload_n (M := gm_Mo_takeCart) dq_Mo_takeCart_15 rfl 1 rfl 16 rfl ?_
  refine gr_aload_n (M := gm_Mo_takeCart) dq_Mo_takeCart_16 rfl 1 rfl 17 rfl ?_
  refine gr_getr (M := gm_Mo_takeCart) dq_Mo_takeCart_17 20 rfl gfl_Mo_59 gsh_83 rfl (gli hL gsh_83) 99 rfl ?_
  refine gr_aload_n (M := gm_Mo_takeCart) dq_Mo_takeCart_20 rfl 1 rfl 21 rfl ?_
  refine gr_getr (M := gm_Mo_takeCart) dq_Mo_takeCart_21 24 rfl gfl_Mo_62 gsh_83 rfl (gli hL gsh_83) 100 rfl ?_
  refine gr_iload_n (M := gm_Mo_takeCart) dq_Mo_takeCart_24 rfl 0 rfl 25 rfl ?_
  refine gr_callVi (M := gm_Mo_takeCart) (as := [.inr (.inr 99), .inr (.inr 100), .inl (h 83 26)]) dq_Mo_takeCart_25 28 rfl rfl gcy_Mo_165 gim_Mo_takeTwo gse_Mo_takeTwo ⟨by decide, by decide⟩ (Nat.le_of_ble_eq_true rfl) gsh_83 rfl (gli hL gsh_83) (fun o1 hg ha hx => c_Mo_takeTwo hL hn (gia_of gsh_99) (gia_of gsh_100) hg ha hx) (fun h2 r3 _ => ?_)
  refine gr_istore_n (M := gm_Mo_takeCart) (lv' := [(2, .inl r3), (1, .inl (h 83 26)), (0, .inr (.inr 83))]) dq_Mo_takeCart_28 rfl (by decide) rfl 29 rfl ?_
  refine gr_iload_n (M := gm_Mo_takeCart) dq_Mo_takeCart_29 rfl 0 rfl 30 rfl ?_
  refine gr_if_le (M := gm_Mo_takeCart) dq_Mo_takeCart_30 37 33 rfl rfl (fun c4 => ?_) (fun c4 => ?_)
  · refine gr_aload_n (M := gm_Mo_takeCart) dq_Mo_takeCart_37 rfl 2 rfl 38 rfl ?_
    refine gr_aload_n (M := gm_Mo_takeCart) dq_Mo_takeCart_38 rfl 2 rfl 39 rfl ?_
    refine gr_getr (M := gm_Mo_takeCart) dq_Mo_takeCart_39 42 rfl gfl_Mo_65 gsh_83 rfl (gli hL gsh_83) 101 rfl ?_
    refine gr_iload_n (M := gm_Mo_takeCart) dq_Mo_takeCart_42 rfl 1 rfl 43 rfl ?_
    refine gr_iconst (M := gm_Mo_takeCart) (v := 0) dq_Mo_takeCart_43 rfl ⟨by decide, by decide⟩ 44 rfl ?_
    refine gr_sipush (M := gm_Mo_takeCart) (v := 200) dq_Mo_takeCart_44 (by decide) ⟨by decide, by decide⟩ 47 rfl ?_
    refine gr_callVi (M := gm_Mo_takeCart) (as := [.inr (.inr 101), .inl (h 83 26), .inl 0, .inl 200]) dq_Mo_takeCart_47 50 rfl rfl gcy_Mo_158 gim_Mo_into gse_Mo_into ⟨by decide, by decide⟩ (Nat.le_of_ble_eq_true rfl) gsh_83 rfl (gli hL gsh_83) (fun o1 hg ha hx => c_Mo_into hL hn (gia_of gsh_101) hg ha hx) (fun h5 r6 _ => ?_)
    refine gr_sub (M := gm_Mo_takeCart) (lv' := [(0, .inr (.inr 83)), (1, .inl (h 83 26))]) [2, 1] rfl ?_
    exact w_Mo_takeCart_J50 hL hn hF   
  refine gr_iload_n (M := gm_Mo_takeCart) dq_Mo_takeCart_33 rfl 0 rfl 34 rfl ?_
  refine gr_goto (M := gm_Mo_takeCart) dq_Mo_takeCart_34 50 rfl ?_
  refine gr_sub (M := gm_Mo_takeCart) (lv' := [(0, .inr (.inr 83)), (1, .inl (h 83 26))]) [2, 1] rfl ?_
  exact w_Mo_takeCart_J50 hL hn hF   

-- Mo_takeCity
theorem dq_Mo_takeCity_0 : decode gc_Mo_takeCity 0 = .ok (.aload_n 0, 1) := by decide +kernel
theorem dq_Mo_takeCity_1 : decode gc_Mo_takeCity 1 = .ok (.aload_n 0, 1) := by decide +kernel
theorem dq_Mo_takeCity_2 : decode gc_Mo_takeCity 2 = .ok (.getfield 44, 3) := by decide +kernel
theorem dq_Mo_takeCity_5 : decode gc_Mo_takeCity 5 = .ok (.iconst 0, 1) := by decide +kernel
theorem dq_Mo_takeCity_6 : decode gc_Mo_takeCity 6 = .ok (.iconst 2, 1) := by decide +kernel
theorem dq_Mo_takeCity_7 : decode gc_Mo_takeCity 7 = .ok (.bipush 7, 2) := by decide +kernel
theorem dq_Mo_takeCity_9 : decode gc_Mo_takeCity 9 = .ok (.invokevirtual 158, 3) := by decide +kernel
theorem dq_Mo_takeCity_12 : decode gc_Mo_takeCity 12 = .ok (.istore_n 1, 1) := by decide +kernel
theorem dq_Mo_takeCity_13 : decode gc_Mo_takeCity 13 = .ok (.iload_n 1, 1) := by decide +kernel
theorem dq_Mo_takeCity_14 : decode gc_Mo_takeCity 14 = .ok (.ifCond .le 7, 3) := by decide +kernel
theorem dq_Mo_takeCity_17 : decode gc_Mo_takeCity 17 = .ok (.iload_n 1, 1) := by decide +kernel
theorem dq_Mo_takeCity_18 : decode gc_Mo_takeCity 18 = .ok (.goto 15, 3) := by decide +kernel
theorem dq_Mo_takeCity_21 : decode gc_Mo_takeCity 21 = .ok (.aload_n 0, 1) := by decide +kernel
theorem dq_Mo_takeCity_22 : decode gc_Mo_takeCity 22 = .ok (.aload_n 0, 1) := by decide +kernel
theorem dq_Mo_takeCity_23 : decode gc_Mo_takeCity 23 = .ok (.getfield 44, 3) := by decide +kernel
theorem dq_Mo_takeCity_26 : decode gc_Mo_takeCity 26 = .ok (.iconst 1, 1) := by decide +kernel
theorem dq_Mo_takeCity_27 : decode gc_Mo_takeCity 27 = .ok (.iconst 1, 1) := by decide +kernel
theorem dq_Mo_takeCity_28 : decode gc_Mo_takeCity 28 = .ok (.bipush 60, 2) := by decide +kernel
theorem dq_Mo_takeCity_30 : decode gc_Mo_takeCity 30 = .ok (.invokevirtual 158, 3) := by decide +kernel
theorem dq_Mo_takeCity_33 : decode gc_Mo_takeCity 33 = .ok (.ireturn, 1) := by decide +kernel
abbrev gm_Mo_takeCity : gM := (gc_Mo_takeCity, gR_7, 3, 73, 2)
def f_Mo_takeCity  (h : gH) : Option gO := gb (f_Mo_into 94 0 2 7 h) (fun h1 r2 => if r2 ≤ 0 then (gb (f_Mo_into 94 1 1 60 h1) (fun h4 r5 => some (h4, r5))) else (some (h1, r2)))
theorem c_Mo_takeCity {Z : gZ} (hL : gLive Z) (hn : (zL Z).Nodup)   {h : gH} {o : gO} (hg : gRg h) (ha : gRl [.inr (.inr 83)]) (hx : f_Mo_takeCity  h = some o) : gC Z gy_Mo_takeCity gc_Mo_takeCity 2 (some .int) 3 73 [.inr (.inr 83)] h o := by
  unfold f_Mo_takeCity at hx
  refine gC_of (lv := [(0, .inr (.inr 83))]) (own := gR_7) (by decide +kernel) rfl (Nat.le_of_ble_eq_true rfl) rfl rfl hn hg ha hx (fun X hZ hF => ?_)
  subst hZ
  show gr _ o gm_Mo_takeCity X h 0 _ _
  refine gr_aload_n (M := gm_Mo_takeCity) dq_Mo_takeCity_0 rfl 0 rfl 1 rfl ?_
  refine gr_aload_n (M := gm_Mo_takeCity) dq_Mo_takeCity_1 rfl 0 rfl 2 rfl ?_
  refine gr_getr (M := gm_Mo_takeCity) dq_Mo_takeCity_2 5 rfl gfl_Mo_44 gsh_83 rfl (gli hL gsh_83) 94 rfl ?_
  refine gr_iconst (M := gm_Mo_takeCity) (v := 0) dq_Mo_takeCity_5 rfl ⟨by decide, by decide⟩ 6 rfl ?_
  refine gr_iconst (M := gm_Mo_takeCity) (v := 2) dq_Mo_takeCity_6 rfl ⟨by decide, by decide⟩ 7 rfl ?_
  refine gr_bipush (M := gm_Mo_takeCity) (v := 7) dq_Mo_takeCity_7 (by decide) ⟨by decide, by decide⟩ 9 rfl ?_
  refine gr_callVi (M := gm_Mo_takeCity) (as := [.inr (.inr 94), .inl 0, .inl 2, .inl 7]) dq_Mo_takeCity_9 12 rfl rfl gcy_Mo_158 gim_Mo_into gse_Mo_into ⟨by decide, by decide⟩ (Nat.le_of_ble_eq_true rfl) gsh_83 rfl (gli hL gsh_83) (fun o1 hg ha hx => c_Mo_into hL hn (gia_of gsh_94) hg ha hx) (fun h1 r2 _ => ?_)
  refine gr_istore_n (M := gm_Mo_takeCity) (lv' := [(1, .inl r2), (0, .inr (.inr 83))]) dq_Mo_takeCity_12 rfl (by decide) rfl 13 rfl ?_
  refine gr_iload_n (M := gm_Mo_takeCity) dq_Mo_takeCity_13 rfl 0 rfl 14 rfl ?_
  refine gr_if_le (M := gm_Mo_takeCity) dq_Mo_takeCity_14 21 17 rfl rfl (fun c3 => ?_) (fun c3 => ?_)
  · refine gr_aload_n (M := gm_Mo_takeCity) dq_Mo_takeCity_21 rfl 1 rfl 22 rfl ?_
    refine gr_aload_n (M := gm_Mo_takeCity) dq_Mo_takeCity_22 rfl 1 rfl 23 rfl ?_
    refine gr_getr (M := gm_Mo_takeCity) dq_Mo_takeCity_23 26 rfl gfl_Mo_44 gsh_83 rfl (gli hL gsh_83) 94 rfl ?_
    refine gr_iconst (M := gm_Mo_takeCity) (v := 1) dq_Mo_takeCity_26 rfl ⟨by decide, by decide⟩ 27 rfl ?_
    refine gr_iconst (M := gm_Mo_takeCity) (v := 1) dq_Mo_takeCity_27 rfl ⟨by decide, by decide⟩ 28 rfl ?_
    refine gr_bipush (M := gm_Mo_takeCity) (v := 60) dq_Mo_takeCity_28 (by decide) ⟨by decide, by decide⟩ 30 rfl ?_
    refine gr_callVi (M := gm_Mo_takeCity) (as := [.inr (.inr 94), .inl 1, .inl 1, .inl 60]) dq_Mo_takeCity_30 33 rfl rfl gcy_Mo_158 gim_Mo_into gse_Mo_into ⟨by decide, by decide⟩ (Nat.le_of_ble_eq_true rfl) gsh_83 rfl (gli hL gsh_83) (fun o1 hg ha hx => c_Mo_into hL hn (gia_of gsh_94) hg ha hx) (fun h4 r5 _ => ?_)
    exact gr_ireturn (M := gm_Mo_takeCity) dq_Mo_takeCity_33 hF
  refine gr_iload_n (M := gm_Mo_takeCity) dq_Mo_takeCity_17 rfl 0 rfl 18 rfl ?_
  refine gr_goto (M := gm_Mo_takeCity) dq_Mo_takeCity_18 33 rfl ?_
  exact gr_ireturn (M := gm_Mo_takeCity) dq_Mo_takeCity_33 hF

-- Mo_takeClause
theorem dq_Mo_takeClause_0 : decode gc_Mo_takeClause 0 = .ok (.aload_n 0, 1) := by decide +kernel
theorem dq_Mo_takeClause_1 : decode gc_Mo_takeClause 1 = .ok (.invokevirtual 137, 3) := by decide +kernel
theorem dq_Mo_takeClause_4 : decode gc_Mo_takeClause 4 = .ok (.istore_n 1, 1) := by decide +kernel
theorem dq_Mo_takeClause_5 : decode gc_Mo_takeClause 5 = .ok (.iload_n 1, 1) := by decide +kernel
theorem dq_Mo_takeClause_6 : decode gc_Mo_takeClause 6 = .ok (.bipush 99, 2) := by decide +kernel
theorem dq_Mo_takeClause_8 : decode gc_Mo_takeClause 8 = .ok (.if_icmp .ne 7, 3) := by decide +kernel
theorem dq_Mo_takeClause_11 : decode gc_Mo_takeClause 11 = .ok (.iconst 0, 1) := by decide +kernel
theorem dq_Mo_takeClause_12 : decode gc_Mo_takeClause 12 = .ok (.goto 24, 3) := by decide +kernel
theorem dq_Mo_takeClause_15 : decode gc_Mo_takeClause 15 = .ok (.iload_n 1, 1) := by decide +kernel
theorem dq_Mo_takeClause_16 : decode gc_Mo_takeClause 16 = .ok (.bipush 115, 2) := by decide +kernel
theorem dq_Mo_takeClause_18 : decode gc_Mo_takeClause 18 = .ok (.if_icmp .ne 7, 3) := by decide +kernel
theorem dq_Mo_takeClause_21 : decode gc_Mo_takeClause 21 = .ok (.iconst 1, 1) := by decide +kernel
theorem dq_Mo_takeClause_22 : decode gc_Mo_takeClause 22 = .ok (.goto 14, 3) := by decide +kernel
theorem dq_Mo_takeClause_25 : decode gc_Mo_takeClause 25 = .ok (.iload_n 1, 1) := by decide +kernel
theorem dq_Mo_takeClause_26 : decode gc_Mo_takeClause 26 = .ok (.bipush 107, 2) := by decide +kernel
theorem dq_Mo_takeClause_28 : decode gc_Mo_takeClause 28 = .ok (.if_icmp .ne 7, 3) := by decide +kernel
theorem dq_Mo_takeClause_31 : decode gc_Mo_takeClause 31 = .ok (.iconst 2, 1) := by decide +kernel
theorem dq_Mo_takeClause_32 : decode gc_Mo_takeClause 32 = .ok (.goto 4, 3) := by decide +kernel
theorem dq_Mo_takeClause_35 : decode gc_Mo_takeClause 35 = .ok (.iconst (-1), 1) := by decide +kernel
theorem dq_Mo_takeClause_36 : decode gc_Mo_takeClause 36 = .ok (.istore_n 2, 1) := by decide +kernel
theorem dq_Mo_takeClause_37 : decode gc_Mo_takeClause 37 = .ok (.iload_n 2, 1) := by decide +kernel
theorem dq_Mo_takeClause_38 : decode gc_Mo_takeClause 38 = .ok (.ifCond .lt 16, 3) := by decide +kernel
theorem dq_Mo_takeClause_41 : decode gc_Mo_takeClause 41 = .ok (.iload_n 2, 1) := by decide +kernel
theorem dq_Mo_takeClause_42 : decode gc_Mo_takeClause 42 = .ok (.ifCond .le 22, 3) := by decide +kernel
theorem dq_Mo_takeClause_45 : decode gc_Mo_takeClause 45 = .ok (.aload_n 0, 1) := by decide +kernel
theorem dq_Mo_takeClause_46 : decode gc_Mo_takeClause 46 = .ok (.getfield 44, 3) := by decide +kernel
theorem dq_Mo_takeClause_49 : decode gc_Mo_takeClause 49 = .ok (.iconst 0, 1) := by decide +kernel
theorem dq_Mo_takeClause_50 : decode gc_Mo_takeClause 50 = .ok (.iaload, 1) := by decide +kernel
theorem dq_Mo_takeClause_51 : decode gc_Mo_takeClause 51 = .ok (.ifCond .ne 13, 3) := by decide +kernel
theorem dq_Mo_takeClause_54 : decode gc_Mo_takeClause 54 = .ok (.aload_n 0, 1) := by decide +kernel
theorem dq_Mo_takeClause_55 : decode gc_Mo_takeClause 55 = .ok (.iconst 1, 1) := by decide +kernel
theorem dq_Mo_takeClause_56 : decode gc_Mo_takeClause 56 = .ok (.aload_n 0, 1) := by decide +kernel
theorem dq_Mo_takeClause_57 : decode gc_Mo_takeClause 57 = .ok (.getfield 134, 3) := by decide +kernel
theorem dq_Mo_takeClause_60 : decode gc_Mo_takeClause 60 = .ok (.invokevirtual 145, 3) := by decide +kernel
theorem dq_Mo_takeClause_63 : decode gc_Mo_takeClause 63 = .ok (.ireturn, 1) := by decide +kernel
theorem dq_Mo_takeClause_64 : decode gc_Mo_takeClause 64 = .ok (.iload_n 2, 1) := by decide +kernel
theorem dq_Mo_takeClause_65 : decode gc_Mo_takeClause 65 = .ok (.ifCond .ne 20, 3) := by decide +kernel
theorem dq_Mo_takeClause_68 : decode gc_Mo_takeClause 68 = .ok (.aload_n 0, 1) := by decide +kernel
theorem dq_Mo_takeClause_69 : decode gc_Mo_takeClause 69 = .ok (.getfield 44, 3) := by decide +kernel
theorem dq_Mo_takeClause_72 : decode gc_Mo_takeClause 72 = .ok (.iconst 0, 1) := by decide +kernel
theorem dq_Mo_takeClause_73 : decode gc_Mo_takeClause 73 = .ok (.iaload, 1) := by decide +kernel
theorem dq_Mo_takeClause_74 : decode gc_Mo_takeClause 74 = .ok (.ifCond .le 7, 3) := by decide +kernel
theorem dq_Mo_takeClause_77 : decode gc_Mo_takeClause 77 = .ok (.iconst 1, 1) := by decide +kernel
theorem dq_Mo_takeClause_78 : decode gc_Mo_takeClause 78 = .ok (.goto 43, 3) := by decide +kernel
theorem dq_Mo_takeClause_81 : decode gc_Mo_takeClause 81 = .ok (.iconst 0, 1) := by decide +kernel
theorem dq_Mo_takeClause_82 : decode gc_Mo_takeClause 82 = .ok (.goto 39, 3) := by decide +kernel
theorem dq_Mo_takeClause_85 : decode gc_Mo_takeClause 85 = .ok (.iload_n 2, 1) := by decide +kernel
theorem dq_Mo_takeClause_86 : decode gc_Mo_takeClause 86 = .ok (.iconst 1, 1) := by decide +kernel
theorem dq_Mo_takeClause_87 : decode gc_Mo_takeClause 87 = .ok (.if_icmp .ne 20, 3) := by decide +kernel
theorem dq_Mo_takeClause_90 : decode gc_Mo_takeClause 90 = .ok (.aload_n 0, 1) := by decide +kernel
theorem dq_Mo_takeClause_91 : decode gc_Mo_takeClause 91 = .ok (.getfield 162, 3) := by decide +kernel
theorem dq_Mo_takeClause_94 : decode gc_Mo_takeClause 94 = .ok (.bipush 9, 2) := by decide +kernel
theorem dq_Mo_takeClause_96 : decode gc_Mo_takeClause 96 = .ok (.if_icmp .ne 7, 3) := by decide +kernel
theorem dq_Mo_takeClause_99 : decode gc_Mo_takeClause 99 = .ok (.iconst 1, 1) := by decide +kernel
theorem dq_Mo_takeClause_100 : decode gc_Mo_takeClause 100 = .ok (.goto 21, 3) := by decide +kernel
theorem dq_Mo_takeClause_103 : decode gc_Mo_takeClause 103 = .ok (.iconst 0, 1) := by decide +kernel
theorem dq_Mo_takeClause_104 : decode gc_Mo_takeClause 104 = .ok (.goto 17, 3) := by decide +kernel
theorem dq_Mo_takeClause_107 : decode gc_Mo_takeClause 107 = .ok (.aload_n 0, 1) := by decide +kernel
theorem dq_Mo_takeClause_108 : decode gc_Mo_takeClause 108 = .ok (.getfield 169, 3) := by decide +kernel
theorem dq_Mo_takeClause_111 : decode gc_Mo_takeClause 111 = .ok (.bipush 6, 2) := by decide +kernel
theorem dq_Mo_takeClause_113 : decode gc_Mo_takeClause 113 = .ok (.if_icmp .ne 7, 3) := by decide +kernel
theorem dq_Mo_takeClause_116 : decode gc_Mo_takeClause 116 = .ok (.iconst 1, 1) := by decide +kernel
theorem dq_Mo_takeClause_117 : decode gc_Mo_takeClause 117 = .ok (.goto 4, 3) := by decide +kernel
theorem dq_Mo_takeClause_120 : decode gc_Mo_takeClause 120 = .ok (.iconst 0, 1) := by decide +kernel
theorem dq_Mo_takeClause_121 : decode gc_Mo_takeClause 121 = .ok (.istore_n 3, 1) := by decide +kernel
theorem dq_Mo_takeClause_122 : decode gc_Mo_takeClause 122 = .ok (.iload_n 3, 1) := by decide +kernel
theorem dq_Mo_takeClause_123 : decode gc_Mo_takeClause 123 = .ok (.ifCond .eq 13, 3) := by decide +kernel
theorem dq_Mo_takeClause_126 : decode gc_Mo_takeClause 126 = .ok (.aload_n 0, 1) := by decide +kernel
theorem dq_Mo_takeClause_127 : decode gc_Mo_takeClause 127 = .ok (.iconst 3, 1) := by decide +kernel
theorem dq_Mo_takeClause_128 : decode gc_Mo_takeClause 128 = .ok (.aload_n 0, 1) := by decide +kernel
theorem dq_Mo_takeClause_129 : decode gc_Mo_takeClause 129 = .ok (.getfield 134, 3) := by decide +kernel
theorem dq_Mo_takeClause_132 : decode gc_Mo_takeClause 132 = .ok (.invokevirtual 145, 3) := by decide +kernel
theorem dq_Mo_takeClause_135 : decode gc_Mo_takeClause 135 = .ok (.ireturn, 1) := by decide +kernel
theorem dq_Mo_takeClause_136 : decode gc_Mo_takeClause 136 = .ok (.aload_n 0, 1) := by decide +kernel
theorem dq_Mo_takeClause_137 : decode gc_Mo_takeClause 137 = .ok (.dup, 1) := by decide +kernel
theorem dq_Mo_takeClause_138 : decode gc_Mo_takeClause 138 = .ok (.getfield 134, 3) := by decide +kernel
theorem dq_Mo_takeClause_141 : decode gc_Mo_takeClause 141 = .ok (.iconst 1, 1) := by decide +kernel
theorem dq_Mo_takeClause_142 : decode gc_Mo_takeClause 142 = .ok (.iadd, 1) := by decide +kernel
theorem dq_Mo_takeClause_143 : decode gc_Mo_takeClause 143 = .ok (.putfield 134, 3) := by decide +kernel
theorem dq_Mo_takeClause_146 : decode gc_Mo_takeClause 146 = .ok (.iload_n 2, 1) := by decide +kernel
theorem dq_Mo_takeClause_147 : decode gc_Mo_takeClause 147 = .ok (.ifCond .ne 10, 3) := by decide +kernel
theorem dq_Mo_takeClause_150 : decode gc_Mo_takeClause 150 = .ok (.aload_n 0, 1) := by decide +kernel
theorem dq_Mo_takeClause_151 : decode gc_Mo_takeClause 151 = .ok (.invokevirtual 172, 3) := by decide +kernel
theorem dq_Mo_takeClause_154 : decode gc_Mo_takeClause 154 = .ok (.goto 19, 3) := by decide +kernel
theorem dq_Mo_takeClause_157 : decode gc_Mo_takeClause 157 = .ok (.iload_n 2, 1) := by decide +kernel
theorem dq_Mo_takeClause_158 : decode gc_Mo_takeClause 158 = .ok (.iconst 1, 1) := by decide +kernel
theorem dq_Mo_takeClause_159 : decode gc_Mo_takeClause 159 = .ok (.if_icmp .ne 10, 3) := by decide +kernel
theorem dq_Mo_takeClause_162 : decode gc_Mo_takeClause 162 = .ok (.aload_n 0, 1) := by decide +kernel
theorem dq_Mo_takeClause_163 : decode gc_Mo_takeClause 163 = .ok (.invokevirtual 175, 3) := by decide +kernel
theorem dq_Mo_takeClause_166 : decode gc_Mo_takeClause 166 = .ok (.goto 7, 3) := by decide +kernel
theorem dq_Mo_takeClause_169 : decode gc_Mo_takeClause 169 = .ok (.aload_n 0, 1) := by decide +kernel
theorem dq_Mo_takeClause_170 : decode gc_Mo_takeClause 170 = .ok (.invokevirtual 178, 3) := by decide +kernel
theorem dq_Mo_takeClause_173 : decode gc_Mo_takeClause 173 = .ok (.istore 4, 2) := by decide +kernel
theorem dq_Mo_takeClause_175 : decode gc_Mo_takeClause 175 = .ok (.iload 4, 2) := by decide +kernel
theorem dq_Mo_takeClause_177 : decode gc_Mo_takeClause 177 = .ok (.ifCond .ne 22, 3) := by decide +kernel
theorem dq_Mo_takeClause_180 : decode gc_Mo_takeClause 180 = .ok (.aload_n 0, 1) := by decide +kernel
theorem dq_Mo_takeClause_181 : decode gc_Mo_takeClause 181 = .ok (.invokevirtual 137, 3) := by decide +kernel
theorem dq_Mo_takeClause_184 : decode gc_Mo_takeClause 184 = .ok (.bipush 59, 2) := by decide +kernel
theorem dq_Mo_takeClause_186 : decode gc_Mo_takeClause 186 = .ok (.if_icmp .eq 13, 3) := by decide +kernel
theorem dq_Mo_takeClause_189 : decode gc_Mo_takeClause 189 = .ok (.aload_n 0, 1) := by decide +kernel
theorem dq_Mo_takeClause_190 : decode gc_Mo_takeClause 190 = .ok (.iconst 1, 1) := by decide +kernel
theorem dq_Mo_takeClause_191 : decode gc_Mo_takeClause 191 = .ok (.aload_n 0, 1) := by decide +kernel
theorem dq_Mo_takeClause_192 : decode gc_Mo_takeClause 192 = .ok (.getfield 134, 3) := by decide +kernel
theorem dq_Mo_takeClause_195 : decode gc_Mo_takeClause 195 = .ok (.invokevirtual 145, 3) := by decide +kernel
theorem dq_Mo_takeClause_198 : decode gc_Mo_takeClause 198 = .ok (.ireturn, 1) := by decide +kernel
theorem dq_Mo_takeClause_199 : decode gc_Mo_takeClause 199 = .ok (.aload_n 0, 1) := by decide +kernel
theorem dq_Mo_takeClause_200 : decode gc_Mo_takeClause 200 = .ok (.dup, 1) := by decide +kernel
theorem dq_Mo_takeClause_201 : decode gc_Mo_takeClause 201 = .ok (.getfield 134, 3) := by decide +kernel
theorem dq_Mo_takeClause_204 : decode gc_Mo_takeClause 204 = .ok (.iconst 1, 1) := by decide +kernel
theorem dq_Mo_takeClause_205 : decode gc_Mo_takeClause 205 = .ok (.iadd, 1) := by decide +kernel
theorem dq_Mo_takeClause_206 : decode gc_Mo_takeClause 206 = .ok (.putfield 134, 3) := by decide +kernel
theorem dq_Mo_takeClause_209 : decode gc_Mo_takeClause 209 = .ok (.iload 4, 2) := by decide +kernel
theorem dq_Mo_takeClause_211 : decode gc_Mo_takeClause 211 = .ok (.ireturn, 1) := by decide +kernel
abbrev gm_Mo_takeClause : gM := (gc_Mo_takeClause, gR_7, 5, 119, 5)
set_option maxRecDepth 20000 in
theorem gcy_Mo_178 : gCy gR_7 178 gy_Mo_takeCart gc_Mo_takeCart 3 (some .int) 0 := ⟨(gtab_at 924 (by decide +kernel) rfl), (gtab_at 8 (by decide +kernel) rfl), (gtab_at 927 rfl rfl), by decide, by decide, by decide +kernel⟩
theorem gim_Mo_takeCart : Cond.instanceMethod gy_Mo_takeCart ∈ gtbl := (gtab_at 926 (by decide +kernel) rfl)
theorem gse_Mo_takeCart : Cond.selects gy_Mo_takeCart.cls gy_Mo_takeCart gy_Mo_takeCart ∈ gtbl := (by decide +kernel)
set_option maxRecDepth 20000 in
theorem gcy_Mo_175 : gCy gR_7 175 gy_Mo_takeStreet gc_Mo_takeStreet 3 (some .int) 0 := ⟨(gtab_at 916 (by decide +kernel) rfl), (gtab_at 8 (by decide +kernel) rfl), (gtab_at 919 rfl rfl), by decide, by decide, by decide +kernel⟩
theorem gim_Mo_takeStreet : Cond.instanceMethod gy_Mo_takeStreet ∈ gtbl := (gtab_at 918 (by decide +kernel) rfl)
theorem gse_Mo_takeStreet : Cond.selects gy_Mo_takeStreet.cls gy_Mo_takeStreet gy_Mo_takeStreet ∈ gtbl := (by decide +kernel)
set_option maxRecDepth 20000 in
theorem gcy_Mo_172 : gCy gR_7 172 gy_Mo_takeCity gc_Mo_takeCity 2 (some .int) 0 := ⟨(gtab_at 902 (by decide +kernel) rfl), (gtab_at 8 (by decide +kernel) rfl), (gtab_at 905 rfl rfl), by decide, by decide, by decide +kernel⟩
theorem gim_Mo_takeCity : Cond.instanceMethod gy_Mo_takeCity ∈ gtbl := (gtab_at 904 (by decide +kernel) rfl)
theorem gse_Mo_takeCity : Cond.selects gy_Mo_takeCity.cls gy_Mo_takeCity gy_Mo_takeCity ∈ gtbl := (by decide +kernel)
def f_Mo_takeClause_J54    (h : gH) : Option gO := gb (f_Mo_fails 1 (h 83 17) h) (fun h7 r8 => some (h7, r8))
theorem w_Mo_takeClause_J54 {o : gO} {X : gX} (hL : gLive (xZ X)) (hn : (zL (xZ X)).Nodup) (hF : gFin X (some .int) o)      {h : gH}  : gr (f_Mo_takeClause_J54    h) o gm_Mo_takeClause X h 54 [(0, .inr (.inr 83))] [] := by
  unfold f_Mo_takeClause_J54
  refine gr_aload_n (M := gm_Mo_takeClause) dq_Mo_takeClause_54 rfl 0 rfl 55 rfl ?_
  refine gr_iconst (M := gm_Mo_takeClause) (v := 1) dq_Mo_takeClause_55 rfl ⟨by decide, by decide⟩ 56 rfl ?_
  refine gr_aload_n (M := gm_Mo_takeClause) dq_Mo_takeClause_56 rfl 0 rfl 57 rfl ?_
  refine gr_geti (M := gm_Mo_takeClause) dq_Mo_takeClause_57 60 rfl gfl_Mo_134 gsh_83 rfl (gli hL gsh_83) ?_
  refine gr_callVi (M := gm_Mo_takeClause) (as := [.inl 1, .inl (h 83 17)]) dq_Mo_takeClause_60 63 rfl rfl gcy_Mo_145 gim_Mo_fails gse_Mo_fails ⟨by decide, by decide⟩ (Nat.le_of_ble_eq_true rfl) gsh_83 rfl (gli hL gsh_83) (fun o1 hg ha hx => c_Mo_fails hL hn  hg ha hx) (fun h7 r8 _ => ?_)
  exact gr_ireturn (M := gm_Mo_takeClause) dq_Mo_takeClause_63 hF

def f_Mo_takeClause_J199   (v4 : Int) (h : gH) : Option gO := gs (gup h 83 17 (gadd (h 83 17) 1)) (fun h20 => some (h20, v4))
theorem w_Mo_takeClause_J199 {o : gO} {X : gX} (hL : gLive (xZ X)) (hn : (zL (xZ X)).Nodup) (hF : gFin X (some .int) o)     {v4 : Int} {h : gH}  : gr (f_Mo_takeClause_J199   v4 h) o gm_Mo_takeClause X h 199 [(0, .inr (.inr 83)), (4, .inl v4)] [] := by
  unfold f_Mo_takeClause_J199
  refine gr_aload_n (M := gm_Mo_takeClause) dq_Mo_takeClause_199 rfl 0 rfl 200 rfl ?_
  refine gr_dup (M := gm_Mo_takeClause) dq_Mo_takeClause_200 (fun _ q => by cases q) 201 rfl ?_
  refine gr_geti (M := gm_Mo_takeClause) dq_Mo_takeClause_201 204 rfl gfl_Mo_134 gsh_83 rfl (gli hL gsh_83) ?_
  refine gr_iconst (M := gm_Mo_takeClause) (v := 1) dq_Mo_takeClause_204 rfl ⟨by decide, by decide⟩ 205 rfl ?_
  refine gr_iadd (M := gm_Mo_takeClause) dq_Mo_takeClause_205 206 rfl ?_
  refine gr_puti (M := gm_Mo_takeClause) dq_Mo_takeClause_206 209 rfl gfp_Mo_134 gsh_83 rfl (gli hL gsh_83) (fun h20 _ => ?_)
  refine gr_iload (M := gm_Mo_takeClause) dq_Mo_takeClause_209 1 rfl 211 rfl ?_
  exact gr_ireturn (M := gm_Mo_takeClause) dq_Mo_takeClause_211 hF

def f_Mo_takeClause_J173   (s0 : Int) (h : gH) : Option gO := if s0 = 0 then (gb (f_Mo_here  h) (fun h21 r22 => if r22 = 59 then (f_Mo_takeClause_J199   s0 h21) else (gb (f_Mo_fails 1 (h21 83 17) h21) (fun h24 r25 => some (h24, r25))))) else (f_Mo_takeClause_J199   s0 h)
theorem w_Mo_takeClause_J173 {o : gO} {X : gX} (hL : gLive (xZ X)) (hn : (zL (xZ X)).Nodup) (hF : gFin X (some .int) o)     {s0 : Int} {h : gH}  : gr (f_Mo_takeClause_J173   s0 h) o gm_Mo_takeClause X h 173 [(0, .inr (.inr 83))] [.inl s0] := by
  unfold f_Mo_takeClause_J173
  refine gr_istore (M := gm_Mo_takeClause) (kk := 0) (lv' := [(4, .inl s0), (0, .inr (.inr 83))]) dq_Mo_takeClause_173 (by decide) rfl 175 rfl ?_
  refine gr_iload (M := gm_Mo_takeClause) dq_Mo_takeClause_175 0 rfl 177 rfl ?_
  refine gr_if_ne (M := gm_Mo_takeClause) dq_Mo_takeClause_177 199 180 rfl rfl (fun c19 => ?_) (fun c19 => ?_)
  · refine gr_sub (M := gm_Mo_takeClause) (lv' := [(0, .inr (.inr 83)), (4, .inl s0)]) [1, 0] rfl ?_
    exact w_Mo_takeClause_J199 hL hn hF   
  refine gr_aload_n (M := gm_Mo_takeClause) dq_Mo_takeClause_180 rfl 1 rfl 181 rfl ?_
  refine gr_callVi (M := gm_Mo_takeClause) (as := []) dq_Mo_takeClause_181 184 rfl rfl gcy_Mo_137 gim_Mo_here gse_Mo_here ⟨by decide, by decide⟩ (Nat.le_of_ble_eq_true rfl) gsh_83 rfl (gli hL gsh_83) (fun o1 hg ha hx => c_Mo_here hL hn  hg ha hx) (fun h21 r22 _ => ?_)
  refine gr_bipush (M := gm_Mo_takeClause) (v := 59) dq_Mo_takeClause_184 (by decide) ⟨by decide, by decide⟩ 186 rfl ?_
  refine gr_icmp_eq (M := gm_Mo_takeClause) dq_Mo_takeClause_186 199 189 rfl rfl (fun c23 => ?_) (fun c23 => ?_)
  · refine gr_sub (M := gm_Mo_takeClause) (lv' := [(0, .inr (.inr 83)), (4, .inl s0)]) [1, 0] rfl ?_
    exact w_Mo_takeClause_J199 hL hn hF   
  refine gr_aload_n (M := gm_Mo_takeClause) dq_Mo_takeClause_189 rfl 1 rfl 190 rfl ?_
  refine gr_iconst (M := gm_Mo_takeClause) (v := 1) dq_Mo_takeClause_190 rfl ⟨by decide, by decide⟩ 191 rfl ?_
  refine gr_aload_n (M := gm_Mo_takeClause) dq_Mo_takeClause_191 rfl 1 rfl 192 rfl ?_
  refine gr_geti (M := gm_Mo_takeClause) dq_Mo_takeClause_192 195 rfl gfl_Mo_134 gsh_83 rfl (gli hL gsh_83) ?_
  refine gr_callVi (M := gm_Mo_takeClause) (as := [.inl 1, .inl (h21 83 17)]) dq_Mo_takeClause_195 198 rfl rfl gcy_Mo_145 gim_Mo_fails gse_Mo_fails ⟨by decide, by decide⟩ (Nat.le_of_ble_eq_true rfl) gsh_83 rfl (gli hL gsh_83) (fun o1 hg ha hx => c_Mo_fails hL hn  hg ha hx) (fun h24 r25 _ => ?_)
  exact gr_ireturn (M := gm_Mo_takeClause) dq_Mo_takeClause_198 hF

def f_Mo_takeClause_J121   (v2 : Int) (s0 : Int) (h : gH) : Option gO := if s0 = 0 then (gs (gup h 83 17 (gadd (h 83 17) 1)) (fun h14 => if v2 = 0 then (gb (f_Mo_takeCity  h14) (fun h28 r29 => f_Mo_takeClause_J173   r29 h28)) else (if v2 = 1 then (gb (f_Mo_takeStreet  h14) (fun h26 r27 => f_Mo_takeClause_J173   r27 h26)) else (gb (f_Mo_takeCart  h14) (fun h17 r18 => f_Mo_takeClause_J173   r18 h17))))) else (gb (f_Mo_fails 3 (h 83 17) h) (fun h30 r31 => some (h30, r31)))
theorem w_Mo_takeClause_J121 {o : gO} {X : gX} (hL : gLive (xZ X)) (hn : (zL (xZ X)).Nodup) (hF : gFin X (some .int) o)     {v2 : Int} {s0 : Int} {h : gH}  : gr (f_Mo_takeClause_J121   v2 s0 h) o gm_Mo_takeClause X h 121 [(0, .inr (.inr 83)), (2, .inl v2)] [.inl s0] := by
  unfold f_Mo_takeClause_J121
  refine gr_istore_n (M := gm_Mo_takeClause) (lv' := [(3, .inl s0), (0, .inr (.inr 83)), (2, .inl v2)]) dq_Mo_takeClause_121 rfl (by decide) rfl 122 rfl ?_
  refine gr_iload_n (M := gm_Mo_takeClause) dq_Mo_takeClause_122 rfl 0 rfl 123 rfl ?_
  refine gr_if_eq (M := gm_Mo_takeClause) dq_Mo_takeClause_123 136 126 rfl rfl (fun c13 => ?_) (fun c13 => ?_)
  · refine gr_aload_n (M := gm_Mo_takeClause) dq_Mo_takeClause_136 rfl 1 rfl 137 rfl ?_
    refine gr_dup (M := gm_Mo_takeClause) dq_Mo_takeClause_137 (fun _ q => by cases q) 138 rfl ?_
    refine gr_geti (M := gm_Mo_takeClause) dq_Mo_takeClause_138 141 rfl gfl_Mo_134 gsh_83 rfl (gli hL gsh_83) ?_
    refine gr_iconst (M := gm_Mo_takeClause) (v := 1) dq_Mo_takeClause_141 rfl ⟨by decide, by decide⟩ 142 rfl ?_
    refine gr_iadd (M := gm_Mo_takeClause) dq_Mo_takeClause_142 143 rfl ?_
    refine gr_puti (M := gm_Mo_takeClause) dq_Mo_takeClause_143 146 rfl gfp_Mo_134 gsh_83 rfl (gli hL gsh_83) (fun h14 _ => ?_)
    refine gr_iload_n (M := gm_Mo_takeClause) dq_Mo_takeClause_146 rfl 2 rfl 147 rfl ?_
    refine gr_if_ne (M := gm_Mo_takeClause) dq_Mo_takeClause_147 157 150 rfl rfl (fun c15 => ?_) (fun c15 => ?_)
    · refine gr_iload_n (M := gm_Mo_takeClause) dq_Mo_takeClause_157 rfl 2 rfl 158 rfl ?_
      refine gr_iconst (M := gm_Mo_takeClause) (v := 1) dq_Mo_takeClause_158 rfl ⟨by decide, by decide⟩ 159 rfl ?_
      refine gr_icmp_ne (M := gm_Mo_takeClause) dq_Mo_takeClause_159 169 162 rfl rfl (fun c16 => ?_) (fun c16 => ?_)
      · refine gr_aload_n (M := gm_Mo_takeClause) dq_Mo_takeClause_169 rfl 1 rfl 170 rfl ?_
        refine gr_callVi (M := gm_Mo_takeClause) (as := []) dq_Mo_takeClause_170 173 rfl rfl gcy_Mo_178 gim_Mo_takeCart gse_Mo_takeCart ⟨by decide, by decide⟩ (Nat.le_of_ble_eq_true rfl) gsh_83 rfl (gli hL gsh_83) (fun o1 hg ha hx => c_Mo_takeCart hL hn  hg ha hx) (fun h17 r18 _ => ?_)
        refine gr_sub (M := gm_Mo_takeClause) (lv' := [(0, .inr (.inr 83))]) [1] rfl ?_
        exact w_Mo_takeClause_J173 hL hn hF   
      refine gr_aload_n (M := gm_Mo_takeClause) dq_Mo_takeClause_162 rfl 1 rfl 163 rfl ?_
      refine gr_callVi (M := gm_Mo_takeClause) (as := []) dq_Mo_takeClause_163 166 rfl rfl gcy_Mo_175 gim_Mo_takeStreet gse_Mo_takeStreet ⟨by decide, by decide⟩ (Nat.le_of_ble_eq_true rfl) gsh_83 rfl (gli hL gsh_83) (fun o1 hg ha hx => c_Mo_takeStreet hL hn  hg ha hx) (fun h26 r27 _ => ?_)
      refine gr_goto (M := gm_Mo_takeClause) dq_Mo_takeClause_166 173 rfl ?_
      refine gr_sub (M := gm_Mo_takeClause) (lv' := [(0, .inr (.inr 83))]) [1] rfl ?_
      exact w_Mo_takeClause_J173 hL hn hF   
    refine gr_aload_n (M := gm_Mo_takeClause) dq_Mo_takeClause_150 rfl 1 rfl 151 rfl ?_
    refine gr_callVi (M := gm_Mo_takeClause) (as := []) dq_Mo_takeClause_151 154 rfl rfl gcy_Mo_172 gim_Mo_takeCity gse_Mo_takeCity ⟨by decide, by decide⟩ (Nat.le_of_ble_eq_true rfl) gsh_83 rfl (gli hL gsh_83) (fun o1 hg ha hx => c_Mo_takeCity hL hn  hg ha hx) (fun h28 r29 _ => ?_)
    refine gr_goto (M := gm_Mo_takeClause) dq_Mo_takeClause_154 173 rfl ?_
    refine gr_sub (M := gm_Mo_takeClause) (lv' := [(0, .inr (.inr 83))]) [1] rfl ?_
    exact w_Mo_takeClause_J173 hL hn hF   
  refine gr_aload_n (M := gm_Mo_takeClause) dq_Mo_takeClause_126 rfl 1 rfl 127 rfl ?_
  refine gr_iconst (M := gm_Mo_takeClause) (v := 3) dq_Mo_takeClause_127 rfl ⟨by decide, by decide⟩ 128 rfl ?_
  refine gr_aload_n (M := gm_Mo_takeClause) dq_Mo_takeClause_128 rfl 1 rfl 129 rfl ?_
  refine gr_geti (M := gm_Mo_takeClause) dq_Mo_takeClause_129 132 rfl gfl_Mo_134 gsh_83 rfl (gli hL gsh_83) ?_
  refine gr_callVi (M := gm_Mo_takeClause) (as := [.inl 3, .inl (h 83 17)]) dq_Mo_takeClause_132 135 rfl rfl gcy_Mo_145 gim_Mo_fails gse_Mo_fails ⟨by decide, by decide⟩ (Nat.le_of_ble_eq_true rfl) gsh_83 rfl (gli hL gsh_83) (fun o1 hg ha hx => c_Mo_fails hL hn  hg ha hx) (fun h30 r31 _ => ?_)
  exact gr_ireturn (M := gm_Mo_takeClause) dq_Mo_takeClause_135 hF

def f_Mo_takeClause_J64   (v2 : Int) (h : gH) : Option gO := if v2 = 0 then (gd (gix 2 0) (if (h 94 0) ≤ 0 then (f_Mo_takeClause_J121   v2 0 h) else (f_Mo_takeClause_J121   v2 1 h))) else (if v2 = 1 then (if (h 83 21) = 9 then (f_Mo_takeClause_J121   v2 1 h) else (f_Mo_takeClause_J121   v2 0 h)) else (if (h 83 26) = 6 then (f_Mo_takeClause_J121   v2 1 h) else (f_Mo_takeClause_J121   v2 0 h)))
theorem w_Mo_takeClause_J64 {o : gO} {X : gX} (hL : gLive (xZ X)) (hn : (zL (xZ X)).Nodup) (hF : gFin X (some .int) o)     {v2 : Int} {h : gH}  : gr (f_Mo_takeClause_J64   v2 h) o gm_Mo_takeClause X h 64 [(0, .inr (.inr 83)), (2, .inl v2)] [] := by
  unfold f_Mo_takeClause_J64
  refine gr_iload_n (M := gm_Mo_takeClause) dq_Mo_takeClause_64 rfl 1 rfl 65 rfl ?_
  refine gr_if_ne (M := gm_Mo_takeClause) dq_Mo_takeClause_65 85 68 rfl rfl (fun c10 => ?_) (fun c10 => ?_)
  · refine gr_iload_n (M := gm_Mo_takeClause) dq_Mo_takeClause_85 rfl 1 rfl 86 rfl ?_
    refine gr_iconst (M := gm_Mo_takeClause) (v := 1) dq_Mo_takeClause_86 rfl ⟨by decide, by decide⟩ 87 rfl ?_
    refine gr_icmp_ne (M := gm_Mo_takeClause) dq_Mo_takeClause_87 107 90 rfl rfl (fun c11 => ?_) (fun c11 => ?_)
    · refine gr_aload_n (M := gm_Mo_takeClause) dq_Mo_takeClause_107 rfl 0 rfl 108 rfl ?_
      refine gr_geti (M := gm_Mo_takeClause) dq_Mo_takeClause_108 111 rfl gfl_Mo_169 gsh_83 rfl (gli hL gsh_83) ?_
      refine gr_bipush (M := gm_Mo_takeClause) (v := 6) dq_Mo_takeClause_111 (by decide) ⟨by decide, by decide⟩ 113 rfl ?_
      refine gr_icmp_ne (M := gm_Mo_takeClause) dq_Mo_takeClause_113 120 116 rfl rfl (fun c12 => ?_) (fun c12 => ?_)
      · refine gr_iconst (M := gm_Mo_takeClause) (v := 0) dq_Mo_takeClause_120 rfl ⟨by decide, by decide⟩ 121 rfl ?_
        exact w_Mo_takeClause_J121 hL hn hF   
      refine gr_iconst (M := gm_Mo_takeClause) (v := 1) dq_Mo_takeClause_116 rfl ⟨by decide, by decide⟩ 117 rfl ?_
      refine gr_goto (M := gm_Mo_takeClause) dq_Mo_takeClause_117 121 rfl ?_
      exact w_Mo_takeClause_J121 hL hn hF   
    refine gr_aload_n (M := gm_Mo_takeClause) dq_Mo_takeClause_90 rfl 0 rfl 91 rfl ?_
    refine gr_geti (M := gm_Mo_takeClause) dq_Mo_takeClause_91 94 rfl gfl_Mo_162 gsh_83 rfl (gli hL gsh_83) ?_
    refine gr_bipush (M := gm_Mo_takeClause) (v := 9) dq_Mo_takeClause_94 (by decide) ⟨by decide, by decide⟩ 96 rfl ?_
    refine gr_icmp_ne (M := gm_Mo_takeClause) dq_Mo_takeClause_96 103 99 rfl rfl (fun c32 => ?_) (fun c32 => ?_)
    · refine gr_iconst (M := gm_Mo_takeClause) (v := 0) dq_Mo_takeClause_103 rfl ⟨by decide, by decide⟩ 104 rfl ?_
      refine gr_goto (M := gm_Mo_takeClause) dq_Mo_takeClause_104 121 rfl ?_
      exact w_Mo_takeClause_J121 hL hn hF   
    refine gr_iconst (M := gm_Mo_takeClause) (v := 1) dq_Mo_takeClause_99 rfl ⟨by decide, by decide⟩ 100 rfl ?_
    refine gr_goto (M := gm_Mo_takeClause) dq_Mo_takeClause_100 121 rfl ?_
    exact w_Mo_takeClause_J121 hL hn hF   
  refine gr_aload_n (M := gm_Mo_takeClause) dq_Mo_takeClause_68 rfl 0 rfl 69 rfl ?_
  refine gr_getr (M := gm_Mo_takeClause) dq_Mo_takeClause_69 72 rfl gfl_Mo_44 gsh_83 rfl (gli hL gsh_83) 94 rfl ?_
  refine gr_iconst (M := gm_Mo_takeClause) (v := 0) dq_Mo_takeClause_72 rfl ⟨by decide, by decide⟩ 73 rfl ?_
  refine gr_iald (M := gm_Mo_takeClause) dq_Mo_takeClause_73 74 rfl gsh_94 (glj hL gsh_94 (by decide)) ?_
  refine gr_if_le (M := gm_Mo_takeClause) dq_Mo_takeClause_74 81 77 rfl rfl (fun c33 => ?_) (fun c33 => ?_)
  · refine gr_iconst (M := gm_Mo_takeClause) (v := 0) dq_Mo_takeClause_81 rfl ⟨by decide, by decide⟩ 82 rfl ?_
    refine gr_goto (M := gm_Mo_takeClause) dq_Mo_takeClause_82 121 rfl ?_
    exact w_Mo_takeClause_J121 hL hn hF   
  refine gr_iconst (M := gm_Mo_takeClause) (v := 1) dq_Mo_takeClause_77 rfl ⟨by decide, by decide⟩ 78 rfl ?_
  refine gr_goto (M := gm_Mo_takeClause) dq_Mo_takeClause_78 121 rfl ?_
  exact w_Mo_takeClause_J121 hL hn hF   

def f_Mo_takeClause_J36   (s0 : Int) (h : gH) : Option gO := if s0 < 0 then (f_Mo_takeClause_J54    h) else (if s0 ≤ 0 then (f_Mo_takeClause_J64   s0 h) else (gd (gix 2 0) (if (h 94 0) = 0 then (f_Mo_takeClause_J54    h) else (f_Mo_takeClause_J64   s0 h))))
theorem w_Mo_takeClause_J36 {o : gO} {X : gX} (hL : gLive (xZ X)) (hn : (zL (xZ X)).Nodup) (hF : gFin X (some .int) o)     {s0 : Int} {h : gH}  : gr (f_Mo_takeClause_J36   s0 h) o gm_Mo_takeClause X h 36 [(0, .inr (.inr 83))] [.inl s0] := by
  unfold f_Mo_takeClause_J36
  refine gr_istore_n (M := gm_Mo_takeClause) (lv' := [(2, .inl s0), (0, .inr (.inr 83))]) dq_Mo_takeClause_36 rfl (by decide) rfl 37 rfl ?_
  refine gr_iload_n (M := gm_Mo_takeClause) dq_Mo_takeClause_37 rfl 0 rfl 38 rfl ?_
  refine gr_if_lt (M := gm_Mo_takeClause) dq_Mo_takeClause_38 54 41 rfl rfl (fun c6 => ?_) (fun c6 => ?_)
  · refine gr_sub (M := gm_Mo_takeClause) (lv' := [(0, .inr (.inr 83))]) [1] rfl ?_
    exact w_Mo_takeClause_J54 hL hn hF   
  refine gr_iload_n (M := gm_Mo_takeClause) dq_Mo_takeClause_41 rfl 0 rfl 42 rfl ?_
  refine gr_if_le (M := gm_Mo_takeClause) dq_Mo_takeClause_42 64 45 rfl rfl (fun c9 => ?_) (fun c9 => ?_)
  · refine gr_sub (M := gm_Mo_takeClause) (lv' := [(0, .inr (.inr 83)), (2, .inl s0)]) [1, 0] rfl ?_
    exact w_Mo_takeClause_J64 hL hn hF   
  refine gr_aload_n (M := gm_Mo_takeClause) dq_Mo_takeClause_45 rfl 1 rfl 46 rfl ?_
  refine gr_getr (M := gm_Mo_takeClause) dq_Mo_takeClause_46 49 rfl gfl_Mo_44 gsh_83 rfl (gli hL gsh_83) 94 rfl ?_
  refine gr_iconst (M := gm_Mo_takeClause) (v := 0) dq_Mo_takeClause_49 rfl ⟨by decide, by decide⟩ 50 rfl ?_
  refine gr_iald (M := gm_Mo_takeClause) dq_Mo_takeClause_50 51 rfl gsh_94 (glj hL gsh_94 (by decide)) ?_
  refine gr_if_ne (M := gm_Mo_takeClause) dq_Mo_takeClause_51 64 54 rfl rfl (fun c34 => ?_) (fun c34 => ?_)
  · refine gr_sub (M := gm_Mo_takeClause) (lv' := [(0, .inr (.inr 83)), (2, .inl s0)]) [1, 0] rfl ?_
    exact w_Mo_takeClause_J64 hL hn hF   
  refine gr_sub (M := gm_Mo_takeClause) (lv' := [(0, .inr (.inr 83))]) [1] rfl ?_
  exact w_Mo_takeClause_J54 hL hn hF   

def f_Mo_takeClause  (h : gH) : Option gO := gb (f_Mo_here  h) (fun h1 r2 => if r2 = 99 then (f_Mo_takeClause_J36   0 h1) else (if r2 = 115 then (f_Mo_takeClause_J36   1 h1) else (if r2 = 107 then (f_Mo_takeClause_J36   2 h1) else (f_Mo_takeClause_J36   (-1) h1))))
theorem c_Mo_takeClause {Z : gZ} (hL : gLive Z) (hn : (zL Z).Nodup)   {h : gH} {o : gO} (hg : gRg h) (ha : gRl [.inr (.inr 83)]) (hx : f_Mo_takeClause  h = some o) : gC Z gy_Mo_takeClause gc_Mo_takeClause 5 (some .int) 5 119 [.inr (.inr 83)] h o := by
  unfold f_Mo_takeClause at hx
  refine gC_of (lv := [(0, .inr (.inr 83))]) (own := gR_7) (by decide +kernel) rfl (Nat.le_of_ble_eq_true rfl) rfl rfl hn hg ha hx (fun X hZ hF => ?_)
  subst hZ
  show gr _ o gm_Mo_takeClause X h 0 _ _
  refine gr_aload_n (M := gm_Mo_takeClause) dq_Mo_takeClause_0 rfl 0 rfl 1 rfl ?_
  refine gr_callVi (M := gm_Mo_takeClause) (as := []) dq_Mo_takeClause_1 4 rfl rfl gcy_Mo_137 gim_Mo_here gse_Mo_here ⟨by decide, by decide⟩ (Nat.le_of_ble_eq_true rfl) gsh_83 rfl (gli hL gsh_83) (fun o1 hg ha hx => c_Mo_here hL hn  hg ha hx) (fun h1 r2 _ => ?_)
  refine gr_istore_n (M := gm_Mo_takeClause) (lv' := [(1, .inl r2), (0, .inr (.inr 83))]) dq_Mo_takeClause_4 rfl (by decide) rfl 5 rfl ?_
  refine gr_iload_n (M := gm_Mo_takeClause) dq_Mo_takeClause_5 rfl 0 rfl 6 rfl ?_
  refine gr_bipush (M := gm_Mo_takeClause) (v := 99) dq_Mo_takeClause_6 (by decide) ⟨by decide, by decide⟩ 8 rfl ?_
  refine gr_icmp_ne (M := gm_Mo_takeClause) dq_Mo_takeClause_8 15 11 rfl rfl (fun c3 => ?_) (fun c3 => ?_)
  · refine gr_iload_n (M := gm_Mo_takeClause) dq_Mo_takeClause_15 rfl 0 rfl 16 rfl ?_
    refine gr_bipush (M := gm_Mo_takeClause) (v := 115) dq_Mo_takeClause_16 (by decide) ⟨by decide, by decide⟩ 18 rfl ?_
    refine gr_icmp_ne (M := gm_Mo_takeClause) dq_Mo_takeClause_18 25 21 rfl rfl (fun c4 => ?_) (fun c4 => ?_)
    · refine gr_iload_n (M := gm_Mo_takeClause) dq_Mo_takeClause_25 rfl 0 rfl 26 rfl ?_
      refine gr_bipush (M := gm_Mo_takeClause) (v := 107) dq_Mo_takeClause_26 (by decide) ⟨by decide, by decide⟩ 28 rfl ?_
      refine gr_icmp_ne (M := gm_Mo_takeClause) dq_Mo_takeClause_28 35 31 rfl rfl (fun c5 => ?_) (fun c5 => ?_)
      · refine gr_iconst (M := gm_Mo_takeClause) (v := (-1)) dq_Mo_takeClause_35 rfl ⟨by decide, by decide⟩ 36 rfl ?_
        refine gr_sub (M := gm_Mo_takeClause) (lv' := [(0, .inr (.inr 83))]) [1] rfl ?_
        exact w_Mo_takeClause_J36 hL hn hF   
      refine gr_iconst (M := gm_Mo_takeClause) (v := 2) dq_Mo_takeClause_31 rfl ⟨by decide, by decide⟩ 32 rfl ?_
      refine gr_goto (M := gm_Mo_takeClause) dq_Mo_takeClause_32 36 rfl ?_
      refine gr_sub (M := gm_Mo_takeClause) (lv' := [(0, .inr (.inr 83))]) [1] rfl ?_
      exact w_Mo_takeClause_J36 hL hn hF   
    refine gr_iconst (M := gm_Mo_takeClause) (v := 1) dq_Mo_takeClause_21 rfl ⟨by decide, by decide⟩ 22 rfl ?_
    refine gr_goto (M := gm_Mo_takeClause) dq_Mo_takeClause_22 36 rfl ?_
    refine gr_sub (M := gm_Mo_takeClause) (lv' := [(0, .inr (.inr 83))]) [1] rfl ?_
    exact w_Mo_takeClause_J36 hL hn hF   
  refine gr_iconst (M := gm_Mo_takeClause) (v := 0) dq_Mo_takeClause_11 rfl ⟨by decide, by decide⟩ 12 rfl ?_
  refine gr_goto (M := gm_Mo_takeClause) dq_Mo_takeClause_12 36 rfl ?_
  refine gr_sub (M := gm_Mo_takeClause) (lv' := [(0, .inr (.inr 83))]) [1] rfl ?_
  exact w_Mo_takeClause_J36 hL hn hF   

-- Mo_findFar
theorem dq_Mo_findFar_0 : decode gc_Mo_findFar 0 = .ok (.iconst 0, 1) := by decide +kernel
theorem dq_Mo_findFar_1 : decode gc_Mo_findFar 1 = .ok (.istore_n 1, 1) := by decide +kernel
theorem dq_Mo_findFar_2 : decode gc_Mo_findFar 2 = .ok (.iload_n 1, 1) := by decide +kernel
theorem dq_Mo_findFar_3 : decode gc_Mo_findFar 3 = .ok (.bipush 49, 2) := by decide +kernel
theorem dq_Mo_findFar_5 : decode gc_Mo_findFar 5 = .ok (.if_icmp .ge 32, 3) := by decide +kernel
theorem dq_Mo_findFar_8 : decode gc_Mo_findFar 8 = .ok (.aload_n 0, 1) := by decide +kernel
theorem dq_Mo_findFar_9 : decode gc_Mo_findFar 9 = .ok (.getfield 31, 3) := by decide +kernel
theorem dq_Mo_findFar_12 : decode gc_Mo_findFar 12 = .ok (.iload_n 1, 1) := by decide +kernel
theorem dq_Mo_findFar_13 : decode gc_Mo_findFar 13 = .ok (.iload_n 1, 1) := by decide +kernel
theorem dq_Mo_findFar_14 : decode gc_Mo_findFar 14 = .ok (.bipush 7, 2) := by decide +kernel
theorem dq_Mo_findFar_16 : decode gc_Mo_findFar 16 = .ok (.idiv, 1) := by decide +kernel
theorem dq_Mo_findFar_17 : decode gc_Mo_findFar 17 = .ok (.iload_n 1, 1) := by decide +kernel
theorem dq_Mo_findFar_18 : decode gc_Mo_findFar 18 = .ok (.bipush 7, 2) := by decide +kernel
theorem dq_Mo_findFar_20 : decode gc_Mo_findFar 20 = .ok (.irem, 1) := by decide +kernel
theorem dq_Mo_findFar_21 : decode gc_Mo_findFar 21 = .ok (.if_icmp .ne 7, 3) := by decide +kernel
theorem dq_Mo_findFar_24 : decode gc_Mo_findFar 24 = .ok (.iconst 0, 1) := by decide +kernel
theorem dq_Mo_findFar_25 : decode gc_Mo_findFar 25 = .ok (.goto 5, 3) := by decide +kernel
theorem dq_Mo_findFar_28 : decode gc_Mo_findFar 28 = .ok (.ldc 181, 2) := by decide +kernel
theorem dq_Mo_findFar_30 : decode gc_Mo_findFar 30 = .ok (.iastore, 1) := by decide +kernel
theorem dq_Mo_findFar_31 : decode gc_Mo_findFar 31 = .ok (.iinc 1 1, 3) := by decide +kernel
theorem dq_Mo_findFar_34 : decode gc_Mo_findFar 34 = .ok (.goto (-32), 3) := by decide +kernel
theorem dq_Mo_findFar_37 : decode gc_Mo_findFar 37 = .ok (.iconst 0, 1) := by decide +kernel
theorem dq_Mo_findFar_38 : decode gc_Mo_findFar 38 = .ok (.istore_n 1, 1) := by decide +kernel
theorem dq_Mo_findFar_39 : decode gc_Mo_findFar 39 = .ok (.iload_n 1, 1) := by decide +kernel
theorem dq_Mo_findFar_40 : decode gc_Mo_findFar 40 = .ok (.aload_n 0, 1) := by decide +kernel
theorem dq_Mo_findFar_41 : decode gc_Mo_findFar 41 = .ok (.getfield 114, 3) := by decide +kernel
theorem dq_Mo_findFar_44 : decode gc_Mo_findFar 44 = .ok (.if_icmp .ge 165, 3) := by decide +kernel
theorem dq_Mo_findFar_47 : decode gc_Mo_findFar 47 = .ok (.iconst 0, 1) := by decide +kernel
theorem dq_Mo_findFar_48 : decode gc_Mo_findFar 48 = .ok (.istore_n 2, 1) := by decide +kernel
theorem dq_Mo_findFar_49 : decode gc_Mo_findFar 49 = .ok (.iload_n 2, 1) := by decide +kernel
theorem dq_Mo_findFar_50 : decode gc_Mo_findFar 50 = .ok (.aload_n 0, 1) := by decide +kernel
theorem dq_Mo_findFar_51 : decode gc_Mo_findFar 51 = .ok (.getfield 121, 3) := by decide +kernel
theorem dq_Mo_findFar_54 : decode gc_Mo_findFar 54 = .ok (.if_icmp .ge 149, 3) := by decide +kernel
theorem dq_Mo_findFar_57 : decode gc_Mo_findFar 57 = .ok (.iconst 0, 1) := by decide +kernel
theorem dq_Mo_findFar_58 : decode gc_Mo_findFar 58 = .ok (.istore_n 3, 1) := by decide +kernel
theorem dq_Mo_findFar_59 : decode gc_Mo_findFar 59 = .ok (.iload_n 3, 1) := by decide +kernel
theorem dq_Mo_findFar_60 : decode gc_Mo_findFar 60 = .ok (.aload_n 0, 1) := by decide +kernel
theorem dq_Mo_findFar_61 : decode gc_Mo_findFar 61 = .ok (.getfield 114, 3) := by decide +kernel
theorem dq_Mo_findFar_64 : decode gc_Mo_findFar 64 = .ok (.if_icmp .ge 133, 3) := by decide +kernel
theorem dq_Mo_findFar_67 : decode gc_Mo_findFar 67 = .ok (.aload_n 0, 1) := by decide +kernel
theorem dq_Mo_findFar_68 : decode gc_Mo_findFar 68 = .ok (.getfield 31, 3) := by decide +kernel
theorem dq_Mo_findFar_71 : decode gc_Mo_findFar 71 = .ok (.bipush 7, 2) := by decide +kernel
theorem dq_Mo_findFar_73 : decode gc_Mo_findFar 73 = .ok (.aload_n 0, 1) := by decide +kernel
theorem dq_Mo_findFar_74 : decode gc_Mo_findFar 74 = .ok (.getfield 7, 3) := by decide +kernel
theorem dq_Mo_findFar_77 : decode gc_Mo_findFar 77 = .ok (.iload_n 2, 1) := by decide +kernel
theorem dq_Mo_findFar_78 : decode gc_Mo_findFar 78 = .ok (.iaload, 1) := by decide +kernel
theorem dq_Mo_findFar_79 : decode gc_Mo_findFar 79 = .ok (.imul, 1) := by decide +kernel
theorem dq_Mo_findFar_80 : decode gc_Mo_findFar 80 = .ok (.iload_n 3, 1) := by decide +kernel
theorem dq_Mo_findFar_81 : decode gc_Mo_findFar 81 = .ok (.iadd, 1) := by decide +kernel
theorem dq_Mo_findFar_82 : decode gc_Mo_findFar 82 = .ok (.iaload, 1) := by decide +kernel
theorem dq_Mo_findFar_83 : decode gc_Mo_findFar 83 = .ok (.istore 4, 2) := by decide +kernel
theorem dq_Mo_findFar_85 : decode gc_Mo_findFar 85 = .ok (.aload_n 0, 1) := by decide +kernel
theorem dq_Mo_findFar_86 : decode gc_Mo_findFar 86 = .ok (.getfield 31, 3) := by decide +kernel
theorem dq_Mo_findFar_89 : decode gc_Mo_findFar 89 = .ok (.bipush 7, 2) := by decide +kernel
theorem dq_Mo_findFar_91 : decode gc_Mo_findFar 91 = .ok (.aload_n 0, 1) := by decide +kernel
theorem dq_Mo_findFar_92 : decode gc_Mo_findFar 92 = .ok (.getfield 13, 3) := by decide +kernel
theorem dq_Mo_findFar_95 : decode gc_Mo_findFar 95 = .ok (.iload_n 2, 1) := by decide +kernel
theorem dq_Mo_findFar_96 : decode gc_Mo_findFar 96 = .ok (.iaload, 1) := by decide +kernel
theorem dq_Mo_findFar_97 : decode gc_Mo_findFar 97 = .ok (.imul, 1) := by decide +kernel
theorem dq_Mo_findFar_98 : decode gc_Mo_findFar 98 = .ok (.iload_n 3, 1) := by decide +kernel
theorem dq_Mo_findFar_99 : decode gc_Mo_findFar 99 = .ok (.iadd, 1) := by decide +kernel
theorem dq_Mo_findFar_100 : decode gc_Mo_findFar 100 = .ok (.iaload, 1) := by decide +kernel
theorem dq_Mo_findFar_101 : decode gc_Mo_findFar 101 = .ok (.istore 5, 2) := by decide +kernel
theorem dq_Mo_findFar_103 : decode gc_Mo_findFar 103 = .ok (.aload_n 0, 1) := by decide +kernel
theorem dq_Mo_findFar_104 : decode gc_Mo_findFar 104 = .ok (.getfield 31, 3) := by decide +kernel
theorem dq_Mo_findFar_107 : decode gc_Mo_findFar 107 = .ok (.bipush 7, 2) := by decide +kernel
theorem dq_Mo_findFar_109 : decode gc_Mo_findFar 109 = .ok (.aload_n 0, 1) := by decide +kernel
theorem dq_Mo_findFar_110 : decode gc_Mo_findFar 110 = .ok (.getfield 7, 3) := by decide +kernel
theorem dq_Mo_findFar_113 : decode gc_Mo_findFar 113 = .ok (.iload_n 2, 1) := by decide +kernel
theorem dq_Mo_findFar_114 : decode gc_Mo_findFar 114 = .ok (.iaload, 1) := by decide +kernel
theorem dq_Mo_findFar_115 : decode gc_Mo_findFar 115 = .ok (.imul, 1) := by decide +kernel
theorem dq_Mo_findFar_116 : decode gc_Mo_findFar 116 = .ok (.iload_n 3, 1) := by decide +kernel
theorem dq_Mo_findFar_117 : decode gc_Mo_findFar 117 = .ok (.iadd, 1) := by decide +kernel
theorem dq_Mo_findFar_118 : decode gc_Mo_findFar 118 = .ok (.iload 5, 2) := by decide +kernel
theorem dq_Mo_findFar_120 : decode gc_Mo_findFar 120 = .ok (.aload_n 0, 1) := by decide +kernel
theorem dq_Mo_findFar_121 : decode gc_Mo_findFar 121 = .ok (.getfield 16, 3) := by decide +kernel
theorem dq_Mo_findFar_124 : decode gc_Mo_findFar 124 = .ok (.iload_n 2, 1) := by decide +kernel
theorem dq_Mo_findFar_125 : decode gc_Mo_findFar 125 = .ok (.iaload, 1) := by decide +kernel
theorem dq_Mo_findFar_126 : decode gc_Mo_findFar 126 = .ok (.iadd, 1) := by decide +kernel
theorem dq_Mo_findFar_127 : decode gc_Mo_findFar 127 = .ok (.iload 4, 2) := by decide +kernel
theorem dq_Mo_findFar_129 : decode gc_Mo_findFar 129 = .ok (.if_icmp .ge 15, 3) := by decide +kernel
theorem dq_Mo_findFar_132 : decode gc_Mo_findFar 132 = .ok (.iload 5, 2) := by decide +kernel
theorem dq_Mo_findFar_134 : decode gc_Mo_findFar 134 = .ok (.aload_n 0, 1) := by decide +kernel
theorem dq_Mo_findFar_135 : decode gc_Mo_findFar 135 = .ok (.getfield 16, 3) := by decide +kernel
theorem dq_Mo_findFar_138 : decode gc_Mo_findFar 138 = .ok (.iload_n 2, 1) := by decide +kernel
theorem dq_Mo_findFar_139 : decode gc_Mo_findFar 139 = .ok (.iaload, 1) := by decide +kernel
theorem dq_Mo_findFar_140 : decode gc_Mo_findFar 140 = .ok (.iadd, 1) := by decide +kernel
theorem dq_Mo_findFar_141 : decode gc_Mo_findFar 141 = .ok (.goto 5, 3) := by decide +kernel
theorem dq_Mo_findFar_144 : decode gc_Mo_findFar 144 = .ok (.iload 4, 2) := by decide +kernel
theorem dq_Mo_findFar_146 : decode gc_Mo_findFar 146 = .ok (.iastore, 1) := by decide +kernel
theorem dq_Mo_findFar_147 : decode gc_Mo_findFar 147 = .ok (.aload_n 0, 1) := by decide +kernel
theorem dq_Mo_findFar_148 : decode gc_Mo_findFar 148 = .ok (.getfield 31, 3) := by decide +kernel
theorem dq_Mo_findFar_151 : decode gc_Mo_findFar 151 = .ok (.bipush 7, 2) := by decide +kernel
theorem dq_Mo_findFar_153 : decode gc_Mo_findFar 153 = .ok (.aload_n 0, 1) := by decide +kernel
theorem dq_Mo_findFar_154 : decode gc_Mo_findFar 154 = .ok (.getfield 13, 3) := by decide +kernel
theorem dq_Mo_findFar_157 : decode gc_Mo_findFar 157 = .ok (.iload_n 2, 1) := by decide +kernel
theorem dq_Mo_findFar_158 : decode gc_Mo_findFar 158 = .ok (.iaload, 1) := by decide +kernel
theorem dq_Mo_findFar_159 : decode gc_Mo_findFar 159 = .ok (.imul, 1) := by decide +kernel
theorem dq_Mo_findFar_160 : decode gc_Mo_findFar 160 = .ok (.iload_n 3, 1) := by decide +kernel
theorem dq_Mo_findFar_161 : decode gc_Mo_findFar 161 = .ok (.iadd, 1) := by decide +kernel
theorem dq_Mo_findFar_162 : decode gc_Mo_findFar 162 = .ok (.iload 4, 2) := by decide +kernel
theorem dq_Mo_findFar_164 : decode gc_Mo_findFar 164 = .ok (.aload_n 0, 1) := by decide +kernel
theorem dq_Mo_findFar_165 : decode gc_Mo_findFar 165 = .ok (.getfield 16, 3) := by decide +kernel
theorem dq_Mo_findFar_168 : decode gc_Mo_findFar 168 = .ok (.iload_n 2, 1) := by decide +kernel
theorem dq_Mo_findFar_169 : decode gc_Mo_findFar 169 = .ok (.iaload, 1) := by decide +kernel
theorem dq_Mo_findFar_170 : decode gc_Mo_findFar 170 = .ok (.iadd, 1) := by decide +kernel
theorem dq_Mo_findFar_171 : decode gc_Mo_findFar 171 = .ok (.iload 5, 2) := by decide +kernel
theorem dq_Mo_findFar_173 : decode gc_Mo_findFar 173 = .ok (.if_icmp .ge 15, 3) := by decide +kernel
theorem dq_Mo_findFar_176 : decode gc_Mo_findFar 176 = .ok (.iload 4, 2) := by decide +kernel
theorem dq_Mo_findFar_178 : decode gc_Mo_findFar 178 = .ok (.aload_n 0, 1) := by decide +kernel
theorem dq_Mo_findFar_179 : decode gc_Mo_findFar 179 = .ok (.getfield 16, 3) := by decide +kernel
theorem dq_Mo_findFar_182 : decode gc_Mo_findFar 182 = .ok (.iload_n 2, 1) := by decide +kernel
theorem dq_Mo_findFar_183 : decode gc_Mo_findFar 183 = .ok (.iaload, 1) := by decide +kernel
theorem dq_Mo_findFar_184 : decode gc_Mo_findFar 184 = .ok (.iadd, 1) := by decide +kernel
theorem dq_Mo_findFar_185 : decode gc_Mo_findFar 185 = .ok (.goto 5, 3) := by decide +kernel
theorem dq_Mo_findFar_188 : decode gc_Mo_findFar 188 = .ok (.iload 5, 2) := by decide +kernel
theorem dq_Mo_findFar_190 : decode gc_Mo_findFar 190 = .ok (.iastore, 1) := by decide +kernel
theorem dq_Mo_findFar_191 : decode gc_Mo_findFar 191 = .ok (.iinc 3 1, 3) := by decide +kernel
theorem dq_Mo_findFar_194 : decode gc_Mo_findFar 194 = .ok (.goto (-135), 3) := by decide +kernel
theorem dq_Mo_findFar_197 : decode gc_Mo_findFar 197 = .ok (.iinc 2 1, 3) := by decide +kernel
theorem dq_Mo_findFar_200 : decode gc_Mo_findFar 200 = .ok (.goto (-151), 3) := by decide +kernel
theorem dq_Mo_findFar_203 : decode gc_Mo_findFar 203 = .ok (.iinc 1 1, 3) := by decide +kernel
theorem dq_Mo_findFar_206 : decode gc_Mo_findFar 206 = .ok (.goto (-167), 3) := by decide +kernel
theorem dq_Mo_findFar_209 : decode gc_Mo_findFar 209 = .ok (.return_, 1) := by decide +kernel
abbrev gm_Mo_findFar : gM := (gc_Mo_findFar, gR_7, 0, 0, 6)
theorem gfl_Mo_31 : gFl gR_7 31 7 11 := ⟨_, _, _, rfl, by decide, (gtab_at 745 (by decide +kernel) rfl), gin_7⟩
theorem gk_Mo_181 : Cond.constant gR_7 181 (Int32.ofInt 1000000) ∈ gtbl := (gtab_at 936 (by decide +kernel) rfl)
theorem gfl_Mo_7 : gFl gR_7 7 7 3 := ⟨_, _, _, rfl, by decide, (gtab_at 737 (by decide +kernel) rfl), gin_7⟩
theorem gfl_Mo_13 : gFl gR_7 13 7 4 := ⟨_, _, _, rfl, by decide, (gtab_at 738 (by decide +kernel) rfl), gin_7⟩
theorem gfl_Mo_16 : gFl gR_7 16 7 5 := ⟨_, _, _, rfl, by decide, (gtab_at 739 (by decide +kernel) rfl), gin_7⟩
def f_Mo_findFar_J30  (k2 : Int → gH → Option gO) (v1 : Int) (s2 : Int) (s1 : Int) (h : gH) : Option gO := gd (gix 49 s1) (gs (gup h 91 s1.toNat s2) (fun h3 => k2 (gadd v1 1) h3))
theorem w_Mo_findFar_J30 {o : gO} {X : gX} (hL : gLive (xZ X)) (hn : (zL (xZ X)).Nodup) (hF : gFin X none o)    {k2 : Int → gH → Option gO} {v1 : Int} {s2 : Int} {s1 : Int} {h : gH} (hk2 : ∀ (v1 : Int) (h : gH), gr (k2 v1 h) o gm_Mo_findFar X h 2 [(0, .inr (.inr 83)), (1, .inl v1)] []) : gr (f_Mo_findFar_J30  k2 v1 s2 s1 h) o gm_Mo_findFar X h 30 [(0, .inr (.inr 83)), (1, .inl v1)] [.inl s2, .inl s1, .inr (.inr 91)] := by
  unfold f_Mo_findFar_J30
  refine gr_iast (M := gm_Mo_findFar) dq_Mo_findFar_30 31 rfl gsh_91 (glj hL gsh_91 (by decide)) (fun h3 _ => ?_)
  refine gr_iinc (M := gm_Mo_findFar) (lv' := [(1, .inl (gadd v1 1)), (0, .inr (.inr 83))]) dq_Mo_findFar_31 1 rfl rfl (by decide) rfl 34 rfl ?_
  refine gr_goto (M := gm_Mo_findFar) dq_Mo_findFar_34 2 rfl ?_
  refine gr_sub (M := gm_Mo_findFar) (lv' := [(0, .inr (.inr 83)), (1, .inl (gadd v1 1))]) [1, 0] rfl ?_
  exact hk2 _ _

def f_Mo_findFar_L2  (k37 : gH → Option gO) : Nat → Int → gH → Option gO
  | 0, _, _ => none
  | n + 1, v1, h => if 49 ≤ v1 then (k37  h) else (gd (gnz 7) (gd (gnz 7) (if (gdiv v1 7) = (grem v1 7) then (f_Mo_findFar_J30  (f_Mo_findFar_L2 k37 n) v1 0 v1 h) else (f_Mo_findFar_J30  (f_Mo_findFar_L2 k37 n) v1 1000000 v1 h))))
theorem w_Mo_findFar_L2 {o : gO} {X : gX} (hL : gLive (xZ X)) (hn : (zL (xZ X)).Nodup) (hF : gFin X none o)    {k37 : gH → Option gO} (hk37 : ∀ (h : gH), gr (k37 h) o gm_Mo_findFar X h 37 [(0, .inr (.inr 83))] []) : ∀ (n : Nat) (v1 : Int) (h : gH), gr (f_Mo_findFar_L2  k37 n v1 h) o gm_Mo_findFar X h 2 [(0, .inr (.inr 83)), (1, .inl v1)] [] := by
  intro n
  induction n with
  | zero => intros; exact gr_none
  | succ n ih =>
    intro v1 h
    unfold f_Mo_findFar_L2
    refine gr_iload_n (M := gm_Mo_findFar) dq_Mo_findFar_2 rfl 1 rfl 3 rfl ?_
    refine gr_bipush (M := gm_Mo_findFar) (v := 49) dq_Mo_findFar_3 (by decide) ⟨by decide, by decide⟩ 5 rfl ?_
    refine gr_icmp_ge (M := gm_Mo_findFar) dq_Mo_findFar_5 37 8 rfl rfl (fun c1 => ?_) (fun c1 => ?_)
    · refine gr_sub (M := gm_Mo_findFar) (lv' := [(0, .inr (.inr 83))]) [0] rfl ?_
      exact hk37  _
    refine gr_aload_n (M := gm_Mo_findFar) dq_Mo_findFar_8 rfl 0 rfl 9 rfl ?_
    refine gr_getr (M := gm_Mo_findFar) dq_Mo_findFar_9 12 rfl gfl_Mo_31 gsh_83 rfl (gli hL gsh_83) 91 rfl ?_
    refine gr_iload_n (M := gm_Mo_findFar) dq_Mo_findFar_12 rfl 1 rfl 13 rfl ?_
    refine gr_iload_n (M := gm_Mo_findFar) dq_Mo_findFar_13 rfl 1 rfl 14 rfl ?_
    refine gr_bipush (M := gm_Mo_findFar) (v := 7) dq_Mo_findFar_14 (by decide) ⟨by decide, by decide⟩ 16 rfl ?_
    refine gr_idiv (M := gm_Mo_findFar) dq_Mo_findFar_16 17 rfl ?_
    refine gr_iload_n (M := gm_Mo_findFar) dq_Mo_findFar_17 rfl 1 rfl 18 rfl ?_
    refine gr_bipush (M := gm_Mo_findFar) (v := 7) dq_Mo_findFar_18 (by decide) ⟨by decide, by decide⟩ 20 rfl ?_
    refine gr_irem (M := gm_Mo_findFar) dq_Mo_findFar_20 21 rfl ?_
    refine gr_icmp_ne (M := gm_Mo_findFar) dq_Mo_findFar_21 28 24 rfl rfl (fun c2 => ?_) (fun c2 => ?_)
    · refine gr_ldc (M := gm_Mo_findFar) (v := 1000000) dq_Mo_findFar_28 gk_Mo_181 ⟨by decide, by decide⟩ 30 rfl ?_
      exact w_Mo_findFar_J30 hL hn hF   ih
    refine gr_iconst (M := gm_Mo_findFar) (v := 0) dq_Mo_findFar_24 rfl ⟨by decide, by decide⟩ 25 rfl ?_
    refine gr_goto (M := gm_Mo_findFar) dq_Mo_findFar_25 30 rfl ?_
    exact w_Mo_findFar_J30 hL hn hF   ih

def f_Mo_findFar_J190  (k59 : Int → gH → Option gO) (v1 : Int) (v2 : Int) (v3 : Int) (s2 : Int) (s1 : Int) (h : gH) : Option gO := gd (gix 49 s1) (gs (gup h 91 s1.toNat s2) (fun h11 => k59 (gadd v3 1) h11))
theorem w_Mo_findFar_J190 {o : gO} {X : gX} (hL : gLive (xZ X)) (hn : (zL (xZ X)).Nodup) (hF : gFin X none o)    {k59 : Int → gH → Option gO} {v1 : Int} {v2 : Int} {v3 : Int} {s2 : Int} {s1 : Int} {h : gH} (hk59 : ∀ (v3 : Int) (h : gH), gr (k59 v3 h) o gm_Mo_findFar X h 59 [(0, .inr (.inr 83)), (1, .inl v1), (2, .inl v2), (3, .inl v3)] []) : gr (f_Mo_findFar_J190  k59 v1 v2 v3 s2 s1 h) o gm_Mo_findFar X h 190 [(0, .inr (.inr 83)), (1, .inl v1), (2, .inl v2), (3, .inl v3)] [.inl s2, .inl s1, .inr (.inr 91)] := by
  unfold f_Mo_findFar_J190
  refine gr_iast (M := gm_Mo_findFar) dq_Mo_findFar_190 191 rfl gsh_91 (glj hL gsh_91 (by decide)) (fun h11 _ => ?_)
  refine gr_iinc (M := gm_Mo_findFar) (lv' := [(3, .inl (gadd v3 1)), (0, .inr (.inr 83)), (1, .inl v1), (2, .inl v2)]) dq_Mo_findFar_191 3 rfl rfl (by decide) rfl 194 rfl ?_
  refine gr_goto (M := gm_Mo_findFar) dq_Mo_findFar_194 59 rfl ?_
  refine gr_sub (M := gm_Mo_findFar) (lv' := [(0, .inr (.inr 83)), (1, .inl v1), (2, .inl v2), (3, .inl (gadd v3 1))]) [1, 2, 3, 0] rfl ?_
  exact hk59 _ _

def f_Mo_findFar_J146  (k59 : Int → gH → Option gO) (v1 : Int) (v2 : Int) (v3 : Int) (v4 : Int) (v5 : Int) (s2 : Int) (s1 : Int) (h : gH) : Option gO := gd (gix 49 s1) (gs (gup h 91 s1.toNat s2) (fun h9 => gd (gix 9 v2) (gd (gix 9 v2) (if v5 ≤ (gadd v4 (h9 86 v2.toNat)) then (f_Mo_findFar_J190  (k59) v1 v2 v3 v5 (gadd (gmul 7 (h9 85 v2.toNat)) v3) h9) else (gd (gix 9 v2) (f_Mo_findFar_J190  (k59) v1 v2 v3 (gadd v4 (h9 86 v2.toNat)) (gadd (gmul 7 (h9 85 v2.toNat)) v3) h9))))))
theorem w_Mo_findFar_J146 {o : gO} {X : gX} (hL : gLive (xZ X)) (hn : (zL (xZ X)).Nodup) (hF : gFin X none o)    {k59 : Int → gH → Option gO} {v1 : Int} {v2 : Int} {v3 : Int} {v4 : Int} {v5 : Int} {s2 : Int} {s1 : Int} {h : gH} (hk59 : ∀ (v3 : Int) (h : gH), gr (k59 v3 h) o gm_Mo_findFar X h 59 [(0, .inr (.inr 83)), (1, .inl v1), (2, .inl v2), (3, .inl v3)] []) : gr (f_Mo_findFar_J146  k59 v1 v2 v3 v4 v5 s2 s1 h) o gm_Mo_findFar X h 146 [(0, .inr (.inr 83)), (1, .inl v1), (2, .inl v2), (3, .inl v3), (4, .inl v4), (5, .inl v5)] [.inl s2, .inl s1, .inr (.inr 91)] := by
  unfold f_Mo_findFar_J146
  refine gr_iast (M := gm_Mo_findFar) dq_Mo_findFar_146 147 rfl gsh_91 (glj hL gsh_91 (by decide)) (fun h9 _ => ?_)
  refine gr_aload_n (M := gm_Mo_findFar) dq_Mo_findFar_147 rfl 0 rfl 148 rfl ?_
  refine gr_getr (M := gm_Mo_findFar) dq_Mo_findFar_148 151 rfl gfl_Mo_31 gsh_83 rfl (gli hL gsh_83) 91 rfl ?_
  refine gr_bipush (M := gm_Mo_findFar) (v := 7) dq_Mo_findFar_151 (by decide) ⟨by decide, by decide⟩ 153 rfl ?_
  refine gr_aload_n (M := gm_Mo_findFar) dq_Mo_findFar_153 rfl 0 rfl 154 rfl ?_
  refine gr_getr (M := gm_Mo_findFar) dq_Mo_findFar_154 157 rfl gfl_Mo_13 gsh_83 rfl (gli hL gsh_83) 85 rfl ?_
  refine gr_iload_n (M := gm_Mo_findFar) dq_Mo_findFar_157 rfl 2 rfl 158 rfl ?_
  refine gr_iald (M := gm_Mo_findFar) dq_Mo_findFar_158 159 rfl gsh_85 (glj hL gsh_85 (by decide)) ?_
  refine gr_imul (M := gm_Mo_findFar) dq_Mo_findFar_159 160 rfl ?_
  refine gr_iload_n (M := gm_Mo_findFar) dq_Mo_findFar_160 rfl 3 rfl 161 rfl ?_
  refine gr_iadd (M := gm_Mo_findFar) dq_Mo_findFar_161 162 rfl ?_
  refine gr_iload (M := gm_Mo_findFar) dq_Mo_findFar_162 4 rfl 164 rfl ?_
  refine gr_aload_n (M := gm_Mo_findFar) dq_Mo_findFar_164 rfl 0 rfl 165 rfl ?_
  refine gr_getr (M := gm_Mo_findFar) dq_Mo_findFar_165 168 rfl gfl_Mo_16 gsh_83 rfl (gli hL gsh_83) 86 rfl ?_
  refine gr_iload_n (M := gm_Mo_findFar) dq_Mo_findFar_168 rfl 2 rfl 169 rfl ?_
  refine gr_iald (M := gm_Mo_findFar) dq_Mo_findFar_169 170 rfl gsh_86 (glj hL gsh_86 (by decide)) ?_
  refine gr_iadd (M := gm_Mo_findFar) dq_Mo_findFar_170 171 rfl ?_
  refine gr_iload (M := gm_Mo_findFar) dq_Mo_findFar_171 5 rfl 173 rfl ?_
  refine gr_icmp_ge (M := gm_Mo_findFar) dq_Mo_findFar_173 188 176 rfl rfl (fun c10 => ?_) (fun c10 => ?_)
  · refine gr_iload (M := gm_Mo_findFar) dq_Mo_findFar_188 5 rfl 190 rfl ?_
    refine gr_sub (M := gm_Mo_findFar) (lv' := [(0, .inr (.inr 83)), (1, .inl v1), (2, .inl v2), (3, .inl v3)]) [0, 1, 2, 3] rfl ?_
    exact w_Mo_findFar_J190 hL hn hF   hk59
  refine gr_iload (M := gm_Mo_findFar) dq_Mo_findFar_176 4 rfl 178 rfl ?_
  refine gr_aload_n (M := gm_Mo_findFar) dq_Mo_findFar_178 rfl 0 rfl 179 rfl ?_
  refine gr_getr (M := gm_Mo_findFar) dq_Mo_findFar_179 182 rfl gfl_Mo_16 gsh_83 rfl (gli hL gsh_83) 86 rfl ?_
  refine gr_iload_n (M := gm_Mo_findFar) dq_Mo_findFar_182 rfl 2 rfl 183 rfl ?_
  refine gr_iald (M := gm_Mo_findFar) dq_Mo_findFar_183 184 rfl gsh_86 (glj hL gsh_86 (by decide)) ?_
  refine gr_iadd (M := gm_Mo_findFar) dq_Mo_findFar_184 185 rfl ?_
  refine gr_goto (M := gm_Mo_findFar) dq_Mo_findFar_185 190 rfl ?_
  refine gr_sub (M := gm_Mo_findFar) (lv' := [(0, .inr (.inr 83)), (1, .inl v1), (2, .inl v2), (3, .inl v3)]) [0, 1, 2, 3] rfl ?_
  exact w_Mo_findFar_J190 hL hn hF   hk59

def f_Mo_findFar_L59 (v1 : Int) (v2 : Int) (k197 : gH → Option gO) : Nat → Int → gH → Option gO
  | 0, _, _ => none
  | n + 1, v3, h => if (h 83 0) ≤ v3 then (k197  h) else (gd (gix 9 v2) (gd (gix 49 (gadd (gmul 7 (h 84 v2.toNat)) v3)) (gd (gix 9 v2) (gd (gix 49 (gadd (gmul 7 (h 85 v2.toNat)) v3)) (gd (gix 9 v2) (gd (gix 9 v2) (if (h 91 (gadd (gmul 7 (h 84 v2.toNat)) v3).toNat) ≤ (gadd (h 91 (gadd (gmul 7 (h 85 v2.toNat)) v3).toNat) (h 86 v2.toNat)) then (f_Mo_findFar_J146  (f_Mo_findFar_L59 v1 v2 k197 n) v1 v2 v3 (h 91 (gadd (gmul 7 (h 84 v2.toNat)) v3).toNat) (h 91 (gadd (gmul 7 (h 85 v2.toNat)) v3).toNat) (h 91 (gadd (gmul 7 (h 84 v2.toNat)) v3).toNat) (gadd (gmul 7 (h 84 v2.toNat)) v3) h) else (gd (gix 9 v2) (f_Mo_findFar_J146  (f_Mo_findFar_L59 v1 v2 k197 n) v1 v2 v3 (h 91 (gadd (gmul 7 (h 84 v2.toNat)) v3).toNat) (h 91 (gadd (gmul 7 (h 85 v2.toNat)) v3).toNat) (gadd (h 91 (gadd (gmul 7 (h 85 v2.toNat)) v3).toNat) (h 86 v2.toNat)) (gadd (gmul 7 (h 84 v2.toNat)) v3) h)))))))))
theorem w_Mo_findFar_L59 {o : gO} {X : gX} (hL : gLive (xZ X)) (hn : (zL (xZ X)).Nodup) (hF : gFin X none o) {v1 : Int} {v2 : Int}   {k197 : gH → Option gO} (hk197 : ∀ (h : gH), gr (k197 h) o gm_Mo_findFar X h 197 [(0, .inr (.inr 83)), (1, .inl v1), (2, .inl v2)] []) : ∀ (n : Nat) (v3 : Int) (h : gH), gr (f_Mo_findFar_L59 v1 v2 k197 n v3 h) o gm_Mo_findFar X h 59 [(0, .inr (.inr 83)), (1, .inl v1), (2, .inl v2), (3, .inl v3)] [] := by
  intro n
  induction n with
  | zero => intros; exact gr_none
  | succ n ih =>
    intro v3 h
    unfold f_Mo_findFar_L59
    refine gr_iload_n (M := gm_Mo_findFar) dq_Mo_findFar_59 rfl 3 rfl 60 rfl ?_
    refine gr_aload_n (M := gm_Mo_findFar) dq_Mo_findFar_60 rfl 0 rfl 61 rfl ?_
    refine gr_geti (M := gm_Mo_findFar) dq_Mo_findFar_61 64 rfl gfl_Mo_114 gsh_83 rfl (gli hL gsh_83) ?_
    refine gr_icmp_ge (M := gm_Mo_findFar) dq_Mo_findFar_64 197 67 rfl rfl (fun c7 => ?_) (fun c7 => ?_)
    · refine gr_sub (M := gm_Mo_findFar) (lv' := [(0, .inr (.inr 83)), (1, .inl v1), (2, .inl v2)]) [0, 1, 2] rfl ?_
      exact hk197  _
    refine gr_aload_n (M := gm_Mo_findFar) dq_Mo_findFar_67 rfl 0 rfl 68 rfl ?_
    refine gr_getr (M := gm_Mo_findFar) dq_Mo_findFar_68 71 rfl gfl_Mo_31 gsh_83 rfl (gli hL gsh_83) 91 rfl ?_
    refine gr_bipush (M := gm_Mo_findFar) (v := 7) dq_Mo_findFar_71 (by decide) ⟨by decide, by decide⟩ 73 rfl ?_
    refine gr_aload_n (M := gm_Mo_findFar) dq_Mo_findFar_73 rfl 0 rfl 74 rfl ?_
    refine gr_getr (M := gm_Mo_findFar) dq_Mo_findFar_74 77 rfl gfl_Mo_7 gsh_83 rfl (gli hL gsh_83) 84 rfl ?_
    refine gr_iload_n (M := gm_Mo_findFar) dq_Mo_findFar_77 rfl 2 rfl 78 rfl ?_
    refine gr_iald (M := gm_Mo_findFar) dq_Mo_findFar_78 79 rfl gsh_84 (glj hL gsh_84 (by decide)) ?_
    refine gr_imul (M := gm_Mo_findFar) dq_Mo_findFar_79 80 rfl ?_
    refine gr_iload_n (M := gm_Mo_findFar) dq_Mo_findFar_80 rfl 3 rfl 81 rfl ?_
    refine gr_iadd (M := gm_Mo_findFar) dq_Mo_findFar_81 82 rfl ?_
    refine gr_iald (M := gm_Mo_findFar) dq_Mo_findFar_82 83 rfl gsh_91 (glj hL gsh_91 (by decide)) ?_
    refine gr_istore (M := gm_Mo_findFar) (kk := 0) (lv' := [(4, .inl (h 91 (gadd (gmul 7 (h 84 v2.toNat)) v3).toNat)), (0, .inr (.inr 83)), (1, .inl v1), (2, .inl v2), (3, .inl v3)]) dq_Mo_findFar_83 (by decide) rfl 85 rfl ?_
    refine gr_aload_n (M := gm_Mo_findFar) dq_Mo_findFar_85 rfl 1 rfl 86 rfl ?_
    refine gr_getr (M := gm_Mo_findFar) dq_Mo_findFar_86 89 rfl gfl_Mo_31 gsh_83 rfl (gli hL gsh_83) 91 rfl ?_
    refine gr_bipush (M := gm_Mo_findFar) (v := 7) dq_Mo_findFar_89 (by decide) ⟨by decide, by decide⟩ 91 rfl ?_
    refine gr_aload_n (M := gm_Mo_findFar) dq_Mo_findFar_91 rfl 1 rfl 92 rfl ?_
    refine gr_getr (M := gm_Mo_findFar) dq_Mo_findFar_92 95 rfl gfl_Mo_13 gsh_83 rfl (gli hL gsh_83) 85 rfl ?_
    refine gr_iload_n (M := gm_Mo_findFar) dq_Mo_findFar_95 rfl 3 rfl 96 rfl ?_
    refine gr_iald (M := gm_Mo_findFar) dq_Mo_findFar_96 97 rfl gsh_85 (glj hL gsh_85 (by decide)) ?_
    refine gr_imul (M := gm_Mo_findFar) dq_Mo_findFar_97 98 rfl ?_
    refine gr_iload_n (M := gm_Mo_findFar) dq_Mo_findFar_98 rfl 4 rfl 99 rfl ?_
    refine gr_iadd (M := gm_Mo_findFar) dq_Mo_findFar_99 100 rfl ?_
    refine gr_iald (M := gm_Mo_findFar) dq_Mo_findFar_100 101 rfl gsh_91 (glj hL gsh_91 (by decide)) ?_
    refine gr_istore (M := gm_Mo_findFar) (kk := 0) (lv' := [(5, .inl (h 91 (gadd (gmul 7 (h 85 v2.toNat)) v3).toNat)), (4, .inl (h 91 (gadd (gmul 7 (h 84 v2.toNat)) v3).toNat)), (0, .inr (.inr 83)), (1, .inl v1), (2, .inl v2), (3, .inl v3)]) dq_Mo_findFar_101 (by decide) rfl 103 rfl ?_
    refine gr_aload_n (M := gm_Mo_findFar) dq_Mo_findFar_103 rfl 2 rfl 104 rfl ?_
    refine gr_getr (M := gm_Mo_findFar) dq_Mo_findFar_104 107 rfl gfl_Mo_31 gsh_83 rfl (gli hL gsh_83) 91 rfl ?_
    refine gr_bipush (M := gm_Mo_findFar) (v := 7) dq_Mo_findFar_107 (by decide) ⟨by decide, by decide⟩ 109 rfl ?_
    refine gr_aload_n (M := gm_Mo_findFar) dq_Mo_findFar_109 rfl 2 rfl 110 rfl ?_
    refine gr_getr (M := gm_Mo_findFar) dq_Mo_findFar_110 113 rfl gfl_Mo_7 gsh_83 rfl (gli hL gsh_83) 84 rfl ?_
    refine gr_iload_n (M := gm_Mo_findFar) dq_Mo_findFar_113 rfl 4 rfl 114 rfl ?_
    refine gr_iald (M := gm_Mo_findFar) dq_Mo_findFar_114 115 rfl gsh_84 (glj hL gsh_84 (by decide)) ?_
    refine gr_imul (M := gm_Mo_findFar) dq_Mo_findFar_115 116 rfl ?_
    refine gr_iload_n (M := gm_Mo_findFar) dq_Mo_findFar_116 rfl 5 rfl 117 rfl ?_
    refine gr_iadd (M := gm_Mo_findFar) dq_Mo_findFar_117 118 rfl ?_
    refine gr_iload (M := gm_Mo_findFar) dq_Mo_findFar_118 0 rfl 120 rfl ?_
    refine gr_aload_n (M := gm_Mo_findFar) dq_Mo_findFar_120 rfl 2 rfl 121 rfl ?_
    refine gr_getr (M := gm_Mo_findFar) dq_Mo_findFar_121 124 rfl gfl_Mo_16 gsh_83 rfl (gli hL gsh_83) 86 rfl ?_
    refine gr_iload_n (M := gm_Mo_findFar) dq_Mo_findFar_124 rfl 4 rfl 125 rfl ?_
    refine gr_iald (M := gm_Mo_findFar) dq_Mo_findFar_125 126 rfl gsh_86 (glj hL gsh_86 (by decide)) ?_
    refine gr_iadd (M := gm_Mo_findFar) dq_Mo_findFar_126 127 rfl ?_
    refine gr_iload (M := gm_Mo_findFar) dq_Mo_findFar_127 1 rfl 129 rfl ?_
    refine gr_icmp_ge (M := gm_Mo_findFar) dq_Mo_findFar_129 144 132 rfl rfl (fun c8 => ?_) (fun c8 => ?_)
    · refine gr_iload (M := gm_Mo_findFar) dq_Mo_findFar_144 1 rfl 146 rfl ?_
      refine gr_sub (M := gm_Mo_findFar) (lv' := [(0, .inr (.inr 83)), (1, .inl v1), (2, .inl v2), (3, .inl v3), (4, .inl (h 91 (gadd (gmul 7 (h 84 v2.toNat)) v3).toNat)), (5, .inl (h 91 (gadd (gmul 7 (h 85 v2.toNat)) v3).toNat))]) [2, 3, 4, 5, 1, 0] rfl ?_
      exact w_Mo_findFar_J146 hL hn hF   ih
    refine gr_iload (M := gm_Mo_findFar) dq_Mo_findFar_132 0 rfl 134 rfl ?_
    refine gr_aload_n (M := gm_Mo_findFar) dq_Mo_findFar_134 rfl 2 rfl 135 rfl ?_
    refine gr_getr (M := gm_Mo_findFar) dq_Mo_findFar_135 138 rfl gfl_Mo_16 gsh_83 rfl (gli hL gsh_83) 86 rfl ?_
    refine gr_iload_n (M := gm_Mo_findFar) dq_Mo_findFar_138 rfl 4 rfl 139 rfl ?_
    refine gr_iald (M := gm_Mo_findFar) dq_Mo_findFar_139 140 rfl gsh_86 (glj hL gsh_86 (by decide)) ?_
    refine gr_iadd (M := gm_Mo_findFar) dq_Mo_findFar_140 141 rfl ?_
    refine gr_goto (M := gm_Mo_findFar) dq_Mo_findFar_141 146 rfl ?_
    refine gr_sub (M := gm_Mo_findFar) (lv' := [(0, .inr (.inr 83)), (1, .inl v1), (2, .inl v2), (3, .inl v3), (4, .inl (h 91 (gadd (gmul 7 (h 84 v2.toNat)) v3).toNat)), (5, .inl (h 91 (gadd (gmul 7 (h 85 v2.toNat)) v3).toNat))]) [2, 3, 4, 5, 1, 0] rfl ?_
    exact w_Mo_findFar_J146 hL hn hF   ih

def f_Mo_findFar_L49 (v1 : Int) (k203 : gH → Option gO) : Nat → Int → gH → Option gO
  | 0, _, _ => none
  | n + 1, v2, h => if (h 83 2) ≤ v2 then (k203  h) else (f_Mo_findFar_L59 v1 v2 (fun  h12 => f_Mo_findFar_L49 v1 k203 n (gadd v2 1) h12) 50000 0 h)
theorem w_Mo_findFar_L49 {o : gO} {X : gX} (hL : gLive (xZ X)) (hn : (zL (xZ X)).Nodup) (hF : gFin X none o) {v1 : Int}   {k203 : gH → Option gO} (hk203 : ∀ (h : gH), gr (k203 h) o gm_Mo_findFar X h 203 [(0, .inr (.inr 83)), (1, .inl v1)] []) : ∀ (n : Nat) (v2 : Int) (h : gH), gr (f_Mo_findFar_L49 v1 k203 n v2 h) o gm_Mo_findFar X h 49 [(0, .inr (.inr 83)), (1, .inl v1), (2, .inl v2)] [] := by
  intro n
  induction n with
  | zero => intros; exact gr_none
  | succ n ih =>
    intro v2 h
    unfold f_Mo_findFar_L49
    refine gr_iload_n (M := gm_Mo_findFar) dq_Mo_findFar_49 rfl 2 rfl 50 rfl ?_
    refine gr_aload_n (M := gm_Mo_findFar) dq_Mo_findFar_50 rfl 0 rfl 51 rfl ?_
    refine gr_geti (M := gm_Mo_findFar) dq_Mo_findFar_51 54 rfl gfl_Mo_121 gsh_83 rfl (gli hL gsh_83) ?_
    refine gr_icmp_ge (M := gm_Mo_findFar) dq_Mo_findFar_54 203 57 rfl rfl (fun c6 => ?_) (fun c6 => ?_)
    · refine gr_sub (M := gm_Mo_findFar) (lv' := [(0, .inr (.inr 83)), (1, .inl v1)]) [0, 1] rfl ?_
      exact hk203  _
    refine gr_iconst (M := gm_Mo_findFar) (v := 0) dq_Mo_findFar_57 rfl ⟨by decide, by decide⟩ 58 rfl ?_
    refine gr_istore_n (M := gm_Mo_findFar) (lv' := [(3, .inl 0), (0, .inr (.inr 83)), (1, .inl v1), (2, .inl v2)]) dq_Mo_findFar_58 rfl (by decide) rfl 59 rfl ?_
    refine gr_sub (M := gm_Mo_findFar) (lv' := [(0, .inr (.inr 83)), (1, .inl v1), (2, .inl v2), (3, .inl 0)]) [1, 2, 3, 0] rfl ?_
    refine w_Mo_findFar_L59 hL hn hF   (fun h12 => ?_) 50000 _ _
    refine gr_iinc (M := gm_Mo_findFar) (lv' := [(2, .inl (gadd v2 1)), (0, .inr (.inr 83)), (1, .inl v1)]) dq_Mo_findFar_197 2 rfl rfl (by decide) rfl 200 rfl ?_
    refine gr_goto (M := gm_Mo_findFar) dq_Mo_findFar_200 49 rfl ?_
    refine gr_sub (M := gm_Mo_findFar) (lv' := [(0, .inr (.inr 83)), (1, .inl v1), (2, .inl (gadd v2 1))]) [1, 2, 0] rfl ?_
    exact ih _ _

def f_Mo_findFar_L39  (k209 : gH → Option gO) : Nat → Int → gH → Option gO
  | 0, _, _ => none
  | n + 1, v1, h => if (h 83 0) ≤ v1 then (k209  h) else (f_Mo_findFar_L49 v1 (fun  h13 => f_Mo_findFar_L39 k209 n (gadd v1 1) h13) 50000 0 h)
theorem w_Mo_findFar_L39 {o : gO} {X : gX} (hL : gLive (xZ X)) (hn : (zL (xZ X)).Nodup) (hF : gFin X none o)    {k209 : gH → Option gO} (hk209 : ∀ (h : gH), gr (k209 h) o gm_Mo_findFar X h 209 [] []) : ∀ (n : Nat) (v1 : Int) (h : gH), gr (f_Mo_findFar_L39  k209 n v1 h) o gm_Mo_findFar X h 39 [(0, .inr (.inr 83)), (1, .inl v1)] [] := by
  intro n
  induction n with
  | zero => intros; exact gr_none
  | succ n ih =>
    intro v1 h
    unfold f_Mo_findFar_L39
    refine gr_iload_n (M := gm_Mo_findFar) dq_Mo_findFar_39 rfl 1 rfl 40 rfl ?_
    refine gr_aload_n (M := gm_Mo_findFar) dq_Mo_findFar_40 rfl 0 rfl 41 rfl ?_
    refine gr_geti (M := gm_Mo_findFar) dq_Mo_findFar_41 44 rfl gfl_Mo_114 gsh_83 rfl (gli hL gsh_83) ?_
    refine gr_icmp_ge (M := gm_Mo_findFar) dq_Mo_findFar_44 209 47 rfl rfl (fun c5 => ?_) (fun c5 => ?_)
    · refine gr_sub (M := gm_Mo_findFar) (lv' := []) [] rfl ?_
      exact hk209  _
    refine gr_iconst (M := gm_Mo_findFar) (v := 0) dq_Mo_findFar_47 rfl ⟨by decide, by decide⟩ 48 rfl ?_
    refine gr_istore_n (M := gm_Mo_findFar) (lv' := [(2, .inl 0), (0, .inr (.inr 83)), (1, .inl v1)]) dq_Mo_findFar_48 rfl (by decide) rfl 49 rfl ?_
    refine gr_sub (M := gm_Mo_findFar) (lv' := [(0, .inr (.inr 83)), (1, .inl v1), (2, .inl 0)]) [1, 2, 0] rfl ?_
    refine w_Mo_findFar_L49 hL hn hF   (fun h13 => ?_) 50000 _ _
    refine gr_iinc (M := gm_Mo_findFar) (lv' := [(1, .inl (gadd v1 1)), (0, .inr (.inr 83))]) dq_Mo_findFar_203 1 rfl rfl (by decide) rfl 206 rfl ?_
    refine gr_goto (M := gm_Mo_findFar) dq_Mo_findFar_206 39 rfl ?_
    refine gr_sub (M := gm_Mo_findFar) (lv' := [(0, .inr (.inr 83)), (1, .inl (gadd v1 1))]) [1, 0] rfl ?_
    exact ih _ _

def f_Mo_findFar  (h : gH) : Option gO := f_Mo_findFar_L2  (fun  h4 => f_Mo_findFar_L39  (fun  h14 => some (h14, 0)) 50000 0 h4) 50000 0 h
theorem c_Mo_findFar {Z : gZ} (hL : gLive Z) (hn : (zL Z).Nodup)   {h : gH} {o : gO} (hg : gRg h) (ha : gRl [.inr (.inr 83)]) (hx : f_Mo_findFar  h = some o) : gC Z gy_Mo_findFar gc_Mo_findFar 6 none 0 0 [.inr (.inr 83)] h o := by
  unfold f_Mo_findFar at hx
  refine gC_of (lv := [(0, .inr (.inr 83))]) (own := gR_7) (by decide +kernel) rfl (Nat.le_of_ble_eq_true rfl) rfl rfl hn hg ha hx (fun X hZ hF => ?_)
  subst hZ
  show gr _ o gm_Mo_findFar X h 0 _ _
  refine gr_iconst (M := gm_Mo_findFar) (v := 0) dq_Mo_findFar_0 rfl ⟨by decide, by decide⟩ 1 rfl ?_
  refine gr_istore_n (M := gm_Mo_findFar) (lv' := [(1, .inl 0), (0, .inr (.inr 83))]) dq_Mo_findFar_1 rfl (by decide) rfl 2 rfl ?_
  refine gr_sub (M := gm_Mo_findFar) (lv' := [(0, .inr (.inr 83)), (1, .inl 0)]) [1, 0] rfl ?_
  refine w_Mo_findFar_L2 hL hn hF   (fun h4 => ?_) 50000 _ _
  refine gr_iconst (M := gm_Mo_findFar) (v := 0) dq_Mo_findFar_37 rfl ⟨by decide, by decide⟩ 38 rfl ?_
  refine gr_istore_n (M := gm_Mo_findFar) (lv' := [(1, .inl 0), (0, .inr (.inr 83))]) dq_Mo_findFar_38 rfl (by decide) rfl 39 rfl ?_
  refine gr_sub (M := gm_Mo_findFar) (lv' := [(0, .inr (.inr 83)), (1, .inl 0)]) [1, 0] rfl ?_
  refine w_Mo_findFar_L39 hL hn hF   (fun h14 => ?_) 50000 _ _
  exact gr_return (M := gm_Mo_findFar) dq_Mo_findFar_209 hF

-- Mo_takeRead
theorem dq_Mo_takeRead_0 : decode gc_Mo_takeRead 0 = .ok (.aload_n 0, 1) := by decide +kernel
theorem dq_Mo_takeRead_1 : decode gc_Mo_takeRead 1 = .ok (.aload_n 0, 1) := by decide +kernel
theorem dq_Mo_takeRead_2 : decode gc_Mo_takeRead 2 = .ok (.getfield 44, 3) := by decide +kernel
theorem dq_Mo_takeRead_5 : decode gc_Mo_takeRead 5 = .ok (.iconst 0, 1) := by decide +kernel
theorem dq_Mo_takeRead_6 : decode gc_Mo_takeRead 6 = .ok (.iaload, 1) := by decide +kernel
theorem dq_Mo_takeRead_7 : decode gc_Mo_takeRead 7 = .ok (.putfield 114, 3) := by decide +kernel
theorem dq_Mo_takeRead_10 : decode gc_Mo_takeRead 10 = .ok (.aload_n 0, 1) := by decide +kernel
theorem dq_Mo_takeRead_11 : decode gc_Mo_takeRead 11 = .ok (.aload_n 0, 1) := by decide +kernel
theorem dq_Mo_takeRead_12 : decode gc_Mo_takeRead 12 = .ok (.getfield 44, 3) := by decide +kernel
theorem dq_Mo_takeRead_15 : decode gc_Mo_takeRead 15 = .ok (.iconst 1, 1) := by decide +kernel
theorem dq_Mo_takeRead_16 : decode gc_Mo_takeRead 16 = .ok (.iaload, 1) := by decide +kernel
theorem dq_Mo_takeRead_17 : decode gc_Mo_takeRead 17 = .ok (.putfield 182, 3) := by decide +kernel
theorem dq_Mo_takeRead_20 : decode gc_Mo_takeRead 20 = .ok (.aload_n 0, 1) := by decide +kernel
theorem dq_Mo_takeRead_21 : decode gc_Mo_takeRead 21 = .ok (.aload_n 0, 1) := by decide +kernel
theorem dq_Mo_takeRead_22 : decode gc_Mo_takeRead 22 = .ok (.getfield 162, 3) := by decide +kernel
theorem dq_Mo_takeRead_25 : decode gc_Mo_takeRead 25 = .ok (.putfield 121, 3) := by decide +kernel
theorem dq_Mo_takeRead_28 : decode gc_Mo_takeRead 28 = .ok (.aload_n 0, 1) := by decide +kernel
theorem dq_Mo_takeRead_29 : decode gc_Mo_takeRead 29 = .ok (.aload_n 0, 1) := by decide +kernel
theorem dq_Mo_takeRead_30 : decode gc_Mo_takeRead 30 = .ok (.getfield 169, 3) := by decide +kernel
theorem dq_Mo_takeRead_33 : decode gc_Mo_takeRead 33 = .ok (.putfield 124, 3) := by decide +kernel
theorem dq_Mo_takeRead_36 : decode gc_Mo_takeRead 36 = .ok (.iconst 0, 1) := by decide +kernel
theorem dq_Mo_takeRead_37 : decode gc_Mo_takeRead 37 = .ok (.istore_n 1, 1) := by decide +kernel
theorem dq_Mo_takeRead_38 : decode gc_Mo_takeRead 38 = .ok (.iload_n 1, 1) := by decide +kernel
theorem dq_Mo_takeRead_39 : decode gc_Mo_takeRead 39 = .ok (.bipush 50, 2) := by decide +kernel
theorem dq_Mo_takeRead_41 : decode gc_Mo_takeRead 41 = .ok (.if_icmp .ge 16, 3) := by decide +kernel
theorem dq_Mo_takeRead_44 : decode gc_Mo_takeRead 44 = .ok (.aload_n 0, 1) := by decide +kernel
theorem dq_Mo_takeRead_45 : decode gc_Mo_takeRead 45 = .ok (.getfield 34, 3) := by decide +kernel
theorem dq_Mo_takeRead_48 : decode gc_Mo_takeRead 48 = .ok (.iload_n 1, 1) := by decide +kernel
theorem dq_Mo_takeRead_49 : decode gc_Mo_takeRead 49 = .ok (.iconst 0, 1) := by decide +kernel
theorem dq_Mo_takeRead_50 : decode gc_Mo_takeRead 50 = .ok (.iastore, 1) := by decide +kernel
theorem dq_Mo_takeRead_51 : decode gc_Mo_takeRead 51 = .ok (.iinc 1 1, 3) := by decide +kernel
theorem dq_Mo_takeRead_54 : decode gc_Mo_takeRead 54 = .ok (.goto (-16), 3) := by decide +kernel
theorem dq_Mo_takeRead_57 : decode gc_Mo_takeRead 57 = .ok (.iconst 0, 1) := by decide +kernel
theorem dq_Mo_takeRead_58 : decode gc_Mo_takeRead 58 = .ok (.istore_n 1, 1) := by decide +kernel
theorem dq_Mo_takeRead_59 : decode gc_Mo_takeRead 59 = .ok (.iload_n 1, 1) := by decide +kernel
theorem dq_Mo_takeRead_60 : decode gc_Mo_takeRead 60 = .ok (.aload_n 0, 1) := by decide +kernel
theorem dq_Mo_takeRead_61 : decode gc_Mo_takeRead 61 = .ok (.getfield 121, 3) := by decide +kernel
theorem dq_Mo_takeRead_64 : decode gc_Mo_takeRead 64 = .ok (.if_icmp .ge 59, 3) := by decide +kernel
theorem dq_Mo_takeRead_67 : decode gc_Mo_takeRead 67 = .ok (.aload_n 0, 1) := by decide +kernel
theorem dq_Mo_takeRead_68 : decode gc_Mo_takeRead 68 = .ok (.getfield 7, 3) := by decide +kernel
theorem dq_Mo_takeRead_71 : decode gc_Mo_takeRead 71 = .ok (.iload_n 1, 1) := by decide +kernel
theorem dq_Mo_takeRead_72 : decode gc_Mo_takeRead 72 = .ok (.aload_n 0, 1) := by decide +kernel
theorem dq_Mo_takeRead_73 : decode gc_Mo_takeRead 73 = .ok (.getfield 47, 3) := by decide +kernel
theorem dq_Mo_takeRead_76 : decode gc_Mo_takeRead 76 = .ok (.iload_n 1, 1) := by decide +kernel
theorem dq_Mo_takeRead_77 : decode gc_Mo_takeRead 77 = .ok (.iaload, 1) := by decide +kernel
theorem dq_Mo_takeRead_78 : decode gc_Mo_takeRead 78 = .ok (.iastore, 1) := by decide +kernel
theorem dq_Mo_takeRead_79 : decode gc_Mo_takeRead 79 = .ok (.aload_n 0, 1) := by decide +kernel
theorem dq_Mo_takeRead_80 : decode gc_Mo_takeRead 80 = .ok (.getfield 13, 3) := by decide +kernel
theorem dq_Mo_takeRead_83 : decode gc_Mo_takeRead 83 = .ok (.iload_n 1, 1) := by decide +kernel
theorem dq_Mo_takeRead_84 : decode gc_Mo_takeRead 84 = .ok (.aload_n 0, 1) := by decide +kernel
theorem dq_Mo_takeRead_85 : decode gc_Mo_takeRead 85 = .ok (.getfield 50, 3) := by decide +kernel
theorem dq_Mo_takeRead_88 : decode gc_Mo_takeRead 88 = .ok (.iload_n 1, 1) := by decide +kernel
theorem dq_Mo_takeRead_89 : decode gc_Mo_takeRead 89 = .ok (.iaload, 1) := by decide +kernel
theorem dq_Mo_takeRead_90 : decode gc_Mo_takeRead 90 = .ok (.iastore, 1) := by decide +kernel
theorem dq_Mo_takeRead_91 : decode gc_Mo_takeRead 91 = .ok (.aload_n 0, 1) := by decide +kernel
theorem dq_Mo_takeRead_92 : decode gc_Mo_takeRead 92 = .ok (.getfield 16, 3) := by decide +kernel
theorem dq_Mo_takeRead_95 : decode gc_Mo_takeRead 95 = .ok (.iload_n 1, 1) := by decide +kernel
theorem dq_Mo_takeRead_96 : decode gc_Mo_takeRead 96 = .ok (.aload_n 0, 1) := by decide +kernel
theorem dq_Mo_takeRead_97 : decode gc_Mo_takeRead 97 = .ok (.getfield 53, 3) := by decide +kernel
theorem dq_Mo_takeRead_100 : decode gc_Mo_takeRead 100 = .ok (.iload_n 1, 1) := by decide +kernel
theorem dq_Mo_takeRead_101 : decode gc_Mo_takeRead 101 = .ok (.iaload, 1) := by decide +kernel
theorem dq_Mo_takeRead_102 : decode gc_Mo_takeRead 102 = .ok (.iastore, 1) := by decide +kernel
theorem dq_Mo_takeRead_103 : decode gc_Mo_takeRead 103 = .ok (.aload_n 0, 1) := by decide +kernel
theorem dq_Mo_takeRead_104 : decode gc_Mo_takeRead 104 = .ok (.getfield 34, 3) := by decide +kernel
theorem dq_Mo_takeRead_107 : decode gc_Mo_takeRead 107 = .ok (.iconst 2, 1) := by decide +kernel
theorem dq_Mo_takeRead_108 : decode gc_Mo_takeRead 108 = .ok (.iload_n 1, 1) := by decide +kernel
theorem dq_Mo_takeRead_109 : decode gc_Mo_takeRead 109 = .ok (.iadd, 1) := by decide +kernel
theorem dq_Mo_takeRead_110 : decode gc_Mo_takeRead 110 = .ok (.aload_n 0, 1) := by decide +kernel
theorem dq_Mo_takeRead_111 : decode gc_Mo_takeRead 111 = .ok (.getfield 56, 3) := by decide +kernel
theorem dq_Mo_takeRead_114 : decode gc_Mo_takeRead 114 = .ok (.iload_n 1, 1) := by decide +kernel
theorem dq_Mo_takeRead_115 : decode gc_Mo_takeRead 115 = .ok (.iaload, 1) := by decide +kernel
theorem dq_Mo_takeRead_116 : decode gc_Mo_takeRead 116 = .ok (.iastore, 1) := by decide +kernel
theorem dq_Mo_takeRead_117 : decode gc_Mo_takeRead 117 = .ok (.iinc 1 1, 3) := by decide +kernel
theorem dq_Mo_takeRead_120 : decode gc_Mo_takeRead 120 = .ok (.goto (-61), 3) := by decide +kernel
theorem dq_Mo_takeRead_123 : decode gc_Mo_takeRead 123 = .ok (.iconst 0, 1) := by decide +kernel
theorem dq_Mo_takeRead_124 : decode gc_Mo_takeRead 124 = .ok (.istore_n 1, 1) := by decide +kernel
theorem dq_Mo_takeRead_125 : decode gc_Mo_takeRead 125 = .ok (.iload_n 1, 1) := by decide +kernel
theorem dq_Mo_takeRead_126 : decode gc_Mo_takeRead 126 = .ok (.aload_n 0, 1) := by decide +kernel
theorem dq_Mo_takeRead_127 : decode gc_Mo_takeRead 127 = .ok (.getfield 124, 3) := by decide +kernel
theorem dq_Mo_takeRead_130 : decode gc_Mo_takeRead 130 = .ok (.if_icmp .ge 97, 3) := by decide +kernel
theorem dq_Mo_takeRead_133 : decode gc_Mo_takeRead 133 = .ok (.aload_n 0, 1) := by decide +kernel
theorem dq_Mo_takeRead_134 : decode gc_Mo_takeRead 134 = .ok (.getfield 19, 3) := by decide +kernel
theorem dq_Mo_takeRead_137 : decode gc_Mo_takeRead 137 = .ok (.iload_n 1, 1) := by decide +kernel
theorem dq_Mo_takeRead_138 : decode gc_Mo_takeRead 138 = .ok (.aload_n 0, 1) := by decide +kernel
theorem dq_Mo_takeRead_139 : decode gc_Mo_takeRead 139 = .ok (.getfield 59, 3) := by decide +kernel
theorem dq_Mo_takeRead_142 : decode gc_Mo_takeRead 142 = .ok (.iload_n 1, 1) := by decide +kernel
theorem dq_Mo_takeRead_143 : decode gc_Mo_takeRead 143 = .ok (.iaload, 1) := by decide +kernel
theorem dq_Mo_takeRead_144 : decode gc_Mo_takeRead 144 = .ok (.iastore, 1) := by decide +kernel
theorem dq_Mo_takeRead_145 : decode gc_Mo_takeRead 145 = .ok (.aload_n 0, 1) := by decide +kernel
theorem dq_Mo_takeRead_146 : decode gc_Mo_takeRead 146 = .ok (.getfield 22, 3) := by decide +kernel
theorem dq_Mo_takeRead_149 : decode gc_Mo_takeRead 149 = .ok (.iload_n 1, 1) := by decide +kernel
theorem dq_Mo_takeRead_150 : decode gc_Mo_takeRead 150 = .ok (.aload_n 0, 1) := by decide +kernel
theorem dq_Mo_takeRead_151 : decode gc_Mo_takeRead 151 = .ok (.getfield 62, 3) := by decide +kernel
theorem dq_Mo_takeRead_154 : decode gc_Mo_takeRead 154 = .ok (.iload_n 1, 1) := by decide +kernel
theorem dq_Mo_takeRead_155 : decode gc_Mo_takeRead 155 = .ok (.iaload, 1) := by decide +kernel
theorem dq_Mo_takeRead_156 : decode gc_Mo_takeRead 156 = .ok (.iastore, 1) := by decide +kernel
theorem dq_Mo_takeRead_157 : decode gc_Mo_takeRead 157 = .ok (.aload_n 0, 1) := by decide +kernel
theorem dq_Mo_takeRead_158 : decode gc_Mo_takeRead 158 = .ok (.getfield 25, 3) := by decide +kernel
theorem dq_Mo_takeRead_161 : decode gc_Mo_takeRead 161 = .ok (.iload_n 1, 1) := by decide +kernel
theorem dq_Mo_takeRead_162 : decode gc_Mo_takeRead 162 = .ok (.aload_n 0, 1) := by decide +kernel
theorem dq_Mo_takeRead_163 : decode gc_Mo_takeRead 163 = .ok (.getfield 65, 3) := by decide +kernel
theorem dq_Mo_takeRead_166 : decode gc_Mo_takeRead 166 = .ok (.iload_n 1, 1) := by decide +kernel
theorem dq_Mo_takeRead_167 : decode gc_Mo_takeRead 167 = .ok (.iaload, 1) := by decide +kernel
theorem dq_Mo_takeRead_168 : decode gc_Mo_takeRead 168 = .ok (.iastore, 1) := by decide +kernel
theorem dq_Mo_takeRead_169 : decode gc_Mo_takeRead 169 = .ok (.aload_n 0, 1) := by decide +kernel
theorem dq_Mo_takeRead_170 : decode gc_Mo_takeRead 170 = .ok (.getfield 28, 3) := by decide +kernel
theorem dq_Mo_takeRead_173 : decode gc_Mo_takeRead 173 = .ok (.iload_n 1, 1) := by decide +kernel
theorem dq_Mo_takeRead_174 : decode gc_Mo_takeRead 174 = .ok (.aload_n 0, 1) := by decide +kernel
theorem dq_Mo_takeRead_175 : decode gc_Mo_takeRead 175 = .ok (.getfield 71, 3) := by decide +kernel
theorem dq_Mo_takeRead_178 : decode gc_Mo_takeRead 178 = .ok (.iload_n 1, 1) := by decide +kernel
theorem dq_Mo_takeRead_179 : decode gc_Mo_takeRead 179 = .ok (.iaload, 1) := by decide +kernel
theorem dq_Mo_takeRead_180 : decode gc_Mo_takeRead 180 = .ok (.iastore, 1) := by decide +kernel
theorem dq_Mo_takeRead_181 : decode gc_Mo_takeRead 181 = .ok (.aload_n 0, 1) := by decide +kernel
theorem dq_Mo_takeRead_182 : decode gc_Mo_takeRead 182 = .ok (.getfield 34, 3) := by decide +kernel
theorem dq_Mo_takeRead_185 : decode gc_Mo_takeRead 185 = .ok (.bipush 20, 2) := by decide +kernel
theorem dq_Mo_takeRead_187 : decode gc_Mo_takeRead 187 = .ok (.iload_n 1, 1) := by decide +kernel
theorem dq_Mo_takeRead_188 : decode gc_Mo_takeRead 188 = .ok (.iadd, 1) := by decide +kernel
theorem dq_Mo_takeRead_189 : decode gc_Mo_takeRead 189 = .ok (.aload_n 0, 1) := by decide +kernel
theorem dq_Mo_takeRead_190 : decode gc_Mo_takeRead 190 = .ok (.getfield 68, 3) := by decide +kernel
theorem dq_Mo_takeRead_193 : decode gc_Mo_takeRead 193 = .ok (.iload_n 1, 1) := by decide +kernel
theorem dq_Mo_takeRead_194 : decode gc_Mo_takeRead 194 = .ok (.iaload, 1) := by decide +kernel
theorem dq_Mo_takeRead_195 : decode gc_Mo_takeRead 195 = .ok (.iastore, 1) := by decide +kernel
theorem dq_Mo_takeRead_196 : decode gc_Mo_takeRead 196 = .ok (.aload_n 0, 1) := by decide +kernel
theorem dq_Mo_takeRead_197 : decode gc_Mo_takeRead 197 = .ok (.getfield 34, 3) := by decide +kernel
theorem dq_Mo_takeRead_200 : decode gc_Mo_takeRead 200 = .ok (.bipush 32, 2) := by decide +kernel
theorem dq_Mo_takeRead_202 : decode gc_Mo_takeRead 202 = .ok (.iload_n 1, 1) := by decide +kernel
theorem dq_Mo_takeRead_203 : decode gc_Mo_takeRead 203 = .ok (.iadd, 1) := by decide +kernel
theorem dq_Mo_takeRead_204 : decode gc_Mo_takeRead 204 = .ok (.aload_n 0, 1) := by decide +kernel
theorem dq_Mo_takeRead_205 : decode gc_Mo_takeRead 205 = .ok (.getfield 19, 3) := by decide +kernel
theorem dq_Mo_takeRead_208 : decode gc_Mo_takeRead 208 = .ok (.iload_n 1, 1) := by decide +kernel
theorem dq_Mo_takeRead_209 : decode gc_Mo_takeRead 209 = .ok (.iaload, 1) := by decide +kernel
theorem dq_Mo_takeRead_210 : decode gc_Mo_takeRead 210 = .ok (.iastore, 1) := by decide +kernel
theorem dq_Mo_takeRead_211 : decode gc_Mo_takeRead 211 = .ok (.aload_n 0, 1) := by decide +kernel
theorem dq_Mo_takeRead_212 : decode gc_Mo_takeRead 212 = .ok (.getfield 34, 3) := by decide +kernel
theorem dq_Mo_takeRead_215 : decode gc_Mo_takeRead 215 = .ok (.bipush 38, 2) := by decide +kernel
theorem dq_Mo_takeRead_217 : decode gc_Mo_takeRead 217 = .ok (.iload_n 1, 1) := by decide +kernel
theorem dq_Mo_takeRead_218 : decode gc_Mo_takeRead 218 = .ok (.iadd, 1) := by decide +kernel
theorem dq_Mo_takeRead_219 : decode gc_Mo_takeRead 219 = .ok (.iconst (-1), 1) := by decide +kernel
theorem dq_Mo_takeRead_220 : decode gc_Mo_takeRead 220 = .ok (.iastore, 1) := by decide +kernel
theorem dq_Mo_takeRead_221 : decode gc_Mo_takeRead 221 = .ok (.iinc 1 1, 3) := by decide +kernel
theorem dq_Mo_takeRead_224 : decode gc_Mo_takeRead 224 = .ok (.goto (-99), 3) := by decide +kernel
theorem dq_Mo_takeRead_227 : decode gc_Mo_takeRead 227 = .ok (.aload_n 0, 1) := by decide +kernel
theorem dq_Mo_takeRead_228 : decode gc_Mo_takeRead 228 = .ok (.invokevirtual 185, 3) := by decide +kernel
theorem dq_Mo_takeRead_231 : decode gc_Mo_takeRead 231 = .ok (.return_, 1) := by decide +kernel
abbrev gm_Mo_takeRead : gM := (gc_Mo_takeRead, gR_7, 1, 25, 2)
theorem gfp_Mo_114 : gFp gR_7 114 7 0 .int := ⟨_, _, _, gt_7, rfl, by decide, (gtab_at 734 (by decide +kernel) rfl), gin_7, gto_7, gnm_7, rfl, by decide +kernel⟩
theorem gfp_Mo_182 : gFp gR_7 182 7 1 .int := ⟨_, _, _, gt_7, rfl, by decide, (gtab_at 735 (by decide +kernel) rfl), gin_7, gto_7, gnm_7, rfl, by decide +kernel⟩
theorem gfp_Mo_121 : gFp gR_7 121 7 2 .int := ⟨_, _, _, gt_7, rfl, by decide, (gtab_at 736 (by decide +kernel) rfl), gin_7, gto_7, gnm_7, rfl, by decide +kernel⟩
theorem gfp_Mo_124 : gFp gR_7 124 7 6 .int := ⟨_, _, _, gt_7, rfl, by decide, (gtab_at 740 (by decide +kernel) rfl), gin_7, gto_7, gnm_7, rfl, by decide +kernel⟩
theorem gfl_Mo_34 : gFl gR_7 34 7 12 := ⟨_, _, _, rfl, by decide, (gtab_at 746 (by decide +kernel) rfl), gin_7⟩
theorem gfl_Mo_19 : gFl gR_7 19 7 7 := ⟨_, _, _, rfl, by decide, (gtab_at 741 (by decide +kernel) rfl), gin_7⟩
theorem gfl_Mo_22 : gFl gR_7 22 7 8 := ⟨_, _, _, rfl, by decide, (gtab_at 742 (by decide +kernel) rfl), gin_7⟩
theorem gfl_Mo_25 : gFl gR_7 25 7 9 := ⟨_, _, _, rfl, by decide, (gtab_at 743 (by decide +kernel) rfl), gin_7⟩
theorem gfl_Mo_28 : gFl gR_7 28 7 10 := ⟨_, _, _, rfl, by decide, (gtab_at 744 (by decide +kernel) rfl), gin_7⟩
set_option maxRecDepth 20000 in
theorem gcy_Mo_185 : gCy gR_7 185 gy_Mo_findFar gc_Mo_findFar 6 none 0 := ⟨(gtab_at 932 (by decide +kernel) rfl), (gtab_at 8 (by decide +kernel) rfl), (gtab_at 935 rfl rfl), by decide, by decide, by decide +kernel⟩
theorem gim_Mo_findFar : Cond.instanceMethod gy_Mo_findFar ∈ gtbl := (gtab_at 934 (by decide +kernel) rfl)
theorem gse_Mo_findFar : Cond.selects gy_Mo_findFar.cls gy_Mo_findFar gy_Mo_findFar ∈ gtbl := (by decide +kernel)
def f_Mo_takeRead_L38  (k57 : gH → Option gO) : Nat → Int → gH → Option gO
  | 0, _, _ => none
  | n + 1, v1, h => if 50 ≤ v1 then (k57  h) else (gd (gix 50 v1) (gs (gup h 92 v1.toNat 0) (fun h6 => f_Mo_takeRead_L38 k57 n (gadd v1 1) h6)))
theorem w_Mo_takeRead_L38 {o : gO} {X : gX} (hL : gLive (xZ X)) (hn : (zL (xZ X)).Nodup) (hF : gFin X none o)    {k57 : gH → Option gO} (hk57 : ∀ (h : gH), gr (k57 h) o gm_Mo_takeRead X h 57 [(0, .inr (.inr 83))] []) : ∀ (n : Nat) (v1 : Int) (h : gH), gr (f_Mo_takeRead_L38  k57 n v1 h) o gm_Mo_takeRead X h 38 [(0, .inr (.inr 83)), (1, .inl v1)] [] := by
  intro n
  induction n with
  | zero => intros; exact gr_none
  | succ n ih =>
    intro v1 h
    unfold f_Mo_takeRead_L38
    refine gr_iload_n (M := gm_Mo_takeRead) dq_Mo_takeRead_38 rfl 1 rfl 39 rfl ?_
    refine gr_bipush (M := gm_Mo_takeRead) (v := 50) dq_Mo_takeRead_39 (by decide) ⟨by decide, by decide⟩ 41 rfl ?_
    refine gr_icmp_ge (M := gm_Mo_takeRead) dq_Mo_takeRead_41 57 44 rfl rfl (fun c5 => ?_) (fun c5 => ?_)
    · refine gr_sub (M := gm_Mo_takeRead) (lv' := [(0, .inr (.inr 83))]) [0] rfl ?_
      exact hk57  _
    refine gr_aload_n (M := gm_Mo_takeRead) dq_Mo_takeRead_44 rfl 0 rfl 45 rfl ?_
    refine gr_getr (M := gm_Mo_takeRead) dq_Mo_takeRead_45 48 rfl gfl_Mo_34 gsh_83 rfl (gli hL gsh_83) 92 rfl ?_
    refine gr_iload_n (M := gm_Mo_takeRead) dq_Mo_takeRead_48 rfl 1 rfl 49 rfl ?_
    refine gr_iconst (M := gm_Mo_takeRead) (v := 0) dq_Mo_takeRead_49 rfl ⟨by decide, by decide⟩ 50 rfl ?_
    refine gr_iast (M := gm_Mo_takeRead) dq_Mo_takeRead_50 51 rfl gsh_92 (glj hL gsh_92 (by decide)) (fun h6 _ => ?_)
    refine gr_iinc (M := gm_Mo_takeRead) (lv' := [(1, .inl (gadd v1 1)), (0, .inr (.inr 83))]) dq_Mo_takeRead_51 1 rfl rfl (by decide) rfl 54 rfl ?_
    refine gr_goto (M := gm_Mo_takeRead) dq_Mo_takeRead_54 38 rfl ?_
    refine gr_sub (M := gm_Mo_takeRead) (lv' := [(0, .inr (.inr 83)), (1, .inl (gadd v1 1))]) [1, 0] rfl ?_
    exact ih _ _

def f_Mo_takeRead_L59  (k123 : gH → Option gO) : Nat → Int → gH → Option gO
  | 0, _, _ => none
  | n + 1, v1, h => if (h 83 2) ≤ v1 then (k123  h) else (gd (gix 9 v1) (gd (gix 9 v1) (gs (gup h 84 v1.toNat (h 95 v1.toNat)) (fun h9 => gd (gix 9 v1) (gd (gix 9 v1) (gs (gup h9 85 v1.toNat (h9 96 v1.toNat)) (fun h10 => gd (gix 9 v1) (gd (gix 9 v1) (gs (gup h10 86 v1.toNat (h10 97 v1.toNat)) (fun h11 => gd (gix 9 v1) (gd (gix 50 (gadd 2 v1)) (gs (gup h11 92 (gadd 2 v1).toNat (h11 98 v1.toNat)) (fun h12 => f_Mo_takeRead_L59 k123 n (gadd v1 1) h12)))))))))))))
theorem w_Mo_takeRead_L59 {o : gO} {X : gX} (hL : gLive (xZ X)) (hn : (zL (xZ X)).Nodup) (hF : gFin X none o)    {k123 : gH → Option gO} (hk123 : ∀ (h : gH), gr (k123 h) o gm_Mo_takeRead X h 123 [(0, .inr (.inr 83))] []) : ∀ (n : Nat) (v1 : Int) (h : gH), gr (f_Mo_takeRead_L59  k123 n v1 h) o gm_Mo_takeRead X h 59 [(0, .inr (.inr 83)), (1, .inl v1)] [] := by
  intro n
  induction n with
  | zero => intros; exact gr_none
  | succ n ih =>
    intro v1 h
    unfold f_Mo_takeRead_L59
    refine gr_iload_n (M := gm_Mo_takeRead) dq_Mo_takeRead_59 rfl 1 rfl 60 rfl ?_
    refine gr_aload_n (M := gm_Mo_takeRead) dq_Mo_takeRead_60 rfl 0 rfl 61 rfl ?_
    refine gr_geti (M := gm_Mo_takeRead) dq_Mo_takeRead_61 64 rfl gfl_Mo_121 gsh_83 rfl (gli hL gsh_83) ?_
    refine gr_icmp_ge (M := gm_Mo_takeRead) dq_Mo_takeRead_64 123 67 rfl rfl (fun c8 => ?_) (fun c8 => ?_)
    · refine gr_sub (M := gm_Mo_takeRead) (lv' := [(0, .inr (.inr 83))]) [0] rfl ?_
      exact hk123  _
    refine gr_aload_n (M := gm_Mo_takeRead) dq_Mo_takeRead_67 rfl 0 rfl 68 rfl ?_
    refine gr_getr (M := gm_Mo_takeRead) dq_Mo_takeRead_68 71 rfl gfl_Mo_7 gsh_83 rfl (gli hL gsh_83) 84 rfl ?_
    refine gr_iload_n (M := gm_Mo_takeRead) dq_Mo_takeRead_71 rfl 1 rfl 72 rfl ?_
    refine gr_aload_n (M := gm_Mo_takeRead) dq_Mo_takeRead_72 rfl 0 rfl 73 rfl ?_
    refine gr_getr (M := gm_Mo_takeRead) dq_Mo_takeRead_73 76 rfl gfl_Mo_47 gsh_83 rfl (gli hL gsh_83) 95 rfl ?_
    refine gr_iload_n (M := gm_Mo_takeRead) dq_Mo_takeRead_76 rfl 1 rfl 77 rfl ?_
    refine gr_iald (M := gm_Mo_takeRead) dq_Mo_takeRead_77 78 rfl gsh_95 (glj hL gsh_95 (by decide)) ?_
    refine gr_iast (M := gm_Mo_takeRead) dq_Mo_takeRead_78 79 rfl gsh_84 (glj hL gsh_84 (by decide)) (fun h9 _ => ?_)
    refine gr_aload_n (M := gm_Mo_takeRead) dq_Mo_takeRead_79 rfl 0 rfl 80 rfl ?_
    refine gr_getr (M := gm_Mo_takeRead) dq_Mo_takeRead_80 83 rfl gfl_Mo_13 gsh_83 rfl (gli hL gsh_83) 85 rfl ?_
    refine gr_iload_n (M := gm_Mo_takeRead) dq_Mo_takeRead_83 rfl 1 rfl 84 rfl ?_
    refine gr_aload_n (M := gm_Mo_takeRead) dq_Mo_takeRead_84 rfl 0 rfl 85 rfl ?_
    refine gr_getr (M := gm_Mo_takeRead) dq_Mo_takeRead_85 88 rfl gfl_Mo_50 gsh_83 rfl (gli hL gsh_83) 96 rfl ?_
    refine gr_iload_n (M := gm_Mo_takeRead) dq_Mo_takeRead_88 rfl 1 rfl 89 rfl ?_
    refine gr_iald (M := gm_Mo_takeRead) dq_Mo_takeRead_89 90 rfl gsh_96 (glj hL gsh_96 (by decide)) ?_
    refine gr_iast (M := gm_Mo_takeRead) dq_Mo_takeRead_90 91 rfl gsh_85 (glj hL gsh_85 (by decide)) (fun h10 _ => ?_)
    refine gr_aload_n (M := gm_Mo_takeRead) dq_Mo_takeRead_91 rfl 0 rfl 92 rfl ?_
    refine gr_getr (M := gm_Mo_takeRead) dq_Mo_takeRead_92 95 rfl gfl_Mo_16 gsh_83 rfl (gli hL gsh_83) 86 rfl ?_
    refine gr_iload_n (M := gm_Mo_takeRead) dq_Mo_takeRead_95 rfl 1 rfl 96 rfl ?_
    refine gr_aload_n (M := gm_Mo_takeRead) dq_Mo_takeRead_96 rfl 0 rfl 97 rfl ?_
    refine gr_getr (M := gm_Mo_takeRead) dq_Mo_takeRead_97 100 rfl gfl_Mo_53 gsh_83 rfl (gli hL gsh_83) 97 rfl ?_
    refine gr_iload_n (M := gm_Mo_takeRead) dq_Mo_takeRead_100 rfl 1 rfl 101 rfl ?_
    refine gr_iald (M := gm_Mo_takeRead) dq_Mo_takeRead_101 102 rfl gsh_97 (glj hL gsh_97 (by decide)) ?_
    refine gr_iast (M := gm_Mo_takeRead) dq_Mo_takeRead_102 103 rfl gsh_86 (glj hL gsh_86 (by decide)) (fun h11 _ => ?_)
    refine gr_aload_n (M := gm_Mo_takeRead) dq_Mo_takeRead_103 rfl 0 rfl 104 rfl ?_
    refine gr_getr (M := gm_Mo_takeRead) dq_Mo_takeRead_104 107 rfl gfl_Mo_34 gsh_83 rfl (gli hL gsh_83) 92 rfl ?_
    refine gr_iconst (M := gm_Mo_takeRead) (v := 2) dq_Mo_takeRead_107 rfl ⟨by decide, by decide⟩ 108 rfl ?_
    refine gr_iload_n (M := gm_Mo_takeRead) dq_Mo_takeRead_108 rfl 1 rfl 109 rfl ?_
    refine gr_iadd (M := gm_Mo_takeRead) dq_Mo_takeRead_109 110 rfl ?_
    refine gr_aload_n (M := gm_Mo_takeRead) dq_Mo_takeRead_110 rfl 0 rfl 111 rfl ?_
    refine gr_getr (M := gm_Mo_takeRead) dq_Mo_takeRead_111 114 rfl gfl_Mo_56 gsh_83 rfl (gli hL gsh_83) 98 rfl ?_
    refine gr_iload_n (M := gm_Mo_takeRead) dq_Mo_takeRead_114 rfl 1 rfl 115 rfl ?_
    refine gr_iald (M := gm_Mo_takeRead) dq_Mo_takeRead_115 116 rfl gsh_98 (glj hL gsh_98 (by decide)) ?_
    refine gr_iast (M := gm_Mo_takeRead) dq_Mo_takeRead_116 117 rfl gsh_92 (glj hL gsh_92 (by decide)) (fun h12 _ => ?_)
    refine gr_iinc (M := gm_Mo_takeRead) (lv' := [(1, .inl (gadd v1 1)), (0, .inr (.inr 83))]) dq_Mo_takeRead_117 1 rfl rfl (by decide) rfl 120 rfl ?_
    refine gr_goto (M := gm_Mo_takeRead) dq_Mo_takeRead_120 59 rfl ?_
    refine gr_sub (M := gm_Mo_takeRead) (lv' := [(0, .inr (.inr 83)), (1, .inl (gadd v1 1))]) [1, 0] rfl ?_
    exact ih _ _

def f_Mo_takeRead_L125  (k227 : gH → Option gO) : Nat → Int → gH → Option gO
  | 0, _, _ => none
  | n + 1, v1, h => if (h 83 6) ≤ v1 then (k227  h) else (gd (gix 6 v1) (gd (gix 6 v1) (gs (gup h 87 v1.toNat (h 99 v1.toNat)) (fun h15 => gd (gix 6 v1) (gd (gix 6 v1) (gs (gup h15 88 v1.toNat (h15 100 v1.toNat)) (fun h16 => gd (gix 6 v1) (gd (gix 6 v1) (gs (gup h16 89 v1.toNat (h16 101 v1.toNat)) (fun h17 => gd (gix 6 v1) (gd (gix 6 v1) (gs (gup h17 90 v1.toNat (h17 103 v1.toNat)) (fun h18 => gd (gix 6 v1) (gd (gix 50 (gadd 20 v1)) (gs (gup h18 92 (gadd 20 v1).toNat (h18 102 v1.toNat)) (fun h19 => gd (gix 6 v1) (gd (gix 50 (gadd 32 v1)) (gs (gup h19 92 (gadd 32 v1).toNat (h19 87 v1.toNat)) (fun h20 => gd (gix 50 (gadd 38 v1)) (gs (gup h20 92 (gadd 38 v1).toNat (-1)) (fun h21 => f_Mo_takeRead_L125 k227 n (gadd v1 1) h21)))))))))))))))))))))
theorem w_Mo_takeRead_L125 {o : gO} {X : gX} (hL : gLive (xZ X)) (hn : (zL (xZ X)).Nodup) (hF : gFin X none o)    {k227 : gH → Option gO} (hk227 : ∀ (h : gH), gr (k227 h) o gm_Mo_takeRead X h 227 [(0, .inr (.inr 83))] []) : ∀ (n : Nat) (v1 : Int) (h : gH), gr (f_Mo_takeRead_L125  k227 n v1 h) o gm_Mo_takeRead X h 125 [(0, .inr (.inr 83)), (1, .inl v1)] [] := by
  intro n
  induction n with
  | zero => intros; exact gr_none
  | succ n ih =>
    intro v1 h
    unfold f_Mo_takeRead_L125
    refine gr_iload_n (M := gm_Mo_takeRead) dq_Mo_takeRead_125 rfl 1 rfl 126 rfl ?_
    refine gr_aload_n (M := gm_Mo_takeRead) dq_Mo_takeRead_126 rfl 0 rfl 127 rfl ?_
    refine gr_geti (M := gm_Mo_takeRead) dq_Mo_takeRead_127 130 rfl gfl_Mo_124 gsh_83 rfl (gli hL gsh_83) ?_
    refine gr_icmp_ge (M := gm_Mo_takeRead) dq_Mo_takeRead_130 227 133 rfl rfl (fun c14 => ?_) (fun c14 => ?_)
    · refine gr_sub (M := gm_Mo_takeRead) (lv' := [(0, .inr (.inr 83))]) [0] rfl ?_
      exact hk227  _
    refine gr_aload_n (M := gm_Mo_takeRead) dq_Mo_takeRead_133 rfl 0 rfl 134 rfl ?_
    refine gr_getr (M := gm_Mo_takeRead) dq_Mo_takeRead_134 137 rfl gfl_Mo_19 gsh_83 rfl (gli hL gsh_83) 87 rfl ?_
    refine gr_iload_n (M := gm_Mo_takeRead) dq_Mo_takeRead_137 rfl 1 rfl 138 rfl ?_
    refine gr_aload_n (M := gm_Mo_takeRead) dq_Mo_takeRead_138 rfl 0 rfl 139 rfl ?_
    refine gr_getr (M := gm_Mo_takeRead) dq_Mo_takeRead_139 142 rfl gfl_Mo_59 gsh_83 rfl (gli hL gsh_83) 99 rfl ?_
    refine gr_iload_n (M := gm_Mo_takeRead) dq_Mo_takeRead_142 rfl 1 rfl 143 rfl ?_
    refine gr_iald (M := gm_Mo_takeRead) dq_Mo_takeRead_143 144 rfl gsh_99 (glj hL gsh_99 (by decide)) ?_
    refine gr_iast (M := gm_Mo_takeRead) dq_Mo_takeRead_144 145 rfl gsh_87 (glj hL gsh_87 (by decide)) (fun h15 _ => ?_)
    refine gr_aload_n (M := gm_Mo_takeRead) dq_Mo_takeRead_145 rfl 0 rfl 146 rfl ?_
    refine gr_getr (M := gm_Mo_takeRead) dq_Mo_takeRead_146 149 rfl gfl_Mo_22 gsh_83 rfl (gli hL gsh_83) 88 rfl ?_
    refine gr_iload_n (M := gm_Mo_takeRead) dq_Mo_takeRead_149 rfl 1 rfl 150 rfl ?_
    refine gr_aload_n (M := gm_Mo_takeRead) dq_Mo_takeRead_150 rfl 0 rfl 151 rfl ?_
    refine gr_getr (M := gm_Mo_takeRead) dq_Mo_takeRead_151 154 rfl gfl_Mo_62 gsh_83 rfl (gli hL gsh_83) 100 rfl ?_
    refine gr_iload_n (M := gm_Mo_takeRead) dq_Mo_takeRead_154 rfl 1 rfl 155 rfl ?_
    refine gr_iald (M := gm_Mo_takeRead) dq_Mo_takeRead_155 156 rfl gsh_100 (glj hL gsh_100 (by decide)) ?_
    refine gr_iast (M := gm_Mo_takeRead) dq_Mo_takeRead_156 157 rfl gsh_88 (glj hL gsh_88 (by decide)) (fun h16 _ => ?_)
    refine gr_aload_n (M := gm_Mo_takeRead) dq_Mo_takeRead_157 rfl 0 rfl 158 rfl ?_
    refine gr_getr (M := gm_Mo_takeRead) dq_Mo_takeRead_158 161 rfl gfl_Mo_25 gsh_83 rfl (gli hL gsh_83) 89 rfl ?_
    refine gr_iload_n (M := gm_Mo_takeRead) dq_Mo_takeRead_161 rfl 1 rfl 162 rfl ?_
    refine gr_aload_n (M := gm_Mo_takeRead) dq_Mo_takeRead_162 rfl 0 rfl 163 rfl ?_
    refine gr_getr (M := gm_Mo_takeRead) dq_Mo_takeRead_163 166 rfl gfl_Mo_65 gsh_83 rfl (gli hL gsh_83) 101 rfl ?_
    refine gr_iload_n (M := gm_Mo_takeRead) dq_Mo_takeRead_166 rfl 1 rfl 167 rfl ?_
    refine gr_iald (M := gm_Mo_takeRead) dq_Mo_takeRead_167 168 rfl gsh_101 (glj hL gsh_101 (by decide)) ?_
    refine gr_iast (M := gm_Mo_takeRead) dq_Mo_takeRead_168 169 rfl gsh_89 (glj hL gsh_89 (by decide)) (fun h17 _ => ?_)
    refine gr_aload_n (M := gm_Mo_takeRead) dq_Mo_takeRead_169 rfl 0 rfl 170 rfl ?_
    refine gr_getr (M := gm_Mo_takeRead) dq_Mo_takeRead_170 173 rfl gfl_Mo_28 gsh_83 rfl (gli hL gsh_83) 90 rfl ?_
    refine gr_iload_n (M := gm_Mo_takeRead) dq_Mo_takeRead_173 rfl 1 rfl 174 rfl ?_
    refine gr_aload_n (M := gm_Mo_takeRead) dq_Mo_takeRead_174 rfl 0 rfl 175 rfl ?_
    refine gr_getr (M := gm_Mo_takeRead) dq_Mo_takeRead_175 178 rfl gfl_Mo_71 gsh_83 rfl (gli hL gsh_83) 103 rfl ?_
    refine gr_iload_n (M := gm_Mo_takeRead) dq_Mo_takeRead_178 rfl 1 rfl 179 rfl ?_
    refine gr_iald (M := gm_Mo_takeRead) dq_Mo_takeRead_179 180 rfl gsh_103 (glj hL gsh_103 (by decide)) ?_
    refine gr_iast (M := gm_Mo_takeRead) dq_Mo_takeRead_180 181 rfl gsh_90 (glj hL gsh_90 (by decide)) (fun h18 _ => ?_)
    refine gr_aload_n (M := gm_Mo_takeRead) dq_Mo_takeRead_181 rfl 0 rfl 182 rfl ?_
    refine gr_getr (M := gm_Mo_takeRead) dq_Mo_takeRead_182 185 rfl gfl_Mo_34 gsh_83 rfl (gli hL gsh_83) 92 rfl ?_
    refine gr_bipush (M := gm_Mo_takeRead) (v := 20) dq_Mo_takeRead_185 (by decide) ⟨by decide, by decide⟩ 187 rfl ?_
    refine gr_iload_n (M := gm_Mo_takeRead) dq_Mo_takeRead_187 rfl 1 rfl 188 rfl ?_
    refine gr_iadd (M := gm_Mo_takeRead) dq_Mo_takeRead_188 189 rfl ?_
    refine gr_aload_n (M := gm_Mo_takeRead) dq_Mo_takeRead_189 rfl 0 rfl 190 rfl ?_
    refine gr_getr (M := gm_Mo_takeRead) dq_Mo_takeRead_190 193 rfl gfl_Mo_68 gsh_83 rfl (gli hL gsh_83) 102 rfl ?_
    refine gr_iload_n (M := gm_Mo_takeRead) dq_Mo_takeRead_193 rfl 1 rfl 194 rfl ?_
    refine gr_iald (M := gm_Mo_takeRead) dq_Mo_takeRead_194 195 rfl gsh_102 (glj hL gsh_102 (by decide)) ?_
    refine gr_iast (M := gm_Mo_takeRead) dq_Mo_takeRead_195 196 rfl gsh_92 (glj hL gsh_92 (by decide)) (fun h19 _ => ?_)
    refine gr_aload_n (M := gm_Mo_takeRead) dq_Mo_takeRead_196 rfl 0 rfl 197 rfl ?_
    refine gr_getr (M := gm_Mo_takeRead) dq_Mo_takeRead_197 200 rfl gfl_Mo_34 gsh_83 rfl (gli hL gsh_83) 92 rfl ?_
    refine gr_bipush (M := gm_Mo_takeRead) (v := 32) dq_Mo_takeRead_200 (by decide) ⟨by decide, by decide⟩ 202 rfl ?_
    refine gr_iload_n (M := gm_Mo_takeRead) dq_Mo_takeRead_202 rfl 1 rfl 203 rfl ?_
    refine gr_iadd (M := gm_Mo_takeRead) dq_Mo_takeRead_203 204 rfl ?_
    refine gr_aload_n (M := gm_Mo_takeRead) dq_Mo_takeRead_204 rfl 0 rfl 205 rfl ?_
    refine gr_getr (M := gm_Mo_takeRead) dq_Mo_takeRead_205 208 rfl gfl_Mo_19 gsh_83 rfl (gli hL gsh_83) 87 rfl ?_
    refine gr_iload_n (M := gm_Mo_takeRead) dq_Mo_takeRead_208 rfl 1 rfl 209 rfl ?_
    refine gr_iald (M := gm_Mo_takeRead) dq_Mo_takeRead_209 210 rfl gsh_87 (glj hL gsh_87 (by decide)) ?_
    refine gr_iast (M := gm_Mo_takeRead) dq_Mo_takeRead_210 211 rfl gsh_92 (glj hL gsh_92 (by decide)) (fun h20 _ => ?_)
    refine gr_aload_n (M := gm_Mo_takeRead) dq_Mo_takeRead_211 rfl 0 rfl 212 rfl ?_
    refine gr_getr (M := gm_Mo_takeRead) dq_Mo_takeRead_212 215 rfl gfl_Mo_34 gsh_83 rfl (gli hL gsh_83) 92 rfl ?_
    refine gr_bipush (M := gm_Mo_takeRead) (v := 38) dq_Mo_takeRead_215 (by decide) ⟨by decide, by decide⟩ 217 rfl ?_
    refine gr_iload_n (M := gm_Mo_takeRead) dq_Mo_takeRead_217 rfl 1 rfl 218 rfl ?_
    refine gr_iadd (M := gm_Mo_takeRead) dq_Mo_takeRead_218 219 rfl ?_
    refine gr_iconst (M := gm_Mo_takeRead) (v := (-1)) dq_Mo_takeRead_219 rfl ⟨by decide, by decide⟩ 220 rfl ?_
    refine gr_iast (M := gm_Mo_takeRead) dq_Mo_takeRead_220 221 rfl gsh_92 (glj hL gsh_92 (by decide)) (fun h21 _ => ?_)
    refine gr_iinc (M := gm_Mo_takeRead) (lv' := [(1, .inl (gadd v1 1)), (0, .inr (.inr 83))]) dq_Mo_takeRead_221 1 rfl rfl (by decide) rfl 224 rfl ?_
    refine gr_goto (M := gm_Mo_takeRead) dq_Mo_takeRead_224 125 rfl ?_
    refine gr_sub (M := gm_Mo_takeRead) (lv' := [(0, .inr (.inr 83)), (1, .inl (gadd v1 1))]) [1, 0] rfl ?_
    exact ih _ _

def f_Mo_takeRead  (h : gH) : Option gO := gd (gix 2 0) (gs (gup h 83 0 (h 94 0)) (fun h1 => gd (gix 2 1) (gs (gup h1 83 1 (h1 94 1)) (fun h2 => gs (gup h2 83 2 (h2 83 21)) (fun h3 => gs (gup h3 83 6 (h3 83 26)) (fun h4 => f_Mo_takeRead_L38  (fun  h7 => f_Mo_takeRead_L59  (fun  h13 => f_Mo_takeRead_L125  (fun  h22 => gb (f_Mo_findFar  h22) (fun h23 r24 => some (h23, 0))) 50000 0 h13) 50000 0 h7) 50000 0 h4))))))
theorem c_Mo_takeRead {Z : gZ} (hL : gLive Z) (hn : (zL Z).Nodup)   {h : gH} {o : gO} (hg : gRg h) (ha : gRl [.inr (.inr 83)]) (hx : f_Mo_takeRead  h = some o) : gC Z gy_Mo_takeRead gc_Mo_takeRead 2 none 1 25 [.inr (.inr 83)] h o := by
  unfold f_Mo_takeRead at hx
  refine gC_of (lv := [(0, .inr (.inr 83))]) (own := gR_7) (by decide +kernel) rfl (Nat.le_of_ble_eq_true rfl) rfl rfl hn hg ha hx (fun X hZ hF => ?_)
  subst hZ
  show gr _ o gm_Mo_takeRead X h 0 _ _
  refine gr_aload_n (M := gm_Mo_takeRead) dq_Mo_takeRead_0 rfl 0 rfl 1 rfl ?_
  refine gr_aload_n (M := gm_Mo_takeRead) dq_Mo_takeRead_1 rfl 0 rfl 2 rfl ?_
  refine gr_getr (M := gm_Mo_takeRead) dq_Mo_takeRead_2 5 rfl gfl_Mo_44 gsh_83 rfl (gli hL gsh_83) 94 rfl ?_
  refine gr_iconst (M := gm_Mo_takeRead) (v := 0) dq_Mo_takeRead_5 rfl ⟨by decide, by decide⟩ 6 rfl ?_
  refine gr_iald (M := gm_Mo_takeRead) dq_Mo_takeRead_6 7 rfl gsh_94 (glj hL gsh_94 (by decide)) ?_
  refine gr_puti (M := gm_Mo_takeRead) dq_Mo_takeRead_7 10 rfl gfp_Mo_114 gsh_83 rfl (gli hL gsh_83) (fun h1 _ => ?_)
  refine gr_aload_n (M := gm_Mo_takeRead) dq_Mo_takeRead_10 rfl 0 rfl 11 rfl ?_
  refine gr_aload_n (M := gm_Mo_takeRead) dq_Mo_takeRead_11 rfl 0 rfl 12 rfl ?_
  refine gr_getr (M := gm_Mo_takeRead) dq_Mo_takeRead_12 15 rfl gfl_Mo_44 gsh_83 rfl (gli hL gsh_83) 94 rfl ?_
  refine gr_iconst (M := gm_Mo_takeRead) (v := 1) dq_Mo_takeRead_15 rfl ⟨by decide, by decide⟩ 16 rfl ?_
  refine gr_iald (M := gm_Mo_takeRead) dq_Mo_takeRead_16 17 rfl gsh_94 (glj hL gsh_94 (by decide)) ?_
  refine gr_puti (M := gm_Mo_takeRead) dq_Mo_takeRead_17 20 rfl gfp_Mo_182 gsh_83 rfl (gli hL gsh_83) (fun h2 _ => ?_)
  refine gr_aload_n (M := gm_Mo_takeRead) dq_Mo_takeRead_20 rfl 0 rfl 21 rfl ?_
  refine gr_aload_n (M := gm_Mo_takeRead) dq_Mo_takeRead_21 rfl 0 rfl 22 rfl ?_
  refine gr_geti (M := gm_Mo_takeRead) dq_Mo_takeRead_22 25 rfl gfl_Mo_162 gsh_83 rfl (gli hL gsh_83) ?_
  refine gr_puti (M := gm_Mo_takeRead) dq_Mo_takeRead_25 28 rfl gfp_Mo_121 gsh_83 rfl (gli hL gsh_83) (fun h3 _ => ?_)
  refine gr_aload_n (M := gm_Mo_takeRead) dq_Mo_takeRead_28 rfl 0 rfl 29 rfl ?_
  refine gr_aload_n (M := gm_Mo_takeRead) dq_Mo_takeRead_29 rfl 0 rfl 30 rfl ?_
  refine gr_geti (M := gm_Mo_takeRead) dq_Mo_takeRead_30 33 rfl gfl_Mo_169 gsh_83 rfl (gli hL gsh_83) ?_
  refine gr_puti (M := gm_Mo_takeRead) dq_Mo_takeRead_33 36 rfl gfp_Mo_124 gsh_83 rfl (gli hL gsh_83) (fun h4 _ => ?_)
  refine gr_iconst (M := gm_Mo_takeRead) (v := 0) dq_Mo_takeRead_36 rfl ⟨by decide, by decide⟩ 37 rfl ?_
  refine gr_istore_n (M := gm_Mo_takeRead) (lv' := [(1, .inl 0), (0, .inr (.inr 83))]) dq_Mo_takeRead_37 rfl (by decide) rfl 38 rfl ?_
  refine gr_sub (M := gm_Mo_takeRead) (lv' := [(0, .inr (.inr 83)), (1, .inl 0)]) [1, 0] rfl ?_
  refine w_Mo_takeRead_L38 hL hn hF   (fun h7 => ?_) 50000 _ _
  refine gr_iconst (M := gm_Mo_takeRead) (v := 0) dq_Mo_takeRead_57 rfl ⟨by decide, by decide⟩ 58 rfl ?_
  refine gr_istore_n (M := gm_Mo_takeRead) (lv' := [(1, .inl 0), (0, .inr (.inr 83))]) dq_Mo_takeRead_58 rfl (by decide) rfl 59 rfl ?_
  refine gr_sub (M := gm_Mo_takeRead) (lv' := [(0, .inr (.inr 83)), (1, .inl 0)]) [1, 0] rfl ?_
  refine w_Mo_takeRead_L59 hL hn hF   (fun h13 => ?_) 50000 _ _
  refine gr_iconst (M := gm_Mo_takeRead) (v := 0) dq_Mo_takeRead_123 rfl ⟨by decide, by decide⟩ 124 rfl ?_
  refine gr_istore_n (M := gm_Mo_takeRead) (lv' := [(1, .inl 0), (0, .inr (.inr 83))]) dq_Mo_takeRead_124 rfl (by decide) rfl 125 rfl ?_
  refine gr_sub (M := gm_Mo_takeRead) (lv' := [(0, .inr (.inr 83)), (1, .inl 0)]) [1, 0] rfl ?_
  refine w_Mo_takeRead_L125 hL hn hF   (fun h22 => ?_) 50000 _ _
  refine gr_aload_n (M := gm_Mo_takeRead) dq_Mo_takeRead_227 rfl 0 rfl 228 rfl ?_
  refine gr_callVv (M := gm_Mo_takeRead) (as := []) dq_Mo_takeRead_228 231 rfl rfl gcy_Mo_185 gim_Mo_findFar gse_Mo_findFar ⟨by decide, by decide⟩ (Nat.le_of_ble_eq_true rfl) gsh_83 rfl (gli hL gsh_83) (fun o1 hg ha hx => c_Mo_findFar hL hn  hg ha hx) (fun h23 r24 _ => ?_)
  exact gr_return (M := gm_Mo_takeRead) dq_Mo_takeRead_231 hF

