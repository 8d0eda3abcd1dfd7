-- Reader_add
theorem dq_Reader_add_0 : decode gc_Reader_add 0 = .ok (.aload_n 0, 1) := by decide +kernel
theorem dq_Reader_add_1 : decode gc_Reader_add 1 = .ok (.getfield 19, 3) := by decide +kernel
theorem dq_Reader_add_4 : decode gc_Reader_add 4 = .ok (.sipush 250, 3) := by decide +kernel
theorem dq_Reader_add_7 : decode gc_Reader_add 7 = .ok (.if_icmp .lt 5, 3) := by decide +kernel
theorem dq_Reader_add_10 : decode gc_Reader_add 10 = .ok (.iconst 0, 1) := by decide +kernel
theorem dq_Reader_add_11 : decode gc_Reader_add 11 = .ok (.ireturn, 1) := by decide +kernel
theorem dq_Reader_add_12 : decode gc_Reader_add 12 = .ok (.aload_n 0, 1) := by decide +kernel
theorem dq_Reader_add_13 : decode gc_Reader_add 13 = .ok (.getfield 15, 3) := by decide +kernel
theorem dq_Reader_add_16 : decode gc_Reader_add 16 = .ok (.aload_n 0, 1) := by decide +kernel
theorem dq_Reader_add_17 : decode gc_Reader_add 17 = .ok (.getfield 19, 3) := by decide +kernel
theorem dq_Reader_add_20 : decode gc_Reader_add 20 = .ok (.iload_n 1, 1) := by decide +kernel
theorem dq_Reader_add_21 : decode gc_Reader_add 21 = .ok (.iastore, 1) := by decide +kernel
theorem dq_Reader_add_22 : decode gc_Reader_add 22 = .ok (.aload_n 0, 1) := by decide +kernel
theorem dq_Reader_add_23 : decode gc_Reader_add 23 = .ok (.dup, 1) := by decide +kernel
theorem dq_Reader_add_24 : decode gc_Reader_add 24 = .ok (.getfield 19, 3) := by decide +kernel
theorem dq_Reader_add_27 : decode gc_Reader_add 27 = .ok (.iconst 1, 1) := by decide +kernel
theorem dq_Reader_add_28 : decode gc_Reader_add 28 = .ok (.iadd, 1) := by decide +kernel
theorem dq_Reader_add_29 : decode gc_Reader_add 29 = .ok (.putfield 19, 3) := by decide +kernel
theorem dq_Reader_add_32 : decode gc_Reader_add 32 = .ok (.iconst 1, 1) := by decide +kernel
theorem dq_Reader_add_33 : decode gc_Reader_add 33 = .ok (.ireturn, 1) := by decide +kernel
abbrev gm_Reader_add : gM := (gc_Reader_add, gR_2, 0, 0, 2)
theorem gfl_Reader_19 : gFl gR_2 19 2 0 := ⟨_, _, _, rfl, by decide, (gtab_at 121 (by decide +kernel) rfl), gin_2⟩
theorem gfl_Reader_15 : gFl gR_2 15 2 2 := ⟨_, _, _, rfl, by decide, (gtab_at 125 (by decide +kernel) rfl), gin_2⟩
theorem gfp_Reader_19 : gFp gR_2 19 2 0 .int := ⟨_, _, _, gt_2, rfl, by decide, (gtab_at 121 (by decide +kernel) rfl), gin_2, gto_2, gnm_2, rfl, by decide +kernel⟩
def f_Reader_add (a1 : Int) (h : gH) : Option gO := if (h 25 0) < 250 then (gd (gix 250 (h 25 0)) (gs (gup h 26 (h 25 0).toNat a1) (fun h2 => gs (gup h2 25 0 (gadd (h2 25 0) 1)) (fun h3 => gd (gz 1) (some (h3, 1)))))) else (gd (gz 0) (some (h, 0)))
theorem c_Reader_add {Z : gZ} (hL : gLive Z) (hn : (zL Z).Nodup) {a1 : Int}  {h : gH} {o : gO} (hg : gRg h) (ha : gRl [.inr (.inr 25), .inl a1]) (hx : f_Reader_add a1 h = some o) : gC Z gy_Reader_add gc_Reader_add 2 (some .boolean) 0 0 [.inr (.inr 25), .inl a1] h o := by
  unfold f_Reader_add at hx
  refine gC_of (lv := [(0, .inr (.inr 25)), (1, .inl a1)]) (own := gR_2) (by decide +kernel) rfl (Nat.le_of_ble_eq_true rfl) rfl rfl hn hg ha hx (fun X hZ hF => ?_)
  subst hZ
  show gr _ o gm_Reader_add X h 0 _ _
  refine gr_aload_n (M := gm_Reader_add) dq_Reader_add_0 rfl 0 rfl 1 rfl ?_
  refine gr_geti (M := gm_Reader_add) dq_Reader_add_1 4 rfl gfl_Reader_19 gsh_25 rfl (gli hL gsh_25) ?_
  refine gr_sipush (M := gm_Reader_add) (v := 250) dq_Reader_add_4 (by decide) ⟨by decide, by decide⟩ 7 rfl ?_
  refine gr_icmp_lt (M := gm_Reader_add) dq_Reader_add_7 12 10 rfl rfl (fun c1 => ?_) (fun c1 => ?_)
  · refine gr_aload_n (M := gm_Reader_add) dq_Reader_add_12 rfl 0 rfl 13 rfl ?_
    refine gr_getr (M := gm_Reader_add) dq_Reader_add_13 16 rfl gfl_Reader_15 gsh_25 rfl (gli hL gsh_25) 26 rfl ?_
    refine gr_aload_n (M := gm_Reader_add) dq_Reader_add_16 rfl 0 rfl 17 rfl ?_
    refine gr_geti (M := gm_Reader_add) dq_Reader_add_17 20 rfl gfl_Reader_19 gsh_25 rfl (gli hL gsh_25) ?_
    refine gr_iload_n (M := gm_Reader_add) dq_Reader_add_20 rfl 1 rfl 21 rfl ?_
    refine gr_iast (M := gm_Reader_add) dq_Reader_add_21 22 rfl gsh_26 (glj hL gsh_26 (by decide)) (fun h2 _ => ?_)
    refine gr_aload_n (M := gm_Reader_add) dq_Reader_add_22 rfl 0 rfl 23 rfl ?_
    refine gr_dup (M := gm_Reader_add) dq_Reader_add_23 (fun _ q => by cases q) 24 rfl ?_
    refine gr_geti (M := gm_Reader_add) dq_Reader_add_24 27 rfl gfl_Reader_19 gsh_25 rfl (gli hL gsh_25) ?_
    refine gr_iconst (M := gm_Reader_add) (v := 1) dq_Reader_add_27 rfl ⟨by decide, by decide⟩ 28 rfl ?_
    refine gr_iadd (M := gm_Reader_add) dq_Reader_add_28 29 rfl ?_
    refine gr_puti (M := gm_Reader_add) dq_Reader_add_29 32 rfl gfp_Reader_19 gsh_25 rfl (gli hL gsh_25) (fun h3 _ => ?_)
    refine gr_iconst (M := gm_Reader_add) (v := 1) dq_Reader_add_32 rfl ⟨by decide, by decide⟩ 33 rfl ?_
    exact gr_zreturn (M := gm_Reader_add) dq_Reader_add_33 hF
  refine gr_iconst (M := gm_Reader_add) (v := 0) dq_Reader_add_10 rfl ⟨by decide, by decide⟩ 11 rfl ?_
  exact gr_zreturn (M := gm_Reader_add) dq_Reader_add_11 hF

-- Reader_skipBlanks
theorem dq_Reader_skipBlanks_0 : decode gc_Reader_skipBlanks 0 = .ok (.aload_n 0, 1) := by decide +kernel
theorem dq_Reader_skipBlanks_1 : decode gc_Reader_skipBlanks 1 = .ok (.getfield 27, 3) := by decide +kernel
theorem dq_Reader_skipBlanks_4 : decode gc_Reader_skipBlanks 4 = .ok (.aload_n 0, 1) := by decide +kernel
theorem dq_Reader_skipBlanks_5 : decode gc_Reader_skipBlanks 5 = .ok (.getfield 19, 3) := by decide +kernel
theorem dq_Reader_skipBlanks_8 : decode gc_Reader_skipBlanks 8 = .ok (.if_icmp .ge 30, 3) := by decide +kernel
theorem dq_Reader_skipBlanks_11 : decode gc_Reader_skipBlanks 11 = .ok (.aload_n 0, 1) := by decide +kernel
theorem dq_Reader_skipBlanks_12 : decode gc_Reader_skipBlanks 12 = .ok (.getfield 15, 3) := by decide +kernel
theorem dq_Reader_skipBlanks_15 : decode gc_Reader_skipBlanks 15 = .ok (.aload_n 0, 1) := by decide +kernel
theorem dq_Reader_skipBlanks_16 : decode gc_Reader_skipBlanks 16 = .ok (.getfield 27, 3) := by decide +kernel
theorem dq_Reader_skipBlanks_19 : decode gc_Reader_skipBlanks 19 = .ok (.iaload, 1) := by decide +kernel
theorem dq_Reader_skipBlanks_20 : decode gc_Reader_skipBlanks 20 = .ok (.bipush 32, 2) := by decide +kernel
theorem dq_Reader_skipBlanks_22 : decode gc_Reader_skipBlanks 22 = .ok (.if_icmp .ne 16, 3) := by decide +kernel
theorem dq_Reader_skipBlanks_25 : decode gc_Reader_skipBlanks 25 = .ok (.aload_n 0, 1) := by decide +kernel
theorem dq_Reader_skipBlanks_26 : decode gc_Reader_skipBlanks 26 = .ok (.dup, 1) := by decide +kernel
theorem dq_Reader_skipBlanks_27 : decode gc_Reader_skipBlanks 27 = .ok (.getfield 27, 3) := by decide +kernel
theorem dq_Reader_skipBlanks_30 : decode gc_Reader_skipBlanks 30 = .ok (.iconst 1, 1) := by decide +kernel
theorem dq_Reader_skipBlanks_31 : decode gc_Reader_skipBlanks 31 = .ok (.iadd, 1) := by decide +kernel
theorem dq_Reader_skipBlanks_32 : decode gc_Reader_skipBlanks 32 = .ok (.putfield 27, 3) := by decide +kernel
theorem dq_Reader_skipBlanks_35 : decode gc_Reader_skipBlanks 35 = .ok (.goto (-35), 3) := by decide +kernel
theorem dq_Reader_skipBlanks_38 : decode gc_Reader_skipBlanks 38 = .ok (.return_, 1) := by decide +kernel
abbrev gm_Reader_skipBlanks : gM := (gc_Reader_skipBlanks, gR_2, 0, 0, 1)
theorem gfl_Reader_27 : gFl gR_2 27 2 3 := ⟨_, _, _, rfl, by decide, (gtab_at 126 (by decide +kernel) rfl), gin_2⟩
theorem gfp_Reader_27 : gFp gR_2 27 2 3 .int := ⟨_, _, _, gt_2, rfl, by decide, (gtab_at 126 (by decide +kernel) rfl), gin_2, gto_2, gnm_2, rfl, by decide +kernel⟩
def f_Reader_skipBlanks_L0  (k38 : gH → Option gO) : Nat → gH → Option gO
  | 0, _ => none
  | n + 1, h => if (h 25 0) ≤ (h 25 3) then (k38  h) else (gd (gix 250 (h 25 3)) (if (h 26 (h 25 3).toNat) = 32 then (gs (gup h 25 3 (gadd (h 25 3) 1)) (fun h3 => f_Reader_skipBlanks_L0 k38 n  h3)) else (k38  h)))
theorem w_Reader_skipBlanks_L0 {o : gO} {X : gX} (hL : gLive (xZ X)) (hn : (zL (xZ X)).Nodup) (hF : gFin X none o)    {k38 : gH → Option gO} (hk38 : ∀ (h : gH), gr (k38 h) o gm_Reader_skipBlanks X h 38 [] []) : ∀ (n : Nat) (h : gH), gr (f_Reader_skipBlanks_L0  k38 n  h) o gm_Reader_skipBlanks X h 0 [(0, .inr (.inr 25))] [] := by
  intro n
  induction n with
  | zero => intros; exact gr_none
  | succ n ih =>
    intro  h
    unfold f_Reader_skipBlanks_L0
    refine gr_aload_n (M := gm_Reader_skipBlanks) dq_Reader_skipBlanks_0 rfl 0 rfl 1 rfl ?_
    refine gr_geti (M := gm_Reader_skipBlanks) dq_Reader_skipBlanks_1 4 rfl gfl_Reader_27 gsh_25 rfl (gli hL gsh_25) ?_
    refine gr_aload_n (M := gm_Reader_skipBlanks) dq_Reader_skipBlanks_4 rfl 0 rfl 5 rfl ?_
    refine gr_geti (M := gm_Reader_skipBlanks) dq_Reader_skipBlanks_5 8 rfl gfl_Reader_19 gsh_25 rfl (gli hL gsh_25) ?_
    refine gr_icmp_ge (M := gm_Reader_skipBlanks) dq_Reader_skipBlanks_8 38 11 rfl rfl (fun c1 => ?_) (fun c1 => ?_)
    · refine gr_sub (M := gm_Reader_skipBlanks) (lv' := []) [] rfl ?_
      exact hk38  _
    refine gr_aload_n (M := gm_Reader_skipBlanks) dq_Reader_skipBlanks_11 rfl 0 rfl 12 rfl ?_
    refine gr_getr (M := gm_Reader_skipBlanks) dq_Reader_skipBlanks_12 15 rfl gfl_Reader_15 gsh_25 rfl (gli hL gsh_25) 26 rfl ?_
    refine gr_aload_n (M := gm_Reader_skipBlanks) dq_Reader_skipBlanks_15 rfl 0 rfl 16 rfl ?_
    refine gr_geti (M := gm_Reader_skipBlanks) dq_Reader_skipBlanks_16 19 rfl gfl_Reader_27 gsh_25 rfl (gli hL gsh_25) ?_
    refine gr_iald (M := gm_Reader_skipBlanks) dq_Reader_skipBlanks_19 20 rfl gsh_26 (glj hL gsh_26 (by decide)) ?_
    refine gr_bipush (M := gm_Reader_skipBlanks) (v := 32) dq_Reader_skipBlanks_20 (by decide) ⟨by decide, by decide⟩ 22 rfl ?_
    refine gr_icmp_ne (M := gm_Reader_skipBlanks) dq_Reader_skipBlanks_22 38 25 rfl rfl (fun c2 => ?_) (fun c2 => ?_)
    · refine gr_sub (M := gm_Reader_skipBlanks) (lv' := []) [] rfl ?_
      exact hk38  _
    refine gr_aload_n (M := gm_Reader_skipBlanks) dq_Reader_skipBlanks_25 rfl 0 rfl 26 rfl ?_
    refine gr_dup (M := gm_Reader_skipBlanks) dq_Reader_skipBlanks_26 (fun _ q => by cases q) 27 rfl ?_
    refine gr_geti (M := gm_Reader_skipBlanks) dq_Reader_skipBlanks_27 30 rfl gfl_Reader_27 gsh_25 rfl (gli hL gsh_25) ?_
    refine gr_iconst (M := gm_Reader_skipBlanks) (v := 1) dq_Reader_skipBlanks_30 rfl ⟨by decide, by decide⟩ 31 rfl ?_
    refine gr_iadd (M := gm_Reader_skipBlanks) dq_Reader_skipBlanks_31 32 rfl ?_
    refine gr_puti (M := gm_Reader_skipBlanks) dq_Reader_skipBlanks_32 35 rfl gfp_Reader_27 gsh_25 rfl (gli hL gsh_25) (fun h3 _ => ?_)
    refine gr_goto (M := gm_Reader_skipBlanks) dq_Reader_skipBlanks_35 0 rfl ?_
    exact ih  _

def f_Reader_skipBlanks  (h : gH) : Option gO := f_Reader_skipBlanks_L0  (fun  h4 => some (h4, 0)) 50000  h
theorem c_Reader_skipBlanks {Z : gZ} (hL : gLive Z) (hn : (zL Z).Nodup)   {h : gH} {o : gO} (hg : gRg h) (ha : gRl [.inr (.inr 25)]) (hx : f_Reader_skipBlanks  h = some o) : gC Z gy_Reader_skipBlanks gc_Reader_skipBlanks 1 none 0 0 [.inr (.inr 25)] h o := by
  unfold f_Reader_skipBlanks at hx
  refine gC_of (lv := [(0, .inr (.inr 25))]) (own := gR_2) (by decide +kernel) rfl (Nat.le_of_ble_eq_true rfl) rfl rfl hn hg ha hx (fun X hZ hF => ?_)
  subst hZ
  show gr _ o gm_Reader_skipBlanks X h 0 _ _
  refine w_Reader_skipBlanks_L0 hL hn hF   (fun h4 => ?_) 50000  _
  exact gr_return (M := gm_Reader_skipBlanks) dq_Reader_skipBlanks_38 hF

-- Reader_fail
theorem dq_Reader_fail_0 : decode gc_Reader_fail 0 = .ok (.aload_n 0, 1) := by decide +kernel
theorem dq_Reader_fail_1 : decode gc_Reader_fail 1 = .ok (.getfield 30, 3) := by decide +kernel
theorem dq_Reader_fail_4 : decode gc_Reader_fail 4 = .ok (.ifCond .ne 13, 3) := by decide +kernel
theorem dq_Reader_fail_7 : decode gc_Reader_fail 7 = .ok (.aload_n 0, 1) := by decide +kernel
theorem dq_Reader_fail_8 : decode gc_Reader_fail 8 = .ok (.iload_n 1, 1) := by decide +kernel
theorem dq_Reader_fail_9 : decode gc_Reader_fail 9 = .ok (.putfield 30, 3) := by decide +kernel
theorem dq_Reader_fail_12 : decode gc_Reader_fail 12 = .ok (.aload_n 0, 1) := by decide +kernel
theorem dq_Reader_fail_13 : decode gc_Reader_fail 13 = .ok (.iload_n 2, 1) := by decide +kernel
theorem dq_Reader_fail_14 : decode gc_Reader_fail 14 = .ok (.putfield 9, 3) := by decide +kernel
theorem dq_Reader_fail_17 : decode gc_Reader_fail 17 = .ok (.return_, 1) := by decide +kernel
abbrev gm_Reader_fail : gM := (gc_Reader_fail, gR_2, 0, 0, 3)
theorem gfl_Reader_30 : gFl gR_2 30 2 5 := ⟨_, _, _, rfl, by decide, (gtab_at 128 (by decide +kernel) rfl), gin_2⟩
theorem gfp_Reader_30 : gFp gR_2 30 2 5 .int := ⟨_, _, _, gt_2, rfl, by decide, (gtab_at 128 (by decide +kernel) rfl), gin_2, gto_2, gnm_2, rfl, by decide +kernel⟩
theorem gfp_Reader_9 : gFp gR_2 9 2 1 .int := ⟨_, _, _, gt_2, rfl, by decide, (gtab_at 123 (by decide +kernel) rfl), gin_2, gto_2, gnm_2, rfl, by decide +kernel⟩
def f_Reader_fail (a1 : Int) (a2 : Int) (h : gH) : Option gO := if (h 25 5) = 0 then (gs (gup h 25 5 a1) (fun h2 => gs (gup h2 25 1 a2) (fun h3 => some (h3, 0)))) else (some (h, 0))
theorem c_Reader_fail {Z : gZ} (hL : gLive Z) (hn : (zL Z).Nodup) {a1 : Int} {a2 : Int}  {h : gH} {o : gO} (hg : gRg h) (ha : gRl [.inr (.inr 25), .inl a1, .inl a2]) (hx : f_Reader_fail a1 a2 h = some o) : gC Z gy_Reader_fail gc_Reader_fail 3 none 0 0 [.inr (.inr 25), .inl a1, .inl a2] h o := by
  unfold f_Reader_fail at hx
  refine gC_of (lv := [(0, .inr (.inr 25)), (1, .inl a1), (2, .inl a2)]) (own := gR_2) (by decide +kernel) rfl (Nat.le_of_ble_eq_true rfl) rfl rfl hn hg ha hx (fun X hZ hF => ?_)
  subst hZ
  show gr _ o gm_Reader_fail X h 0 _ _
  refine gr_aload_n (M := gm_Reader_fail) dq_Reader_fail_0 rfl 0 rfl 1 rfl ?_
  refine gr_geti (M := gm_Reader_fail) dq_Reader_fail_1 4 rfl gfl_Reader_30 gsh_25 rfl (gli hL gsh_25) ?_
  refine gr_if_ne (M := gm_Reader_fail) dq_Reader_fail_4 17 7 rfl rfl (fun c1 => ?_) (fun c1 => ?_)
  · exact gr_return (M := gm_Reader_fail) dq_Reader_fail_17 hF
  refine gr_aload_n (M := gm_Reader_fail) dq_Reader_fail_7 rfl 0 rfl 8 rfl ?_
  refine gr_iload_n (M := gm_Reader_fail) dq_Reader_fail_8 rfl 1 rfl 9 rfl ?_
  refine gr_puti (M := gm_Reader_fail) dq_Reader_fail_9 12 rfl gfp_Reader_30 gsh_25 rfl (gli hL gsh_25) (fun h2 _ => ?_)
  refine gr_aload_n (M := gm_Reader_fail) dq_Reader_fail_12 rfl 0 rfl 13 rfl ?_
  refine gr_iload_n (M := gm_Reader_fail) dq_Reader_fail_13 rfl 2 rfl 14 rfl ?_
  refine gr_puti (M := gm_Reader_fail) dq_Reader_fail_14 17 rfl gfp_Reader_9 gsh_25 rfl (gli hL gsh_25) (fun h3 _ => ?_)
  exact gr_return (M := gm_Reader_fail) dq_Reader_fail_17 hF

-- Reader_takeWord
theorem dq_Reader_takeWord_0 : decode gc_Reader_takeWord 0 = .ok (.iload_n 1, 1) := by decide +kernel
theorem dq_Reader_takeWord_1 : decode gc_Reader_takeWord 1 = .ok (.ifCond .eq 16, 3) := by decide +kernel
theorem dq_Reader_takeWord_4 : decode gc_Reader_takeWord 4 = .ok (.aload_n 0, 1) := by decide +kernel
theorem dq_Reader_takeWord_5 : decode gc_Reader_takeWord 5 = .ok (.dup, 1) := by decide +kernel
theorem dq_Reader_takeWord_6 : decode gc_Reader_takeWord 6 = .ok (.getfield 27, 3) := by decide +kernel
theorem dq_Reader_takeWord_9 : decode gc_Reader_takeWord 9 = .ok (.iconst 1, 1) := by decide +kernel
theorem dq_Reader_takeWord_10 : decode gc_Reader_takeWord 10 = .ok (.iadd, 1) := by decide +kernel
theorem dq_Reader_takeWord_11 : decode gc_Reader_takeWord 11 = .ok (.putfield 27, 3) := by decide +kernel
theorem dq_Reader_takeWord_14 : decode gc_Reader_takeWord 14 = .ok (.goto 12, 3) := by decide +kernel
theorem dq_Reader_takeWord_17 : decode gc_Reader_takeWord 17 = .ok (.aload_n 0, 1) := by decide +kernel
theorem dq_Reader_takeWord_18 : decode gc_Reader_takeWord 18 = .ok (.iconst 3, 1) := by decide +kernel
theorem dq_Reader_takeWord_19 : decode gc_Reader_takeWord 19 = .ok (.aload_n 0, 1) := by decide +kernel
theorem dq_Reader_takeWord_20 : decode gc_Reader_takeWord 20 = .ok (.getfield 27, 3) := by decide +kernel
theorem dq_Reader_takeWord_23 : decode gc_Reader_takeWord 23 = .ok (.invokevirtual 46, 3) := by decide +kernel
theorem dq_Reader_takeWord_26 : decode gc_Reader_takeWord 26 = .ok (.return_, 1) := by decide +kernel
abbrev gm_Reader_takeWord : gM := (gc_Reader_takeWord, gR_2, 1, 22, 2)
set_option maxRecDepth 20000 in
theorem gcy_Reader_46 : gCy gR_2 46 gy_Reader_fail gc_Reader_fail 3 none 2 := ⟨(gtab_at 339 (by decide +kernel) rfl), (gtab_at 3 (by decide +kernel) rfl), (gtab_at 342 rfl rfl), by decide, by decide, by decide +kernel⟩
theorem gim_Reader_fail : Cond.instanceMethod gy_Reader_fail ∈ gtbl := (gtab_at 341 (by decide +kernel) rfl)
theorem gse_Reader_fail : Cond.selects gy_Reader_fail.cls gy_Reader_fail gy_Reader_fail ∈ gtbl := (by decide +kernel)
def f_Reader_takeWord (a1 : Int) (h : gH) : Option gO := if a1 = 0 then (gb (f_Reader_fail 3 (h 25 3) h) (fun h2 r3 => some (h2, 0))) else (gs (gup h 25 3 (gadd (h 25 3) 1)) (fun h4 => some (h4, 0)))
theorem c_Reader_takeWord {Z : gZ} (hL : gLive Z) (hn : (zL Z).Nodup) {a1 : Int}  {h : gH} {o : gO} (hg : gRg h) (ha : gRl [.inr (.inr 25), .inl a1]) (hx : f_Reader_takeWord a1 h = some o) : gC Z gy_Reader_takeWord gc_Reader_takeWord 2 none 1 22 [.inr (.inr 25), .inl a1] h o := by
  unfold f_Reader_takeWord at hx
  refine gC_of (lv := [(0, .inr (.inr 25)), (1, .inl a1)]) (own := gR_2) (by decide +kernel) rfl (Nat.le_of_ble_eq_true rfl) rfl rfl hn hg ha hx (fun X hZ hF => ?_)
  subst hZ
  show gr _ o gm_Reader_takeWord X h 0 _ _
  refine gr_iload_n (M := gm_Reader_takeWord) dq_Reader_takeWord_0 rfl 1 rfl 1 rfl ?_
  refine gr_if_eq (M := gm_Reader_takeWord) dq_Reader_takeWord_1 17 4 rfl rfl (fun c1 => ?_) (fun c1 => ?_)
  · refine gr_aload_n (M := gm_Reader_takeWord) dq_Reader_takeWord_17 rfl 0 rfl 18 rfl ?_
    refine gr_iconst (M := gm_Reader_takeWord) (v := 3) dq_Reader_takeWord_18 rfl ⟨by decide, by decide⟩ 19 rfl ?_
    refine gr_aload_n (M := gm_Reader_takeWord) dq_Reader_takeWord_19 rfl 0 rfl 20 rfl ?_
    refine gr_geti (M := gm_Reader_takeWord) dq_Reader_takeWord_20 23 rfl gfl_Reader_27 gsh_25 rfl (gli hL gsh_25) ?_
    refine gr_callVv (M := gm_Reader_takeWord) (as := [.inl 3, .inl (h 25 3)]) dq_Reader_takeWord_23 26 rfl rfl gcy_Reader_46 gim_Reader_fail gse_Reader_fail ⟨by decide, by decide⟩ (Nat.le_of_ble_eq_true rfl) gsh_25 rfl (gli hL gsh_25) (fun o1 hg ha hx => c_Reader_fail hL hn  hg ha hx) (fun h2 r3 _ => ?_)
    exact gr_return (M := gm_Reader_takeWord) dq_Reader_takeWord_26 hF
  refine gr_aload_n (M := gm_Reader_takeWord) dq_Reader_takeWord_4 rfl 0 rfl 5 rfl ?_
  refine gr_dup (M := gm_Reader_takeWord) dq_Reader_takeWord_5 (fun _ q => by cases q) 6 rfl ?_
  refine gr_geti (M := gm_Reader_takeWord) dq_Reader_takeWord_6 9 rfl gfl_Reader_27 gsh_25 rfl (gli hL gsh_25) ?_
  refine gr_iconst (M := gm_Reader_takeWord) (v := 1) dq_Reader_takeWord_9 rfl ⟨by decide, by decide⟩ 10 rfl ?_
  refine gr_iadd (M := gm_Reader_takeWord) dq_Reader_takeWord_10 11 rfl ?_
  refine gr_puti (M := gm_Reader_takeWord) dq_Reader_takeWord_11 14 rfl gfp_Reader_27 gsh_25 rfl (gli hL gsh_25) (fun h4 _ => ?_)
  refine gr_goto (M := gm_Reader_takeWord) dq_Reader_takeWord_14 26 rfl ?_
  exact gr_return (M := gm_Reader_takeWord) dq_Reader_takeWord_26 hF

-- Reader_isFigure
theorem dq_Reader_isFigure_0 : decode gc_Reader_isFigure 0 = .ok (.iload_n 0, 1) := by decide +kernel
theorem dq_Reader_isFigure_1 : decode gc_Reader_isFigure 1 = .ok (.bipush 48, 2) := by decide +kernel
theorem dq_Reader_isFigure_3 : decode gc_Reader_isFigure 3 = .ok (.if_icmp .lt 13, 3) := by decide +kernel
theorem dq_Reader_isFigure_6 : decode gc_Reader_isFigure 6 = .ok (.iload_n 0, 1) := by decide +kernel
theorem dq_Reader_isFigure_7 : decode gc_Reader_isFigure 7 = .ok (.bipush 57, 2) := by decide +kernel
theorem dq_Reader_isFigure_9 : decode gc_Reader_isFigure 9 = .ok (.if_icmp .gt 7, 3) := by decide +kernel
theorem dq_Reader_isFigure_12 : decode gc_Reader_isFigure 12 = .ok (.iconst 1, 1) := by decide +kernel
theorem dq_Reader_isFigure_13 : decode gc_Reader_isFigure 13 = .ok (.goto 4, 3) := by decide +kernel
theorem dq_Reader_isFigure_16 : decode gc_Reader_isFigure 16 = .ok (.iconst 0, 1) := by decide +kernel
theorem dq_Reader_isFigure_17 : decode gc_Reader_isFigure 17 = .ok (.ireturn, 1) := by decide +kernel
abbrev gm_Reader_isFigure : gM := (gc_Reader_isFigure, gR_2, 0, 0, 1)
def f_Reader_isFigure (a0 : Int) (h : gH) : Option gO := if a0 < 48 then (gd (gz 0) (some (h, 0))) else (if 57 < a0 then (gd (gz 0) (some (h, 0))) else (gd (gz 1) (some (h, 1))))
theorem c_Reader_isFigure {Z : gZ} (hL : gLive Z) (hn : (zL Z).Nodup) {a0 : Int}  {h : gH} {o : gO} (hg : gRg h) (ha : gRl [.inl a0]) (hx : f_Reader_isFigure a0 h = some o) : gC Z gy_Reader_isFigure gc_Reader_isFigure 1 (some .boolean) 0 0 [.inl a0] h o := by
  unfold f_Reader_isFigure at hx
  refine gC_of (lv := [(0, .inl a0)]) (own := gR_2) (by decide +kernel) rfl (Nat.le_of_ble_eq_true rfl) rfl rfl hn hg ha hx (fun X hZ hF => ?_)
  subst hZ
  show gr _ o gm_Reader_isFigure X h 0 _ _
  refine gr_iload_n (M := gm_Reader_isFigure) dq_Reader_isFigure_0 rfl 0 rfl 1 rfl ?_
  refine gr_bipush (M := gm_Reader_isFigure) (v := 48) dq_Reader_isFigure_1 (by decide) ⟨by decide, by decide⟩ 3 rfl ?_
  refine gr_icmp_lt (M := gm_Reader_isFigure) dq_Reader_isFigure_3 16 6 rfl rfl (fun c1 => ?_) (fun c1 => ?_)
  · refine gr_iconst (M := gm_Reader_isFigure) (v := 0) dq_Reader_isFigure_16 rfl ⟨by decide, by decide⟩ 17 rfl ?_
    exact gr_zreturn (M := gm_Reader_isFigure) dq_Reader_isFigure_17 hF
  refine gr_iload_n (M := gm_Reader_isFigure) dq_Reader_isFigure_6 rfl 0 rfl 7 rfl ?_
  refine gr_bipush (M := gm_Reader_isFigure) (v := 57) dq_Reader_isFigure_7 (by decide) ⟨by decide, by decide⟩ 9 rfl ?_
  refine gr_icmp_gt (M := gm_Reader_isFigure) dq_Reader_isFigure_9 16 12 rfl rfl (fun c2 => ?_) (fun c2 => ?_)
  · refine gr_iconst (M := gm_Reader_isFigure) (v := 0) dq_Reader_isFigure_16 rfl ⟨by decide, by decide⟩ 17 rfl ?_
    exact gr_zreturn (M := gm_Reader_isFigure) dq_Reader_isFigure_17 hF
  refine gr_iconst (M := gm_Reader_isFigure) (v := 1) dq_Reader_isFigure_12 rfl ⟨by decide, by decide⟩ 13 rfl ?_
  refine gr_goto (M := gm_Reader_isFigure) dq_Reader_isFigure_13 17 rfl ?_
  exact gr_zreturn (M := gm_Reader_isFigure) dq_Reader_isFigure_17 hF

-- Reader_readNumber
theorem dq_Reader_readNumber_0 : decode gc_Reader_readNumber 0 = .ok (.aload_n 0, 1) := by decide +kernel
theorem dq_Reader_readNumber_1 : decode gc_Reader_readNumber 1 = .ok (.getfield 30, 3) := by decide +kernel
theorem dq_Reader_readNumber_4 : decode gc_Reader_readNumber 4 = .ok (.ifCond .eq 5, 3) := by decide +kernel
theorem dq_Reader_readNumber_7 : decode gc_Reader_readNumber 7 = .ok (.iconst 0, 1) := by decide +kernel
theorem dq_Reader_readNumber_8 : decode gc_Reader_readNumber 8 = .ok (.ireturn, 1) := by decide +kernel
theorem dq_Reader_readNumber_9 : decode gc_Reader_readNumber 9 = .ok (.aload_n 0, 1) := by decide +kernel
theorem dq_Reader_readNumber_10 : decode gc_Reader_readNumber 10 = .ok (.invokevirtual 33, 3) := by decide +kernel
theorem dq_Reader_readNumber_13 : decode gc_Reader_readNumber 13 = .ok (.aload_n 0, 1) := by decide +kernel
theorem dq_Reader_readNumber_14 : decode gc_Reader_readNumber 14 = .ok (.aload_n 0, 1) := by decide +kernel
theorem dq_Reader_readNumber_15 : decode gc_Reader_readNumber 15 = .ok (.getfield 27, 3) := by decide +kernel
theorem dq_Reader_readNumber_18 : decode gc_Reader_readNumber 18 = .ok (.putfield 109, 3) := by decide +kernel
theorem dq_Reader_readNumber_21 : decode gc_Reader_readNumber 21 = .ok (.iconst 0, 1) := by decide +kernel
theorem dq_Reader_readNumber_22 : decode gc_Reader_readNumber 22 = .ok (.istore_n 3, 1) := by decide +kernel
theorem dq_Reader_readNumber_23 : decode gc_Reader_readNumber 23 = .ok (.aload_n 0, 1) := by decide +kernel
theorem dq_Reader_readNumber_24 : decode gc_Reader_readNumber 24 = .ok (.getfield 27, 3) := by decide +kernel
theorem dq_Reader_readNumber_27 : decode gc_Reader_readNumber 27 = .ok (.aload_n 0, 1) := by decide +kernel
theorem dq_Reader_readNumber_28 : decode gc_Reader_readNumber 28 = .ok (.getfield 19, 3) := by decide +kernel
theorem dq_Reader_readNumber_31 : decode gc_Reader_readNumber 31 = .ok (.if_icmp .ge 62, 3) := by decide +kernel
theorem dq_Reader_readNumber_34 : decode gc_Reader_readNumber 34 = .ok (.aload_n 0, 1) := by decide +kernel
theorem dq_Reader_readNumber_35 : decode gc_Reader_readNumber 35 = .ok (.getfield 15, 3) := by decide +kernel
theorem dq_Reader_readNumber_38 : decode gc_Reader_readNumber 38 = .ok (.aload_n 0, 1) := by decide +kernel
theorem dq_Reader_readNumber_39 : decode gc_Reader_readNumber 39 = .ok (.getfield 27, 3) := by decide +kernel
theorem dq_Reader_readNumber_42 : decode gc_Reader_readNumber 42 = .ok (.iaload, 1) := by decide +kernel
theorem dq_Reader_readNumber_43 : decode gc_Reader_readNumber 43 = .ok (.invokestatic 112, 3) := by decide +kernel
theorem dq_Reader_readNumber_46 : decode gc_Reader_readNumber 46 = .ok (.ifCond .eq 47, 3) := by decide +kernel
theorem dq_Reader_readNumber_49 : decode gc_Reader_readNumber 49 = .ok (.aload_n 0, 1) := by decide +kernel
theorem dq_Reader_readNumber_50 : decode gc_Reader_readNumber 50 = .ok (.getfield 27, 3) := by decide +kernel
theorem dq_Reader_readNumber_53 : decode gc_Reader_readNumber 53 = .ok (.aload_n 0, 1) := by decide +kernel
theorem dq_Reader_readNumber_54 : decode gc_Reader_readNumber 54 = .ok (.getfield 109, 3) := by decide +kernel
theorem dq_Reader_readNumber_57 : decode gc_Reader_readNumber 57 = .ok (.isub, 1) := by decide +kernel
theorem dq_Reader_readNumber_58 : decode gc_Reader_readNumber 58 = .ok (.iconst 3, 1) := by decide +kernel
theorem dq_Reader_readNumber_59 : decode gc_Reader_readNumber 59 = .ok (.if_icmp .ge 21, 3) := by decide +kernel
theorem dq_Reader_readNumber_62 : decode gc_Reader_readNumber 62 = .ok (.iload_n 3, 1) := by decide +kernel
theorem dq_Reader_readNumber_63 : decode gc_Reader_readNumber 63 = .ok (.bipush 10, 2) := by decide +kernel
theorem dq_Reader_readNumber_65 : decode gc_Reader_readNumber 65 = .ok (.imul, 1) := by decide +kernel
theorem dq_Reader_readNumber_66 : decode gc_Reader_readNumber 66 = .ok (.aload_n 0, 1) := by decide +kernel
theorem dq_Reader_readNumber_67 : decode gc_Reader_readNumber 67 = .ok (.getfield 15, 3) := by decide +kernel
theorem dq_Reader_readNumber_70 : decode gc_Reader_readNumber 70 = .ok (.aload_n 0, 1) := by decide +kernel
theorem dq_Reader_readNumber_71 : decode gc_Reader_readNumber 71 = .ok (.getfield 27, 3) := by decide +kernel
theorem dq_Reader_readNumber_74 : decode gc_Reader_readNumber 74 = .ok (.iaload, 1) := by decide +kernel
theorem dq_Reader_readNumber_75 : decode gc_Reader_readNumber 75 = .ok (.iadd, 1) := by decide +kernel
theorem dq_Reader_readNumber_76 : decode gc_Reader_readNumber 76 = .ok (.bipush 48, 2) := by decide +kernel
theorem dq_Reader_readNumber_78 : decode gc_Reader_readNumber 78 = .ok (.isub, 1) := by decide +kernel
theorem dq_Reader_readNumber_79 : decode gc_Reader_readNumber 79 = .ok (.istore_n 3, 1) := by decide +kernel
theorem dq_Reader_readNumber_80 : decode gc_Reader_readNumber 80 = .ok (.aload_n 0, 1) := by decide +kernel
theorem dq_Reader_readNumber_81 : decode gc_Reader_readNumber 81 = .ok (.dup, 1) := by decide +kernel
theorem dq_Reader_readNumber_82 : decode gc_Reader_readNumber 82 = .ok (.getfield 27, 3) := by decide +kernel
theorem dq_Reader_readNumber_85 : decode gc_Reader_readNumber 85 = .ok (.iconst 1, 1) := by decide +kernel
theorem dq_Reader_readNumber_86 : decode gc_Reader_readNumber 86 = .ok (.iadd, 1) := by decide +kernel
theorem dq_Reader_readNumber_87 : decode gc_Reader_readNumber 87 = .ok (.putfield 27, 3) := by decide +kernel
theorem dq_Reader_readNumber_90 : decode gc_Reader_readNumber 90 = .ok (.goto (-67), 3) := by decide +kernel
theorem dq_Reader_readNumber_93 : decode gc_Reader_readNumber 93 = .ok (.aload_n 0, 1) := by decide +kernel
theorem dq_Reader_readNumber_94 : decode gc_Reader_readNumber 94 = .ok (.getfield 27, 3) := by decide +kernel
theorem dq_Reader_readNumber_97 : decode gc_Reader_readNumber 97 = .ok (.aload_n 0, 1) := by decide +kernel
theorem dq_Reader_readNumber_98 : decode gc_Reader_readNumber 98 = .ok (.getfield 109, 3) := by decide +kernel
theorem dq_Reader_readNumber_101 : decode gc_Reader_readNumber 101 = .ok (.if_icmp .ne 15, 3) := by decide +kernel
theorem dq_Reader_readNumber_104 : decode gc_Reader_readNumber 104 = .ok (.aload_n 0, 1) := by decide +kernel
theorem dq_Reader_readNumber_105 : decode gc_Reader_readNumber 105 = .ok (.iconst 1, 1) := by decide +kernel
theorem dq_Reader_readNumber_106 : decode gc_Reader_readNumber 106 = .ok (.aload_n 0, 1) := by decide +kernel
theorem dq_Reader_readNumber_107 : decode gc_Reader_readNumber 107 = .ok (.getfield 27, 3) := by decide +kernel
theorem dq_Reader_readNumber_110 : decode gc_Reader_readNumber 110 = .ok (.invokevirtual 46, 3) := by decide +kernel
theorem dq_Reader_readNumber_113 : decode gc_Reader_readNumber 113 = .ok (.goto 35, 3) := by decide +kernel
theorem dq_Reader_readNumber_116 : decode gc_Reader_readNumber 116 = .ok (.aload_n 0, 1) := by decide +kernel
theorem dq_Reader_readNumber_117 : decode gc_Reader_readNumber 117 = .ok (.getfield 27, 3) := by decide +kernel
theorem dq_Reader_readNumber_120 : decode gc_Reader_readNumber 120 = .ok (.aload_n 0, 1) := by decide +kernel
theorem dq_Reader_readNumber_121 : decode gc_Reader_readNumber 121 = .ok (.getfield 109, 3) := by decide +kernel
theorem dq_Reader_readNumber_124 : decode gc_Reader_readNumber 124 = .ok (.isub, 1) := by decide +kernel
theorem dq_Reader_readNumber_125 : decode gc_Reader_readNumber 125 = .ok (.iconst 3, 1) := by decide +kernel
theorem dq_Reader_readNumber_126 : decode gc_Reader_readNumber 126 = .ok (.if_icmp .gt 13, 3) := by decide +kernel
theorem dq_Reader_readNumber_129 : decode gc_Reader_readNumber 129 = .ok (.iload_n 3, 1) := by decide +kernel
theorem dq_Reader_readNumber_130 : decode gc_Reader_readNumber 130 = .ok (.iload_n 1, 1) := by decide +kernel
theorem dq_Reader_readNumber_131 : decode gc_Reader_readNumber 131 = .ok (.if_icmp .lt 8, 3) := by decide +kernel
theorem dq_Reader_readNumber_134 : decode gc_Reader_readNumber 134 = .ok (.iload_n 3, 1) := by decide +kernel
theorem dq_Reader_readNumber_135 : decode gc_Reader_readNumber 135 = .ok (.iload_n 2, 1) := by decide +kernel
theorem dq_Reader_readNumber_136 : decode gc_Reader_readNumber 136 = .ok (.if_icmp .le 12, 3) := by decide +kernel
theorem dq_Reader_readNumber_139 : decode gc_Reader_readNumber 139 = .ok (.aload_n 0, 1) := by decide +kernel
theorem dq_Reader_readNumber_140 : decode gc_Reader_readNumber 140 = .ok (.iconst 2, 1) := by decide +kernel
theorem dq_Reader_readNumber_141 : decode gc_Reader_readNumber 141 = .ok (.aload_n 0, 1) := by decide +kernel
theorem dq_Reader_readNumber_142 : decode gc_Reader_readNumber 142 = .ok (.getfield 109, 3) := by decide +kernel
theorem dq_Reader_readNumber_145 : decode gc_Reader_readNumber 145 = .ok (.invokevirtual 46, 3) := by decide +kernel
theorem dq_Reader_readNumber_148 : decode gc_Reader_readNumber 148 = .ok (.iload_n 3, 1) := by decide +kernel
theorem dq_Reader_readNumber_149 : decode gc_Reader_readNumber 149 = .ok (.ireturn, 1) := by decide +kernel
abbrev gm_Reader_readNumber : gM := (gc_Reader_readNumber, gR_2, 1, 22, 4)
set_option maxRecDepth 20000 in
theorem gcy_Reader_33 : gCy gR_2 33 gy_Reader_skipBlanks gc_Reader_skipBlanks 1 none 0 := ⟨(gtab_at 331 (by decide +kernel) rfl), (gtab_at 3 (by decide +kernel) rfl), (gtab_at 334 rfl rfl), by decide, by decide, by decide +kernel⟩
theorem gim_Reader_skipBlanks : Cond.instanceMethod gy_Reader_skipBlanks ∈ gtbl := (gtab_at 333 (by decide +kernel) rfl)
theorem gse_Reader_skipBlanks : Cond.selects gy_Reader_skipBlanks.cls gy_Reader_skipBlanks gy_Reader_skipBlanks ∈ gtbl := (by decide +kernel)
theorem gfp_Reader_109 : gFp gR_2 109 2 4 .int := ⟨_, _, _, gt_2, rfl, by decide, (gtab_at 127 (by decide +kernel) rfl), gin_2, gto_2, gnm_2, rfl, by decide +kernel⟩
set_option maxRecDepth 20000 in
theorem gcy_Reader_112 : gCy gR_2 112 gy_Reader_isFigure gc_Reader_isFigure 1 (some .boolean) 1 := ⟨(gtab_at 355 (by decide +kernel) rfl), (gtab_at 3 (by decide +kernel) rfl), (gtab_at 357 rfl rfl), by decide, by decide, by decide +kernel⟩
theorem gst_Reader_isFigure : Cond.static gy_Reader_isFigure ∈ gtbl := (gtab_at 356 (by decide +kernel) rfl)
theorem gfl_Reader_109 : gFl gR_2 109 2 4 := ⟨_, _, _, rfl, by decide, (gtab_at 127 (by decide +kernel) rfl), gin_2⟩
def f_Reader_readNumber_J80  (k23 : Int → gH → Option gO) (v1 : Int) (v2 : Int) (v3 : Int) (h : gH) : Option gO := gs (gup h 25 3 (gadd (h 25 3) 1)) (fun h10 => k23 v3 h10)
theorem w_Reader_readNumber_J80 {o : gO} {X : gX} (hL : gLive (xZ X)) (hn : (zL (xZ X)).Nodup) (hF : gFin X (some .int) o)    {k23 : Int → gH → Option gO} {v1 : Int} {v2 : Int} {v3 : Int} {h : gH} (hk23 : ∀ (v3 : Int) (h : gH), gr (k23 v3 h) o gm_Reader_readNumber X h 23 [(0, .inr (.inr 25)), (1, .inl v1), (2, .inl v2), (3, .inl v3)] []) : gr (f_Reader_readNumber_J80  k23 v1 v2 v3 h) o gm_Reader_readNumber X h 80 [(0, .inr (.inr 25)), (1, .inl v1), (2, .inl v2), (3, .inl v3)] [] := by
  unfold f_Reader_readNumber_J80
  refine gr_aload_n (M := gm_Reader_readNumber) dq_Reader_readNumber_80 rfl 0 rfl 81 rfl ?_
  refine gr_dup (M := gm_Reader_readNumber) dq_Reader_readNumber_81 (fun _ q => by cases q) 82 rfl ?_
  refine gr_geti (M := gm_Reader_readNumber) dq_Reader_readNumber_82 85 rfl gfl_Reader_27 gsh_25 rfl (gli hL gsh_25) ?_
  refine gr_iconst (M := gm_Reader_readNumber) (v := 1) dq_Reader_readNumber_85 rfl ⟨by decide, by decide⟩ 86 rfl ?_
  refine gr_iadd (M := gm_Reader_readNumber) dq_Reader_readNumber_86 87 rfl ?_
  refine gr_puti (M := gm_Reader_readNumber) dq_Reader_readNumber_87 90 rfl gfp_Reader_27 gsh_25 rfl (gli hL gsh_25) (fun h10 _ => ?_)
  refine gr_goto (M := gm_Reader_readNumber) dq_Reader_readNumber_90 23 rfl ?_
  exact hk23 _ _

def f_Reader_readNumber_L23 (v1 : Int) (v2 : Int) (k93 : Int → gH → Option gO) : Nat → Int → gH → Option gO
  | 0, _, _ => none
  | n + 1, v3, h => if (h 25 0) ≤ (h 25 3) then (k93 v3 h) else (gd (gix 250 (h 25 3)) (gb (f_Reader_isFigure (h 26 (h 25 3).toNat) h) (fun h6 r7 => if r7 = 0 then (k93 v3 h6) else (if 3 ≤ (gsub (h6 25 3) (h6 25 4)) then (f_Reader_readNumber_J80  (f_Reader_readNumber_L23 v1 v2 k93 n) v1 v2 v3 h6) else (gd (gix 250 (h6 25 3)) (f_Reader_readNumber_J80  (f_Reader_readNumber_L23 v1 v2 k93 n) v1 v2 (gsub (gadd (gmul v3 10) (h6 26 (h6 25 3).toNat)) 48) h6))))))
theorem w_Reader_readNumber_L23 {o : gO} {X : gX} (hL : gLive (xZ X)) (hn : (zL (xZ X)).Nodup) (hF : gFin X (some .int) o) {v1 : Int} {v2 : Int}   {k93 : Int → gH → Option gO} (hk93 : ∀ (v3 : Int) (h : gH), gr (k93 v3 h) o gm_Reader_readNumber X h 93 [(0, .inr (.inr 25)), (1, .inl v1), (2, .inl v2), (3, .inl v3)] []) : ∀ (n : Nat) (v3 : Int) (h : gH), gr (f_Reader_readNumber_L23 v1 v2 k93 n v3 h) o gm_Reader_readNumber X h 23 [(0, .inr (.inr 25)), (1, .inl v1), (2, .inl v2), (3, .inl v3)] [] := by
  intro n
  induction n with
  | zero => intros; exact gr_none
  | succ n ih =>
    intro v3 h
    unfold f_Reader_readNumber_L23
    refine gr_aload_n (M := gm_Reader_readNumber) dq_Reader_readNumber_23 rfl 0 rfl 24 rfl ?_
    refine gr_geti (M := gm_Reader_readNumber) dq_Reader_readNumber_24 27 rfl gfl_Reader_27 gsh_25 rfl (gli hL gsh_25) ?_
    refine gr_aload_n (M := gm_Reader_readNumber) dq_Reader_readNumber_27 rfl 0 rfl 28 rfl ?_
    refine gr_geti (M := gm_Reader_readNumber) dq_Reader_readNumber_28 31 rfl gfl_Reader_19 gsh_25 rfl (gli hL gsh_25) ?_
    refine gr_icmp_ge (M := gm_Reader_readNumber) dq_Reader_readNumber_31 93 34 rfl rfl (fun c5 => ?_) (fun c5 => ?_)
    · exact hk93 _ _
    refine gr_aload_n (M := gm_Reader_readNumber) dq_Reader_readNumber_34 rfl 0 rfl 35 rfl ?_
    refine gr_getr (M := gm_Reader_readNumber) dq_Reader_readNumber_35 38 rfl gfl_Reader_15 gsh_25 rfl (gli hL gsh_25) 26 rfl ?_
    refine gr_aload_n (M := gm_Reader_readNumber) dq_Reader_readNumber_38 rfl 0 rfl 39 rfl ?_
    refine gr_geti (M := gm_Reader_readNumber) dq_Reader_readNumber_39 42 rfl gfl_Reader_27 gsh_25 rfl (gli hL gsh_25) ?_
    refine gr_iald (M := gm_Reader_readNumber) dq_Reader_readNumber_42 43 rfl gsh_26 (glj hL gsh_26 (by decide)) ?_
    refine gr_callSi (M := gm_Reader_readNumber) (as := [.inl (h 26 (h 25 3).toNat)]) dq_Reader_readNumber_43 46 rfl rfl gcy_Reader_112 gst_Reader_isFigure ⟨by decide, by decide⟩ (Nat.le_of_ble_eq_true rfl) (fun o1 hg ha hx => c_Reader_isFigure hL hn  hg ha hx) (fun h6 r7 _ => ?_)
    refine gr_if_eq (M := gm_Reader_readNumber) dq_Reader_readNumber_46 93 49 rfl rfl (fun c8 => ?_) (fun c8 => ?_)
    · exact hk93 _ _
    refine gr_aload_n (M := gm_Reader_readNumber) dq_Reader_readNumber_49 rfl 0 rfl 50 rfl ?_
    refine gr_geti (M := gm_Reader_readNumber) dq_Reader_readNumber_50 53 rfl gfl_Reader_27 gsh_25 rfl (gli hL gsh_25) ?_
    refine gr_aload_n (M := gm_Reader_readNumber) dq_Reader_readNumber_53 rfl 0 rfl 54 rfl ?_
    refine gr_geti (M := gm_Reader_readNumber) dq_Reader_readNumber_54 57 rfl gfl_Reader_109 gsh_25 rfl (gli hL gsh_25) ?_
    refine gr_isub (M := gm_Reader_readNumber) dq_Reader_readNumber_57 58 rfl ?_
    refine gr_iconst (M := gm_Reader_readNumber) (v := 3) dq_Reader_readNumber_58 rfl ⟨by decide, by decide⟩ 59 rfl ?_
    refine gr_icmp_ge (M := gm_Reader_readNumber) dq_Reader_readNumber_59 80 62 rfl rfl (fun c9 => ?_) (fun c9 => ?_)
    · exact w_Reader_readNumber_J80 hL hn hF   ih
    refine gr_iload_n (M := gm_Reader_readNumber) dq_Reader_readNumber_62 rfl 3 rfl 63 rfl ?_
    refine gr_bipush (M := gm_Reader_readNumber) (v := 10) dq_Reader_readNumber_63 (by decide) ⟨by decide, by decide⟩ 65 rfl ?_
    refine gr_imul (M := gm_Reader_readNumber) dq_Reader_readNumber_65 66 rfl ?_
    refine gr_aload_n (M := gm_Reader_readNumber) dq_Reader_readNumber_66 rfl 0 rfl 67 rfl ?_
    refine gr_getr (M := gm_Reader_readNumber) dq_Reader_readNumber_67 70 rfl gfl_Reader_15 gsh_25 rfl (gli hL gsh_25) 26 rfl ?_
    refine gr_aload_n (M := gm_Reader_readNumber) dq_Reader_readNumber_70 rfl 0 rfl 71 rfl ?_
    refine gr_geti (M := gm_Reader_readNumber) dq_Reader_readNumber_71 74 rfl gfl_Reader_27 gsh_25 rfl (gli hL gsh_25) ?_
    refine gr_iald (M := gm_Reader_readNumber) dq_Reader_readNumber_74 75 rfl gsh_26 (glj hL gsh_26 (by decide)) ?_
    refine gr_iadd (M := gm_Reader_readNumber) dq_Reader_readNumber_75 76 rfl ?_
    refine gr_bipush (M := gm_Reader_readNumber) (v := 48) dq_Reader_readNumber_76 (by decide) ⟨by decide, by decide⟩ 78 rfl ?_
    refine gr_isub (M := gm_Reader_readNumber) dq_Reader_readNumber_78 79 rfl ?_
    refine gr_istore_n (M := gm_Reader_readNumber) (lv' := [(3, .inl (gsub (gadd (gmul v3 10) (h6 26 (h6 25 3).toNat)) 48)), (0, .inr (.inr 25)), (1, .inl v1), (2, .inl v2)]) dq_Reader_readNumber_79 rfl (by decide) rfl 80 rfl ?_
    refine gr_sub (M := gm_Reader_readNumber) (lv' := [(0, .inr (.inr 25)), (1, .inl v1), (2, .inl v2), (3, .inl (gsub (gadd (gmul v3 10) (h6 26 (h6 25 3).toNat)) 48))]) [1, 2, 3, 0] rfl ?_
    exact w_Reader_readNumber_J80 hL hn hF   ih

def f_Reader_readNumber_J139   (v3 : Int) (h : gH) : Option gO := gb (f_Reader_fail 2 (h 25 4) h) (fun h15 r16 => some (h15, v3))
theorem w_Reader_readNumber_J139 {o : gO} {X : gX} (hL : gLive (xZ X)) (hn : (zL (xZ X)).Nodup) (hF : gFin X (some .int) o)     {v3 : Int} {h : gH}  : gr (f_Reader_readNumber_J139   v3 h) o gm_Reader_readNumber X h 139 [(0, .inr (.inr 25)), (3, .inl v3)] [] := by
  unfold f_Reader_readNumber_J139
  refine gr_aload_n (M := gm_Reader_readNumber) dq_Reader_readNumber_139 rfl 0 rfl 140 rfl ?_
  refine gr_iconst (M := gm_Reader_readNumber) (v := 2) dq_Reader_readNumber_140 rfl ⟨by decide, by decide⟩ 141 rfl ?_
  refine gr_aload_n (M := gm_Reader_readNumber) dq_Reader_readNumber_141 rfl 0 rfl 142 rfl ?_
  refine gr_geti (M := gm_Reader_readNumber) dq_Reader_readNumber_142 145 rfl gfl_Reader_109 gsh_25 rfl (gli hL gsh_25) ?_
  refine gr_callVv (M := gm_Reader_readNumber) (as := [.inl 2, .inl (h 25 4)]) dq_Reader_readNumber_145 148 rfl rfl gcy_Reader_46 gim_Reader_fail gse_Reader_fail ⟨by decide, by decide⟩ (Nat.le_of_ble_eq_true rfl) gsh_25 rfl (gli hL gsh_25) (fun o1 hg ha hx => c_Reader_fail hL hn  hg ha hx) (fun h15 r16 _ => ?_)
  refine gr_iload_n (M := gm_Reader_readNumber) dq_Reader_readNumber_148 rfl 1 rfl 149 rfl ?_
  exact gr_ireturn (M := gm_Reader_readNumber) dq_Reader_readNumber_149 hF

def f_Reader_readNumber_J93   (v1 : Int) (v2 : Int) (v3 : Int) (h : gH) : Option gO := if (h 25 3) = (h 25 4) then (gb (f_Reader_fail 1 (h 25 3) h) (fun h19 r20 => some (h19, v3))) else (if 3 < (gsub (h 25 3) (h 25 4)) then (f_Reader_readNumber_J139   v3 h) else (if v3 < v1 then (f_Reader_readNumber_J139   v3 h) else (if v3 ≤ v2 then (some (h, v3)) else (f_Reader_readNumber_J139   v3 h))))
theorem w_Reader_readNumber_J93 {o : gO} {X : gX} (hL : gLive (xZ X)) (hn : (zL (xZ X)).Nodup) (hF : gFin X (some .int) o)     {v1 : Int} {v2 : Int} {v3 : Int} {h : gH}  : gr (f_Reader_readNumber_J93   v1 v2 v3 h) o gm_Reader_readNumber X h 93 [(0, .inr (.inr 25)), (1, .inl v1), (2, .inl v2), (3, .inl v3)] [] := by
  unfold f_Reader_readNumber_J93
  refine gr_aload_n (M := gm_Reader_readNumber) dq_Reader_readNumber_93 rfl 0 rfl 94 rfl ?_
  refine gr_geti (M := gm_Reader_readNumber) dq_Reader_readNumber_94 97 rfl gfl_Reader_27 gsh_25 rfl (gli hL gsh_25) ?_
  refine gr_aload_n (M := gm_Reader_readNumber) dq_Reader_readNumber_97 rfl 0 rfl 98 rfl ?_
  refine gr_geti (M := gm_Reader_readNumber) dq_Reader_readNumber_98 101 rfl gfl_Reader_109 gsh_25 rfl (gli hL gsh_25) ?_
  refine gr_icmp_ne (M := gm_Reader_readNumber) dq_Reader_readNumber_101 116 104 rfl rfl (fun c13 => ?_) (fun c13 => ?_)
  · refine gr_aload_n (M := gm_Reader_readNumber) dq_Reader_readNumber_116 rfl 0 rfl 117 rfl ?_
    refine gr_geti (M := gm_Reader_readNumber) dq_Reader_readNumber_117 120 rfl gfl_Reader_27 gsh_25 rfl (gli hL gsh_25) ?_
    refine gr_aload_n (M := gm_Reader_readNumber) dq_Reader_readNumber_120 rfl 0 rfl 121 rfl ?_
    refine gr_geti (M := gm_Reader_readNumber) dq_Reader_readNumber_121 124 rfl gfl_Reader_109 gsh_25 rfl (gli hL gsh_25) ?_
    refine gr_isub (M := gm_Reader_readNumber) dq_Reader_readNumber_124 125 rfl ?_
    refine gr_iconst (M := gm_Reader_readNumber) (v := 3) dq_Reader_readNumber_125 rfl ⟨by decide, by decide⟩ 126 rfl ?_
    refine gr_icmp_gt (M := gm_Reader_readNumber) dq_Reader_readNumber_126 139 129 rfl rfl (fun c14 => ?_) (fun c14 => ?_)
    · refine gr_sub (M := gm_Reader_readNumber) (lv' := [(0, .inr (.inr 25)), (3, .inl v3)]) [0, 3] rfl ?_
      exact w_Reader_readNumber_J139 hL hn hF   
    refine gr_iload_n (M := gm_Reader_readNumber) dq_Reader_readNumber_129 rfl 3 rfl 130 rfl ?_
    refine gr_iload_n (M := gm_Reader_readNumber) dq_Reader_readNumber_130 rfl 1 rfl 131 rfl ?_
    refine gr_icmp_lt (M := gm_Reader_readNumber) dq_Reader_readNumber_131 139 134 rfl rfl (fun c17 => ?_) (fun c17 => ?_)
    · refine gr_sub (M := gm_Reader_readNumber) (lv' := [(0, .inr (.inr 25)), (3, .inl v3)]) [0, 3] rfl ?_
      exact w_Reader_readNumber_J139 hL hn hF   
    refine gr_iload_n (M := gm_Reader_readNumber) dq_Reader_readNumber_134 rfl 3 rfl 135 rfl ?_
    refine gr_iload_n (M := gm_Reader_readNumber) dq_Reader_readNumber_135 rfl 2 rfl 136 rfl ?_
    refine gr_icmp_le (M := gm_Reader_readNumber) dq_Reader_readNumber_136 148 139 rfl rfl (fun c18 => ?_) (fun c18 => ?_)
    · refine gr_iload_n (M := gm_Reader_readNumber) dq_Reader_readNumber_148 rfl 3 rfl 149 rfl ?_
      exact gr_ireturn (M := gm_Reader_readNumber) dq_Reader_readNumber_149 hF
    refine gr_sub (M := gm_Reader_readNumber) (lv' := [(0, .inr (.inr 25)), (3, .inl v3)]) [0, 3] rfl ?_
    exact w_Reader_readNumber_J139 hL hn hF   
  refine gr_aload_n (M := gm_Reader_readNumber) dq_Reader_readNumber_104 rfl 0 rfl 105 rfl ?_
  refine gr_iconst (M := gm_Reader_readNumber) (v := 1) dq_Reader_readNumber_105 rfl ⟨by decide, by decide⟩ 106 rfl ?_
  refine gr_aload_n (M := gm_Reader_readNumber) dq_Reader_readNumber_106 rfl 0 rfl 107 rfl ?_
  refine gr_geti (M := gm_Reader_readNumber) dq_Reader_readNumber_107 110 rfl gfl_Reader_27 gsh_25 rfl (gli hL gsh_25) ?_
  refine gr_callVv (M := gm_Reader_readNumber) (as := [.inl 1, .inl (h 25 3)]) dq_Reader_readNumber_110 113 rfl rfl gcy_Reader_46 gim_Reader_fail gse_Reader_fail ⟨by decide, by decide⟩ (Nat.le_of_ble_eq_true rfl) gsh_25 rfl (gli hL gsh_25) (fun o1 hg ha hx => c_Reader_fail hL hn  hg ha hx) (fun h19 r20 _ => ?_)
  refine gr_goto (M := gm_Reader_readNumber) dq_Reader_readNumber_113 148 rfl ?_
  refine gr_iload_n (M := gm_Reader_readNumber) dq_Reader_readNumber_148 rfl 3 rfl 149 rfl ?_
  exact gr_ireturn (M := gm_Reader_readNumber) dq_Reader_readNumber_149 hF

def f_Reader_readNumber (a1 : Int) (a2 : Int) (h : gH) : Option gO := if (h 25 5) = 0 then (gb (f_Reader_skipBlanks  h) (fun h2 r3 => gs (gup h2 25 4 (h2 25 3)) (fun h4 => f_Reader_readNumber_L23 a1 a2 (fun v11 h12 => f_Reader_readNumber_J93   a1 a2 v11 h12) 50000 0 h4))) else (some (h, 0))
theorem c_Reader_readNumber {Z : gZ} (hL : gLive Z) (hn : (zL Z).Nodup) {a1 : Int} {a2 : Int}  {h : gH} {o : gO} (hg : gRg h) (ha : gRl [.inr (.inr 25), .inl a1, .inl a2]) (hx : f_Reader_readNumber a1 a2 h = some o) : gC Z gy_Reader_readNumber gc_Reader_readNumber 4 (some .int) 1 22 [.inr (.inr 25), .inl a1, .inl a2] h o := by
  unfold f_Reader_readNumber at hx
  refine gC_of (lv := [(0, .inr (.inr 25)), (1, .inl a1), (2, .inl a2)]) (own := gR_2) (by decide +kernel) rfl (Nat.le_of_ble_eq_true rfl) rfl rfl hn hg ha hx (fun X hZ hF => ?_)
  subst hZ
  show gr _ o gm_Reader_readNumber X h 0 _ _
  refine gr_aload_n (M := gm_Reader_readNumber) dq_Reader_readNumber_0 rfl 0 rfl 1 rfl ?_
  refine gr_geti (M := gm_Reader_readNumber) dq_Reader_readNumber_1 4 rfl gfl_Reader_30 gsh_25 rfl (gli hL gsh_25) ?_
  refine gr_if_eq (M := gm_Reader_readNumber) dq_Reader_readNumber_4 9 7 rfl rfl (fun c1 => ?_) (fun c1 => ?_)
  · refine gr_aload_n (M := gm_Reader_readNumber) dq_Reader_readNumber_9 rfl 0 rfl 10 rfl ?_
    refine gr_callVv (M := gm_Reader_readNumber) (as := []) dq_Reader_readNumber_10 13 rfl rfl gcy_Reader_33 gim_Reader_skipBlanks gse_Reader_skipBlanks ⟨by decide, by decide⟩ (Nat.le_of_ble_eq_true rfl) gsh_25 rfl (gli hL gsh_25) (fun o1 hg ha hx => c_Reader_skipBlanks hL hn  hg ha hx) (fun h2 r3 _ => ?_)
    refine gr_aload_n (M := gm_Reader_readNumber) dq_Reader_readNumber_13 rfl 0 rfl 14 rfl ?_
    refine gr_aload_n (M := gm_Reader_readNumber) dq_Reader_readNumber_14 rfl 0 rfl 15 rfl ?_
    refine gr_geti (M := gm_Reader_readNumber) dq_Reader_readNumber_15 18 rfl gfl_Reader_27 gsh_25 rfl (gli hL gsh_25) ?_
    refine gr_puti (M := gm_Reader_readNumber) dq_Reader_readNumber_18 21 rfl gfp_Reader_109 gsh_25 rfl (gli hL gsh_25) (fun h4 _ => ?_)
    refine gr_iconst (M := gm_Reader_readNumber) (v := 0) dq_Reader_readNumber_21 rfl ⟨by decide, by decide⟩ 22 rfl ?_
    refine gr_istore_n (M := gm_Reader_readNumber) (lv' := [(3, .inl 0), (0, .inr (.inr 25)), (1, .inl a1), (2, .inl a2)]) dq_Reader_readNumber_22 rfl (by decide) rfl 23 rfl ?_
    refine gr_sub (M := gm_Reader_readNumber) (lv' := [(0, .inr (.inr 25)), (1, .inl a1), (2, .inl a2), (3, .inl 0)]) [1, 2, 3, 0] rfl ?_
    refine w_Reader_readNumber_L23 hL hn hF   (fun v11 h12 => ?_) 50000 _ _
    exact w_Reader_readNumber_J93 hL hn hF   
  refine gr_iconst (M := gm_Reader_readNumber) (v := 0) dq_Reader_readNumber_7 rfl ⟨by decide, by decide⟩ 8 rfl ?_
  exact gr_ireturn (M := gm_Reader_readNumber) dq_Reader_readNumber_8 hF

-- Reader_readEnd
theorem dq_Reader_readEnd_0 : decode gc_Reader_readEnd 0 = .ok (.aload_n 0, 1) := by decide +kernel
theorem dq_Reader_readEnd_1 : decode gc_Reader_readEnd 1 = .ok (.getfield 30, 3) := by decide +kernel
theorem dq_Reader_readEnd_4 : decode gc_Reader_readEnd 4 = .ok (.ifCond .eq 4, 3) := by decide +kernel
theorem dq_Reader_readEnd_7 : decode gc_Reader_readEnd 7 = .ok (.return_, 1) := by decide +kernel
theorem dq_Reader_readEnd_8 : decode gc_Reader_readEnd 8 = .ok (.aload_n 0, 1) := by decide +kernel
theorem dq_Reader_readEnd_9 : decode gc_Reader_readEnd 9 = .ok (.invokevirtual 33, 3) := by decide +kernel
theorem dq_Reader_readEnd_12 : decode gc_Reader_readEnd 12 = .ok (.aload_n 0, 1) := by decide +kernel
theorem dq_Reader_readEnd_13 : decode gc_Reader_readEnd 13 = .ok (.getfield 27, 3) := by decide +kernel
theorem dq_Reader_readEnd_16 : decode gc_Reader_readEnd 16 = .ok (.aload_n 0, 1) := by decide +kernel
theorem dq_Reader_readEnd_17 : decode gc_Reader_readEnd 17 = .ok (.getfield 19, 3) := by decide +kernel
theorem dq_Reader_readEnd_20 : decode gc_Reader_readEnd 20 = .ok (.if_icmp .ge 30, 3) := by decide +kernel
theorem dq_Reader_readEnd_23 : decode gc_Reader_readEnd 23 = .ok (.aload_n 0, 1) := by decide +kernel
theorem dq_Reader_readEnd_24 : decode gc_Reader_readEnd 24 = .ok (.getfield 15, 3) := by decide +kernel
theorem dq_Reader_readEnd_27 : decode gc_Reader_readEnd 27 = .ok (.aload_n 0, 1) := by decide +kernel
theorem dq_Reader_readEnd_28 : decode gc_Reader_readEnd 28 = .ok (.getfield 27, 3) := by decide +kernel
theorem dq_Reader_readEnd_31 : decode gc_Reader_readEnd 31 = .ok (.iaload, 1) := by decide +kernel
theorem dq_Reader_readEnd_32 : decode gc_Reader_readEnd 32 = .ok (.bipush 59, 2) := by decide +kernel
theorem dq_Reader_readEnd_34 : decode gc_Reader_readEnd 34 = .ok (.if_icmp .ne 16, 3) := by decide +kernel
theorem dq_Reader_readEnd_37 : decode gc_Reader_readEnd 37 = .ok (.aload_n 0, 1) := by decide +kernel
theorem dq_Reader_readEnd_38 : decode gc_Reader_readEnd 38 = .ok (.dup, 1) := by decide +kernel
theorem dq_Reader_readEnd_39 : decode gc_Reader_readEnd 39 = .ok (.getfield 27, 3) := by decide +kernel
theorem dq_Reader_readEnd_42 : decode gc_Reader_readEnd 42 = .ok (.iconst 1, 1) := by decide +kernel
theorem dq_Reader_readEnd_43 : decode gc_Reader_readEnd 43 = .ok (.iadd, 1) := by decide +kernel
theorem dq_Reader_readEnd_44 : decode gc_Reader_readEnd 44 = .ok (.putfield 27, 3) := by decide +kernel
theorem dq_Reader_readEnd_47 : decode gc_Reader_readEnd 47 = .ok (.goto 12, 3) := by decide +kernel
theorem dq_Reader_readEnd_50 : decode gc_Reader_readEnd 50 = .ok (.aload_n 0, 1) := by decide +kernel
theorem dq_Reader_readEnd_51 : decode gc_Reader_readEnd 51 = .ok (.iconst 1, 1) := by decide +kernel
theorem dq_Reader_readEnd_52 : decode gc_Reader_readEnd 52 = .ok (.aload_n 0, 1) := by decide +kernel
theorem dq_Reader_readEnd_53 : decode gc_Reader_readEnd 53 = .ok (.getfield 27, 3) := by decide +kernel
theorem dq_Reader_readEnd_56 : decode gc_Reader_readEnd 56 = .ok (.invokevirtual 46, 3) := by decide +kernel
theorem dq_Reader_readEnd_59 : decode gc_Reader_readEnd 59 = .ok (.return_, 1) := by decide +kernel
abbrev gm_Reader_readEnd : gM := (gc_Reader_readEnd, gR_2, 1, 22, 1)
def f_Reader_readEnd_J50    (h : gH) : Option gO := gb (f_Reader_fail 1 (h 25 3) h) (fun h5 r6 => some (h5, 0))
theorem w_Reader_readEnd_J50 {o : gO} {X : gX} (hL : gLive (xZ X)) (hn : (zL (xZ X)).Nodup) (hF : gFin X none o)      {h : gH}  : gr (f_Reader_readEnd_J50    h) o gm_Reader_readEnd X h 50 [(0, .inr (.inr 25))] [] := by
  unfold f_Reader_readEnd_J50
  refine gr_aload_n (M := gm_Reader_readEnd) dq_Reader_readEnd_50 rfl 0 rfl 51 rfl ?_
  refine gr_iconst (M := gm_Reader_readEnd) (v := 1) dq_Reader_readEnd_51 rfl ⟨by decide, by decide⟩ 52 rfl ?_
  refine gr_aload_n (M := gm_Reader_readEnd) dq_Reader_readEnd_52 rfl 0 rfl 53 rfl ?_
  refine gr_geti (M := gm_Reader_readEnd) dq_Reader_readEnd_53 56 rfl gfl_Reader_27 gsh_25 rfl (gli hL gsh_25) ?_
  refine gr_callVv (M := gm_Reader_readEnd) (as := [.inl 1, .inl (h 25 3)]) dq_Reader_readEnd_56 59 rfl rfl gcy_Reader_46 gim_Reader_fail gse_Reader_fail ⟨by decide, by decide⟩ (Nat.le_of_ble_eq_true rfl) gsh_25 rfl (gli hL gsh_25) (fun o1 hg ha hx => c_Reader_fail hL hn  hg ha hx) (fun h5 r6 _ => ?_)
  exact gr_return (M := gm_Reader_readEnd) dq_Reader_readEnd_59 hF

def f_Reader_readEnd  (h : gH) : Option gO := if (h 25 5) = 0 then (gb (f_Reader_skipBlanks  h) (fun h2 r3 => if (h2 25 0) ≤ (h2 25 3) then (f_Reader_readEnd_J50    h2) else (gd (gix 250 (h2 25 3)) (if (h2 26 (h2 25 3).toNat) = 59 then (gs (gup h2 25 3 (gadd (h2 25 3) 1)) (fun h8 => some (h8, 0))) else (f_Reader_readEnd_J50    h2))))) else (some (h, 0))
theorem c_Reader_readEnd {Z : gZ} (hL : gLive Z) (hn : (zL Z).Nodup)   {h : gH} {o : gO} (hg : gRg h) (ha : gRl [.inr (.inr 25)]) (hx : f_Reader_readEnd  h = some o) : gC Z gy_Reader_readEnd gc_Reader_readEnd 1 none 1 22 [.inr (.inr 25)] h o := by
  unfold f_Reader_readEnd at hx
  refine gC_of (lv := [(0, .inr (.inr 25))]) (own := gR_2) (by decide +kernel) rfl (Nat.le_of_ble_eq_true rfl) rfl rfl hn hg ha hx (fun X hZ hF => ?_)
  subst hZ
  show gr _ o gm_Reader_readEnd X h 0 _ _
  refine gr_aload_n (M := gm_Reader_readEnd) dq_Reader_readEnd_0 rfl 0 rfl 1 rfl ?_
  refine gr_geti (M := gm_Reader_readEnd) dq_Reader_readEnd_1 4 rfl gfl_Reader_30 gsh_25 rfl (gli hL gsh_25) ?_
  refine gr_if_eq (M := gm_Reader_readEnd) dq_Reader_readEnd_4 8 7 rfl rfl (fun c1 => ?_) (fun c1 => ?_)
  · refine gr_aload_n (M := gm_Reader_readEnd) dq_Reader_readEnd_8 rfl 0 rfl 9 rfl ?_
    refine gr_callVv (M := gm_Reader_readEnd) (as := []) dq_Reader_readEnd_9 12 rfl rfl gcy_Reader_33 gim_Reader_skipBlanks gse_Reader_skipBlanks ⟨by decide, by decide⟩ (Nat.le_of_ble_eq_true rfl) gsh_25 rfl (gli hL gsh_25) (fun o1 hg ha hx => c_Reader_skipBlanks hL hn  hg ha hx) (fun h2 r3 _ => ?_)
    refine gr_aload_n (M := gm_Reader_readEnd) dq_Reader_readEnd_12 rfl 0 rfl 13 rfl ?_
    refine gr_geti (M := gm_Reader_readEnd) dq_Reader_readEnd_13 16 rfl gfl_Reader_27 gsh_25 rfl (gli hL gsh_25) ?_
    refine gr_aload_n (M := gm_Reader_readEnd) dq_Reader_readEnd_16 rfl 0 rfl 17 rfl ?_
    refine gr_geti (M := gm_Reader_readEnd) dq_Reader_readEnd_17 20 rfl gfl_Reader_19 gsh_25 rfl (gli hL gsh_25) ?_
    refine gr_icmp_ge (M := gm_Reader_readEnd) dq_Reader_readEnd_20 50 23 rfl rfl (fun c4 => ?_) (fun c4 => ?_)
    · exact w_Reader_readEnd_J50 hL hn hF   
    refine gr_aload_n (M := gm_Reader_readEnd) dq_Reader_readEnd_23 rfl 0 rfl 24 rfl ?_
    refine gr_getr (M := gm_Reader_readEnd) dq_Reader_readEnd_24 27 rfl gfl_Reader_15 gsh_25 rfl (gli hL gsh_25) 26 rfl ?_
    refine gr_aload_n (M := gm_Reader_readEnd) dq_Reader_readEnd_27 rfl 0 rfl 28 rfl ?_
    refine gr_geti (M := gm_Reader_readEnd) dq_Reader_readEnd_28 31 rfl gfl_Reader_27 gsh_25 rfl (gli hL gsh_25) ?_
    refine gr_iald (M := gm_Reader_readEnd) dq_Reader_readEnd_31 32 rfl gsh_26 (glj hL gsh_26 (by decide)) ?_
    refine gr_bipush (M := gm_Reader_readEnd) (v := 59) dq_Reader_readEnd_32 (by decide) ⟨by decide, by decide⟩ 34 rfl ?_
    refine gr_icmp_ne (M := gm_Reader_readEnd) dq_Reader_readEnd_34 50 37 rfl rfl (fun c7 => ?_) (fun c7 => ?_)
    · exact w_Reader_readEnd_J50 hL hn hF   
    refine gr_aload_n (M := gm_Reader_readEnd) dq_Reader_readEnd_37 rfl 0 rfl 38 rfl ?_
    refine gr_dup (M := gm_Reader_readEnd) dq_Reader_readEnd_38 (fun _ q => by cases q) 39 rfl ?_
    refine gr_geti (M := gm_Reader_readEnd) dq_Reader_readEnd_39 42 rfl gfl_Reader_27 gsh_25 rfl (gli hL gsh_25) ?_
    refine gr_iconst (M := gm_Reader_readEnd) (v := 1) dq_Reader_readEnd_42 rfl ⟨by decide, by decide⟩ 43 rfl ?_
    refine gr_iadd (M := gm_Reader_readEnd) dq_Reader_readEnd_43 44 rfl ?_
    refine gr_puti (M := gm_Reader_readEnd) dq_Reader_readEnd_44 47 rfl gfp_Reader_27 gsh_25 rfl (gli hL gsh_25) (fun h8 _ => ?_)
    refine gr_goto (M := gm_Reader_readEnd) dq_Reader_readEnd_47 59 rfl ?_
    exact gr_return (M := gm_Reader_readEnd) dq_Reader_readEnd_59 hF
  exact gr_return (M := gm_Reader_readEnd) dq_Reader_readEnd_7 hF

-- Reader_readCorners
theorem dq_Reader_readCorners_0 : decode gc_Reader_readCorners 0 = .ok (.aload_n 0, 1) := by decide +kernel
theorem dq_Reader_readCorners_1 : decode gc_Reader_readCorners 1 = .ok (.aload_n 1, 1) := by decide +kernel
theorem dq_Reader_readCorners_2 : decode gc_Reader_readCorners 2 = .ok (.getfield 43, 3) := by decide +kernel
theorem dq_Reader_readCorners_5 : decode gc_Reader_readCorners 5 = .ok (.ifCond .ne 7, 3) := by decide +kernel
theorem dq_Reader_readCorners_8 : decode gc_Reader_readCorners 8 = .ok (.iconst 1, 1) := by decide +kernel
theorem dq_Reader_readCorners_9 : decode gc_Reader_readCorners 9 = .ok (.goto 4, 3) := by decide +kernel
theorem dq_Reader_readCorners_12 : decode gc_Reader_readCorners 12 = .ok (.iconst 0, 1) := by decide +kernel
theorem dq_Reader_readCorners_13 : decode gc_Reader_readCorners 13 = .ok (.invokevirtual 59, 3) := by decide +kernel
theorem dq_Reader_readCorners_16 : decode gc_Reader_readCorners 16 = .ok (.aload_n 0, 1) := by decide +kernel
theorem dq_Reader_readCorners_17 : decode gc_Reader_readCorners 17 = .ok (.iconst 2, 1) := by decide +kernel
theorem dq_Reader_readCorners_18 : decode gc_Reader_readCorners 18 = .ok (.bipush 7, 2) := by decide +kernel
theorem dq_Reader_readCorners_20 : decode gc_Reader_readCorners 20 = .ok (.invokevirtual 63, 3) := by decide +kernel
theorem dq_Reader_readCorners_23 : decode gc_Reader_readCorners 23 = .ok (.istore_n 2, 1) := by decide +kernel
theorem dq_Reader_readCorners_24 : decode gc_Reader_readCorners 24 = .ok (.aload_n 0, 1) := by decide +kernel
theorem dq_Reader_readCorners_25 : decode gc_Reader_readCorners 25 = .ok (.iconst 1, 1) := by decide +kernel
theorem dq_Reader_readCorners_26 : decode gc_Reader_readCorners 26 = .ok (.bipush 60, 2) := by decide +kernel
theorem dq_Reader_readCorners_28 : decode gc_Reader_readCorners 28 = .ok (.invokevirtual 63, 3) := by decide +kernel
theorem dq_Reader_readCorners_31 : decode gc_Reader_readCorners 31 = .ok (.istore_n 3, 1) := by decide +kernel
theorem dq_Reader_readCorners_32 : decode gc_Reader_readCorners 32 = .ok (.aload_n 0, 1) := by decide +kernel
theorem dq_Reader_readCorners_33 : decode gc_Reader_readCorners 33 = .ok (.invokevirtual 67, 3) := by decide +kernel
theorem dq_Reader_readCorners_36 : decode gc_Reader_readCorners 36 = .ok (.aload_n 0, 1) := by decide +kernel
theorem dq_Reader_readCorners_37 : decode gc_Reader_readCorners 37 = .ok (.getfield 30, 3) := by decide +kernel
theorem dq_Reader_readCorners_40 : decode gc_Reader_readCorners 40 = .ok (.ifCond .ne 13, 3) := by decide +kernel
theorem dq_Reader_readCorners_43 : decode gc_Reader_readCorners 43 = .ok (.aload_n 1, 1) := by decide +kernel
theorem dq_Reader_readCorners_44 : decode gc_Reader_readCorners 44 = .ok (.iload_n 2, 1) := by decide +kernel
theorem dq_Reader_readCorners_45 : decode gc_Reader_readCorners 45 = .ok (.putfield 43, 3) := by decide +kernel
theorem dq_Reader_readCorners_48 : decode gc_Reader_readCorners 48 = .ok (.aload_n 1, 1) := by decide +kernel
theorem dq_Reader_readCorners_49 : decode gc_Reader_readCorners 49 = .ok (.iload_n 3, 1) := by decide +kernel
theorem dq_Reader_readCorners_50 : decode gc_Reader_readCorners 50 = .ok (.putfield 70, 3) := by decide +kernel
theorem dq_Reader_readCorners_53 : decode gc_Reader_readCorners 53 = .ok (.return_, 1) := by decide +kernel
abbrev gm_Reader_readCorners : gM := (gc_Reader_readCorners, gR_2, 2, 45, 4)
theorem gfl_Reader_43 : gFl gR_2 43 0 0 := ⟨_, _, _, rfl, by decide, (gtab_at 28 (by decide +kernel) rfl), gin_0⟩
set_option maxRecDepth 20000 in
theorem gcy_Reader_59 : gCy gR_2 59 gy_Reader_takeWord gc_Reader_takeWord 2 none 1 := ⟨(gtab_at 347 (by decide +kernel) rfl), (gtab_at 3 (by decide +kernel) rfl), (gtab_at 350 rfl rfl), by decide, by decide, by decide +kernel⟩
theorem gim_Reader_takeWord : Cond.instanceMethod gy_Reader_takeWord ∈ gtbl := (gtab_at 349 (by decide +kernel) rfl)
theorem gse_Reader_takeWord : Cond.selects gy_Reader_takeWord.cls gy_Reader_takeWord gy_Reader_takeWord ∈ gtbl := (by decide +kernel)
set_option maxRecDepth 20000 in
theorem gcy_Reader_63 : gCy gR_2 63 gy_Reader_readNumber gc_Reader_readNumber 4 (some .int) 2 := ⟨(gtab_at 351 (by decide +kernel) rfl), (gtab_at 3 (by decide +kernel) rfl), (gtab_at 354 rfl rfl), by decide, by decide, by decide +kernel⟩
theorem gim_Reader_readNumber : Cond.instanceMethod gy_Reader_readNumber ∈ gtbl := (gtab_at 353 (by decide +kernel) rfl)
theorem gse_Reader_readNumber : Cond.selects gy_Reader_readNumber.cls gy_Reader_readNumber gy_Reader_readNumber ∈ gtbl := (by decide +kernel)
set_option maxRecDepth 20000 in
theorem gcy_Reader_67 : gCy gR_2 67 gy_Reader_readEnd gc_Reader_readEnd 1 none 0 := ⟨(gtab_at 358 (by decide +kernel) rfl), (gtab_at 3 (by decide +kernel) rfl), (gtab_at 361 rfl rfl), by decide, by decide, by decide +kernel⟩
theorem gim_Reader_readEnd : Cond.instanceMethod gy_Reader_readEnd ∈ gtbl := (gtab_at 360 (by decide +kernel) rfl)
theorem gse_Reader_readEnd : Cond.selects gy_Reader_readEnd.cls gy_Reader_readEnd gy_Reader_readEnd ∈ gtbl := (by decide +kernel)
theorem gfp_Reader_43 : gFp gR_2 43 0 0 .int := ⟨_, _, _, gt_0, rfl, by decide, (gtab_at 28 (by decide +kernel) rfl), gin_0, gto_0, gnm_0, rfl, by decide +kernel⟩
theorem gfp_Reader_70 : gFp gR_2 70 0 1 .int := ⟨_, _, _, gt_0, rfl, by decide, (gtab_at 30 (by decide +kernel) rfl), gin_0, gto_0, gnm_0, rfl, by decide +kernel⟩
def f_Reader_readCorners_J13 (p1 : Nat)  (s1 : Int) (h : gH) : Option gO := gb (f_Reader_takeWord s1 h) (fun h2 r3 => gb (f_Reader_readNumber 2 7 h2) (fun h4 r5 => gb (f_Reader_readNumber 1 60 h4) (fun h6 r7 => gb (f_Reader_readEnd  h6) (fun h8 r9 => if (h8 25 5) = 0 then (gs (gup h8 p1 0 r5) (fun h11 => gs (gup h11 p1 1 r7) (fun h12 => some (h12, 0)))) else (some (h8, 0))))))
theorem w_Reader_readCorners_J13 {o : gO} {X : gX} (hL : gLive (xZ X)) (hn : (zL (xZ X)).Nodup) (hF : gFin X none o) {p1 : Nat} (hp1 : gsh p1 = .inr 0)   {s1 : Int} {h : gH}  : gr (f_Reader_readCorners_J13 p1  s1 h) o gm_Reader_readCorners X h 13 [(0, .inr (.inr 25)), (1, .inr (.inr p1))] [.inl s1, .inr (.inr 25)] := by
  unfold f_Reader_readCorners_J13
  refine gr_callVv (M := gm_Reader_readCorners) (as := [.inl s1]) dq_Reader_readCorners_13 16 rfl rfl gcy_Reader_59 gim_Reader_takeWord gse_Reader_takeWord ⟨by decide, by decide⟩ (Nat.le_of_ble_eq_true rfl) gsh_25 rfl (gli hL gsh_25) (fun o1 hg ha hx => c_Reader_takeWord hL hn  hg ha hx) (fun h2 r3 _ => ?_)
  refine gr_aload_n (M := gm_Reader_readCorners) dq_Reader_readCorners_16 rfl 0 rfl 17 rfl ?_
  refine gr_iconst (M := gm_Reader_readCorners) (v := 2) dq_Reader_readCorners_17 rfl ⟨by decide, by decide⟩ 18 rfl ?_
  refine gr_bipush (M := gm_Reader_readCorners) (v := 7) dq_Reader_readCorners_18 (by decide) ⟨by decide, by decide⟩ 20 rfl ?_
  refine gr_callVi (M := gm_Reader_readCorners) (as := [.inl 2, .inl 7]) dq_Reader_readCorners_20 23 rfl rfl gcy_Reader_63 gim_Reader_readNumber gse_Reader_readNumber ⟨by decide, by decide⟩ (Nat.le_of_ble_eq_true rfl) gsh_25 rfl (gli hL gsh_25) (fun o1 hg ha hx => c_Reader_readNumber hL hn  hg ha hx) (fun h4 r5 _ => ?_)
  refine gr_istore_n (M := gm_Reader_readCorners) (lv' := [(2, .inl r5), (0, .inr (.inr 25)), (1, .inr (.inr p1))]) dq_Reader_readCorners_23 rfl (by decide) rfl 24 rfl ?_
  refine gr_aload_n (M := gm_Reader_readCorners) dq_Reader_readCorners_24 rfl 1 rfl 25 rfl ?_
  refine gr_iconst (M := gm_Reader_readCorners) (v := 1) dq_Reader_readCorners_25 rfl ⟨by decide, by decide⟩ 26 rfl ?_
  refine gr_bipush (M := gm_Reader_readCorners) (v := 60) dq_Reader_readCorners_26 (by decide) ⟨by decide, by decide⟩ 28 rfl ?_
  refine gr_callVi (M := gm_Reader_readCorners) (as := [.inl 1, .inl 60]) dq_Reader_readCorners_28 31 rfl rfl gcy_Reader_63 gim_Reader_readNumber gse_Reader_readNumber ⟨by decide, by decide⟩ (Nat.le_of_ble_eq_true rfl) gsh_25 rfl (gli hL gsh_25) (fun o1 hg ha hx => c_Reader_readNumber hL hn  hg ha hx) (fun h6 r7 _ => ?_)
  refine gr_istore_n (M := gm_Reader_readCorners) (lv' := [(3, .inl r7), (2, .inl r5), (0, .inr (.inr 25)), (1, .inr (.inr p1))]) dq_Reader_readCorners_31 rfl (by decide) rfl 32 rfl ?_
  refine gr_aload_n (M := gm_Reader_readCorners) dq_Reader_readCorners_32 rfl 2 rfl 33 rfl ?_
  refine gr_callVv (M := gm_Reader_readCorners) (as := []) dq_Reader_readCorners_33 36 rfl rfl gcy_Reader_67 gim_Reader_readEnd gse_Reader_readEnd ⟨by decide, by decide⟩ (Nat.le_of_ble_eq_true rfl) gsh_25 rfl (gli hL gsh_25) (fun o1 hg ha hx => c_Reader_readEnd hL hn  hg ha hx) (fun h8 r9 _ => ?_)
  refine gr_aload_n (M := gm_Reader_readCorners) dq_Reader_readCorners_36 rfl 2 rfl 37 rfl ?_
  refine gr_geti (M := gm_Reader_readCorners) dq_Reader_readCorners_37 40 rfl gfl_Reader_30 gsh_25 rfl (gli hL gsh_25) ?_
  refine gr_if_ne (M := gm_Reader_readCorners) dq_Reader_readCorners_40 53 43 rfl rfl (fun c10 => ?_) (fun c10 => ?_)
  · exact gr_return (M := gm_Reader_readCorners) dq_Reader_readCorners_53 hF
  refine gr_aload_n (M := gm_Reader_readCorners) dq_Reader_readCorners_43 rfl 3 rfl 44 rfl ?_
  refine gr_iload_n (M := gm_Reader_readCorners) dq_Reader_readCorners_44 rfl 1 rfl 45 rfl ?_
  refine gr_puti (M := gm_Reader_readCorners) dq_Reader_readCorners_45 48 rfl gfp_Reader_43 hp1 rfl (gli hL hp1) (fun h11 _ => ?_)
  refine gr_aload_n (M := gm_Reader_readCorners) dq_Reader_readCorners_48 rfl 3 rfl 49 rfl ?_
  refine gr_iload_n (M := gm_Reader_readCorners) dq_Reader_readCorners_49 rfl 0 rfl 50 rfl ?_
  refine gr_puti (M := gm_Reader_readCorners) dq_Reader_readCorners_50 53 rfl gfp_Reader_70 hp1 rfl (gli hL hp1) (fun h12 _ => ?_)
  exact gr_return (M := gm_Reader_readCorners) dq_Reader_readCorners_53 hF

def f_Reader_readCorners (p1 : Nat) (h : gH) : Option gO := if (h p1 0) = 0 then (f_Reader_readCorners_J13 p1  1 h) else (f_Reader_readCorners_J13 p1  0 h)
theorem c_Reader_readCorners {Z : gZ} (hL : gLive Z) (hn : (zL Z).Nodup) {p1 : Nat} (hp1 : gsh p1 = .inr 0) {h : gH} {o : gO} (hg : gRg h) (ha : gRl [.inr (.inr 25), .inr (.inr p1)]) (hx : f_Reader_readCorners p1 h = some o) : gC Z gy_Reader_readCorners gc_Reader_readCorners 4 none 2 45 [.inr (.inr 25), .inr (.inr p1)] h o := by
  unfold f_Reader_readCorners at hx
  refine gC_of (lv := [(0, .inr (.inr 25)), (1, .inr (.inr p1))]) (own := gR_2) (by decide +kernel) rfl (Nat.le_of_ble_eq_true rfl) rfl rfl hn hg ha hx (fun X hZ hF => ?_)
  subst hZ
  show gr _ o gm_Reader_readCorners X h 0 _ _
  refine gr_aload_n (M := gm_Reader_readCorners) dq_Reader_readCorners_0 rfl 0 rfl 1 rfl ?_
  refine gr_aload_n (M := gm_Reader_readCorners) dq_Reader_readCorners_1 rfl 1 rfl 2 rfl ?_
  refine gr_geti (M := gm_Reader_readCorners) dq_Reader_readCorners_2 5 rfl gfl_Reader_43 hp1 rfl (gli hL hp1) ?_
  refine gr_if_ne (M := gm_Reader_readCorners) dq_Reader_readCorners_5 12 8 rfl rfl (fun c1 => ?_) (fun c1 => ?_)
  · refine gr_iconst (M := gm_Reader_readCorners) (v := 0) dq_Reader_readCorners_12 rfl ⟨by decide, by decide⟩ 13 rfl ?_
    exact w_Reader_readCorners_J13 hL hn hF hp1  
  refine gr_iconst (M := gm_Reader_readCorners) (v := 1) dq_Reader_readCorners_8 rfl ⟨by decide, by decide⟩ 9 rfl ?_
  refine gr_goto (M := gm_Reader_readCorners) dq_Reader_readCorners_9 13 rfl ?_
  exact w_Reader_readCorners_J13 hL hn hF hp1  

-- Reader_readOther
theorem dq_Reader_readOther_0 : decode gc_Reader_readOther 0 = .ok (.aload_n 0, 1) := by decide +kernel
theorem dq_Reader_readOther_1 : decode gc_Reader_readOther 1 = .ok (.iconst 0, 1) := by decide +kernel
theorem dq_Reader_readOther_2 : decode gc_Reader_readOther 2 = .ok (.iload_n 2, 1) := by decide +kernel
theorem dq_Reader_readOther_3 : decode gc_Reader_readOther 3 = .ok (.iconst 1, 1) := by decide +kernel
theorem dq_Reader_readOther_4 : decode gc_Reader_readOther 4 = .ok (.isub, 1) := by decide +kernel
theorem dq_Reader_readOther_5 : decode gc_Reader_readOther 5 = .ok (.invokevirtual 63, 3) := by decide +kernel
theorem dq_Reader_readOther_8 : decode gc_Reader_readOther 8 = .ok (.istore_n 3, 1) := by decide +kernel
theorem dq_Reader_readOther_9 : decode gc_Reader_readOther 9 = .ok (.aload_n 0, 1) := by decide +kernel
theorem dq_Reader_readOther_10 : decode gc_Reader_readOther 10 = .ok (.getfield 30, 3) := by decide +kernel
theorem dq_Reader_readOther_13 : decode gc_Reader_readOther 13 = .ok (.ifCond .ne 17, 3) := by decide +kernel
theorem dq_Reader_readOther_16 : decode gc_Reader_readOther 16 = .ok (.iload_n 3, 1) := by decide +kernel
theorem dq_Reader_readOther_17 : decode gc_Reader_readOther 17 = .ok (.iload_n 1, 1) := by decide +kernel
theorem dq_Reader_readOther_18 : decode gc_Reader_readOther 18 = .ok (.if_icmp .ne 12, 3) := by decide +kernel
theorem dq_Reader_readOther_21 : decode gc_Reader_readOther 21 = .ok (.aload_n 0, 1) := by decide +kernel
theorem dq_Reader_readOther_22 : decode gc_Reader_readOther 22 = .ok (.iconst 4, 1) := by decide +kernel
theorem dq_Reader_readOther_23 : decode gc_Reader_readOther 23 = .ok (.aload_n 0, 1) := by decide +kernel
theorem dq_Reader_readOther_24 : decode gc_Reader_readOther 24 = .ok (.getfield 109, 3) := by decide +kernel
theorem dq_Reader_readOther_27 : decode gc_Reader_readOther 27 = .ok (.invokevirtual 46, 3) := by decide +kernel
theorem dq_Reader_readOther_30 : decode gc_Reader_readOther 30 = .ok (.iload_n 3, 1) := by decide +kernel
theorem dq_Reader_readOther_31 : decode gc_Reader_readOther 31 = .ok (.ireturn, 1) := by decide +kernel
abbrev gm_Reader_readOther : gM := (gc_Reader_readOther, gR_2, 2, 45, 4)
def f_Reader_readOther (a1 : Int) (a2 : Int) (h : gH) : Option gO := gb (f_Reader_readNumber 0 (gsub a2 1) h) (fun h1 r2 => if (h1 25 5) = 0 then (if r2 = a1 then (gb (f_Reader_fail 4 (h1 25 4) h1) (fun h5 r6 => some (h5, r2))) else (some (h1, r2))) else (some (h1, r2)))
theorem c_Reader_readOther {Z : gZ} (hL : gLive Z) (hn : (zL Z).Nodup) {a1 : Int} {a2 : Int}  {h : gH} {o : gO} (hg : gRg h) (ha : gRl [.inr (.inr 25), .inl a1, .inl a2]) (hx : f_Reader_readOther a1 a2 h = some o) : gC Z gy_Reader_readOther gc_Reader_readOther 4 (some .int) 2 45 [.inr (.inr 25), .inl a1, .inl a2] h o := by
  unfold f_Reader_readOther at hx
  refine gC_of (lv := [(0, .inr (.inr 25)), (1, .inl a1), (2, .inl a2)]) (own := gR_2) (by decide +kernel) rfl (Nat.le_of_ble_eq_true rfl) rfl rfl hn hg ha hx (fun X hZ hF => ?_)
  subst hZ
  show gr _ o gm_Reader_readOther X h 0 _ _
  refine gr_aload_n (M := gm_Reader_readOther) dq_Reader_readOther_0 rfl 0 rfl 1 rfl ?_
  refine gr_iconst (M := gm_Reader_readOther) (v := 0) dq_Reader_readOther_1 rfl ⟨by decide, by decide⟩ 2 rfl ?_
  refine gr_iload_n (M := gm_Reader_readOther) dq_Reader_readOther_2 rfl 2 rfl 3 rfl ?_
  refine gr_iconst (M := gm_Reader_readOther) (v := 1) dq_Reader_readOther_3 rfl ⟨by decide, by decide⟩ 4 rfl ?_
  refine gr_isub (M := gm_Reader_readOther) dq_Reader_readOther_4 5 rfl ?_
  refine gr_callVi (M := gm_Reader_readOther) (as := [.inl 0, .inl (gsub a2 1)]) dq_Reader_readOther_5 8 rfl rfl gcy_Reader_63 gim_Reader_readNumber gse_Reader_readNumber ⟨by decide, by decide⟩ (Nat.le_of_ble_eq_true rfl) gsh_25 rfl (gli hL gsh_25) (fun o1 hg ha hx => c_Reader_readNumber hL hn  hg ha hx) (fun h1 r2 _ => ?_)
  refine gr_istore_n (M := gm_Reader_readOther) (lv' := [(3, .inl r2), (0, .inr (.inr 25)), (1, .inl a1), (2, .inl a2)]) dq_Reader_readOther_8 rfl (by decide) rfl 9 rfl ?_
  refine gr_aload_n (M := gm_Reader_readOther) dq_Reader_readOther_9 rfl 1 rfl 10 rfl ?_
  refine gr_geti (M := gm_Reader_readOther) dq_Reader_readOther_10 13 rfl gfl_Reader_30 gsh_25 rfl (gli hL gsh_25) ?_
  refine gr_if_ne (M := gm_Reader_readOther) dq_Reader_readOther_13 30 16 rfl rfl (fun c3 => ?_) (fun c3 => ?_)
  · refine gr_iload_n (M := gm_Reader_readOther) dq_Reader_readOther_30 rfl 0 rfl 31 rfl ?_
    exact gr_ireturn (M := gm_Reader_readOther) dq_Reader_readOther_31 hF
  refine gr_iload_n (M := gm_Reader_readOther) dq_Reader_readOther_16 rfl 0 rfl 17 rfl ?_
  refine gr_iload_n (M := gm_Reader_readOther) dq_Reader_readOther_17 rfl 2 rfl 18 rfl ?_
  refine gr_icmp_ne (M := gm_Reader_readOther) dq_Reader_readOther_18 30 21 rfl rfl (fun c4 => ?_) (fun c4 => ?_)
  · refine gr_iload_n (M := gm_Reader_readOther) dq_Reader_readOther_30 rfl 0 rfl 31 rfl ?_
    exact gr_ireturn (M := gm_Reader_readOther) dq_Reader_readOther_31 hF
  refine gr_aload_n (M := gm_Reader_readOther) dq_Reader_readOther_21 rfl 1 rfl 22 rfl ?_
  refine gr_iconst (M := gm_Reader_readOther) (v := 4) dq_Reader_readOther_22 rfl ⟨by decide, by decide⟩ 23 rfl ?_
  refine gr_aload_n (M := gm_Reader_readOther) dq_Reader_readOther_23 rfl 1 rfl 24 rfl ?_
  refine gr_geti (M := gm_Reader_readOther) dq_Reader_readOther_24 27 rfl gfl_Reader_109 gsh_25 rfl (gli hL gsh_25) ?_
  refine gr_callVv (M := gm_Reader_readOther) (as := [.inl 4, .inl (h1 25 4)]) dq_Reader_readOther_27 30 rfl rfl gcy_Reader_46 gim_Reader_fail gse_Reader_fail ⟨by decide, by decide⟩ (Nat.le_of_ble_eq_true rfl) gsh_25 rfl (gli hL gsh_25) (fun o1 hg ha hx => c_Reader_fail hL hn  hg ha hx) (fun h5 r6 _ => ?_)
  refine gr_iload_n (M := gm_Reader_readOther) dq_Reader_readOther_30 rfl 0 rfl 31 rfl ?_
  exact gr_ireturn (M := gm_Reader_readOther) dq_Reader_readOther_31 hF

-- Reader_readStreet
theorem dq_Reader_readStreet_0 : decode gc_Reader_readStreet 0 = .ok (.aload_n 1, 1) := by decide +kernel
theorem dq_Reader_readStreet_1 : decode gc_Reader_readStreet 1 = .ok (.getfield 73, 3) := by decide +kernel
theorem dq_Reader_readStreet_4 : decode gc_Reader_readStreet 4 = .ok (.istore_n 2, 1) := by decide +kernel
theorem dq_Reader_readStreet_5 : decode gc_Reader_readStreet 5 = .ok (.aload_n 0, 1) := by decide +kernel
theorem dq_Reader_readStreet_6 : decode gc_Reader_readStreet 6 = .ok (.iload_n 2, 1) := by decide +kernel
theorem dq_Reader_readStreet_7 : decode gc_Reader_readStreet 7 = .ok (.bipush 9, 2) := by decide +kernel
theorem dq_Reader_readStreet_9 : decode gc_Reader_readStreet 9 = .ok (.if_icmp .ge 7, 3) := by decide +kernel
theorem dq_Reader_readStreet_12 : decode gc_Reader_readStreet 12 = .ok (.iconst 1, 1) := by decide +kernel
theorem dq_Reader_readStreet_13 : decode gc_Reader_readStreet 13 = .ok (.goto 4, 3) := by decide +kernel
theorem dq_Reader_readStreet_16 : decode gc_Reader_readStreet 16 = .ok (.iconst 0, 1) := by decide +kernel
theorem dq_Reader_readStreet_17 : decode gc_Reader_readStreet 17 = .ok (.invokevirtual 59, 3) := by decide +kernel
theorem dq_Reader_readStreet_20 : decode gc_Reader_readStreet 20 = .ok (.aload_n 0, 1) := by decide +kernel
theorem dq_Reader_readStreet_21 : decode gc_Reader_readStreet 21 = .ok (.iconst 0, 1) := by decide +kernel
theorem dq_Reader_readStreet_22 : decode gc_Reader_readStreet 22 = .ok (.aload_n 1, 1) := by decide +kernel
theorem dq_Reader_readStreet_23 : decode gc_Reader_readStreet 23 = .ok (.getfield 43, 3) := by decide +kernel
theorem dq_Reader_readStreet_26 : decode gc_Reader_readStreet 26 = .ok (.iconst 1, 1) := by decide +kernel
theorem dq_Reader_readStreet_27 : decode gc_Reader_readStreet 27 = .ok (.isub, 1) := by decide +kernel
theorem dq_Reader_readStreet_28 : decode gc_Reader_readStreet 28 = .ok (.invokevirtual 63, 3) := by decide +kernel
theorem dq_Reader_readStreet_31 : decode gc_Reader_readStreet 31 = .ok (.istore_n 3, 1) := by decide +kernel
theorem dq_Reader_readStreet_32 : decode gc_Reader_readStreet 32 = .ok (.aload_n 0, 1) := by decide +kernel
theorem dq_Reader_readStreet_33 : decode gc_Reader_readStreet 33 = .ok (.iload_n 3, 1) := by decide +kernel
theorem dq_Reader_readStreet_34 : decode gc_Reader_readStreet 34 = .ok (.aload_n 1, 1) := by decide +kernel
theorem dq_Reader_readStreet_35 : decode gc_Reader_readStreet 35 = .ok (.getfield 43, 3) := by decide +kernel
theorem dq_Reader_readStreet_38 : decode gc_Reader_readStreet 38 = .ok (.invokevirtual 76, 3) := by decide +kernel
theorem dq_Reader_readStreet_41 : decode gc_Reader_readStreet 41 = .ok (.istore 4, 2) := by decide +kernel
theorem dq_Reader_readStreet_43 : decode gc_Reader_readStreet 43 = .ok (.aload_n 0, 1) := by decide +kernel
theorem dq_Reader_readStreet_44 : decode gc_Reader_readStreet 44 = .ok (.iconst 1, 1) := by decide +kernel
theorem dq_Reader_readStreet_45 : decode gc_Reader_readStreet 45 = .ok (.bipush 9, 2) := by decide +kernel
theorem dq_Reader_readStreet_47 : decode gc_Reader_readStreet 47 = .ok (.invokevirtual 63, 3) := by decide +kernel
theorem dq_Reader_readStreet_50 : decode gc_Reader_readStreet 50 = .ok (.istore 5, 2) := by decide +kernel
theorem dq_Reader_readStreet_52 : decode gc_Reader_readStreet 52 = .ok (.aload_n 0, 1) := by decide +kernel
theorem dq_Reader_readStreet_53 : decode gc_Reader_readStreet 53 = .ok (.iconst 0, 1) := by decide +kernel
theorem dq_Reader_readStreet_54 : decode gc_Reader_readStreet 54 = .ok (.iconst 4, 1) := by decide +kernel
theorem dq_Reader_readStreet_55 : decode gc_Reader_readStreet 55 = .ok (.invokevirtual 63, 3) := by decide +kernel
theorem dq_Reader_readStreet_58 : decode gc_Reader_readStreet 58 = .ok (.istore 6, 2) := by decide +kernel
theorem dq_Reader_readStreet_60 : decode gc_Reader_readStreet 60 = .ok (.aload_n 0, 1) := by decide +kernel
theorem dq_Reader_readStreet_61 : decode gc_Reader_readStreet 61 = .ok (.invokevirtual 67, 3) := by decide +kernel
theorem dq_Reader_readStreet_64 : decode gc_Reader_readStreet 64 = .ok (.aload_n 0, 1) := by decide +kernel
theorem dq_Reader_readStreet_65 : decode gc_Reader_readStreet 65 = .ok (.getfield 30, 3) := by decide +kernel
theorem dq_Reader_readStreet_68 : decode gc_Reader_readStreet 68 = .ok (.ifCond .ne 41, 3) := by decide +kernel
theorem dq_Reader_readStreet_71 : decode gc_Reader_readStreet 71 = .ok (.aload_n 1, 1) := by decide +kernel
theorem dq_Reader_readStreet_72 : decode gc_Reader_readStreet 72 = .ok (.getfield 79, 3) := by decide +kernel
theorem dq_Reader_readStreet_75 : decode gc_Reader_readStreet 75 = .ok (.iload_n 2, 1) := by decide +kernel
theorem dq_Reader_readStreet_76 : decode gc_Reader_readStreet 76 = .ok (.iload_n 3, 1) := by decide +kernel
theorem dq_Reader_readStreet_77 : decode gc_Reader_readStreet 77 = .ok (.iastore, 1) := by decide +kernel
theorem dq_Reader_readStreet_78 : decode gc_Reader_readStreet 78 = .ok (.aload_n 1, 1) := by decide +kernel
theorem dq_Reader_readStreet_79 : decode gc_Reader_readStreet 79 = .ok (.getfield 82, 3) := by decide +kernel
theorem dq_Reader_readStreet_82 : decode gc_Reader_readStreet 82 = .ok (.iload_n 2, 1) := by decide +kernel
theorem dq_Reader_readStreet_83 : decode gc_Reader_readStreet 83 = .ok (.iload 4, 2) := by decide +kernel
theorem dq_Reader_readStreet_85 : decode gc_Reader_readStreet 85 = .ok (.iastore, 1) := by decide +kernel
theorem dq_Reader_readStreet_86 : decode gc_Reader_readStreet 86 = .ok (.aload_n 1, 1) := by decide +kernel
theorem dq_Reader_readStreet_87 : decode gc_Reader_readStreet 87 = .ok (.getfield 85, 3) := by decide +kernel
theorem dq_Reader_readStreet_90 : decode gc_Reader_readStreet 90 = .ok (.iload_n 2, 1) := by decide +kernel
theorem dq_Reader_readStreet_91 : decode gc_Reader_readStreet 91 = .ok (.iload 5, 2) := by decide +kernel
theorem dq_Reader_readStreet_93 : decode gc_Reader_readStreet 93 = .ok (.iastore, 1) := by decide +kernel
theorem dq_Reader_readStreet_94 : decode gc_Reader_readStreet 94 = .ok (.aload_n 1, 1) := by decide +kernel
theorem dq_Reader_readStreet_95 : decode gc_Reader_readStreet 95 = .ok (.getfield 88, 3) := by decide +kernel
theorem dq_Reader_readStreet_98 : decode gc_Reader_readStreet 98 = .ok (.iload_n 2, 1) := by decide +kernel
theorem dq_Reader_readStreet_99 : decode gc_Reader_readStreet 99 = .ok (.iload 6, 2) := by decide +kernel
theorem dq_Reader_readStreet_101 : decode gc_Reader_readStreet 101 = .ok (.iastore, 1) := by decide +kernel
theorem dq_Reader_readStreet_102 : decode gc_Reader_readStreet 102 = .ok (.aload_n 1, 1) := by decide +kernel
theorem dq_Reader_readStreet_103 : decode gc_Reader_readStreet 103 = .ok (.iload_n 2, 1) := by decide +kernel
theorem dq_Reader_readStreet_104 : decode gc_Reader_readStreet 104 = .ok (.iconst 1, 1) := by decide +kernel
theorem dq_Reader_readStreet_105 : decode gc_Reader_readStreet 105 = .ok (.iadd, 1) := by decide +kernel
theorem dq_Reader_readStreet_106 : decode gc_Reader_readStreet 106 = .ok (.putfield 73, 3) := by decide +kernel
theorem dq_Reader_readStreet_109 : decode gc_Reader_readStreet 109 = .ok (.return_, 1) := by decide +kernel
abbrev gm_Reader_readStreet : gM := (gc_Reader_readStreet, gR_2, 3, 68, 7)
theorem gfl_Reader_73 : gFl gR_2 73 0 2 := ⟨_, _, _, rfl, by decide, (gtab_at 38 (by decide +kernel) rfl), gin_0⟩
set_option maxRecDepth 20000 in
theorem gcy_Reader_76 : gCy gR_2 76 gy_Reader_readOther gc_Reader_readOther 4 (some .int) 2 := ⟨(gtab_at 366 (by decide +kernel) rfl), (gtab_at 3 (by decide +kernel) rfl), (gtab_at 369 rfl rfl), by decide, by decide, by decide +kernel⟩
theorem gim_Reader_readOther : Cond.instanceMethod gy_Reader_readOther ∈ gtbl := (gtab_at 368 (by decide +kernel) rfl)
theorem gse_Reader_readOther : Cond.selects gy_Reader_readOther.cls gy_Reader_readOther gy_Reader_readOther ∈ gtbl := (by decide +kernel)
theorem gfl_Reader_79 : gFl gR_2 79 0 4 := ⟨_, _, _, rfl, by decide, (gtab_at 46 (by decide +kernel) rfl), gin_0⟩
theorem gfl_Reader_82 : gFl gR_2 82 0 5 := ⟨_, _, _, rfl, by decide, (gtab_at 51 (by decide +kernel) rfl), gin_0⟩
theorem gfl_Reader_85 : gFl gR_2 85 0 6 := ⟨_, _, _, rfl, by decide, (gtab_at 56 (by decide +kernel) rfl), gin_0⟩
theorem gfl_Reader_88 : gFl gR_2 88 0 7 := ⟨_, _, _, rfl, by decide, (gtab_at 61 (by decide +kernel) rfl), gin_0⟩
theorem gfp_Reader_73 : gFp gR_2 73 0 2 .int := ⟨_, _, _, gt_0, rfl, by decide, (gtab_at 38 (by decide +kernel) rfl), gin_0, gto_0, gnm_0, rfl, by decide +kernel⟩
def f_Reader_readStreet_J17 (p1 : Nat)  (v2 : Int) (s1 : Int) (h : gH) : Option gO := gb (f_Reader_takeWord s1 h) (fun h2 r3 => gb (f_Reader_readNumber 0 (gsub (h2 p1 0) 1) h2) (fun h4 r5 => gb (f_Reader_readOther r5 (h4 p1 0) h4) (fun h6 r7 => gb (f_Reader_readNumber 1 9 h6) (fun h8 r9 => gb (f_Reader_readNumber 0 4 h8) (fun h10 r11 => gb (f_Reader_readEnd  h10) (fun h12 r13 => if (h12 25 5) = 0 then (gd (gix 9 v2) (gs (gup h12 (p1 + 1) v2.toNat r5) (fun h15 => gd (gix 9 v2) (gs (gup h15 (p1 + 2) v2.toNat r7) (fun h16 => gd (gix 9 v2) (gs (gup h16 (p1 + 3) v2.toNat r9) (fun h17 => gd (gix 9 v2) (gs (gup h17 (p1 + 4) v2.toNat r11) (fun h18 => gs (gup h18 p1 2 (gadd v2 1)) (fun h19 => some (h19, 0))))))))))) else (some (h12, 0))))))))
theorem w_Reader_readStreet_J17 {o : gO} {X : gX} (hL : gLive (xZ X)) (hn : (zL (xZ X)).Nodup) (hF : gFin X none o) {p1 : Nat} (hp1 : gsh p1 = .inr 0)   {v2 : Int} {s1 : Int} {h : gH}  : gr (f_Reader_readStreet_J17 p1  v2 s1 h) o gm_Reader_readStreet X h 17 [(0, .inr (.inr 25)), (1, .inr (.inr p1)), (2, .inl v2)] [.inl s1, .inr (.inr 25)] := by
  unfold f_Reader_readStreet_J17
  refine gr_callVv (M := gm_Reader_readStreet) (as := [.inl s1]) dq_Reader_readStreet_17 20 rfl rfl gcy_Reader_59 gim_Reader_takeWord gse_Reader_takeWord ⟨by decide, by decide⟩ (Nat.le_of_ble_eq_true rfl) gsh_25 rfl (gli hL gsh_25) (fun o1 hg ha hx => c_Reader_takeWord hL hn  hg ha hx) (fun h2 r3 _ => ?_)
  refine gr_aload_n (M := gm_Reader_readStreet) dq_Reader_readStreet_20 rfl 0 rfl 21 rfl ?_
  refine gr_iconst (M := gm_Reader_readStreet) (v := 0) dq_Reader_readStreet_21 rfl ⟨by decide, by decide⟩ 22 rfl ?_
  refine gr_aload_n (M := gm_Reader_readStreet) dq_Reader_readStreet_22 rfl 1 rfl 23 rfl ?_
  refine gr_geti (M := gm_Reader_readStreet) dq_Reader_readStreet_23 26 rfl gfl_Reader_43 hp1 rfl (gli hL hp1) ?_
  refine gr_iconst (M := gm_Reader_readStreet) (v := 1) dq_Reader_readStreet_26 rfl ⟨by decide, by decide⟩ 27 rfl ?_
  refine gr_isub (M := gm_Reader_readStreet) dq_Reader_readStreet_27 28 rfl ?_
  refine gr_callVi (M := gm_Reader_readStreet) (as := [.inl 0, .inl (gsub (h2 p1 0) 1)]) dq_Reader_readStreet_28 31 rfl rfl gcy_Reader_63 gim_Reader_readNumber gse_Reader_readNumber ⟨by decide, by decide⟩ (Nat.le_of_ble_eq_true rfl) gsh_25 rfl (gli hL gsh_25) (fun o1 hg ha hx => c_Reader_readNumber hL hn  hg ha hx) (fun h4 r5 _ => ?_)
  refine gr_istore_n (M := gm_Reader_readStreet) (lv' := [(3, .inl r5), (0, .inr (.inr 25)), (1, .inr (.inr p1)), (2, .inl v2)]) dq_Reader_readStreet_31 rfl (by decide) rfl 32 rfl ?_
  refine gr_aload_n (M := gm_Reader_readStreet) dq_Reader_readStreet_32 rfl 1 rfl 33 rfl ?_
  refine gr_iload_n (M := gm_Reader_readStreet) dq_Reader_readStreet_33 rfl 0 rfl 34 rfl ?_
  refine gr_aload_n (M := gm_Reader_readStreet) dq_Reader_readStreet_34 rfl 2 rfl 35 rfl ?_
  refine gr_geti (M := gm_Reader_readStreet) dq_Reader_readStreet_35 38 rfl gfl_Reader_43 hp1 rfl (gli hL hp1) ?_
  refine gr_callVi (M := gm_Reader_readStreet) (as := [.inl r5, .inl (h4 p1 0)]) dq_Reader_readStreet_38 41 rfl rfl gcy_Reader_76 gim_Reader_readOther gse_Reader_readOther ⟨by decide, by decide⟩ (Nat.le_of_ble_eq_true rfl) gsh_25 rfl (gli hL gsh_25) (fun o1 hg ha hx => c_Reader_readOther hL hn  hg ha hx) (fun h6 r7 _ => ?_)
  refine gr_istore (M := gm_Reader_readStreet) (kk := 0) (lv' := [(4, .inl r7), (3, .inl r5), (0, .inr (.inr 25)), (1, .inr (.inr p1)), (2, .inl v2)]) dq_Reader_readStreet_41 (by decide) rfl 43 rfl ?_
  refine gr_aload_n (M := gm_Reader_readStreet) dq_Reader_readStreet_43 rfl 2 rfl 44 rfl ?_
  refine gr_iconst (M := gm_Reader_readStreet) (v := 1) dq_Reader_readStreet_44 rfl ⟨by decide, by decide⟩ 45 rfl ?_
  refine gr_bipush (M := gm_Reader_readStreet) (v := 9) dq_Reader_readStreet_45 (by decide) ⟨by decide, by decide⟩ 47 rfl ?_
  refine gr_callVi (M := gm_Reader_readStreet) (as := [.inl 1, .inl 9]) dq_Reader_readStreet_47 50 rfl rfl gcy_Reader_63 gim_Reader_readNumber gse_Reader_readNumber ⟨by decide, by decide⟩ (Nat.le_of_ble_eq_true rfl) gsh_25 rfl (gli hL gsh_25) (fun o1 hg ha hx => c_Reader_readNumber hL hn  hg ha hx) (fun h8 r9 _ => ?_)
  refine gr_istore (M := gm_Reader_readStreet) (kk := 0) (lv' := [(5, .inl r9), (4, .inl r7), (3, .inl r5), (0, .inr (.inr 25)), (1, .inr (.inr p1)), (2, .inl v2)]) dq_Reader_readStreet_50 (by decide) rfl 52 rfl ?_
  refine gr_aload_n (M := gm_Reader_readStreet) dq_Reader_readStreet_52 rfl 3 rfl 53 rfl ?_
  refine gr_iconst (M := gm_Reader_readStreet) (v := 0) dq_Reader_readStreet_53 rfl ⟨by decide, by decide⟩ 54 rfl ?_
  refine gr_iconst (M := gm_Reader_readStreet) (v := 4) dq_Reader_readStreet_54 rfl ⟨by decide, by decide⟩ 55 rfl ?_
  refine gr_callVi (M := gm_Reader_readStreet) (as := [.inl 0, .inl 4]) dq_Reader_readStreet_55 58 rfl rfl gcy_Reader_63 gim_Reader_readNumber gse_Reader_readNumber ⟨by decide, by decide⟩ (Nat.le_of_ble_eq_true rfl) gsh_25 rfl (gli hL gsh_25) (fun o1 hg ha hx => c_Reader_readNumber hL hn  hg ha hx) (fun h10 r11 _ => ?_)
  refine gr_istore (M := gm_Reader_readStreet) (kk := 0) (lv' := [(6, .inl r11), (5, .inl r9), (4, .inl r7), (3, .inl r5), (0, .inr (.inr 25)), (1, .inr (.inr p1)), (2, .inl v2)]) dq_Reader_readStreet_58 (by decide) rfl 60 rfl ?_
  refine gr_aload_n (M := gm_Reader_readStreet) dq_Reader_readStreet_60 rfl 4 rfl 61 rfl ?_
  refine gr_callVv (M := gm_Reader_readStreet) (as := []) dq_Reader_readStreet_61 64 rfl rfl gcy_Reader_67 gim_Reader_readEnd gse_Reader_readEnd ⟨by decide, by decide⟩ (Nat.le_of_ble_eq_true rfl) gsh_25 rfl (gli hL gsh_25) (fun o1 hg ha hx => c_Reader_readEnd hL hn  hg ha hx) (fun h12 r13 _ => ?_)
  refine gr_aload_n (M := gm_Reader_readStreet) dq_Reader_readStreet_64 rfl 4 rfl 65 rfl ?_
  refine gr_geti (M := gm_Reader_readStreet) dq_Reader_readStreet_65 68 rfl gfl_Reader_30 gsh_25 rfl (gli hL gsh_25) ?_
  refine gr_if_ne (M := gm_Reader_readStreet) dq_Reader_readStreet_68 109 71 rfl rfl (fun c14 => ?_) (fun c14 => ?_)
  · exact gr_return (M := gm_Reader_readStreet) dq_Reader_readStreet_109 hF
  refine gr_aload_n (M := gm_Reader_readStreet) dq_Reader_readStreet_71 rfl 5 rfl 72 rfl ?_
  refine gr_getr (M := gm_Reader_readStreet) dq_Reader_readStreet_72 75 rfl gfl_Reader_79 hp1 rfl (gli hL hp1) (p1 + 1) rfl ?_
  refine gr_iload_n (M := gm_Reader_readStreet) dq_Reader_readStreet_75 rfl 6 rfl 76 rfl ?_
  refine gr_iload_n (M := gm_Reader_readStreet) dq_Reader_readStreet_76 rfl 3 rfl 77 rfl ?_
  refine gr_iast (M := gm_Reader_readStreet) dq_Reader_readStreet_77 78 rfl (gsC_1 hp1) (glj hL (gsC_1 hp1) (by decide)) (fun h15 _ => ?_)
  refine gr_aload_n (M := gm_Reader_readStreet) dq_Reader_readStreet_78 rfl 5 rfl 79 rfl ?_
  refine gr_getr (M := gm_Reader_readStreet) dq_Reader_readStreet_79 82 rfl gfl_Reader_82 hp1 rfl (gli hL hp1) (p1 + 2) rfl ?_
  refine gr_iload_n (M := gm_Reader_readStreet) dq_Reader_readStreet_82 rfl 6 rfl 83 rfl ?_
  refine gr_iload (M := gm_Reader_readStreet) dq_Reader_readStreet_83 2 rfl 85 rfl ?_
  refine gr_iast (M := gm_Reader_readStreet) dq_Reader_readStreet_85 86 rfl (gsC_2 hp1) (glj hL (gsC_2 hp1) (by decide)) (fun h16 _ => ?_)
  refine gr_aload_n (M := gm_Reader_readStreet) dq_Reader_readStreet_86 rfl 5 rfl 87 rfl ?_
  refine gr_getr (M := gm_Reader_readStreet) dq_Reader_readStreet_87 90 rfl gfl_Reader_85 hp1 rfl (gli hL hp1) (p1 + 3) rfl ?_
  refine gr_iload_n (M := gm_Reader_readStreet) dq_Reader_readStreet_90 rfl 6 rfl 91 rfl ?_
  refine gr_iload (M := gm_Reader_readStreet) dq_Reader_readStreet_91 1 rfl 93 rfl ?_
  refine gr_iast (M := gm_Reader_readStreet) dq_Reader_readStreet_93 94 rfl (gsC_3 hp1) (glj hL (gsC_3 hp1) (by decide)) (fun h17 _ => ?_)
  refine gr_aload_n (M := gm_Reader_readStreet) dq_Reader_readStreet_94 rfl 5 rfl 95 rfl ?_
  refine gr_getr (M := gm_Reader_readStreet) dq_Reader_readStreet_95 98 rfl gfl_Reader_88 hp1 rfl (gli hL hp1) (p1 + 4) rfl ?_
  refine gr_iload_n (M := gm_Reader_readStreet) dq_Reader_readStreet_98 rfl 6 rfl 99 rfl ?_
  refine gr_iload (M := gm_Reader_readStreet) dq_Reader_readStreet_99 0 rfl 101 rfl ?_
  refine gr_iast (M := gm_Reader_readStreet) dq_Reader_readStreet_101 102 rfl (gsC_4 hp1) (glj hL (gsC_4 hp1) (by decide)) (fun h18 _ => ?_)
  refine gr_aload_n (M := gm_Reader_readStreet) dq_Reader_readStreet_102 rfl 5 rfl 103 rfl ?_
  refine gr_iload_n (M := gm_Reader_readStreet) dq_Reader_readStreet_103 rfl 6 rfl 104 rfl ?_
  refine gr_iconst (M := gm_Reader_readStreet) (v := 1) dq_Reader_readStreet_104 rfl ⟨by decide, by decide⟩ 105 rfl ?_
  refine gr_iadd (M := gm_Reader_readStreet) dq_Reader_readStreet_105 106 rfl ?_
  refine gr_puti (M := gm_Reader_readStreet) dq_Reader_readStreet_106 109 rfl gfp_Reader_73 hp1 rfl (gli hL hp1) (fun h19 _ => ?_)
  exact gr_return (M := gm_Reader_readStreet) dq_Reader_readStreet_109 hF

def f_Reader_readStreet (p1 : Nat) (h : gH) : Option gO := if 9 ≤ (h p1 2) then (f_Reader_readStreet_J17 p1  (h p1 2) 0 h) else (f_Reader_readStreet_J17 p1  (h p1 2) 1 h)
theorem c_Reader_readStreet {Z : gZ} (hL : gLive Z) (hn : (zL Z).Nodup) {p1 : Nat} (hp1 : gsh p1 = .inr 0) {h : gH} {o : gO} (hg : gRg h) (ha : gRl [.inr (.inr 25), .inr (.inr p1)]) (hx : f_Reader_readStreet p1 h = some o) : gC Z gy_Reader_readStreet gc_Reader_readStreet 7 none 3 68 [.inr (.inr 25), .inr (.inr p1)] h o := by
  unfold f_Reader_readStreet at hx
  refine gC_of (lv := [(0, .inr (.inr 25)), (1, .inr (.inr p1))]) (own := gR_2) (by decide +kernel) rfl (Nat.le_of_ble_eq_true rfl) rfl rfl hn hg ha hx (fun X hZ hF => ?_)
  subst hZ
  show gr _ o gm_Reader_readStreet X h 0 _ _
  refine gr_aload_n (M := gm_Reader_readStreet) dq_Reader_readStreet_0 rfl 1 rfl 1 rfl ?_
  refine gr_geti (M := gm_Reader_readStreet) dq_Reader_readStreet_1 4 rfl gfl_Reader_73 hp1 rfl (gli hL hp1) ?_
  refine gr_istore_n (M := gm_Reader_readStreet) (lv' := [(2, .inl (h p1 2)), (0, .inr (.inr 25)), (1, .inr (.inr p1))]) dq_Reader_readStreet_4 rfl (by decide) rfl 5 rfl ?_
  refine gr_aload_n (M := gm_Reader_readStreet) dq_Reader_readStreet_5 rfl 1 rfl 6 rfl ?_
  refine gr_iload_n (M := gm_Reader_readStreet) dq_Reader_readStreet_6 rfl 0 rfl 7 rfl ?_
  refine gr_bipush (M := gm_Reader_readStreet) (v := 9) dq_Reader_readStreet_7 (by decide) ⟨by decide, by decide⟩ 9 rfl ?_
  refine gr_icmp_ge (M := gm_Reader_readStreet) dq_Reader_readStreet_9 16 12 rfl rfl (fun c1 => ?_) (fun c1 => ?_)
  · refine gr_iconst (M := gm_Reader_readStreet) (v := 0) dq_Reader_readStreet_16 rfl ⟨by decide, by decide⟩ 17 rfl ?_
    refine gr_sub (M := gm_Reader_readStreet) (lv' := [(0, .inr (.inr 25)), (1, .inr (.inr p1)), (2, .inl (h p1 2))]) [1, 2, 0] rfl ?_
    exact w_Reader_readStreet_J17 hL hn hF hp1  
  refine gr_iconst (M := gm_Reader_readStreet) (v := 1) dq_Reader_readStreet_12 rfl ⟨by decide, by decide⟩ 13 rfl ?_
  refine gr_goto (M := gm_Reader_readStreet) dq_Reader_readStreet_13 17 rfl ?_
  refine gr_sub (M := gm_Reader_readStreet) (lv' := [(0, .inr (.inr 25)), (1, .inr (.inr p1)), (2, .inl (h p1 2))]) [1, 2, 0] rfl ?_
  exact w_Reader_readStreet_J17 hL hn hF hp1  

-- Reader_readCart
theorem dq_Reader_readCart_0 : decode gc_Reader_readCart 0 = .ok (.aload_n 1, 1) := by decide +kernel
theorem dq_Reader_readCart_1 : decode gc_Reader_readCart 1 = .ok (.getfield 91, 3) := by decide +kernel
theorem dq_Reader_readCart_4 : decode gc_Reader_readCart 4 = .ok (.istore_n 2, 1) := by decide +kernel
theorem dq_Reader_readCart_5 : decode gc_Reader_readCart 5 = .ok (.aload_n 0, 1) := by decide +kernel
theorem dq_Reader_readCart_6 : decode gc_Reader_readCart 6 = .ok (.iload_n 2, 1) := by decide +kernel
theorem dq_Reader_readCart_7 : decode gc_Reader_readCart 7 = .ok (.bipush 6, 2) := by decide +kernel
theorem dq_Reader_readCart_9 : decode gc_Reader_readCart 9 = .ok (.if_icmp .ge 7, 3) := by decide +kernel
theorem dq_Reader_readCart_12 : decode gc_Reader_readCart 12 = .ok (.iconst 1, 1) := by decide +kernel
theorem dq_Reader_readCart_13 : decode gc_Reader_readCart 13 = .ok (.goto 4, 3) := by decide +kernel
theorem dq_Reader_readCart_16 : decode gc_Reader_readCart 16 = .ok (.iconst 0, 1) := by decide +kernel
theorem dq_Reader_readCart_17 : decode gc_Reader_readCart 17 = .ok (.invokevirtual 59, 3) := by decide +kernel
theorem dq_Reader_readCart_20 : decode gc_Reader_readCart 20 = .ok (.aload_n 0, 1) := by decide +kernel
theorem dq_Reader_readCart_21 : decode gc_Reader_readCart 21 = .ok (.iconst 0, 1) := by decide +kernel
theorem dq_Reader_readCart_22 : decode gc_Reader_readCart 22 = .ok (.aload_n 1, 1) := by decide +kernel
theorem dq_Reader_readCart_23 : decode gc_Reader_readCart 23 = .ok (.getfield 43, 3) := by decide +kernel
theorem dq_Reader_readCart_26 : decode gc_Reader_readCart 26 = .ok (.iconst 1, 1) := by decide +kernel
theorem dq_Reader_readCart_27 : decode gc_Reader_readCart 27 = .ok (.isub, 1) := by decide +kernel
theorem dq_Reader_readCart_28 : decode gc_Reader_readCart 28 = .ok (.invokevirtual 63, 3) := by decide +kernel
theorem dq_Reader_readCart_31 : decode gc_Reader_readCart 31 = .ok (.istore_n 3, 1) := by decide +kernel
theorem dq_Reader_readCart_32 : decode gc_Reader_readCart 32 = .ok (.aload_n 0, 1) := by decide +kernel
theorem dq_Reader_readCart_33 : decode gc_Reader_readCart 33 = .ok (.iload_n 3, 1) := by decide +kernel
theorem dq_Reader_readCart_34 : decode gc_Reader_readCart 34 = .ok (.aload_n 1, 1) := by decide +kernel
theorem dq_Reader_readCart_35 : decode gc_Reader_readCart 35 = .ok (.getfield 43, 3) := by decide +kernel
theorem dq_Reader_readCart_38 : decode gc_Reader_readCart 38 = .ok (.invokevirtual 76, 3) := by decide +kernel
theorem dq_Reader_readCart_41 : decode gc_Reader_readCart 41 = .ok (.istore 4, 2) := by decide +kernel
theorem dq_Reader_readCart_43 : decode gc_Reader_readCart 43 = .ok (.aload_n 0, 1) := by decide +kernel
theorem dq_Reader_readCart_44 : decode gc_Reader_readCart 44 = .ok (.iconst 0, 1) := by decide +kernel
theorem dq_Reader_readCart_45 : decode gc_Reader_readCart 45 = .ok (.sipush 200, 3) := by decide +kernel
theorem dq_Reader_readCart_48 : decode gc_Reader_readCart 48 = .ok (.invokevirtual 63, 3) := by decide +kernel
theorem dq_Reader_readCart_51 : decode gc_Reader_readCart 51 = .ok (.istore 5, 2) := by decide +kernel
theorem dq_Reader_readCart_53 : decode gc_Reader_readCart 53 = .ok (.aload_n 0, 1) := by decide +kernel
theorem dq_Reader_readCart_54 : decode gc_Reader_readCart 54 = .ok (.iconst 1, 1) := by decide +kernel
theorem dq_Reader_readCart_55 : decode gc_Reader_readCart 55 = .ok (.bipush 9, 2) := by decide +kernel
theorem dq_Reader_readCart_57 : decode gc_Reader_readCart 57 = .ok (.invokevirtual 63, 3) := by decide +kernel
theorem dq_Reader_readCart_60 : decode gc_Reader_readCart 60 = .ok (.istore 6, 2) := by decide +kernel
theorem dq_Reader_readCart_62 : decode gc_Reader_readCart 62 = .ok (.aload_n 0, 1) := by decide +kernel
theorem dq_Reader_readCart_63 : decode gc_Reader_readCart 63 = .ok (.iconst 0, 1) := by decide +kernel
theorem dq_Reader_readCart_64 : decode gc_Reader_readCart 64 = .ok (.bipush 99, 2) := by decide +kernel
theorem dq_Reader_readCart_66 : decode gc_Reader_readCart 66 = .ok (.invokevirtual 63, 3) := by decide +kernel
theorem dq_Reader_readCart_69 : decode gc_Reader_readCart 69 = .ok (.istore 7, 2) := by decide +kernel
theorem dq_Reader_readCart_71 : decode gc_Reader_readCart 71 = .ok (.aload_n 0, 1) := by decide +kernel
theorem dq_Reader_readCart_72 : decode gc_Reader_readCart 72 = .ok (.invokevirtual 67, 3) := by decide +kernel
theorem dq_Reader_readCart_75 : decode gc_Reader_readCart 75 = .ok (.aload_n 0, 1) := by decide +kernel
theorem dq_Reader_readCart_76 : decode gc_Reader_readCart 76 = .ok (.getfield 30, 3) := by decide +kernel
theorem dq_Reader_readCart_79 : decode gc_Reader_readCart 79 = .ok (.ifCond .ne 49, 3) := by decide +kernel
theorem dq_Reader_readCart_82 : decode gc_Reader_readCart 82 = .ok (.aload_n 1, 1) := by decide +kernel
theorem dq_Reader_readCart_83 : decode gc_Reader_readCart 83 = .ok (.getfield 94, 3) := by decide +kernel
theorem dq_Reader_readCart_86 : decode gc_Reader_readCart 86 = .ok (.iload_n 2, 1) := by decide +kernel
theorem dq_Reader_readCart_87 : decode gc_Reader_readCart 87 = .ok (.iload_n 3, 1) := by decide +kernel
theorem dq_Reader_readCart_88 : decode gc_Reader_readCart 88 = .ok (.iastore, 1) := by decide +kernel
theorem dq_Reader_readCart_89 : decode gc_Reader_readCart 89 = .ok (.aload_n 1, 1) := by decide +kernel
theorem dq_Reader_readCart_90 : decode gc_Reader_readCart 90 = .ok (.getfield 97, 3) := by decide +kernel
theorem dq_Reader_readCart_93 : decode gc_Reader_readCart 93 = .ok (.iload_n 2, 1) := by decide +kernel
theorem dq_Reader_readCart_94 : decode gc_Reader_readCart 94 = .ok (.iload 4, 2) := by decide +kernel
theorem dq_Reader_readCart_96 : decode gc_Reader_readCart 96 = .ok (.iastore, 1) := by decide +kernel
theorem dq_Reader_readCart_97 : decode gc_Reader_readCart 97 = .ok (.aload_n 1, 1) := by decide +kernel
theorem dq_Reader_readCart_98 : decode gc_Reader_readCart 98 = .ok (.getfield 100, 3) := by decide +kernel
theorem dq_Reader_readCart_101 : decode gc_Reader_readCart 101 = .ok (.iload_n 2, 1) := by decide +kernel
theorem dq_Reader_readCart_102 : decode gc_Reader_readCart 102 = .ok (.iload 5, 2) := by decide +kernel
theorem dq_Reader_readCart_104 : decode gc_Reader_readCart 104 = .ok (.iastore, 1) := by decide +kernel
theorem dq_Reader_readCart_105 : decode gc_Reader_readCart 105 = .ok (.aload_n 1, 1) := by decide +kernel
theorem dq_Reader_readCart_106 : decode gc_Reader_readCart 106 = .ok (.getfield 103, 3) := by decide +kernel
theorem dq_Reader_readCart_109 : decode gc_Reader_readCart 109 = .ok (.iload_n 2, 1) := by decide +kernel
theorem dq_Reader_readCart_110 : decode gc_Reader_readCart 110 = .ok (.iload 6, 2) := by decide +kernel
theorem dq_Reader_readCart_112 : decode gc_Reader_readCart 112 = .ok (.iastore, 1) := by decide +kernel
theorem dq_Reader_readCart_113 : decode gc_Reader_readCart 113 = .ok (.aload_n 1, 1) := by decide +kernel
theorem dq_Reader_readCart_114 : decode gc_Reader_readCart 114 = .ok (.getfield 106, 3) := by decide +kernel
theorem dq_Reader_readCart_117 : decode gc_Reader_readCart 117 = .ok (.iload_n 2, 1) := by decide +kernel
theorem dq_Reader_readCart_118 : decode gc_Reader_readCart 118 = .ok (.iload 7, 2) := by decide +kernel
theorem dq_Reader_readCart_120 : decode gc_Reader_readCart 120 = .ok (.iastore, 1) := by decide +kernel
theorem dq_Reader_readCart_121 : decode gc_Reader_readCart 121 = .ok (.aload_n 1, 1) := by decide +kernel
theorem dq_Reader_readCart_122 : decode gc_Reader_readCart 122 = .ok (.iload_n 2, 1) := by decide +kernel
theorem dq_Reader_readCart_123 : decode gc_Reader_readCart 123 = .ok (.iconst 1, 1) := by decide +kernel
theorem dq_Reader_readCart_124 : decode gc_Reader_readCart 124 = .ok (.iadd, 1) := by decide +kernel
theorem dq_Reader_readCart_125 : decode gc_Reader_readCart 125 = .ok (.putfield 91, 3) := by decide +kernel
theorem dq_Reader_readCart_128 : decode gc_Reader_readCart 128 = .ok (.return_, 1) := by decide +kernel
abbrev gm_Reader_readCart : gM := (gc_Reader_readCart, gR_2, 3, 68, 8)
theorem gfl_Reader_91 : gFl gR_2 91 0 3 := ⟨_, _, _, rfl, by decide, (gtab_at 43 (by decide +kernel) rfl), gin_0⟩
theorem gfl_Reader_94 : gFl gR_2 94 0 8 := ⟨_, _, _, rfl, by decide, (gtab_at 64 (by decide +kernel) rfl), gin_0⟩
theorem gfl_Reader_97 : gFl gR_2 97 0 9 := ⟨_, _, _, rfl, by decide, (gtab_at 67 (by decide +kernel) rfl), gin_0⟩
theorem gfl_Reader_100 : gFl gR_2 100 0 10 := ⟨_, _, _, rfl, by decide, (gtab_at 71 (by decide +kernel) rfl), gin_0⟩
theorem gfl_Reader_103 : gFl gR_2 103 0 11 := ⟨_, _, _, rfl, by decide, (gtab_at 76 (by decide +kernel) rfl), gin_0⟩
theorem gfl_Reader_106 : gFl gR_2 106 0 12 := ⟨_, _, _, rfl, by decide, (gtab_at 78 (by decide +kernel) rfl), gin_0⟩
theorem gfp_Reader_91 : gFp gR_2 91 0 3 .int := ⟨_, _, _, gt_0, rfl, by decide, (gtab_at 43 (by decide +kernel) rfl), gin_0, gto_0, gnm_0, rfl, by decide +kernel⟩
def f_Reader_readCart_J17 (p1 : Nat)  (v2 : Int) (s1 : Int) (h : gH) : Option gO := gb (f_Reader_takeWord s1 h) (fun h2 r3 => gb (f_Reader_readNumber 0 (gsub (h2 p1 0) 1) h2) (fun h4 r5 => gb (f_Reader_readOther r5 (h4 p1 0) h4) (fun h6 r7 => gb (f_Reader_readNumber 0 200 h6) (fun h8 r9 => gb (f_Reader_readNumber 1 9 h8) (fun h10 r11 => gb (f_Reader_readNumber 0 99 h10) (fun h12 r13 => gb (f_Reader_readEnd  h12) (fun h14 r15 => if (h14 25 5) = 0 then (gd (gix 6 v2) (gs (gup h14 (p1 + 5) v2.toNat r5) (fun h17 => gd (gix 6 v2) (gs (gup h17 (p1 + 6) v2.toNat r7) (fun h18 => gd (gix 6 v2) (gs (gup h18 (p1 + 7) v2.toNat r9) (fun h19 => gd (gix 6 v2) (gs (gup h19 (p1 + 8) v2.toNat r11) (fun h20 => gd (gix 6 v2) (gs (gup h20 (p1 + 9) v2.toNat r13) (fun h21 => gs (gup h21 p1 3 (gadd v2 1)) (fun h22 => some (h22, 0))))))))))))) else (some (h14, 0)))))))))
theorem w_Reader_readCart_J17 {o : gO} {X : gX} (hL : gLive (xZ X)) (hn : (zL (xZ X)).Nodup) (hF : gFin X none o) {p1 : Nat} (hp1 : gsh p1 = .inr 0)   {v2 : Int} {s1 : Int} {h : gH}  : gr (f_Reader_readCart_J17 p1  v2 s1 h) o gm_Reader_readCart X h 17 [(0, .inr (.inr 25)), (1, .inr (.inr p1)), (2, .inl v2)] [.inl s1, .inr (.inr 25)] := by
  unfold f_Reader_readCart_J17
  refine gr_callVv (M := gm_Reader_readCart) (as := [.inl s1]) dq_Reader_readCart_17 20 rfl rfl gcy_Reader_59 gim_Reader_takeWord gse_Reader_takeWord ⟨by decide, by decide⟩ (Nat.le_of_ble_eq_true rfl) gsh_25 rfl (gli hL gsh_25) (fun o1 hg ha hx => c_Reader_takeWord hL hn  hg ha hx) (fun h2 r3 _ => ?_)
  refine gr_aload_n (M := gm_Reader_readCart) dq_Reader_readCart_20 rfl 0 rfl 21 rfl ?_
  refine gr_iconst (M := gm_Reader_readCart) (v := 0) dq_Reader_readCart_21 rfl ⟨by decide, by decide⟩ 22 rfl ?_
  refine gr_aload_n (M := gm_Reader_readCart) dq_Reader_readCart_22 rfl 1 rfl 23 rfl ?_
  refine gr_geti (M := gm_Reader_readCart) dq_Reader_readCart_23 26 rfl gfl_Reader_43 hp1 rfl (gli hL hp1) ?_
  refine gr_iconst (M := gm_Reader_readCart) (v := 1) dq_Reader_readCart_26 rfl ⟨by decide, by decide⟩ 27 rfl ?_
  refine gr_isub (M := gm_Reader_readCart) dq_Reader_readCart_27 28 rfl ?_
  refine gr_callVi (M := gm_Reader_readCart) (as := [.inl 0, .inl (gsub (h2 p1 0) 1)]) dq_Reader_readCart_28 31 rfl rfl gcy_Reader_63 gim_Reader_readNumber gse_Reader_readNumber ⟨by decide, by decide⟩ (Nat.le_of_ble_eq_true rfl) gsh_25 rfl (gli hL gsh_25) (fun o1 hg ha hx => c_Reader_readNumber hL hn  hg ha hx) (fun h4 r5 _ => ?_)
  refine gr_istore_n (M := gm_Reader_readCart) (lv' := [(3, .inl r5), (0, .inr (.inr 25)), (1, .inr (.inr p1)), (2, .inl v2)]) dq_Reader_readCart_31 rfl (by decide) rfl 32 rfl ?_
  refine gr_aload_n (M := gm_Reader_readCart) dq_Reader_readCart_32 rfl 1 rfl 33 rfl ?_
  refine gr_iload_n (M := gm_Reader_readCart) dq_Reader_readCart_33 rfl 0 rfl 34 rfl ?_
  refine gr_aload_n (M := gm_Reader_readCart) dq_Reader_readCart_34 rfl 2 rfl 35 rfl ?_
  refine gr_geti (M := gm_Reader_readCart) dq_Reader_readCart_35 38 rfl gfl_Reader_43 hp1 rfl (gli hL hp1) ?_
  refine gr_callVi (M := gm_Reader_readCart) (as := [.inl r5, .inl (h4 p1 0)]) dq_Reader_readCart_38 41 rfl rfl gcy_Reader_76 gim_Reader_readOther gse_Reader_readOther ⟨by decide, by decide⟩ (Nat.le_of_ble_eq_true rfl) gsh_25 rfl (gli hL gsh_25) (fun o1 hg ha hx => c_Reader_readOther hL hn  hg ha hx) (fun h6 r7 _ => ?_)
  refine gr_istore (M := gm_Reader_readCart) (kk := 0) (lv' := [(4, .inl r7), (3, .inl r5), (0, .inr (.inr 25)), (1, .inr (.inr p1)), (2, .inl v2)]) dq_Reader_readCart_41 (by decide) rfl 43 rfl ?_
  refine gr_aload_n (M := gm_Reader_readCart) dq_Reader_readCart_43 rfl 2 rfl 44 rfl ?_
  refine gr_iconst (M := gm_Reader_readCart) (v := 0) dq_Reader_readCart_44 rfl ⟨by decide, by decide⟩ 45 rfl ?_
  refine gr_sipush (M := gm_Reader_readCart) (v := 200) dq_Reader_readCart_45 (by decide) ⟨by decide, by decide⟩ 48 rfl ?_
  refine gr_callVi (M := gm_Reader_readCart) (as := [.inl 0, .inl 200]) dq_Reader_readCart_48 51 rfl rfl gcy_Reader_63 gim_Reader_readNumber gse_Reader_readNumber ⟨by decide, by decide⟩ (Nat.le_of_ble_eq_true rfl) gsh_25 rfl (gli hL gsh_25) (fun o1 hg ha hx => c_Reader_readNumber hL hn  hg ha hx) (fun h8 r9 _ => ?_)
  refine gr_istore (M := gm_Reader_readCart) (kk := 0) (lv' := [(5, .inl r9), (4, .inl r7), (3, .inl r5), (0, .inr (.inr 25)), (1, .inr (.inr p1)), (2, .inl v2)]) dq_Reader_readCart_51 (by decide) rfl 53 rfl ?_
  refine gr_aload_n (M := gm_Reader_readCart) dq_Reader_readCart_53 rfl 3 rfl 54 rfl ?_
  refine gr_iconst (M := gm_Reader_readCart) (v := 1) dq_Reader_readCart_54 rfl ⟨by decide, by decide⟩ 55 rfl ?_
  refine gr_bipush (M := gm_Reader_readCart) (v := 9) dq_Reader_readCart_55 (by decide) ⟨by decide, by decide⟩ 57 rfl ?_
  refine gr_callVi (M := gm_Reader_readCart) (as := [.inl 1, .inl 9]) dq_Reader_readCart_57 60 rfl rfl gcy_Reader_63 gim_Reader_readNumber gse_Reader_readNumber ⟨by decide, by decide⟩ (Nat.le_of_ble_eq_true rfl) gsh_25 rfl (gli hL gsh_25) (fun o1 hg ha hx => c_Reader_readNumber hL hn  hg ha hx) (fun h10 r11 _ => ?_)
  refine gr_istore (M := gm_Reader_readCart) (kk := 0) (lv' := [(6, .inl r11), (5, .inl r9), (4, .inl r7), (3, .inl r5), (0, .inr (.inr 25)), (1, .inr (.inr p1)), (2, .inl v2)]) dq_Reader_readCart_60 (by decide) rfl 62 rfl ?_
  refine gr_aload_n (M := gm_Reader_readCart) dq_Reader_readCart_62 rfl 4 rfl 63 rfl ?_
  refine gr_iconst (M := gm_Reader_readCart) (v := 0) dq_Reader_readCart_63 rfl ⟨by decide, by decide⟩ 64 rfl ?_
  refine gr_bipush (M := gm_Reader_readCart) (v := 99) dq_Reader_readCart_64 (by decide) ⟨by decide, by decide⟩ 66 rfl ?_
  refine gr_callVi (M := gm_Reader_readCart) (as := [.inl 0, .inl 99]) dq_Reader_readCart_66 69 rfl rfl gcy_Reader_63 gim_Reader_readNumber gse_Reader_readNumber ⟨by decide, by decide⟩ (Nat.le_of_ble_eq_true rfl) gsh_25 rfl (gli hL gsh_25) (fun o1 hg ha hx => c_Reader_readNumber hL hn  hg ha hx) (fun h12 r13 _ => ?_)
  refine gr_istore (M := gm_Reader_readCart) (kk := 0) (lv' := [(7, .inl r13), (6, .inl r11), (5, .inl r9), (4, .inl r7), (3, .inl r5), (0, .inr (.inr 25)), (1, .inr (.inr p1)), (2, .inl v2)]) dq_Reader_readCart_69 (by decide) rfl 71 rfl ?_
  refine gr_aload_n (M := gm_Reader_readCart) dq_Reader_readCart_71 rfl 5 rfl 72 rfl ?_
  refine gr_callVv (M := gm_Reader_readCart) (as := []) dq_Reader_readCart_72 75 rfl rfl gcy_Reader_67 gim_Reader_readEnd gse_Reader_readEnd ⟨by decide, by decide⟩ (Nat.le_of_ble_eq_true rfl) gsh_25 rfl (gli hL gsh_25) (fun o1 hg ha hx => c_Reader_readEnd hL hn  hg ha hx) (fun h14 r15 _ => ?_)
  refine gr_aload_n (M := gm_Reader_readCart) dq_Reader_readCart_75 rfl 5 rfl 76 rfl ?_
  refine gr_geti (M := gm_Reader_readCart) dq_Reader_readCart_76 79 rfl gfl_Reader_30 gsh_25 rfl (gli hL gsh_25) ?_
  refine gr_if_ne (M := gm_Reader_readCart) dq_Reader_readCart_79 128 82 rfl rfl (fun c16 => ?_) (fun c16 => ?_)
  · exact gr_return (M := gm_Reader_readCart) dq_Reader_readCart_128 hF
  refine gr_aload_n (M := gm_Reader_readCart) dq_Reader_readCart_82 rfl 6 rfl 83 rfl ?_
  refine gr_getr (M := gm_Reader_readCart) dq_Reader_readCart_83 86 rfl gfl_Reader_94 hp1 rfl (gli hL hp1) (p1 + 5) rfl ?_
  refine gr_iload_n (M := gm_Reader_readCart) dq_Reader_readCart_86 rfl 7 rfl 87 rfl ?_
  refine gr_iload_n (M := gm_Reader_readCart) dq_Reader_readCart_87 rfl 4 rfl 88 rfl ?_
  refine gr_iast (M := gm_Reader_readCart) dq_Reader_readCart_88 89 rfl (gsC_5 hp1) (glj hL (gsC_5 hp1) (by decide)) (fun h17 _ => ?_)
  refine gr_aload_n (M := gm_Reader_readCart) dq_Reader_readCart_89 rfl 6 rfl 90 rfl ?_
  refine gr_getr (M := gm_Reader_readCart) dq_Reader_readCart_90 93 rfl gfl_Reader_97 hp1 rfl (gli hL hp1) (p1 + 6) rfl ?_
  refine gr_iload_n (M := gm_Reader_readCart) dq_Reader_readCart_93 rfl 7 rfl 94 rfl ?_
  refine gr_iload (M := gm_Reader_readCart) dq_Reader_readCart_94 3 rfl 96 rfl ?_
  refine gr_iast (M := gm_Reader_readCart) dq_Reader_readCart_96 97 rfl (gsC_6 hp1) (glj hL (gsC_6 hp1) (by decide)) (fun h18 _ => ?_)
  refine gr_aload_n (M := gm_Reader_readCart) dq_Reader_readCart_97 rfl 6 rfl 98 rfl ?_
  refine gr_getr (M := gm_Reader_readCart) dq_Reader_readCart_98 101 rfl gfl_Reader_100 hp1 rfl (gli hL hp1) (p1 + 7) rfl ?_
  refine gr_iload_n (M := gm_Reader_readCart) dq_Reader_readCart_101 rfl 7 rfl 102 rfl ?_
  refine gr_iload (M := gm_Reader_readCart) dq_Reader_readCart_102 2 rfl 104 rfl ?_
  refine gr_iast (M := gm_Reader_readCart) dq_Reader_readCart_104 105 rfl (gsC_7 hp1) (glj hL (gsC_7 hp1) (by decide)) (fun h19 _ => ?_)
  refine gr_aload_n (M := gm_Reader_readCart) dq_Reader_readCart_105 rfl 6 rfl 106 rfl ?_
  refine gr_getr (M := gm_Reader_readCart) dq_Reader_readCart_106 109 rfl gfl_Reader_103 hp1 rfl (gli hL hp1) (p1 + 8) rfl ?_
  refine gr_iload_n (M := gm_Reader_readCart) dq_Reader_readCart_109 rfl 7 rfl 110 rfl ?_
  refine gr_iload (M := gm_Reader_readCart) dq_Reader_readCart_110 1 rfl 112 rfl ?_
  refine gr_iast (M := gm_Reader_readCart) dq_Reader_readCart_112 113 rfl (gsC_8 hp1) (glj hL (gsC_8 hp1) (by decide)) (fun h20 _ => ?_)
  refine gr_aload_n (M := gm_Reader_readCart) dq_Reader_readCart_113 rfl 6 rfl 114 rfl ?_
  refine gr_getr (M := gm_Reader_readCart) dq_Reader_readCart_114 117 rfl gfl_Reader_106 hp1 rfl (gli hL hp1) (p1 + 9) rfl ?_
  refine gr_iload_n (M := gm_Reader_readCart) dq_Reader_readCart_117 rfl 7 rfl 118 rfl ?_
  refine gr_iload (M := gm_Reader_readCart) dq_Reader_readCart_118 0 rfl 120 rfl ?_
  refine gr_iast (M := gm_Reader_readCart) dq_Reader_readCart_120 121 rfl (gsC_9 hp1) (glj hL (gsC_9 hp1) (by decide)) (fun h21 _ => ?_)
  refine gr_aload_n (M := gm_Reader_readCart) dq_Reader_readCart_121 rfl 6 rfl 122 rfl ?_
  refine gr_iload_n (M := gm_Reader_readCart) dq_Reader_readCart_122 rfl 7 rfl 123 rfl ?_
  refine gr_iconst (M := gm_Reader_readCart) (v := 1) dq_Reader_readCart_123 rfl ⟨by decide, by decide⟩ 124 rfl ?_
  refine gr_iadd (M := gm_Reader_readCart) dq_Reader_readCart_124 125 rfl ?_
  refine gr_puti (M := gm_Reader_readCart) dq_Reader_readCart_125 128 rfl gfp_Reader_91 hp1 rfl (gli hL hp1) (fun h22 _ => ?_)
  exact gr_return (M := gm_Reader_readCart) dq_Reader_readCart_128 hF

def f_Reader_readCart (p1 : Nat) (h : gH) : Option gO := if 6 ≤ (h p1 3) then (f_Reader_readCart_J17 p1  (h p1 3) 0 h) else (f_Reader_readCart_J17 p1  (h p1 3) 1 h)
theorem c_Reader_readCart {Z : gZ} (hL : gLive Z) (hn : (zL Z).Nodup) {p1 : Nat} (hp1 : gsh p1 = .inr 0) {h : gH} {o : gO} (hg : gRg h) (ha : gRl [.inr (.inr 25), .inr (.inr p1)]) (hx : f_Reader_readCart p1 h = some o) : gC Z gy_Reader_readCart gc_Reader_readCart 8 none 3 68 [.inr (.inr 25), .inr (.inr p1)] h o := by
  unfold f_Reader_readCart at hx
  refine gC_of (lv := [(0, .inr (.inr 25)), (1, .inr (.inr p1))]) (own := gR_2) (by decide +kernel) rfl (Nat.le_of_ble_eq_true rfl) rfl rfl hn hg ha hx (fun X hZ hF => ?_)
  subst hZ
  show gr _ o gm_Reader_readCart X h 0 _ _
  refine gr_aload_n (M := gm_Reader_readCart) dq_Reader_readCart_0 rfl 1 rfl 1 rfl ?_
  refine gr_geti (M := gm_Reader_readCart) dq_Reader_readCart_1 4 rfl gfl_Reader_91 hp1 rfl (gli hL hp1) ?_
  refine gr_istore_n (M := gm_Reader_readCart) (lv' := [(2, .inl (h p1 3)), (0, .inr (.inr 25)), (1, .inr (.inr p1))]) dq_Reader_readCart_4 rfl (by decide) rfl 5 rfl ?_
  refine gr_aload_n (M := gm_Reader_readCart) dq_Reader_readCart_5 rfl 1 rfl 6 rfl ?_
  refine gr_iload_n (M := gm_Reader_readCart) dq_Reader_readCart_6 rfl 0 rfl 7 rfl ?_
  refine gr_bipush (M := gm_Reader_readCart) (v := 6) dq_Reader_readCart_7 (by decide) ⟨by decide, by decide⟩ 9 rfl ?_
  refine gr_icmp_ge (M := gm_Reader_readCart) dq_Reader_readCart_9 16 12 rfl rfl (fun c1 => ?_) (fun c1 => ?_)
  · refine gr_iconst (M := gm_Reader_readCart) (v := 0) dq_Reader_readCart_16 rfl ⟨by decide, by decide⟩ 17 rfl ?_
    refine gr_sub (M := gm_Reader_readCart) (lv' := [(0, .inr (.inr 25)), (1, .inr (.inr p1)), (2, .inl (h p1 3))]) [1, 2, 0] rfl ?_
    exact w_Reader_readCart_J17 hL hn hF hp1  
  refine gr_iconst (M := gm_Reader_readCart) (v := 1) dq_Reader_readCart_12 rfl ⟨by decide, by decide⟩ 13 rfl ?_
  refine gr_goto (M := gm_Reader_readCart) dq_Reader_readCart_13 17 rfl ?_
  refine gr_sub (M := gm_Reader_readCart) (lv' := [(0, .inr (.inr 25)), (1, .inr (.inr p1)), (2, .inl (h p1 3))]) [1, 2, 0] rfl ?_
  exact w_Reader_readCart_J17 hL hn hF hp1  

-- Reader_readClause
theorem dq_Reader_readClause_0 : decode gc_Reader_readClause 0 = .ok (.aload_n 0, 1) := by decide +kernel
theorem dq_Reader_readClause_1 : decode gc_Reader_readClause 1 = .ok (.getfield 15, 3) := by decide +kernel
theorem dq_Reader_readClause_4 : decode gc_Reader_readClause 4 = .ok (.aload_n 0, 1) := by decide +kernel
theorem dq_Reader_readClause_5 : decode gc_Reader_readClause 5 = .ok (.getfield 27, 3) := by decide +kernel
theorem dq_Reader_readClause_8 : decode gc_Reader_readClause 8 = .ok (.iaload, 1) := by decide +kernel
theorem dq_Reader_readClause_9 : decode gc_Reader_readClause 9 = .ok (.istore_n 2, 1) := by decide +kernel
theorem dq_Reader_readClause_10 : decode gc_Reader_readClause 10 = .ok (.aload_n 1, 1) := by decide +kernel
theorem dq_Reader_readClause_11 : decode gc_Reader_readClause 11 = .ok (.getfield 43, 3) := by decide +kernel
theorem dq_Reader_readClause_14 : decode gc_Reader_readClause 14 = .ok (.ifCond .ne 21, 3) := by decide +kernel
theorem dq_Reader_readClause_17 : decode gc_Reader_readClause 17 = .ok (.iload_n 2, 1) := by decide +kernel
theorem dq_Reader_readClause_18 : decode gc_Reader_readClause 18 = .ok (.bipush 99, 2) := by decide +kernel
theorem dq_Reader_readClause_20 : decode gc_Reader_readClause 20 = .ok (.if_icmp .eq 15, 3) := by decide +kernel
theorem dq_Reader_readClause_23 : decode gc_Reader_readClause 23 = .ok (.aload_n 0, 1) := by decide +kernel
theorem dq_Reader_readClause_24 : decode gc_Reader_readClause 24 = .ok (.iconst 1, 1) := by decide +kernel
theorem dq_Reader_readClause_25 : decode gc_Reader_readClause 25 = .ok (.aload_n 0, 1) := by decide +kernel
theorem dq_Reader_readClause_26 : decode gc_Reader_readClause 26 = .ok (.getfield 27, 3) := by decide +kernel
theorem dq_Reader_readClause_29 : decode gc_Reader_readClause 29 = .ok (.invokevirtual 46, 3) := by decide +kernel
theorem dq_Reader_readClause_32 : decode gc_Reader_readClause 32 = .ok (.goto 54, 3) := by decide +kernel
theorem dq_Reader_readClause_35 : decode gc_Reader_readClause 35 = .ok (.iload_n 2, 1) := by decide +kernel
theorem dq_Reader_readClause_36 : decode gc_Reader_readClause 36 = .ok (.bipush 99, 2) := by decide +kernel
theorem dq_Reader_readClause_38 : decode gc_Reader_readClause 38 = .ok (.if_icmp .ne 11, 3) := by decide +kernel
theorem dq_Reader_readClause_41 : decode gc_Reader_readClause 41 = .ok (.aload_n 0, 1) := by decide +kernel
theorem dq_Reader_readClause_42 : decode gc_Reader_readClause 42 = .ok (.aload_n 1, 1) := by decide +kernel
theorem dq_Reader_readClause_43 : decode gc_Reader_readClause 43 = .ok (.invokevirtual 50, 3) := by decide +kernel
theorem dq_Reader_readClause_46 : decode gc_Reader_readClause 46 = .ok (.goto 40, 3) := by decide +kernel
theorem dq_Reader_readClause_49 : decode gc_Reader_readClause 49 = .ok (.iload_n 2, 1) := by decide +kernel
theorem dq_Reader_readClause_50 : decode gc_Reader_readClause 50 = .ok (.bipush 115, 2) := by decide +kernel
theorem dq_Reader_readClause_52 : decode gc_Reader_readClause 52 = .ok (.if_icmp .ne 11, 3) := by decide +kernel
theorem dq_Reader_readClause_55 : decode gc_Reader_readClause 55 = .ok (.aload_n 0, 1) := by decide +kernel
theorem dq_Reader_readClause_56 : decode gc_Reader_readClause 56 = .ok (.aload_n 1, 1) := by decide +kernel
theorem dq_Reader_readClause_57 : decode gc_Reader_readClause 57 = .ok (.invokevirtual 53, 3) := by decide +kernel
theorem dq_Reader_readClause_60 : decode gc_Reader_readClause 60 = .ok (.goto 26, 3) := by decide +kernel
theorem dq_Reader_readClause_63 : decode gc_Reader_readClause 63 = .ok (.iload_n 2, 1) := by decide +kernel
theorem dq_Reader_readClause_64 : decode gc_Reader_readClause 64 = .ok (.bipush 107, 2) := by decide +kernel
theorem dq_Reader_readClause_66 : decode gc_Reader_readClause 66 = .ok (.if_icmp .ne 11, 3) := by decide +kernel
theorem dq_Reader_readClause_69 : decode gc_Reader_readClause 69 = .ok (.aload_n 0, 1) := by decide +kernel
theorem dq_Reader_readClause_70 : decode gc_Reader_readClause 70 = .ok (.aload_n 1, 1) := by decide +kernel
theorem dq_Reader_readClause_71 : decode gc_Reader_readClause 71 = .ok (.invokevirtual 56, 3) := by decide +kernel
theorem dq_Reader_readClause_74 : decode gc_Reader_readClause 74 = .ok (.goto 12, 3) := by decide +kernel
theorem dq_Reader_readClause_77 : decode gc_Reader_readClause 77 = .ok (.aload_n 0, 1) := by decide +kernel
theorem dq_Reader_readClause_78 : decode gc_Reader_readClause 78 = .ok (.iconst 1, 1) := by decide +kernel
theorem dq_Reader_readClause_79 : decode gc_Reader_readClause 79 = .ok (.aload_n 0, 1) := by decide +kernel
theorem dq_Reader_readClause_80 : decode gc_Reader_readClause 80 = .ok (.getfield 27, 3) := by decide +kernel
theorem dq_Reader_readClause_83 : decode gc_Reader_readClause 83 = .ok (.invokevirtual 46, 3) := by decide +kernel
theorem dq_Reader_readClause_86 : decode gc_Reader_readClause 86 = .ok (.return_, 1) := by decide +kernel
abbrev gm_Reader_readClause : gM := (gc_Reader_readClause, gR_2, 4, 95, 3)
set_option maxRecDepth 20000 in
theorem gcy_Reader_56 : gCy gR_2 56 gy_Reader_readCart gc_Reader_readCart 8 none 1 := ⟨(gtab_at 370 (by decide +kernel) rfl), (gtab_at 3 (by decide +kernel) rfl), (gtab_at 373 rfl rfl), by decide, by decide, by decide +kernel⟩
theorem gim_Reader_readCart : Cond.instanceMethod gy_Reader_readCart ∈ gtbl := (gtab_at 372 (by decide +kernel) rfl)
theorem gse_Reader_readCart : Cond.selects gy_Reader_readCart.cls gy_Reader_readCart gy_Reader_readCart ∈ gtbl := (by decide +kernel)
set_option maxRecDepth 20000 in
theorem gcy_Reader_53 : gCy gR_2 53 gy_Reader_readStreet gc_Reader_readStreet 7 none 1 := ⟨(gtab_at 362 (by decide +kernel) rfl), (gtab_at 3 (by decide +kernel) rfl), (gtab_at 365 rfl rfl), by decide, by decide, by decide +kernel⟩
theorem gim_Reader_readStreet : Cond.instanceMethod gy_Reader_readStreet ∈ gtbl := (gtab_at 364 (by decide +kernel) rfl)
theorem gse_Reader_readStreet : Cond.selects gy_Reader_readStreet.cls gy_Reader_readStreet gy_Reader_readStreet ∈ gtbl := (by decide +kernel)
set_option maxRecDepth 20000 in
theorem gcy_Reader_50 : gCy gR_2 50 gy_Reader_readCorners gc_Reader_readCorners 4 none 1 := ⟨(gtab_at 343 (by decide +kernel) rfl), (gtab_at 3 (by decide +kernel) rfl), (gtab_at 346 rfl rfl), by decide, by decide, by decide +kernel⟩
theorem gim_Reader_readCorners : Cond.instanceMethod gy_Reader_readCorners ∈ gtbl := (gtab_at 345 (by decide +kernel) rfl)
theorem gse_Reader_readCorners : Cond.selects gy_Reader_readCorners.cls gy_Reader_readCorners gy_Reader_readCorners ∈ gtbl := (by decide +kernel)
def f_Reader_readClause_J35 (p1 : Nat)  (v2 : Int) (h : gH) : Option gO := if v2 = 99 then (gb (f_Reader_readCorners p1 h) (fun h11 r12 => some (h11, 0))) else (if v2 = 115 then (gb (f_Reader_readStreet p1 h) (fun h9 r10 => some (h9, 0))) else (if v2 = 107 then (gb (f_Reader_readCart p1 h) (fun h7 r8 => some (h7, 0))) else (gb (f_Reader_fail 1 (h 25 3) h) (fun h5 r6 => some (h5, 0)))))
theorem w_Reader_readClause_J35 {o : gO} {X : gX} (hL : gLive (xZ X)) (hn : (zL (xZ X)).Nodup) (hF : gFin X none o) {p1 : Nat} (hp1 : gsh p1 = .inr 0)   {v2 : Int} {h : gH}  : gr (f_Reader_readClause_J35 p1  v2 h) o gm_Reader_readClause X h 35 [(0, .inr (.inr 25)), (1, .inr (.inr p1)), (2, .inl v2)] [] := by
  unfold f_Reader_readClause_J35
  refine gr_iload_n (M := gm_Reader_readClause) dq_Reader_readClause_35 rfl 2 rfl 36 rfl ?_
  refine gr_bipush (M := gm_Reader_readClause) (v := 99) dq_Reader_readClause_36 (by decide) ⟨by decide, by decide⟩ 38 rfl ?_
  refine gr_icmp_ne (M := gm_Reader_readClause) dq_Reader_readClause_38 49 41 rfl rfl (fun c2 => ?_) (fun c2 => ?_)
  · refine gr_iload_n (M := gm_Reader_readClause) dq_Reader_readClause_49 rfl 2 rfl 50 rfl ?_
    refine gr_bipush (M := gm_Reader_readClause) (v := 115) dq_Reader_readClause_50 (by decide) ⟨by decide, by decide⟩ 52 rfl ?_
    refine gr_icmp_ne (M := gm_Reader_readClause) dq_Reader_readClause_52 63 55 rfl rfl (fun c3 => ?_) (fun c3 => ?_)
    · refine gr_iload_n (M := gm_Reader_readClause) dq_Reader_readClause_63 rfl 2 rfl 64 rfl ?_
      refine gr_bipush (M := gm_Reader_readClause) (v := 107) dq_Reader_readClause_64 (by decide) ⟨by decide, by decide⟩ 66 rfl ?_
      refine gr_icmp_ne (M := gm_Reader_readClause) dq_Reader_readClause_66 77 69 rfl rfl (fun c4 => ?_) (fun c4 => ?_)
      · refine gr_aload_n (M := gm_Reader_readClause) dq_Reader_readClause_77 rfl 0 rfl 78 rfl ?_
        refine gr_iconst (M := gm_Reader_readClause) (v := 1) dq_Reader_readClause_78 rfl ⟨by decide, by decide⟩ 79 rfl ?_
        refine gr_aload_n (M := gm_Reader_readClause) dq_Reader_readClause_79 rfl 0 rfl 80 rfl ?_
        refine gr_geti (M := gm_Reader_readClause) dq_Reader_readClause_80 83 rfl gfl_Reader_27 gsh_25 rfl (gli hL gsh_25) ?_
        refine gr_callVv (M := gm_Reader_readClause) (as := [.inl 1, .inl (h 25 3)]) dq_Reader_readClause_83 86 rfl rfl gcy_Reader_46 gim_Reader_fail gse_Reader_fail ⟨by decide, by decide⟩ (Nat.le_of_ble_eq_true rfl) gsh_25 rfl (gli hL gsh_25) (fun o1 hg ha hx => c_Reader_fail hL hn  hg ha hx) (fun h5 r6 _ => ?_)
        exact gr_return (M := gm_Reader_readClause) dq_Reader_readClause_86 hF
      refine gr_aload_n (M := gm_Reader_readClause) dq_Reader_readClause_69 rfl 0 rfl 70 rfl ?_
      refine gr_aload_n (M := gm_Reader_readClause) dq_Reader_readClause_70 rfl 1 rfl 71 rfl ?_
      refine gr_callVv (M := gm_Reader_readClause) (as := [.inr (.inr p1)]) dq_Reader_readClause_71 74 rfl rfl gcy_Reader_56 gim_Reader_readCart gse_Reader_readCart ⟨by decide, by decide⟩ (Nat.le_of_ble_eq_true rfl) gsh_25 rfl (gli hL gsh_25) (fun o1 hg ha hx => c_Reader_readCart hL hn hp1 hg ha hx) (fun h7 r8 _ => ?_)
      refine gr_goto (M := gm_Reader_readClause) dq_Reader_readClause_74 86 rfl ?_
      exact gr_return (M := gm_Reader_readClause) dq_Reader_readClause_86 hF
    refine gr_aload_n (M := gm_Reader_readClause) dq_Reader_readClause_55 rfl 0 rfl 56 rfl ?_
    refine gr_aload_n (M := gm_Reader_readClause) dq_Reader_readClause_56 rfl 1 rfl 57 rfl ?_
    refine gr_callVv (M := gm_Reader_readClause) (as := [.inr (.inr p1)]) dq_Reader_readClause_57 60 rfl rfl gcy_Reader_53 gim_Reader_readStreet gse_Reader_readStreet ⟨by decide, by decide⟩ (Nat.le_of_ble_eq_true rfl) gsh_25 rfl (gli hL gsh_25) (fun o1 hg ha hx => c_Reader_readStreet hL hn hp1 hg ha hx) (fun h9 r10 _ => ?_)
    refine gr_goto (M := gm_Reader_readClause) dq_Reader_readClause_60 86 rfl ?_
    exact gr_return (M := gm_Reader_readClause) dq_Reader_readClause_86 hF
  refine gr_aload_n (M := gm_Reader_readClause) dq_Reader_readClause_41 rfl 0 rfl 42 rfl ?_
  refine gr_aload_n (M := gm_Reader_readClause) dq_Reader_readClause_42 rfl 1 rfl 43 rfl ?_
  refine gr_callVv (M := gm_Reader_readClause) (as := [.inr (.inr p1)]) dq_Reader_readClause_43 46 rfl rfl gcy_Reader_50 gim_Reader_readCorners gse_Reader_readCorners ⟨by decide, by decide⟩ (Nat.le_of_ble_eq_true rfl) gsh_25 rfl (gli hL gsh_25) (fun o1 hg ha hx => c_Reader_readCorners hL hn hp1 hg ha hx) (fun h11 r12 _ => ?_)
  refine gr_goto (M := gm_Reader_readClause) dq_Reader_readClause_46 86 rfl ?_
  exact gr_return (M := gm_Reader_readClause) dq_Reader_readClause_86 hF

def f_Reader_readClause (p1 : Nat) (h : gH) : Option gO := gd (gix 250 (h 25 3)) (if (h p1 0) = 0 then (if (h 26 (h 25 3).toNat) = 99 then (f_Reader_readClause_J35 p1  (h 26 (h 25 3).toNat) h) else (gb (f_Reader_fail 1 (h 25 3) h) (fun h14 r15 => some (h14, 0)))) else (f_Reader_readClause_J35 p1  (h 26 (h 25 3).toNat) h))
theorem c_Reader_readClause {Z : gZ} (hL : gLive Z) (hn : (zL Z).Nodup) {p1 : Nat} (hp1 : gsh p1 = .inr 0) {h : gH} {o : gO} (hg : gRg h) (ha : gRl [.inr (.inr 25), .inr (.inr p1)]) (hx : f_Reader_readClause p1 h = some o) : gC Z gy_Reader_readClause gc_Reader_readClause 3 none 4 95 [.inr (.inr 25), .inr (.inr p1)] h o := by
  unfold f_Reader_readClause at hx
  refine gC_of (lv := [(0, .inr (.inr 25)), (1, .inr (.inr p1))]) (own := gR_2) (by decide +kernel) rfl (Nat.le_of_ble_eq_true rfl) rfl rfl hn hg ha hx (fun X hZ hF => ?_)
  subst hZ
  show gr _ o gm_Reader_readClause X h 0 _ _
  refine gr_aload_n (M := gm_Reader_readClause) dq_Reader_readClause_0 rfl 0 rfl 1 rfl ?_
  refine gr_getr (M := gm_Reader_readClause) dq_Reader_readClause_1 4 rfl gfl_Reader_15 gsh_25 rfl (gli hL gsh_25) 26 rfl ?_
  refine gr_aload_n (M := gm_Reader_readClause) dq_Reader_readClause_4 rfl 0 rfl 5 rfl ?_
  refine gr_geti (M := gm_Reader_readClause) dq_Reader_readClause_5 8 rfl gfl_Reader_27 gsh_25 rfl (gli hL gsh_25) ?_
  refine gr_iald (M := gm_Reader_readClause) dq_Reader_readClause_8 9 rfl gsh_26 (glj hL gsh_26 (by decide)) ?_
  refine gr_istore_n (M := gm_Reader_readClause) (lv' := [(2, .inl (h 26 (h 25 3).toNat)), (0, .inr (.inr 25)), (1, .inr (.inr p1))]) dq_Reader_readClause_9 rfl (by decide) rfl 10 rfl ?_
  refine gr_aload_n (M := gm_Reader_readClause) dq_Reader_readClause_10 rfl 2 rfl 11 rfl ?_
  refine gr_geti (M := gm_Reader_readClause) dq_Reader_readClause_11 14 rfl gfl_Reader_43 hp1 rfl (gli hL hp1) ?_
  refine gr_if_ne (M := gm_Reader_readClause) dq_Reader_readClause_14 35 17 rfl rfl (fun c1 => ?_) (fun c1 => ?_)
  · refine gr_sub (M := gm_Reader_readClause) (lv' := [(0, .inr (.inr 25)), (1, .inr (.inr p1)), (2, .inl (h 26 (h 25 3).toNat))]) [1, 2, 0] rfl ?_
    exact w_Reader_readClause_J35 hL hn hF hp1  
  refine gr_iload_n (M := gm_Reader_readClause) dq_Reader_readClause_17 rfl 0 rfl 18 rfl ?_
  refine gr_bipush (M := gm_Reader_readClause) (v := 99) dq_Reader_readClause_18 (by decide) ⟨by decide, by decide⟩ 20 rfl ?_
  refine gr_icmp_eq (M := gm_Reader_readClause) dq_Reader_readClause_20 35 23 rfl rfl (fun c13 => ?_) (fun c13 => ?_)
  · refine gr_sub (M := gm_Reader_readClause) (lv' := [(0, .inr (.inr 25)), (1, .inr (.inr p1)), (2, .inl (h 26 (h 25 3).toNat))]) [1, 2, 0] rfl ?_
    exact w_Reader_readClause_J35 hL hn hF hp1  
  refine gr_aload_n (M := gm_Reader_readClause) dq_Reader_readClause_23 rfl 1 rfl 24 rfl ?_
  refine gr_iconst (M := gm_Reader_readClause) (v := 1) dq_Reader_readClause_24 rfl ⟨by decide, by decide⟩ 25 rfl ?_
  refine gr_aload_n (M := gm_Reader_readClause) dq_Reader_readClause_25 rfl 1 rfl 26 rfl ?_
  refine gr_geti (M := gm_Reader_readClause) dq_Reader_readClause_26 29 rfl gfl_Reader_27 gsh_25 rfl (gli hL gsh_25) ?_
  refine gr_callVv (M := gm_Reader_readClause) (as := [.inl 1, .inl (h 25 3)]) dq_Reader_readClause_29 32 rfl rfl gcy_Reader_46 gim_Reader_fail gse_Reader_fail ⟨by decide, by decide⟩ (Nat.le_of_ble_eq_true rfl) gsh_25 rfl (gli hL gsh_25) (fun o1 hg ha hx => c_Reader_fail hL hn  hg ha hx) (fun h14 r15 _ => ?_)
  refine gr_goto (M := gm_Reader_readClause) dq_Reader_readClause_32 86 rfl ?_
  exact gr_return (M := gm_Reader_readClause) dq_Reader_readClause_86 hF

-- Reader_readInto
theorem dq_Reader_readInto_0 : decode gc_Reader_readInto 0 = .ok (.aload_n 1, 1) := by decide +kernel
theorem dq_Reader_readInto_1 : decode gc_Reader_readInto 1 = .ok (.invokevirtual 22, 3) := by decide +kernel
theorem dq_Reader_readInto_4 : decode gc_Reader_readInto 4 = .ok (.aload_n 0, 1) := by decide +kernel
theorem dq_Reader_readInto_5 : decode gc_Reader_readInto 5 = .ok (.iconst 0, 1) := by decide +kernel
theorem dq_Reader_readInto_6 : decode gc_Reader_readInto 6 = .ok (.putfield 27, 3) := by decide +kernel
theorem dq_Reader_readInto_9 : decode gc_Reader_readInto 9 = .ok (.aload_n 0, 1) := by decide +kernel
theorem dq_Reader_readInto_10 : decode gc_Reader_readInto 10 = .ok (.iconst 0, 1) := by decide +kernel
theorem dq_Reader_readInto_11 : decode gc_Reader_readInto 11 = .ok (.putfield 30, 3) := by decide +kernel
theorem dq_Reader_readInto_14 : decode gc_Reader_readInto 14 = .ok (.aload_n 0, 1) := by decide +kernel
theorem dq_Reader_readInto_15 : decode gc_Reader_readInto 15 = .ok (.iconst (-1), 1) := by decide +kernel
theorem dq_Reader_readInto_16 : decode gc_Reader_readInto 16 = .ok (.putfield 9, 3) := by decide +kernel
theorem dq_Reader_readInto_19 : decode gc_Reader_readInto 19 = .ok (.aload_n 0, 1) := by decide +kernel
theorem dq_Reader_readInto_20 : decode gc_Reader_readInto 20 = .ok (.invokevirtual 33, 3) := by decide +kernel
theorem dq_Reader_readInto_23 : decode gc_Reader_readInto 23 = .ok (.iconst 0, 1) := by decide +kernel
theorem dq_Reader_readInto_24 : decode gc_Reader_readInto 24 = .ok (.istore_n 2, 1) := by decide +kernel
theorem dq_Reader_readInto_25 : decode gc_Reader_readInto 25 = .ok (.iload_n 2, 1) := by decide +kernel
theorem dq_Reader_readInto_26 : decode gc_Reader_readInto 26 = .ok (.sipush 250, 3) := by decide +kernel
theorem dq_Reader_readInto_29 : decode gc_Reader_readInto 29 = .ok (.if_icmp .ge 36, 3) := by decide +kernel
theorem dq_Reader_readInto_32 : decode gc_Reader_readInto 32 = .ok (.aload_n 0, 1) := by decide +kernel
theorem dq_Reader_readInto_33 : decode gc_Reader_readInto 33 = .ok (.getfield 30, 3) := by decide +kernel
theorem dq_Reader_readInto_36 : decode gc_Reader_readInto 36 = .ok (.ifCond .ne 29, 3) := by decide +kernel
theorem dq_Reader_readInto_39 : decode gc_Reader_readInto 39 = .ok (.aload_n 0, 1) := by decide +kernel
theorem dq_Reader_readInto_40 : decode gc_Reader_readInto 40 = .ok (.getfield 27, 3) := by decide +kernel
theorem dq_Reader_readInto_43 : decode gc_Reader_readInto 43 = .ok (.aload_n 0, 1) := by decide +kernel
theorem dq_Reader_readInto_44 : decode gc_Reader_readInto 44 = .ok (.getfield 19, 3) := by decide +kernel
theorem dq_Reader_readInto_47 : decode gc_Reader_readInto 47 = .ok (.if_icmp .ge 18, 3) := by decide +kernel
theorem dq_Reader_readInto_50 : decode gc_Reader_readInto 50 = .ok (.aload_n 0, 1) := by decide +kernel
theorem dq_Reader_readInto_51 : decode gc_Reader_readInto 51 = .ok (.aload_n 1, 1) := by decide +kernel
theorem dq_Reader_readInto_52 : decode gc_Reader_readInto 52 = .ok (.invokevirtual 36, 3) := by decide +kernel
theorem dq_Reader_readInto_55 : decode gc_Reader_readInto 55 = .ok (.aload_n 0, 1) := by decide +kernel
theorem dq_Reader_readInto_56 : decode gc_Reader_readInto 56 = .ok (.invokevirtual 33, 3) := by decide +kernel
theorem dq_Reader_readInto_59 : decode gc_Reader_readInto 59 = .ok (.iinc 2 1, 3) := by decide +kernel
theorem dq_Reader_readInto_62 : decode gc_Reader_readInto 62 = .ok (.goto (-37), 3) := by decide +kernel
theorem dq_Reader_readInto_65 : decode gc_Reader_readInto 65 = .ok (.aload_n 0, 1) := by decide +kernel
theorem dq_Reader_readInto_66 : decode gc_Reader_readInto 66 = .ok (.getfield 30, 3) := by decide +kernel
theorem dq_Reader_readInto_69 : decode gc_Reader_readInto 69 = .ok (.ifCond .ne 7, 3) := by decide +kernel
theorem dq_Reader_readInto_72 : decode gc_Reader_readInto 72 = .ok (.aload_n 1, 1) := by decide +kernel
theorem dq_Reader_readInto_73 : decode gc_Reader_readInto 73 = .ok (.invokevirtual 40, 3) := by decide +kernel
theorem dq_Reader_readInto_76 : decode gc_Reader_readInto 76 = .ok (.aload_n 0, 1) := by decide +kernel
theorem dq_Reader_readInto_77 : decode gc_Reader_readInto 77 = .ok (.iconst 0, 1) := by decide +kernel
theorem dq_Reader_readInto_78 : decode gc_Reader_readInto 78 = .ok (.putfield 19, 3) := by decide +kernel
theorem dq_Reader_readInto_81 : decode gc_Reader_readInto 81 = .ok (.aload_n 0, 1) := by decide +kernel
theorem dq_Reader_readInto_82 : decode gc_Reader_readInto 82 = .ok (.getfield 30, 3) := by decide +kernel
theorem dq_Reader_readInto_85 : decode gc_Reader_readInto 85 = .ok (.ireturn, 1) := by decide +kernel
abbrev gm_Reader_readInto : gM := (gc_Reader_readInto, gR_2, 5, 117, 3)
set_option maxRecDepth 20000 in
theorem gcy_Reader_22 : gCy gR_2 22 gy_City_clear gc_City_clear 1 none 0 := ⟨(gtab_at 327 (by decide +kernel) rfl), (gtab_at 2 (by decide +kernel) rfl), (gtab_at 330 rfl rfl), by decide, by decide, by decide +kernel⟩
theorem gim_City_clear : Cond.instanceMethod gy_City_clear ∈ gtbl := (gtab_at 328 (by decide +kernel) rfl)
theorem gse_City_clear : Cond.selects gy_City_clear.cls gy_City_clear gy_City_clear ∈ gtbl := (gtab_at 329 (by decide +kernel) rfl)
set_option maxRecDepth 20000 in
theorem gcy_Reader_36 : gCy gR_2 36 gy_Reader_readClause gc_Reader_readClause 3 none 1 := ⟨(gtab_at 335 (by decide +kernel) rfl), (gtab_at 3 (by decide +kernel) rfl), (gtab_at 338 rfl rfl), by decide, by decide, by decide +kernel⟩
theorem gim_Reader_readClause : Cond.instanceMethod gy_Reader_readClause ∈ gtbl := (gtab_at 337 (by decide +kernel) rfl)
theorem gse_Reader_readClause : Cond.selects gy_Reader_readClause.cls gy_Reader_readClause gy_Reader_readClause ∈ gtbl := (by decide +kernel)
set_option maxRecDepth 20000 in
theorem gcy_Reader_40 : gCy gR_2 40 gy_City_measure gc_City_measure 4 none 0 := ⟨(gtab_at 374 (by decide +kernel) rfl), (gtab_at 2 (by decide +kernel) rfl), (gtab_at 377 rfl rfl), by decide, by decide, by decide +kernel⟩
theorem gim_City_measure : Cond.instanceMethod gy_City_measure ∈ gtbl := (gtab_at 375 (by decide +kernel) rfl)
theorem gse_City_measure : Cond.selects gy_City_measure.cls gy_City_measure gy_City_measure ∈ gtbl := (gtab_at 376 (by decide +kernel) rfl)
def f_Reader_readInto_L25 (p1 : Nat) (k65 : gH → Option gO) : Nat → Int → gH → Option gO
  | 0, _, _ => none
  | n + 1, v2, h => if 250 ≤ v2 then (k65  h) else (if (h 25 5) = 0 then (if (h 25 0) ≤ (h 25 3) then (k65  h) else (gb (f_Reader_readClause p1 h) (fun h11 r12 => gb (f_Reader_skipBlanks  h11) (fun h13 r14 => f_Reader_readInto_L25 p1 k65 n (gadd v2 1) h13)))) else (k65  h))
theorem w_Reader_readInto_L25 {o : gO} {X : gX} (hL : gLive (xZ X)) (hn : (zL (xZ X)).Nodup) (hF : gFin X (some .int) o) {p1 : Nat} (hp1 : gsh p1 = .inr 0)  {k65 : gH → Option gO} (hk65 : ∀ (h : gH), gr (k65 h) o gm_Reader_readInto X h 65 [(0, .inr (.inr 25)), (1, .inr (.inr p1))] []) : ∀ (n : Nat) (v2 : Int) (h : gH), gr (f_Reader_readInto_L25 p1 k65 n v2 h) o gm_Reader_readInto X h 25 [(0, .inr (.inr 25)), (1, .inr (.inr p1)), (2, .inl v2)] [] := by
  intro n
  induction n with
  | zero => intros; exact gr_none
  | succ n ih =>
    intro v2 h
    unfold f_Reader_readInto_L25
    refine gr_iload_n (M := gm_Reader_readInto) dq_Reader_readInto_25 rfl 2 rfl 26 rfl ?_
    refine gr_sipush (M := gm_Reader_readInto) (v := 250) dq_Reader_readInto_26 (by decide) ⟨by decide, by decide⟩ 29 rfl ?_
    refine gr_icmp_ge (M := gm_Reader_readInto) dq_Reader_readInto_29 65 32 rfl rfl (fun c8 => ?_) (fun c8 => ?_)
    · refine gr_sub (M := gm_Reader_readInto) (lv' := [(0, .inr (.inr 25)), (1, .inr (.inr p1))]) [0, 1] rfl ?_
      exact hk65  _
    refine gr_aload_n (M := gm_Reader_readInto) dq_Reader_readInto_32 rfl 0 rfl 33 rfl ?_
    refine gr_geti (M := gm_Reader_readInto) dq_Reader_readInto_33 36 rfl gfl_Reader_30 gsh_25 rfl (gli hL gsh_25) ?_
    refine gr_if_ne (M := gm_Reader_readInto) dq_Reader_readInto_36 65 39 rfl rfl (fun c9 => ?_) (fun c9 => ?_)
    · refine gr_sub (M := gm_Reader_readInto) (lv' := [(0, .inr (.inr 25)), (1, .inr (.inr p1))]) [0, 1] rfl ?_
      exact hk65  _
    refine gr_aload_n (M := gm_Reader_readInto) dq_Reader_readInto_39 rfl 0 rfl 40 rfl ?_
    refine gr_geti (M := gm_Reader_readInto) dq_Reader_readInto_40 43 rfl gfl_Reader_27 gsh_25 rfl (gli hL gsh_25) ?_
    refine gr_aload_n (M := gm_Reader_readInto) dq_Reader_readInto_43 rfl 0 rfl 44 rfl ?_
    refine gr_geti (M := gm_Reader_readInto) dq_Reader_readInto_44 47 rfl gfl_Reader_19 gsh_25 rfl (gli hL gsh_25) ?_
    refine gr_icmp_ge (M := gm_Reader_readInto) dq_Reader_readInto_47 65 50 rfl rfl (fun c10 => ?_) (fun c10 => ?_)
    · refine gr_sub (M := gm_Reader_readInto) (lv' := [(0, .inr (.inr 25)), (1, .inr (.inr p1))]) [0, 1] rfl ?_
      exact hk65  _
    refine gr_aload_n (M := gm_Reader_readInto) dq_Reader_readInto_50 rfl 0 rfl 51 rfl ?_
    refine gr_aload_n (M := gm_Reader_readInto) dq_Reader_readInto_51 rfl 1 rfl 52 rfl ?_
    refine gr_callVv (M := gm_Reader_readInto) (as := [.inr (.inr p1)]) dq_Reader_readInto_52 55 rfl rfl gcy_Reader_36 gim_Reader_readClause gse_Reader_readClause ⟨by decide, by decide⟩ (Nat.le_of_ble_eq_true rfl) gsh_25 rfl (gli hL gsh_25) (fun o1 hg ha hx => c_Reader_readClause hL hn hp1 hg ha hx) (fun h11 r12 _ => ?_)
    refine gr_aload_n (M := gm_Reader_readInto) dq_Reader_readInto_55 rfl 0 rfl 56 rfl ?_
    refine gr_callVv (M := gm_Reader_readInto) (as := []) dq_Reader_readInto_56 59 rfl rfl gcy_Reader_33 gim_Reader_skipBlanks gse_Reader_skipBlanks ⟨by decide, by decide⟩ (Nat.le_of_ble_eq_true rfl) gsh_25 rfl (gli hL gsh_25) (fun o1 hg ha hx => c_Reader_skipBlanks hL hn  hg ha hx) (fun h13 r14 _ => ?_)
    refine gr_iinc (M := gm_Reader_readInto) (lv' := [(2, .inl (gadd v2 1)), (0, .inr (.inr 25)), (1, .inr (.inr p1))]) dq_Reader_readInto_59 2 rfl rfl (by decide) rfl 62 rfl ?_
    refine gr_goto (M := gm_Reader_readInto) dq_Reader_readInto_62 25 rfl ?_
    refine gr_sub (M := gm_Reader_readInto) (lv' := [(0, .inr (.inr 25)), (1, .inr (.inr p1)), (2, .inl (gadd v2 1))]) [1, 2, 0] rfl ?_
    exact ih _ _

def f_Reader_readInto_J76 (p1 : Nat)   (h : gH) : Option gO := gs (gup h 25 0 0) (fun h17 => some (h17, (h17 25 5)))
theorem w_Reader_readInto_J76 {o : gO} {X : gX} (hL : gLive (xZ X)) (hn : (zL (xZ X)).Nodup) (hF : gFin X (some .int) o) {p1 : Nat} (hp1 : gsh p1 = .inr 0)    {h : gH}  : gr (f_Reader_readInto_J76 p1   h) o gm_Reader_readInto X h 76 [(0, .inr (.inr 25))] [] := by
  unfold f_Reader_readInto_J76
  refine gr_aload_n (M := gm_Reader_readInto) dq_Reader_readInto_76 rfl 0 rfl 77 rfl ?_
  refine gr_iconst (M := gm_Reader_readInto) (v := 0) dq_Reader_readInto_77 rfl ⟨by decide, by decide⟩ 78 rfl ?_
  refine gr_puti (M := gm_Reader_readInto) dq_Reader_readInto_78 81 rfl gfp_Reader_19 gsh_25 rfl (gli hL gsh_25) (fun h17 _ => ?_)
  refine gr_aload_n (M := gm_Reader_readInto) dq_Reader_readInto_81 rfl 0 rfl 82 rfl ?_
  refine gr_geti (M := gm_Reader_readInto) dq_Reader_readInto_82 85 rfl gfl_Reader_30 gsh_25 rfl (gli hL gsh_25) ?_
  exact gr_ireturn (M := gm_Reader_readInto) dq_Reader_readInto_85 hF

def f_Reader_readInto_J65 (p1 : Nat)   (h : gH) : Option gO := if (h 25 5) = 0 then (gb (f_City_measure p1 h) (fun h18 r19 => f_Reader_readInto_J76 p1   h18)) else (f_Reader_readInto_J76 p1   h)
theorem w_Reader_readInto_J65 {o : gO} {X : gX} (hL : gLive (xZ X)) (hn : (zL (xZ X)).Nodup) (hF : gFin X (some .int) o) {p1 : Nat} (hp1 : gsh p1 = .inr 0)    {h : gH}  : gr (f_Reader_readInto_J65 p1   h) o gm_Reader_readInto X h 65 [(0, .inr (.inr 25)), (1, .inr (.inr p1))] [] := by
  unfold f_Reader_readInto_J65
  refine gr_aload_n (M := gm_Reader_readInto) dq_Reader_readInto_65 rfl 0 rfl 66 rfl ?_
  refine gr_geti (M := gm_Reader_readInto) dq_Reader_readInto_66 69 rfl gfl_Reader_30 gsh_25 rfl (gli hL gsh_25) ?_
  refine gr_if_ne (M := gm_Reader_readInto) dq_Reader_readInto_69 76 72 rfl rfl (fun c16 => ?_) (fun c16 => ?_)
  · refine gr_sub (M := gm_Reader_readInto) (lv' := [(0, .inr (.inr 25))]) [0] rfl ?_
    exact w_Reader_readInto_J76 hL hn hF hp1  
  refine gr_aload_n (M := gm_Reader_readInto) dq_Reader_readInto_72 rfl 1 rfl 73 rfl ?_
  refine gr_callVv (M := gm_Reader_readInto) (as := []) dq_Reader_readInto_73 76 rfl rfl gcy_Reader_40 gim_City_measure gse_City_measure ⟨by decide, by decide⟩ (Nat.le_of_ble_eq_true rfl) hp1 rfl (gli hL hp1) (fun o1 hg ha hx => c_City_measure hL hn hp1 hg ha hx) (fun h18 r19 _ => ?_)
  refine gr_sub (M := gm_Reader_readInto) (lv' := [(0, .inr (.inr 25))]) [0] rfl ?_
  exact w_Reader_readInto_J76 hL hn hF hp1  

def f_Reader_readInto (p1 : Nat) (h : gH) : Option gO := gb (f_City_clear p1 h) (fun h1 r2 => gs (gup h1 25 3 0) (fun h3 => gs (gup h3 25 5 0) (fun h4 => gs (gup h4 25 1 (-1)) (fun h5 => gb (f_Reader_skipBlanks  h5) (fun h6 r7 => f_Reader_readInto_L25 p1 (fun  h15 => f_Reader_readInto_J65 p1   h15) 50000 0 h6)))))
theorem c_Reader_readInto {Z : gZ} (hL : gLive Z) (hn : (zL Z).Nodup) {p1 : Nat} (hp1 : gsh p1 = .inr 0) {h : gH} {o : gO} (hg : gRg h) (ha : gRl [.inr (.inr 25), .inr (.inr p1)]) (hx : f_Reader_readInto p1 h = some o) : gC Z gy_Reader_readInto gc_Reader_readInto 3 (some .int) 5 117 [.inr (.inr 25), .inr (.inr p1)] h o := by
  unfold f_Reader_readInto at hx
  refine gC_of (lv := [(0, .inr (.inr 25)), (1, .inr (.inr p1))]) (own := gR_2) (by decide +kernel) rfl (Nat.le_of_ble_eq_true rfl) rfl rfl hn hg ha hx (fun X hZ hF => ?_)
  subst hZ
  show gr _ o gm_Reader_readInto X h 0 _ _
  refine gr_aload_n (M := gm_Reader_readInto) dq_Reader_readInto_0 rfl 1 rfl 1 rfl ?_
  refine gr_callVv (M := gm_Reader_readInto) (as := []) dq_Reader_readInto_1 4 rfl rfl gcy_Reader_22 gim_City_clear gse_City_clear ⟨by decide, by decide⟩ (Nat.le_of_ble_eq_true rfl) hp1 rfl (gli hL hp1) (fun o1 hg ha hx => c_City_clear hL hn hp1 hg ha hx) (fun h1 r2 _ => ?_)
  refine gr_aload_n (M := gm_Reader_readInto) dq_Reader_readInto_4 rfl 0 rfl 5 rfl ?_
  refine gr_iconst (M := gm_Reader_readInto) (v := 0) dq_Reader_readInto_5 rfl ⟨by decide, by decide⟩ 6 rfl ?_
  refine gr_puti (M := gm_Reader_readInto) dq_Reader_readInto_6 9 rfl gfp_Reader_27 gsh_25 rfl (gli hL gsh_25) (fun h3 _ => ?_)
  refine gr_aload_n (M := gm_Reader_readInto) dq_Reader_readInto_9 rfl 0 rfl 10 rfl ?_
  refine gr_iconst (M := gm_Reader_readInto) (v := 0) dq_Reader_readInto_10 rfl ⟨by decide, by decide⟩ 11 rfl ?_
  refine gr_puti (M := gm_Reader_readInto) dq_Reader_readInto_11 14 rfl gfp_Reader_30 gsh_25 rfl (gli hL gsh_25) (fun h4 _ => ?_)
  refine gr_aload_n (M := gm_Reader_readInto) dq_Reader_readInto_14 rfl 0 rfl 15 rfl ?_
  refine gr_iconst (M := gm_Reader_readInto) (v := (-1)) dq_Reader_readInto_15 rfl ⟨by decide, by decide⟩ 16 rfl ?_
  refine gr_puti (M := gm_Reader_readInto) dq_Reader_readInto_16 19 rfl gfp_Reader_9 gsh_25 rfl (gli hL gsh_25) (fun h5 _ => ?_)
  refine gr_aload_n (M := gm_Reader_readInto) dq_Reader_readInto_19 rfl 0 rfl 20 rfl ?_
  refine gr_callVv (M := gm_Reader_readInto) (as := []) dq_Reader_readInto_20 23 rfl rfl gcy_Reader_33 gim_Reader_skipBlanks gse_Reader_skipBlanks ⟨by decide, by decide⟩ (Nat.le_of_ble_eq_true rfl) gsh_25 rfl (gli hL gsh_25) (fun o1 hg ha hx => c_Reader_skipBlanks hL hn  hg ha hx) (fun h6 r7 _ => ?_)
  refine gr_iconst (M := gm_Reader_readInto) (v := 0) dq_Reader_readInto_23 rfl ⟨by decide, by decide⟩ 24 rfl ?_
  refine gr_istore_n (M := gm_Reader_readInto) (lv' := [(2, .inl 0), (0, .inr (.inr 25)), (1, .inr (.inr p1))]) dq_Reader_readInto_24 rfl (by decide) rfl 25 rfl ?_
  refine gr_sub (M := gm_Reader_readInto) (lv' := [(0, .inr (.inr 25)), (1, .inr (.inr p1)), (2, .inl 0)]) [1, 2, 0] rfl ?_
  refine w_Reader_readInto_L25 hL hn hF hp1  (fun h15 => ?_) 50000 _ _
  exact w_Reader_readInto_J65 hL hn hF hp1  

