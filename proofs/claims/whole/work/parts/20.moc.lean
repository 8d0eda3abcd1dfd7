-- Mo_rankOf
theorem dq_Mo_rankOf_0 : decode gc_Mo_rankOf 0 = .ok (.iload_n 1, 1) := by decide +kernel
theorem dq_Mo_rankOf_1 : decode gc_Mo_rankOf 1 = .ok (.ifCond .ge 7, 3) := by decide +kernel
theorem dq_Mo_rankOf_4 : decode gc_Mo_rankOf 4 = .ok (.iconst 0, 1) := by decide +kernel
theorem dq_Mo_rankOf_5 : decode gc_Mo_rankOf 5 = .ok (.goto 12, 3) := by decide +kernel
theorem dq_Mo_rankOf_8 : decode gc_Mo_rankOf 8 = .ok (.aload_n 0, 1) := by decide +kernel
theorem dq_Mo_rankOf_9 : decode gc_Mo_rankOf 9 = .ok (.getfield 34, 3) := by decide +kernel
theorem dq_Mo_rankOf_12 : decode gc_Mo_rankOf 12 = .ok (.bipush 20, 2) := by decide +kernel
theorem dq_Mo_rankOf_14 : decode gc_Mo_rankOf 14 = .ok (.iload_n 1, 1) := by decide +kernel
theorem dq_Mo_rankOf_15 : decode gc_Mo_rankOf 15 = .ok (.iadd, 1) := by decide +kernel
theorem dq_Mo_rankOf_16 : decode gc_Mo_rankOf 16 = .ok (.iaload, 1) := by decide +kernel
theorem dq_Mo_rankOf_17 : decode gc_Mo_rankOf 17 = .ok (.ireturn, 1) := by decide +kernel
abbrev gm_Mo_rankOf : gM := (gc_Mo_rankOf, gR_7, 0, 0, 2)
def f_Mo_rankOf (a1 : Int) (h : gH) : Option gO := if 0 ≤ a1 then (gd (gix 50 (gadd 20 a1)) (some (h, (h 92 (gadd 20 a1).toNat)))) else (some (h, 0))
theorem c_Mo_rankOf {Z : gZ} (hL : gLive Z) (hn : (zL Z).Nodup) {a1 : Int}  {h : gH} {o : gO} (hg : gRg h) (ha : gRl [.inr (.inr 83), .inl a1]) (hx : f_Mo_rankOf a1 h = some o) : gC Z gy_Mo_rankOf gc_Mo_rankOf 2 (some .int) 0 0 [.inr (.inr 83), .inl a1] h o := by
  unfold f_Mo_rankOf at hx
  refine gC_of (lv := [(0, .inr (.inr 83)), (1, .inl a1)]) (own := gR_7) (by decide +kernel) rfl (Nat.le_of_ble_eq_true rfl) rfl rfl hn hg ha hx (fun X hZ hF => ?_)
  subst hZ
  show gr _ o gm_Mo_rankOf X h 0 _ _
  refine gr_iload_n (M := gm_Mo_rankOf) dq_Mo_rankOf_0 rfl 1 rfl 1 rfl ?_
  refine gr_if_ge (M := gm_Mo_rankOf) dq_Mo_rankOf_1 8 4 rfl rfl (fun c1 => ?_) (fun c1 => ?_)
  · refine gr_aload_n (M := gm_Mo_rankOf) dq_Mo_rankOf_8 rfl 0 rfl 9 rfl ?_
    refine gr_getr (M := gm_Mo_rankOf) dq_Mo_rankOf_9 12 rfl gfl_Mo_34 gsh_83 rfl (gli hL gsh_83) 92 rfl ?_
    refine gr_bipush (M := gm_Mo_rankOf) (v := 20) dq_Mo_rankOf_12 (by decide) ⟨by decide, by decide⟩ 14 rfl ?_
    refine gr_iload_n (M := gm_Mo_rankOf) dq_Mo_rankOf_14 rfl 1 rfl 15 rfl ?_
    refine gr_iadd (M := gm_Mo_rankOf) dq_Mo_rankOf_15 16 rfl ?_
    refine gr_iald (M := gm_Mo_rankOf) dq_Mo_rankOf_16 17 rfl gsh_92 (glj hL gsh_92 (by decide)) ?_
    exact gr_ireturn (M := gm_Mo_rankOf) dq_Mo_rankOf_17 hF
  refine gr_iconst (M := gm_Mo_rankOf) (v := 0) dq_Mo_rankOf_4 rfl ⟨by decide, by decide⟩ 5 rfl ?_
  refine gr_goto (M := gm_Mo_rankOf) dq_Mo_rankOf_5 17 rfl ?_
  exact gr_ireturn (M := gm_Mo_rankOf) dq_Mo_rankOf_17 hF

-- Mo_sideBy
theorem dq_Mo_sideBy_0 : decode gc_Mo_sideBy 0 = .ok (.iload_n 0, 1) := by decide +kernel
theorem dq_Mo_sideBy_1 : decode gc_Mo_sideBy 1 = .ok (.iload_n 1, 1) := by decide +kernel
theorem dq_Mo_sideBy_2 : decode gc_Mo_sideBy 2 = .ok (.if_icmp .le 7, 3) := by decide +kernel
theorem dq_Mo_sideBy_5 : decode gc_Mo_sideBy 5 = .ok (.iconst 0, 1) := by decide +kernel
theorem dq_Mo_sideBy_6 : decode gc_Mo_sideBy 6 = .ok (.goto 13, 3) := by decide +kernel
theorem dq_Mo_sideBy_9 : decode gc_Mo_sideBy 9 = .ok (.iload_n 1, 1) := by decide +kernel
theorem dq_Mo_sideBy_10 : decode gc_Mo_sideBy 10 = .ok (.iload_n 0, 1) := by decide +kernel
theorem dq_Mo_sideBy_11 : decode gc_Mo_sideBy 11 = .ok (.if_icmp .le 7, 3) := by decide +kernel
theorem dq_Mo_sideBy_14 : decode gc_Mo_sideBy 14 = .ok (.iconst 1, 1) := by decide +kernel
theorem dq_Mo_sideBy_15 : decode gc_Mo_sideBy 15 = .ok (.goto 4, 3) := by decide +kernel
theorem dq_Mo_sideBy_18 : decode gc_Mo_sideBy 18 = .ok (.iload_n 2, 1) := by decide +kernel
theorem dq_Mo_sideBy_19 : decode gc_Mo_sideBy 19 = .ok (.ireturn, 1) := by decide +kernel
abbrev gm_Mo_sideBy : gM := (gc_Mo_sideBy, gR_7, 0, 0, 3)
def f_Mo_sideBy (a0 : Int) (a1 : Int) (a2 : Int) (h : gH) : Option gO := if a0 ≤ a1 then (if a1 ≤ a0 then (some (h, a2)) else (some (h, 1))) else (some (h, 0))
theorem c_Mo_sideBy {Z : gZ} (hL : gLive Z) (hn : (zL Z).Nodup) {a0 : Int} {a1 : Int} {a2 : Int}  {h : gH} {o : gO} (hg : gRg h) (ha : gRl [.inl a0, .inl a1, .inl a2]) (hx : f_Mo_sideBy a0 a1 a2 h = some o) : gC Z gy_Mo_sideBy gc_Mo_sideBy 3 (some .int) 0 0 [.inl a0, .inl a1, .inl a2] h o := by
  unfold f_Mo_sideBy at hx
  refine gC_of (lv := [(0, .inl a0), (1, .inl a1), (2, .inl a2)]) (own := gR_7) (by decide +kernel) rfl (Nat.le_of_ble_eq_true rfl) rfl rfl hn hg ha hx (fun X hZ hF => ?_)
  subst hZ
  show gr _ o gm_Mo_sideBy X h 0 _ _
  refine gr_iload_n (M := gm_Mo_sideBy) dq_Mo_sideBy_0 rfl 0 rfl 1 rfl ?_
  refine gr_iload_n (M := gm_Mo_sideBy) dq_Mo_sideBy_1 rfl 1 rfl 2 rfl ?_
  refine gr_icmp_le (M := gm_Mo_sideBy) dq_Mo_sideBy_2 9 5 rfl rfl (fun c1 => ?_) (fun c1 => ?_)
  · refine gr_iload_n (M := gm_Mo_sideBy) dq_Mo_sideBy_9 rfl 1 rfl 10 rfl ?_
    refine gr_iload_n (M := gm_Mo_sideBy) dq_Mo_sideBy_10 rfl 0 rfl 11 rfl ?_
    refine gr_icmp_le (M := gm_Mo_sideBy) dq_Mo_sideBy_11 18 14 rfl rfl (fun c2 => ?_) (fun c2 => ?_)
    · refine gr_iload_n (M := gm_Mo_sideBy) dq_Mo_sideBy_18 rfl 2 rfl 19 rfl ?_
      exact gr_ireturn (M := gm_Mo_sideBy) dq_Mo_sideBy_19 hF
    refine gr_iconst (M := gm_Mo_sideBy) (v := 1) dq_Mo_sideBy_14 rfl ⟨by decide, by decide⟩ 15 rfl ?_
    refine gr_goto (M := gm_Mo_sideBy) dq_Mo_sideBy_15 19 rfl ?_
    exact gr_ireturn (M := gm_Mo_sideBy) dq_Mo_sideBy_19 hF
  refine gr_iconst (M := gm_Mo_sideBy) (v := 0) dq_Mo_sideBy_5 rfl ⟨by decide, by decide⟩ 6 rfl ?_
  refine gr_goto (M := gm_Mo_sideBy) dq_Mo_sideBy_6 19 rfl ?_
  exact gr_ireturn (M := gm_Mo_sideBy) dq_Mo_sideBy_19 hF

-- Mo_goesBy
theorem dq_Mo_goesBy_0 : decode gc_Mo_goesBy 0 = .ok (.aload_n 0, 1) := by decide +kernel
theorem dq_Mo_goesBy_1 : decode gc_Mo_goesBy 1 = .ok (.getfield 34, 3) := by decide +kernel
theorem dq_Mo_goesBy_4 : decode gc_Mo_goesBy 4 = .ok (.iconst 2, 1) := by decide +kernel
theorem dq_Mo_goesBy_5 : decode gc_Mo_goesBy 5 = .ok (.iload_n 1, 1) := by decide +kernel
theorem dq_Mo_goesBy_6 : decode gc_Mo_goesBy 6 = .ok (.iadd, 1) := by decide +kernel
theorem dq_Mo_goesBy_7 : decode gc_Mo_goesBy 7 = .ok (.iaload, 1) := by decide +kernel
theorem dq_Mo_goesBy_8 : decode gc_Mo_goesBy 8 = .ok (.istore_n 2, 1) := by decide +kernel
theorem dq_Mo_goesBy_9 : decode gc_Mo_goesBy 9 = .ok (.aload_n 0, 1) := by decide +kernel
theorem dq_Mo_goesBy_10 : decode gc_Mo_goesBy 10 = .ok (.getfield 34, 3) := by decide +kernel
theorem dq_Mo_goesBy_13 : decode gc_Mo_goesBy 13 = .ok (.bipush 11, 2) := by decide +kernel
theorem dq_Mo_goesBy_15 : decode gc_Mo_goesBy 15 = .ok (.iload_n 1, 1) := by decide +kernel
theorem dq_Mo_goesBy_16 : decode gc_Mo_goesBy 16 = .ok (.iadd, 1) := by decide +kernel
theorem dq_Mo_goesBy_17 : decode gc_Mo_goesBy 17 = .ok (.iaload, 1) := by decide +kernel
theorem dq_Mo_goesBy_18 : decode gc_Mo_goesBy 18 = .ok (.istore_n 3, 1) := by decide +kernel
theorem dq_Mo_goesBy_19 : decode gc_Mo_goesBy 19 = .ok (.iload_n 2, 1) := by decide +kernel
theorem dq_Mo_goesBy_20 : decode gc_Mo_goesBy 20 = .ok (.ifCond .ne 50, 3) := by decide +kernel
theorem dq_Mo_goesBy_23 : decode gc_Mo_goesBy 23 = .ok (.aload_n 0, 1) := by decide +kernel
theorem dq_Mo_goesBy_24 : decode gc_Mo_goesBy 24 = .ok (.iload_n 1, 1) := by decide +kernel
theorem dq_Mo_goesBy_25 : decode gc_Mo_goesBy 25 = .ok (.iconst 0, 1) := by decide +kernel
theorem dq_Mo_goesBy_26 : decode gc_Mo_goesBy 26 = .ok (.invokevirtual 238, 3) := by decide +kernel
theorem dq_Mo_goesBy_29 : decode gc_Mo_goesBy 29 = .ok (.istore 4, 2) := by decide +kernel
theorem dq_Mo_goesBy_31 : decode gc_Mo_goesBy 31 = .ok (.aload_n 0, 1) := by decide +kernel
theorem dq_Mo_goesBy_32 : decode gc_Mo_goesBy 32 = .ok (.iload_n 1, 1) := by decide +kernel
theorem dq_Mo_goesBy_33 : decode gc_Mo_goesBy 33 = .ok (.iconst 1, 1) := by decide +kernel
theorem dq_Mo_goesBy_34 : decode gc_Mo_goesBy 34 = .ok (.invokevirtual 238, 3) := by decide +kernel
theorem dq_Mo_goesBy_37 : decode gc_Mo_goesBy 37 = .ok (.istore 5, 2) := by decide +kernel
theorem dq_Mo_goesBy_39 : decode gc_Mo_goesBy 39 = .ok (.iload 4, 2) := by decide +kernel
theorem dq_Mo_goesBy_41 : decode gc_Mo_goesBy 41 = .ok (.ldc 181, 2) := by decide +kernel
theorem dq_Mo_goesBy_43 : decode gc_Mo_goesBy 43 = .ok (.if_icmp .ne 14, 3) := by decide +kernel
theorem dq_Mo_goesBy_46 : decode gc_Mo_goesBy 46 = .ok (.iload 5, 2) := by decide +kernel
theorem dq_Mo_goesBy_48 : decode gc_Mo_goesBy 48 = .ok (.ldc 181, 2) := by decide +kernel
theorem dq_Mo_goesBy_50 : decode gc_Mo_goesBy 50 = .ok (.if_icmp .ne 7, 3) := by decide +kernel
theorem dq_Mo_goesBy_53 : decode gc_Mo_goesBy 53 = .ok (.iload_n 3, 1) := by decide +kernel
theorem dq_Mo_goesBy_54 : decode gc_Mo_goesBy 54 = .ok (.goto 15, 3) := by decide +kernel
theorem dq_Mo_goesBy_57 : decode gc_Mo_goesBy 57 = .ok (.iload 4, 2) := by decide +kernel
theorem dq_Mo_goesBy_59 : decode gc_Mo_goesBy 59 = .ok (.iload 5, 2) := by decide +kernel
theorem dq_Mo_goesBy_61 : decode gc_Mo_goesBy 61 = .ok (.if_icmp .gt 7, 3) := by decide +kernel
theorem dq_Mo_goesBy_64 : decode gc_Mo_goesBy 64 = .ok (.iconst 0, 1) := by decide +kernel
theorem dq_Mo_goesBy_65 : decode gc_Mo_goesBy 65 = .ok (.goto 4, 3) := by decide +kernel
theorem dq_Mo_goesBy_68 : decode gc_Mo_goesBy 68 = .ok (.iconst 1, 1) := by decide +kernel
theorem dq_Mo_goesBy_69 : decode gc_Mo_goesBy 69 = .ok (.ireturn, 1) := by decide +kernel
theorem dq_Mo_goesBy_70 : decode gc_Mo_goesBy 70 = .ok (.iload_n 2, 1) := by decide +kernel
theorem dq_Mo_goesBy_71 : decode gc_Mo_goesBy 71 = .ok (.iconst 1, 1) := by decide +kernel
theorem dq_Mo_goesBy_72 : decode gc_Mo_goesBy 72 = .ok (.if_icmp .ne 17, 3) := by decide +kernel
theorem dq_Mo_goesBy_75 : decode gc_Mo_goesBy 75 = .ok (.aload_n 0, 1) := by decide +kernel
theorem dq_Mo_goesBy_76 : decode gc_Mo_goesBy 76 = .ok (.getfield 34, 3) := by decide +kernel
theorem dq_Mo_goesBy_79 : decode gc_Mo_goesBy 79 = .ok (.iconst 0, 1) := by decide +kernel
theorem dq_Mo_goesBy_80 : decode gc_Mo_goesBy 80 = .ok (.iaload, 1) := by decide +kernel
theorem dq_Mo_goesBy_81 : decode gc_Mo_goesBy 81 = .ok (.aload_n 0, 1) := by decide +kernel
theorem dq_Mo_goesBy_82 : decode gc_Mo_goesBy 82 = .ok (.getfield 182, 3) := by decide +kernel
theorem dq_Mo_goesBy_85 : decode gc_Mo_goesBy 85 = .ok (.idiv, 1) := by decide +kernel
theorem dq_Mo_goesBy_86 : decode gc_Mo_goesBy 86 = .ok (.iconst 2, 1) := by decide +kernel
theorem dq_Mo_goesBy_87 : decode gc_Mo_goesBy 87 = .ok (.irem, 1) := by decide +kernel
theorem dq_Mo_goesBy_88 : decode gc_Mo_goesBy 88 = .ok (.ireturn, 1) := by decide +kernel
theorem dq_Mo_goesBy_89 : decode gc_Mo_goesBy 89 = .ok (.iload_n 2, 1) := by decide +kernel
theorem dq_Mo_goesBy_90 : decode gc_Mo_goesBy 90 = .ok (.iconst 2, 1) := by decide +kernel
theorem dq_Mo_goesBy_91 : decode gc_Mo_goesBy 91 = .ok (.if_icmp .ne 20, 3) := by decide +kernel
theorem dq_Mo_goesBy_94 : decode gc_Mo_goesBy 94 = .ok (.aload_n 0, 1) := by decide +kernel
theorem dq_Mo_goesBy_95 : decode gc_Mo_goesBy 95 = .ok (.iload_n 1, 1) := by decide +kernel
theorem dq_Mo_goesBy_96 : decode gc_Mo_goesBy 96 = .ok (.iconst 0, 1) := by decide +kernel
theorem dq_Mo_goesBy_97 : decode gc_Mo_goesBy 97 = .ok (.invokevirtual 241, 3) := by decide +kernel
theorem dq_Mo_goesBy_100 : decode gc_Mo_goesBy 100 = .ok (.aload_n 0, 1) := by decide +kernel
theorem dq_Mo_goesBy_101 : decode gc_Mo_goesBy 101 = .ok (.iload_n 1, 1) := by decide +kernel
theorem dq_Mo_goesBy_102 : decode gc_Mo_goesBy 102 = .ok (.iconst 1, 1) := by decide +kernel
theorem dq_Mo_goesBy_103 : decode gc_Mo_goesBy 103 = .ok (.invokevirtual 241, 3) := by decide +kernel
theorem dq_Mo_goesBy_106 : decode gc_Mo_goesBy 106 = .ok (.iload_n 3, 1) := by decide +kernel
theorem dq_Mo_goesBy_107 : decode gc_Mo_goesBy 107 = .ok (.invokestatic 244, 3) := by decide +kernel
theorem dq_Mo_goesBy_110 : decode gc_Mo_goesBy 110 = .ok (.ireturn, 1) := by decide +kernel
theorem dq_Mo_goesBy_111 : decode gc_Mo_goesBy 111 = .ok (.iload_n 2, 1) := by decide +kernel
theorem dq_Mo_goesBy_112 : decode gc_Mo_goesBy 112 = .ok (.iconst 3, 1) := by decide +kernel
theorem dq_Mo_goesBy_113 : decode gc_Mo_goesBy 113 = .ok (.if_icmp .ne 30, 3) := by decide +kernel
theorem dq_Mo_goesBy_116 : decode gc_Mo_goesBy 116 = .ok (.aload_n 0, 1) := by decide +kernel
theorem dq_Mo_goesBy_117 : decode gc_Mo_goesBy 117 = .ok (.aload_n 0, 1) := by decide +kernel
theorem dq_Mo_goesBy_118 : decode gc_Mo_goesBy 118 = .ok (.iload_n 1, 1) := by decide +kernel
theorem dq_Mo_goesBy_119 : decode gc_Mo_goesBy 119 = .ok (.iconst 0, 1) := by decide +kernel
theorem dq_Mo_goesBy_120 : decode gc_Mo_goesBy 120 = .ok (.invokevirtual 235, 3) := by decide +kernel
theorem dq_Mo_goesBy_123 : decode gc_Mo_goesBy 123 = .ok (.invokevirtual 248, 3) := by decide +kernel
theorem dq_Mo_goesBy_126 : decode gc_Mo_goesBy 126 = .ok (.aload_n 0, 1) := by decide +kernel
theorem dq_Mo_goesBy_127 : decode gc_Mo_goesBy 127 = .ok (.aload_n 0, 1) := by decide +kernel
theorem dq_Mo_goesBy_128 : decode gc_Mo_goesBy 128 = .ok (.iload_n 1, 1) := by decide +kernel
theorem dq_Mo_goesBy_129 : decode gc_Mo_goesBy 129 = .ok (.iconst 1, 1) := by decide +kernel
theorem dq_Mo_goesBy_130 : decode gc_Mo_goesBy 130 = .ok (.invokevirtual 235, 3) := by decide +kernel
theorem dq_Mo_goesBy_133 : decode gc_Mo_goesBy 133 = .ok (.invokevirtual 248, 3) := by decide +kernel
theorem dq_Mo_goesBy_136 : decode gc_Mo_goesBy 136 = .ok (.iload_n 3, 1) := by decide +kernel
theorem dq_Mo_goesBy_137 : decode gc_Mo_goesBy 137 = .ok (.invokestatic 244, 3) := by decide +kernel
theorem dq_Mo_goesBy_140 : decode gc_Mo_goesBy 140 = .ok (.goto 4, 3) := by decide +kernel
theorem dq_Mo_goesBy_143 : decode gc_Mo_goesBy 143 = .ok (.iconst 0, 1) := by decide +kernel
theorem dq_Mo_goesBy_144 : decode gc_Mo_goesBy 144 = .ok (.ireturn, 1) := by decide +kernel
abbrev gm_Mo_goesBy : gM := (gc_Mo_goesBy, gR_7, 5, 116, 6)
set_option maxRecDepth 20000 in
theorem gcy_Mo_248 : gCy gR_7 248 gy_Mo_rankOf gc_Mo_rankOf 2 (some .int) 1 := ⟨(gtab_at 1056 (by decide +kernel) rfl), (gtab_at 8 (by decide +kernel) rfl), (gtab_at 1059 rfl rfl), by decide, by decide, by decide +kernel⟩
theorem gim_Mo_rankOf : Cond.instanceMethod gy_Mo_rankOf ∈ gtbl := (gtab_at 1058 (by decide +kernel) rfl)
theorem gse_Mo_rankOf : Cond.selects gy_Mo_rankOf.cls gy_Mo_rankOf gy_Mo_rankOf ∈ gtbl := (by decide +kernel)
set_option maxRecDepth 20000 in
theorem gcy_Mo_244 : gCy gR_7 244 gy_Mo_sideBy gc_Mo_sideBy 3 (some .int) 3 := ⟨(gtab_at 1053 (by decide +kernel) rfl), (gtab_at 8 (by decide +kernel) rfl), (gtab_at 1055 rfl rfl), by decide, by decide, by decide +kernel⟩
theorem gst_Mo_sideBy : Cond.static gy_Mo_sideBy ∈ gtbl := (gtab_at 1054 (by decide +kernel) rfl)
set_option maxRecDepth 20000 in
theorem gcy_Mo_241 : gCy gR_7 241 gy_Mo_waiting gc_Mo_waiting 5 (some .int) 2 := ⟨(gtab_at 1049 (by decide +kernel) rfl), (gtab_at 8 (by decide +kernel) rfl), (gtab_at 1052 rfl rfl), by decide, by decide, by decide +kernel⟩
theorem gim_Mo_waiting : Cond.instanceMethod gy_Mo_waiting ∈ gtbl := (gtab_at 1051 (by decide +kernel) rfl)
theorem gse_Mo_waiting : Cond.selects gy_Mo_waiting.cls gy_Mo_waiting gy_Mo_waiting ∈ gtbl := (by decide +kernel)
set_option maxRecDepth 20000 in
theorem gcy_Mo_238 : gCy gR_7 238 gy_Mo_longest gc_Mo_longest 5 (some .int) 2 := ⟨(gtab_at 1045 (by decide +kernel) rfl), (gtab_at 8 (by decide +kernel) rfl), (gtab_at 1048 rfl rfl), by decide, by decide, by decide +kernel⟩
theorem gim_Mo_longest : Cond.instanceMethod gy_Mo_longest ∈ gtbl := (gtab_at 1047 (by decide +kernel) rfl)
theorem gse_Mo_longest : Cond.selects gy_Mo_longest.cls gy_Mo_longest gy_Mo_longest ∈ gtbl := (by decide +kernel)
def f_Mo_goesBy_J57   (v4 : Int) (v5 : Int) (h : gH) : Option gO := if v5 < v4 then (some (h, 1)) else (some (h, 0))
theorem w_Mo_goesBy_J57 {o : gO} {X : gX} (hL : gLive (xZ X)) (hn : (zL (xZ X)).Nodup) (hF : gFin X (some .int) o)     {v4 : Int} {v5 : Int} {h : gH}  : gr (f_Mo_goesBy_J57   v4 v5 h) o gm_Mo_goesBy X h 57 [(4, .inl v4), (5, .inl v5)] [] := by
  unfold f_Mo_goesBy_J57
  refine gr_iload (M := gm_Mo_goesBy) dq_Mo_goesBy_57 0 rfl 59 rfl ?_
  refine gr_iload (M := gm_Mo_goesBy) dq_Mo_goesBy_59 1 rfl 61 rfl ?_
  refine gr_icmp_gt (M := gm_Mo_goesBy) dq_Mo_goesBy_61 68 64 rfl rfl (fun c26 => ?_) (fun c26 => ?_)
  · refine gr_iconst (M := gm_Mo_goesBy) (v := 1) dq_Mo_goesBy_68 rfl ⟨by decide, by decide⟩ 69 rfl ?_
    exact gr_ireturn (M := gm_Mo_goesBy) dq_Mo_goesBy_69 hF
  refine gr_iconst (M := gm_Mo_goesBy) (v := 0) dq_Mo_goesBy_64 rfl ⟨by decide, by decide⟩ 65 rfl ?_
  refine gr_goto (M := gm_Mo_goesBy) dq_Mo_goesBy_65 69 rfl ?_
  exact gr_ireturn (M := gm_Mo_goesBy) dq_Mo_goesBy_69 hF

def f_Mo_goesBy (a1 : Int) (h : gH) : Option gO := gd (gix 50 (gadd 2 a1)) (gd (gix 50 (gadd 11 a1)) (if (h 92 (gadd 2 a1).toNat) = 0 then (gb (f_Mo_longest a1 0 h) (fun h21 r22 => gb (f_Mo_longest a1 1 h21) (fun h23 r24 => if r22 = 1000000 then (if r24 = 1000000 then (some (h23, (h 92 (gadd 11 a1).toNat))) else (f_Mo_goesBy_J57   r22 r24 h23)) else (f_Mo_goesBy_J57   r22 r24 h23)))) else (if (h 92 (gadd 2 a1).toNat) = 1 then (gd (gix 50 0) (gd (gnz (h 83 1)) (gd (gnz 2) (some (h, (grem (gdiv (h 92 0) (h 83 1)) 2)))))) else (if (h 92 (gadd 2 a1).toNat) = 2 then (gb (f_Mo_waiting a1 0 h) (fun h15 r16 => gb (f_Mo_waiting a1 1 h15) (fun h17 r18 => gb (f_Mo_sideBy r16 r18 (h 92 (gadd 11 a1).toNat) h17) (fun h19 r20 => some (h19, r20))))) else (if (h 92 (gadd 2 a1).toNat) = 3 then (gb (f_Mo_foremostOf a1 0 h) (fun h5 r6 => gb (f_Mo_rankOf r6 h5) (fun h7 r8 => gb (f_Mo_foremostOf a1 1 h7) (fun h9 r10 => gb (f_Mo_rankOf r10 h9) (fun h11 r12 => gb (f_Mo_sideBy r8 r12 (h 92 (gadd 11 a1).toNat) h11) (fun h13 r14 => some (h13, r14))))))) else (some (h, 0)))))))
theorem c_Mo_goesBy {Z : gZ} (hL : gLive Z) (hn : (zL Z).Nodup) {a1 : Int}  {h : gH} {o : gO} (hg : gRg h) (ha : gRl [.inr (.inr 83), .inl a1]) (hx : f_Mo_goesBy a1 h = some o) : gC Z gy_Mo_goesBy gc_Mo_goesBy 6 (some .int) 5 116 [.inr (.inr 83), .inl a1] h o := by
  unfold f_Mo_goesBy at hx
  refine gC_of (lv := [(0, .inr (.inr 83)), (1, .inl a1)]) (own := gR_7) (by decide +kernel) rfl (Nat.le_of_ble_eq_true rfl) rfl rfl hn hg ha hx (fun X hZ hF => ?_)
  subst hZ
  show gr _ o gm_Mo_goesBy X h 0 _ _
  refine gr_aload_n (M := gm_Mo_goesBy) dq_Mo_goesBy_0 rfl 0 rfl 1 rfl ?_
  refine gr_getr (M := gm_Mo_goesBy) dq_Mo_goesBy_1 4 rfl gfl_Mo_34 gsh_83 rfl (gli hL gsh_83) 92 rfl ?_
  refine gr_iconst (M := gm_Mo_goesBy) (v := 2) dq_Mo_goesBy_4 rfl ⟨by decide, by decide⟩ 5 rfl ?_
  refine gr_iload_n (M := gm_Mo_goesBy) dq_Mo_goesBy_5 rfl 1 rfl 6 rfl ?_
  refine gr_iadd (M := gm_Mo_goesBy) dq_Mo_goesBy_6 7 rfl ?_
  refine gr_iald (M := gm_Mo_goesBy) dq_Mo_goesBy_7 8 rfl gsh_92 (glj hL gsh_92 (by decide)) ?_
  refine gr_istore_n (M := gm_Mo_goesBy) (lv' := [(2, .inl (h 92 (gadd 2 a1).toNat)), (0, .inr (.inr 83)), (1, .inl a1)]) dq_Mo_goesBy_8 rfl (by decide) rfl 9 rfl ?_
  refine gr_aload_n (M := gm_Mo_goesBy) dq_Mo_goesBy_9 rfl 1 rfl 10 rfl ?_
  refine gr_getr (M := gm_Mo_goesBy) dq_Mo_goesBy_10 13 rfl gfl_Mo_34 gsh_83 rfl (gli hL gsh_83) 92 rfl ?_
  refine gr_bipush (M := gm_Mo_goesBy) (v := 11) dq_Mo_goesBy_13 (by decide) ⟨by decide, by decide⟩ 15 rfl ?_
  refine gr_iload_n (M := gm_Mo_goesBy) dq_Mo_goesBy_15 rfl 2 rfl 16 rfl ?_
  refine gr_iadd (M := gm_Mo_goesBy) dq_Mo_goesBy_16 17 rfl ?_
  refine gr_iald (M := gm_Mo_goesBy) dq_Mo_goesBy_17 18 rfl gsh_92 (glj hL gsh_92 (by decide)) ?_
  refine gr_istore_n (M := gm_Mo_goesBy) (lv' := [(3, .inl (h 92 (gadd 11 a1).toNat)), (2, .inl (h 92 (gadd 2 a1).toNat)), (0, .inr (.inr 83)), (1, .inl a1)]) dq_Mo_goesBy_18 rfl (by decide) rfl 19 rfl ?_
  refine gr_iload_n (M := gm_Mo_goesBy) dq_Mo_goesBy_19 rfl 1 rfl 20 rfl ?_
  refine gr_if_ne (M := gm_Mo_goesBy) dq_Mo_goesBy_20 70 23 rfl rfl (fun c1 => ?_) (fun c1 => ?_)
  · refine gr_iload_n (M := gm_Mo_goesBy) dq_Mo_goesBy_70 rfl 1 rfl 71 rfl ?_
    refine gr_iconst (M := gm_Mo_goesBy) (v := 1) dq_Mo_goesBy_71 rfl ⟨by decide, by decide⟩ 72 rfl ?_
    refine gr_icmp_ne (M := gm_Mo_goesBy) dq_Mo_goesBy_72 89 75 rfl rfl (fun c2 => ?_) (fun c2 => ?_)
    · refine gr_iload_n (M := gm_Mo_goesBy) dq_Mo_goesBy_89 rfl 1 rfl 90 rfl ?_
      refine gr_iconst (M := gm_Mo_goesBy) (v := 2) dq_Mo_goesBy_90 rfl ⟨by decide, by decide⟩ 91 rfl ?_
      refine gr_icmp_ne (M := gm_Mo_goesBy) dq_Mo_goesBy_91 111 94 rfl rfl (fun c3 => ?_) (fun c3 => ?_)
      · refine gr_iload_n (M := gm_Mo_goesBy) dq_Mo_goesBy_111 rfl 1 rfl 112 rfl ?_
        refine gr_iconst (M := gm_Mo_goesBy) (v := 3) dq_Mo_goesBy_112 rfl ⟨by decide, by decide⟩ 113 rfl ?_
        refine gr_icmp_ne (M := gm_Mo_goesBy) dq_Mo_goesBy_113 143 116 rfl rfl (fun c4 => ?_) (fun c4 => ?_)
        · refine gr_iconst (M := gm_Mo_goesBy) (v := 0) dq_Mo_goesBy_143 rfl ⟨by decide, by decide⟩ 144 rfl ?_
          exact gr_ireturn (M := gm_Mo_goesBy) dq_Mo_goesBy_144 hF
        refine gr_aload_n (M := gm_Mo_goesBy) dq_Mo_goesBy_116 rfl 2 rfl 117 rfl ?_
        refine gr_aload_n (M := gm_Mo_goesBy) dq_Mo_goesBy_117 rfl 2 rfl 118 rfl ?_
        refine gr_iload_n (M := gm_Mo_goesBy) dq_Mo_goesBy_118 rfl 3 rfl 119 rfl ?_
        refine gr_iconst (M := gm_Mo_goesBy) (v := 0) dq_Mo_goesBy_119 rfl ⟨by decide, by decide⟩ 120 rfl ?_
        refine gr_callVi (M := gm_Mo_goesBy) (as := [.inl a1, .inl 0]) dq_Mo_goesBy_120 123 rfl rfl gcy_Mo_235 gim_Mo_foremostOf gse_Mo_foremostOf ⟨by decide, by decide⟩ (Nat.le_of_ble_eq_true rfl) gsh_83 rfl (gli hL gsh_83) (fun o1 hg ha hx => c_Mo_foremostOf hL hn  hg ha hx) (fun h5 r6 _ => ?_)
        refine gr_callVi (M := gm_Mo_goesBy) (as := [.inl r6]) dq_Mo_goesBy_123 126 rfl rfl gcy_Mo_248 gim_Mo_rankOf gse_Mo_rankOf ⟨by decide, by decide⟩ (Nat.le_of_ble_eq_true rfl) gsh_83 rfl (gli hL gsh_83) (fun o1 hg ha hx => c_Mo_rankOf hL hn  hg ha hx) (fun h7 r8 _ => ?_)
        refine gr_aload_n (M := gm_Mo_goesBy) dq_Mo_goesBy_126 rfl 2 rfl 127 rfl ?_
        refine gr_aload_n (M := gm_Mo_goesBy) dq_Mo_goesBy_127 rfl 2 rfl 128 rfl ?_
        refine gr_iload_n (M := gm_Mo_goesBy) dq_Mo_goesBy_128 rfl 3 rfl 129 rfl ?_
        refine gr_iconst (M := gm_Mo_goesBy) (v := 1) dq_Mo_goesBy_129 rfl ⟨by decide, by decide⟩ 130 rfl ?_
        refine gr_callVi (M := gm_Mo_goesBy) (as := [.inl a1, .inl 1]) dq_Mo_goesBy_130 133 rfl rfl gcy_Mo_235 gim_Mo_foremostOf gse_Mo_foremostOf ⟨by decide, by decide⟩ (Nat.le_of_ble_eq_true rfl) gsh_83 rfl (gli hL gsh_83) (fun o1 hg ha hx => c_Mo_foremostOf hL hn  hg ha hx) (fun h9 r10 _ => ?_)
        refine gr_callVi (M := gm_Mo_goesBy) (as := [.inl r10]) dq_Mo_goesBy_133 136 rfl rfl gcy_Mo_248 gim_Mo_rankOf gse_Mo_rankOf ⟨by decide, by decide⟩ (Nat.le_of_ble_eq_true rfl) gsh_83 rfl (gli hL gsh_83) (fun o1 hg ha hx => c_Mo_rankOf hL hn  hg ha hx) (fun h11 r12 _ => ?_)
        refine gr_iload_n (M := gm_Mo_goesBy) dq_Mo_goesBy_136 rfl 0 rfl 137 rfl ?_
        refine gr_callSi (M := gm_Mo_goesBy) (as := [.inl r8, .inl r12, .inl (h 92 (gadd 11 a1).toNat)]) dq_Mo_goesBy_137 140 rfl rfl gcy_Mo_244 gst_Mo_sideBy ⟨by decide, by decide⟩ (Nat.le_of_ble_eq_true rfl) (fun o1 hg ha hx => c_Mo_sideBy hL hn  hg ha hx) (fun h13 r14 _ => ?_)
        refine gr_goto (M := gm_Mo_goesBy) dq_Mo_goesBy_140 144 rfl ?_
        exact gr_ireturn (M := gm_Mo_goesBy) dq_Mo_goesBy_144 hF
      refine gr_aload_n (M := gm_Mo_goesBy) dq_Mo_goesBy_94 rfl 2 rfl 95 rfl ?_
      refine gr_iload_n (M := gm_Mo_goesBy) dq_Mo_goesBy_95 rfl 3 rfl 96 rfl ?_
      refine gr_iconst (M := gm_Mo_goesBy) (v := 0) dq_Mo_goesBy_96 rfl ⟨by decide, by decide⟩ 97 rfl ?_
      refine gr_callVi (M := gm_Mo_goesBy) (as := [.inl a1, .inl 0]) dq_Mo_goesBy_97 100 rfl rfl gcy_Mo_241 gim_Mo_waiting gse_Mo_waiting ⟨by decide, by decide⟩ (Nat.le_of_ble_eq_true rfl) gsh_83 rfl (gli hL gsh_83) (fun o1 hg ha hx => c_Mo_waiting hL hn  hg ha hx) (fun h15 r16 _ => ?_)
      refine gr_aload_n (M := gm_Mo_goesBy) dq_Mo_goesBy_100 rfl 2 rfl 101 rfl ?_
      refine gr_iload_n (M := gm_Mo_goesBy) dq_Mo_goesBy_101 rfl 3 rfl 102 rfl ?_
      refine gr_iconst (M := gm_Mo_goesBy) (v := 1) dq_Mo_goesBy_102 rfl ⟨by decide, by decide⟩ 103 rfl ?_
      refine gr_callVi (M := gm_Mo_goesBy) (as := [.inl a1, .inl 1]) dq_Mo_goesBy_103 106 rfl rfl gcy_Mo_241 gim_Mo_waiting gse_Mo_waiting ⟨by decide, by decide⟩ (Nat.le_of_ble_eq_true rfl) gsh_83 rfl (gli hL gsh_83) (fun o1 hg ha hx => c_Mo_waiting hL hn  hg ha hx) (fun h17 r18 _ => ?_)
      refine gr_iload_n (M := gm_Mo_goesBy) dq_Mo_goesBy_106 rfl 0 rfl 107 rfl ?_
      refine gr_callSi (M := gm_Mo_goesBy) (as := [.inl r16, .inl r18, .inl (h 92 (gadd 11 a1).toNat)]) dq_Mo_goesBy_107 110 rfl rfl gcy_Mo_244 gst_Mo_sideBy ⟨by decide, by decide⟩ (Nat.le_of_ble_eq_true rfl) (fun o1 hg ha hx => c_Mo_sideBy hL hn  hg ha hx) (fun h19 r20 _ => ?_)
      exact gr_ireturn (M := gm_Mo_goesBy) dq_Mo_goesBy_110 hF
    refine gr_aload_n (M := gm_Mo_goesBy) dq_Mo_goesBy_75 rfl 2 rfl 76 rfl ?_
    refine gr_getr (M := gm_Mo_goesBy) dq_Mo_goesBy_76 79 rfl gfl_Mo_34 gsh_83 rfl (gli hL gsh_83) 92 rfl ?_
    refine gr_iconst (M := gm_Mo_goesBy) (v := 0) dq_Mo_goesBy_79 rfl ⟨by decide, by decide⟩ 80 rfl ?_
    refine gr_iald (M := gm_Mo_goesBy) dq_Mo_goesBy_80 81 rfl gsh_92 (glj hL gsh_92 (by decide)) ?_
    refine gr_aload_n (M := gm_Mo_goesBy) dq_Mo_goesBy_81 rfl 2 rfl 82 rfl ?_
    refine gr_geti (M := gm_Mo_goesBy) dq_Mo_goesBy_82 85 rfl gfl_Mo_182 gsh_83 rfl (gli hL gsh_83) ?_
    refine gr_idiv (M := gm_Mo_goesBy) dq_Mo_goesBy_85 86 rfl ?_
    refine gr_iconst (M := gm_Mo_goesBy) (v := 2) dq_Mo_goesBy_86 rfl ⟨by decide, by decide⟩ 87 rfl ?_
    refine gr_irem (M := gm_Mo_goesBy) dq_Mo_goesBy_87 88 rfl ?_
    exact gr_ireturn (M := gm_Mo_goesBy) dq_Mo_goesBy_88 hF
  refine gr_aload_n (M := gm_Mo_goesBy) dq_Mo_goesBy_23 rfl 2 rfl 24 rfl ?_
  refine gr_iload_n (M := gm_Mo_goesBy) dq_Mo_goesBy_24 rfl 3 rfl 25 rfl ?_
  refine gr_iconst (M := gm_Mo_goesBy) (v := 0) dq_Mo_goesBy_25 rfl ⟨by decide, by decide⟩ 26 rfl ?_
  refine gr_callVi (M := gm_Mo_goesBy) (as := [.inl a1, .inl 0]) dq_Mo_goesBy_26 29 rfl rfl gcy_Mo_238 gim_Mo_longest gse_Mo_longest ⟨by decide, by decide⟩ (Nat.le_of_ble_eq_true rfl) gsh_83 rfl (gli hL gsh_83) (fun o1 hg ha hx => c_Mo_longest hL hn  hg ha hx) (fun h21 r22 _ => ?_)
  refine gr_istore (M := gm_Mo_goesBy) (kk := 0) (lv' := [(4, .inl r22), (3, .inl (h 92 (gadd 11 a1).toNat)), (2, .inl (h 92 (gadd 2 a1).toNat)), (0, .inr (.inr 83)), (1, .inl a1)]) dq_Mo_goesBy_29 (by decide) rfl 31 rfl ?_
  refine gr_aload_n (M := gm_Mo_goesBy) dq_Mo_goesBy_31 rfl 3 rfl 32 rfl ?_
  refine gr_iload_n (M := gm_Mo_goesBy) dq_Mo_goesBy_32 rfl 4 rfl 33 rfl ?_
  refine gr_iconst (M := gm_Mo_goesBy) (v := 1) dq_Mo_goesBy_33 rfl ⟨by decide, by decide⟩ 34 rfl ?_
  refine gr_callVi (M := gm_Mo_goesBy) (as := [.inl a1, .inl 1]) dq_Mo_goesBy_34 37 rfl rfl gcy_Mo_238 gim_Mo_longest gse_Mo_longest ⟨by decide, by decide⟩ (Nat.le_of_ble_eq_true rfl) gsh_83 rfl (gli hL gsh_83) (fun o1 hg ha hx => c_Mo_longest hL hn  hg ha hx) (fun h23 r24 _ => ?_)
  refine gr_istore (M := gm_Mo_goesBy) (kk := 0) (lv' := [(5, .inl r24), (4, .inl r22), (3, .inl (h 92 (gadd 11 a1).toNat)), (2, .inl (h 92 (gadd 2 a1).toNat)), (0, .inr (.inr 83)), (1, .inl a1)]) dq_Mo_goesBy_37 (by decide) rfl 39 rfl ?_
  refine gr_iload (M := gm_Mo_goesBy) dq_Mo_goesBy_39 1 rfl 41 rfl ?_
  refine gr_ldc (M := gm_Mo_goesBy) (v := 1000000) dq_Mo_goesBy_41 gk_Mo_181 ⟨by decide, by decide⟩ 43 rfl ?_
  refine gr_icmp_ne (M := gm_Mo_goesBy) dq_Mo_goesBy_43 57 46 rfl rfl (fun c25 => ?_) (fun c25 => ?_)
  · refine gr_sub (M := gm_Mo_goesBy) (lv' := [(4, .inl r22), (5, .inl r24)]) [1, 0] rfl ?_
    exact w_Mo_goesBy_J57 hL hn hF   
  refine gr_iload (M := gm_Mo_goesBy) dq_Mo_goesBy_46 0 rfl 48 rfl ?_
  refine gr_ldc (M := gm_Mo_goesBy) (v := 1000000) dq_Mo_goesBy_48 gk_Mo_181 ⟨by decide, by decide⟩ 50 rfl ?_
  refine gr_icmp_ne (M := gm_Mo_goesBy) dq_Mo_goesBy_50 57 53 rfl rfl (fun c27 => ?_) (fun c27 => ?_)
  · refine gr_sub (M := gm_Mo_goesBy) (lv' := [(4, .inl r22), (5, .inl r24)]) [1, 0] rfl ?_
    exact w_Mo_goesBy_J57 hL hn hF   
  refine gr_iload_n (M := gm_Mo_goesBy) dq_Mo_goesBy_53 rfl 2 rfl 54 rfl ?_
  refine gr_goto (M := gm_Mo_goesBy) dq_Mo_goesBy_54 69 rfl ?_
  exact gr_ireturn (M := gm_Mo_goesBy) dq_Mo_goesBy_69 hF

-- Mo_arrive
theorem dq_Mo_arrive_0 : decode gc_Mo_arrive 0 = .ok (.aload_n 0, 1) := by decide +kernel
theorem dq_Mo_arrive_1 : decode gc_Mo_arrive 1 = .ok (.getfield 34, 3) := by decide +kernel
theorem dq_Mo_arrive_4 : decode gc_Mo_arrive 4 = .ok (.bipush 32, 2) := by decide +kernel
theorem dq_Mo_arrive_6 : decode gc_Mo_arrive 6 = .ok (.iload_n 1, 1) := by decide +kernel
theorem dq_Mo_arrive_7 : decode gc_Mo_arrive 7 = .ok (.iadd, 1) := by decide +kernel
theorem dq_Mo_arrive_8 : decode gc_Mo_arrive 8 = .ok (.iaload, 1) := by decide +kernel
theorem dq_Mo_arrive_9 : decode gc_Mo_arrive 9 = .ok (.istore_n 2, 1) := by decide +kernel
theorem dq_Mo_arrive_10 : decode gc_Mo_arrive 10 = .ok (.aload_n 0, 1) := by decide +kernel
theorem dq_Mo_arrive_11 : decode gc_Mo_arrive 11 = .ok (.getfield 34, 3) := by decide +kernel
theorem dq_Mo_arrive_14 : decode gc_Mo_arrive 14 = .ok (.bipush 26, 2) := by decide +kernel
theorem dq_Mo_arrive_16 : decode gc_Mo_arrive 16 = .ok (.iload_n 1, 1) := by decide +kernel
theorem dq_Mo_arrive_17 : decode gc_Mo_arrive 17 = .ok (.iadd, 1) := by decide +kernel
theorem dq_Mo_arrive_18 : decode gc_Mo_arrive 18 = .ok (.iaload, 1) := by decide +kernel
theorem dq_Mo_arrive_19 : decode gc_Mo_arrive 19 = .ok (.iconst 2, 1) := by decide +kernel
theorem dq_Mo_arrive_20 : decode gc_Mo_arrive 20 = .ok (.if_icmp .ne 105, 3) := by decide +kernel
theorem dq_Mo_arrive_23 : decode gc_Mo_arrive 23 = .ok (.aload_n 0, 1) := by decide +kernel
theorem dq_Mo_arrive_24 : decode gc_Mo_arrive 24 = .ok (.getfield 34, 3) := by decide +kernel
theorem dq_Mo_arrive_27 : decode gc_Mo_arrive 27 = .ok (.iconst 0, 1) := by decide +kernel
theorem dq_Mo_arrive_28 : decode gc_Mo_arrive 28 = .ok (.iaload, 1) := by decide +kernel
theorem dq_Mo_arrive_29 : decode gc_Mo_arrive 29 = .ok (.aload_n 0, 1) := by decide +kernel
theorem dq_Mo_arrive_30 : decode gc_Mo_arrive 30 = .ok (.getfield 34, 3) := by decide +kernel
theorem dq_Mo_arrive_33 : decode gc_Mo_arrive 33 = .ok (.bipush 38, 2) := by decide +kernel
theorem dq_Mo_arrive_35 : decode gc_Mo_arrive 35 = .ok (.iload_n 1, 1) := by decide +kernel
theorem dq_Mo_arrive_36 : decode gc_Mo_arrive 36 = .ok (.iadd, 1) := by decide +kernel
theorem dq_Mo_arrive_37 : decode gc_Mo_arrive 37 = .ok (.iaload, 1) := by decide +kernel
theorem dq_Mo_arrive_38 : decode gc_Mo_arrive 38 = .ok (.isub, 1) := by decide +kernel
theorem dq_Mo_arrive_39 : decode gc_Mo_arrive 39 = .ok (.aload_n 0, 1) := by decide +kernel
theorem dq_Mo_arrive_40 : decode gc_Mo_arrive 40 = .ok (.getfield 16, 3) := by decide +kernel
theorem dq_Mo_arrive_43 : decode gc_Mo_arrive 43 = .ok (.iload_n 2, 1) := by decide +kernel
theorem dq_Mo_arrive_44 : decode gc_Mo_arrive 44 = .ok (.iaload, 1) := by decide +kernel
theorem dq_Mo_arrive_45 : decode gc_Mo_arrive 45 = .ok (.if_icmp .ne 80, 3) := by decide +kernel
theorem dq_Mo_arrive_48 : decode gc_Mo_arrive 48 = .ok (.aload_n 0, 1) := by decide +kernel
theorem dq_Mo_arrive_49 : decode gc_Mo_arrive 49 = .ok (.getfield 34, 3) := by decide +kernel
theorem dq_Mo_arrive_52 : decode gc_Mo_arrive 52 = .ok (.bipush 11, 2) := by decide +kernel
theorem dq_Mo_arrive_54 : decode gc_Mo_arrive 54 = .ok (.iload_n 2, 1) := by decide +kernel
theorem dq_Mo_arrive_55 : decode gc_Mo_arrive 55 = .ok (.iadd, 1) := by decide +kernel
theorem dq_Mo_arrive_56 : decode gc_Mo_arrive 56 = .ok (.iaload, 1) := by decide +kernel
theorem dq_Mo_arrive_57 : decode gc_Mo_arrive 57 = .ok (.ifCond .ne 12, 3) := by decide +kernel
theorem dq_Mo_arrive_60 : decode gc_Mo_arrive 60 = .ok (.aload_n 0, 1) := by decide +kernel
theorem dq_Mo_arrive_61 : decode gc_Mo_arrive 61 = .ok (.getfield 13, 3) := by decide +kernel
theorem dq_Mo_arrive_64 : decode gc_Mo_arrive 64 = .ok (.iload_n 2, 1) := by decide +kernel
theorem dq_Mo_arrive_65 : decode gc_Mo_arrive 65 = .ok (.iaload, 1) := by decide +kernel
theorem dq_Mo_arrive_66 : decode gc_Mo_arrive 66 = .ok (.goto 9, 3) := by decide +kernel
theorem dq_Mo_arrive_69 : decode gc_Mo_arrive 69 = .ok (.aload_n 0, 1) := by decide +kernel
theorem dq_Mo_arrive_70 : decode gc_Mo_arrive 70 = .ok (.getfield 7, 3) := by decide +kernel
theorem dq_Mo_arrive_73 : decode gc_Mo_arrive 73 = .ok (.iload_n 2, 1) := by decide +kernel
theorem dq_Mo_arrive_74 : decode gc_Mo_arrive 74 = .ok (.iaload, 1) := by decide +kernel
theorem dq_Mo_arrive_75 : decode gc_Mo_arrive 75 = .ok (.istore_n 3, 1) := by decide +kernel
theorem dq_Mo_arrive_76 : decode gc_Mo_arrive 76 = .ok (.aload_n 0, 1) := by decide +kernel
theorem dq_Mo_arrive_77 : decode gc_Mo_arrive 77 = .ok (.getfield 34, 3) := by decide +kernel
theorem dq_Mo_arrive_80 : decode gc_Mo_arrive 80 = .ok (.bipush 32, 2) := by decide +kernel
theorem dq_Mo_arrive_82 : decode gc_Mo_arrive 82 = .ok (.iload_n 1, 1) := by decide +kernel
theorem dq_Mo_arrive_83 : decode gc_Mo_arrive 83 = .ok (.iadd, 1) := by decide +kernel
theorem dq_Mo_arrive_84 : decode gc_Mo_arrive 84 = .ok (.iload_n 3, 1) := by decide +kernel
theorem dq_Mo_arrive_85 : decode gc_Mo_arrive 85 = .ok (.iastore, 1) := by decide +kernel
theorem dq_Mo_arrive_86 : decode gc_Mo_arrive 86 = .ok (.aload_n 0, 1) := by decide +kernel
theorem dq_Mo_arrive_87 : decode gc_Mo_arrive 87 = .ok (.getfield 34, 3) := by decide +kernel
theorem dq_Mo_arrive_90 : decode gc_Mo_arrive 90 = .ok (.bipush 38, 2) := by decide +kernel
theorem dq_Mo_arrive_92 : decode gc_Mo_arrive 92 = .ok (.iload_n 1, 1) := by decide +kernel
theorem dq_Mo_arrive_93 : decode gc_Mo_arrive 93 = .ok (.iadd, 1) := by decide +kernel
theorem dq_Mo_arrive_94 : decode gc_Mo_arrive 94 = .ok (.aload_n 0, 1) := by decide +kernel
theorem dq_Mo_arrive_95 : decode gc_Mo_arrive 95 = .ok (.getfield 34, 3) := by decide +kernel
theorem dq_Mo_arrive_98 : decode gc_Mo_arrive 98 = .ok (.iconst 0, 1) := by decide +kernel
theorem dq_Mo_arrive_99 : decode gc_Mo_arrive 99 = .ok (.iaload, 1) := by decide +kernel
theorem dq_Mo_arrive_100 : decode gc_Mo_arrive 100 = .ok (.iastore, 1) := by decide +kernel
theorem dq_Mo_arrive_101 : decode gc_Mo_arrive 101 = .ok (.aload_n 0, 1) := by decide +kernel
theorem dq_Mo_arrive_102 : decode gc_Mo_arrive 102 = .ok (.getfield 34, 3) := by decide +kernel
theorem dq_Mo_arrive_105 : decode gc_Mo_arrive 105 = .ok (.bipush 26, 2) := by decide +kernel
theorem dq_Mo_arrive_107 : decode gc_Mo_arrive 107 = .ok (.iload_n 1, 1) := by decide +kernel
theorem dq_Mo_arrive_108 : decode gc_Mo_arrive 108 = .ok (.iadd, 1) := by decide +kernel
theorem dq_Mo_arrive_109 : decode gc_Mo_arrive 109 = .ok (.iload_n 3, 1) := by decide +kernel
theorem dq_Mo_arrive_110 : decode gc_Mo_arrive 110 = .ok (.aload_n 0, 1) := by decide +kernel
theorem dq_Mo_arrive_111 : decode gc_Mo_arrive 111 = .ok (.getfield 22, 3) := by decide +kernel
theorem dq_Mo_arrive_114 : decode gc_Mo_arrive 114 = .ok (.iload_n 1, 1) := by decide +kernel
theorem dq_Mo_arrive_115 : decode gc_Mo_arrive 115 = .ok (.iaload, 1) := by decide +kernel
theorem dq_Mo_arrive_116 : decode gc_Mo_arrive 116 = .ok (.if_icmp .ne 7, 3) := by decide +kernel
theorem dq_Mo_arrive_119 : decode gc_Mo_arrive 119 = .ok (.iconst 3, 1) := by decide +kernel
theorem dq_Mo_arrive_120 : decode gc_Mo_arrive 120 = .ok (.goto 4, 3) := by decide +kernel
theorem dq_Mo_arrive_123 : decode gc_Mo_arrive 123 = .ok (.iconst 1, 1) := by decide +kernel
theorem dq_Mo_arrive_124 : decode gc_Mo_arrive 124 = .ok (.iastore, 1) := by decide +kernel
theorem dq_Mo_arrive_125 : decode gc_Mo_arrive 125 = .ok (.return_, 1) := by decide +kernel
abbrev gm_Mo_arrive : gM := (gc_Mo_arrive, gR_7, 0, 0, 4)
def f_Mo_arrive_J124   (s2 : Int) (s1 : Int) (h : gH) : Option gO := gd (gix 50 s1) (gs (gup h 92 s1.toNat s2) (fun h7 => some (h7, 0)))
theorem w_Mo_arrive_J124 {o : gO} {X : gX} (hL : gLive (xZ X)) (hn : (zL (xZ X)).Nodup) (hF : gFin X none o)     {s2 : Int} {s1 : Int} {h : gH}  : gr (f_Mo_arrive_J124   s2 s1 h) o gm_Mo_arrive X h 124 [] [.inl s2, .inl s1, .inr (.inr 92)] := by
  unfold f_Mo_arrive_J124
  refine gr_iast (M := gm_Mo_arrive) dq_Mo_arrive_124 125 rfl gsh_92 (glj hL gsh_92 (by decide)) (fun h7 _ => ?_)
  exact gr_return (M := gm_Mo_arrive) dq_Mo_arrive_125 hF

def f_Mo_arrive_J75   (v1 : Int) (s0 : Int) (h : gH) : Option gO := gd (gix 50 (gadd 32 v1)) (gs (gup h 92 (gadd 32 v1).toNat s0) (fun h4 => gd (gix 50 0) (gd (gix 50 (gadd 38 v1)) (gs (gup h4 92 (gadd 38 v1).toNat (h4 92 0)) (fun h5 => gd (gix 6 v1) (if s0 = (h5 88 v1.toNat) then (f_Mo_arrive_J124   3 (gadd 26 v1) h5) else (f_Mo_arrive_J124   1 (gadd 26 v1) h5)))))))
theorem w_Mo_arrive_J75 {o : gO} {X : gX} (hL : gLive (xZ X)) (hn : (zL (xZ X)).Nodup) (hF : gFin X none o)     {v1 : Int} {s0 : Int} {h : gH}  : gr (f_Mo_arrive_J75   v1 s0 h) o gm_Mo_arrive X h 75 [(0, .inr (.inr 83)), (1, .inl v1)] [.inl s0] := by
  unfold f_Mo_arrive_J75
  refine gr_istore_n (M := gm_Mo_arrive) (lv' := [(3, .inl s0), (0, .inr (.inr 83)), (1, .inl v1)]) dq_Mo_arrive_75 rfl (by decide) rfl 76 rfl ?_
  refine gr_aload_n (M := gm_Mo_arrive) dq_Mo_arrive_76 rfl 1 rfl 77 rfl ?_
  refine gr_getr (M := gm_Mo_arrive) dq_Mo_arrive_77 80 rfl gfl_Mo_34 gsh_83 rfl (gli hL gsh_83) 92 rfl ?_
  refine gr_bipush (M := gm_Mo_arrive) (v := 32) dq_Mo_arrive_80 (by decide) ⟨by decide, by decide⟩ 82 rfl ?_
  refine gr_iload_n (M := gm_Mo_arrive) dq_Mo_arrive_82 rfl 2 rfl 83 rfl ?_
  refine gr_iadd (M := gm_Mo_arrive) dq_Mo_arrive_83 84 rfl ?_
  refine gr_iload_n (M := gm_Mo_arrive) dq_Mo_arrive_84 rfl 0 rfl 85 rfl ?_
  refine gr_iast (M := gm_Mo_arrive) dq_Mo_arrive_85 86 rfl gsh_92 (glj hL gsh_92 (by decide)) (fun h4 _ => ?_)
  refine gr_aload_n (M := gm_Mo_arrive) dq_Mo_arrive_86 rfl 1 rfl 87 rfl ?_
  refine gr_getr (M := gm_Mo_arrive) dq_Mo_arrive_87 90 rfl gfl_Mo_34 gsh_83 rfl (gli hL gsh_83) 92 rfl ?_
  refine gr_bipush (M := gm_Mo_arrive) (v := 38) dq_Mo_arrive_90 (by decide) ⟨by decide, by decide⟩ 92 rfl ?_
  refine gr_iload_n (M := gm_Mo_arrive) dq_Mo_arrive_92 rfl 2 rfl 93 rfl ?_
  refine gr_iadd (M := gm_Mo_arrive) dq_Mo_arrive_93 94 rfl ?_
  refine gr_aload_n (M := gm_Mo_arrive) dq_Mo_arrive_94 rfl 1 rfl 95 rfl ?_
  refine gr_getr (M := gm_Mo_arrive) dq_Mo_arrive_95 98 rfl gfl_Mo_34 gsh_83 rfl (gli hL gsh_83) 92 rfl ?_
  refine gr_iconst (M := gm_Mo_arrive) (v := 0) dq_Mo_arrive_98 rfl ⟨by decide, by decide⟩ 99 rfl ?_
  refine gr_iald (M := gm_Mo_arrive) dq_Mo_arrive_99 100 rfl gsh_92 (glj hL gsh_92 (by decide)) ?_
  refine gr_iast (M := gm_Mo_arrive) dq_Mo_arrive_100 101 rfl gsh_92 (glj hL gsh_92 (by decide)) (fun h5 _ => ?_)
  refine gr_aload_n (M := gm_Mo_arrive) dq_Mo_arrive_101 rfl 1 rfl 102 rfl ?_
  refine gr_getr (M := gm_Mo_arrive) dq_Mo_arrive_102 105 rfl gfl_Mo_34 gsh_83 rfl (gli hL gsh_83) 92 rfl ?_
  refine gr_bipush (M := gm_Mo_arrive) (v := 26) dq_Mo_arrive_105 (by decide) ⟨by decide, by decide⟩ 107 rfl ?_
  refine gr_iload_n (M := gm_Mo_arrive) dq_Mo_arrive_107 rfl 2 rfl 108 rfl ?_
  refine gr_iadd (M := gm_Mo_arrive) dq_Mo_arrive_108 109 rfl ?_
  refine gr_iload_n (M := gm_Mo_arrive) dq_Mo_arrive_109 rfl 0 rfl 110 rfl ?_
  refine gr_aload_n (M := gm_Mo_arrive) dq_Mo_arrive_110 rfl 1 rfl 111 rfl ?_
  refine gr_getr (M := gm_Mo_arrive) dq_Mo_arrive_111 114 rfl gfl_Mo_22 gsh_83 rfl (gli hL gsh_83) 88 rfl ?_
  refine gr_iload_n (M := gm_Mo_arrive) dq_Mo_arrive_114 rfl 2 rfl 115 rfl ?_
  refine gr_iald (M := gm_Mo_arrive) dq_Mo_arrive_115 116 rfl gsh_88 (glj hL gsh_88 (by decide)) ?_
  refine gr_icmp_ne (M := gm_Mo_arrive) dq_Mo_arrive_116 123 119 rfl rfl (fun c6 => ?_) (fun c6 => ?_)
  · refine gr_iconst (M := gm_Mo_arrive) (v := 1) dq_Mo_arrive_123 rfl ⟨by decide, by decide⟩ 124 rfl ?_
    refine gr_sub (M := gm_Mo_arrive) (lv' := []) [] rfl ?_
    exact w_Mo_arrive_J124 hL hn hF   
  refine gr_iconst (M := gm_Mo_arrive) (v := 3) dq_Mo_arrive_119 rfl ⟨by decide, by decide⟩ 120 rfl ?_
  refine gr_goto (M := gm_Mo_arrive) dq_Mo_arrive_120 124 rfl ?_
  refine gr_sub (M := gm_Mo_arrive) (lv' := []) [] rfl ?_
  exact w_Mo_arrive_J124 hL hn hF   

def f_Mo_arrive (a1 : Int) (h : gH) : Option gO := gd (gix 50 (gadd 32 a1)) (gd (gix 50 (gadd 26 a1)) (if (h 92 (gadd 26 a1).toNat) = 2 then (gd (gix 50 0) (gd (gix 50 (gadd 38 a1)) (gd (gix 9 (h 92 (gadd 32 a1).toNat)) (if (gsub (h 92 0) (h 92 (gadd 38 a1).toNat)) = (h 86 (h 92 (gadd 32 a1).toNat).toNat) then (gd (gix 50 (gadd 11 (h 92 (gadd 32 a1).toNat))) (if (h 92 (gadd 11 (h 92 (gadd 32 a1).toNat)).toNat) = 0 then (gd (gix 9 (h 92 (gadd 32 a1).toNat)) (f_Mo_arrive_J75   a1 (h 85 (h 92 (gadd 32 a1).toNat).toNat) h)) else (gd (gix 9 (h 92 (gadd 32 a1).toNat)) (f_Mo_arrive_J75   a1 (h 84 (h 92 (gadd 32 a1).toNat).toNat) h)))) else (some (h, 0)))))) else (some (h, 0))))
theorem c_Mo_arrive {Z : gZ} (hL : gLive Z) (hn : (zL Z).Nodup) {a1 : Int}  {h : gH} {o : gO} (hg : gRg h) (ha : gRl [.inr (.inr 83), .inl a1]) (hx : f_Mo_arrive a1 h = some o) : gC Z gy_Mo_arrive gc_Mo_arrive 4 none 0 0 [.inr (.inr 83), .inl a1] h o := by
  unfold f_Mo_arrive at hx
  refine gC_of (lv := [(0, .inr (.inr 83)), (1, .inl a1)]) (own := gR_7) (by decide +kernel) rfl (Nat.le_of_ble_eq_true rfl) rfl rfl hn hg ha hx (fun X hZ hF => ?_)
  subst hZ
  show gr _ o gm_Mo_arrive X h 0 _ _
  refine gr_aload_n (M := gm_Mo_arrive) dq_Mo_arrive_0 rfl 0 rfl 1 rfl ?_
  refine gr_getr (M := gm_Mo_arrive) dq_Mo_arrive_1 4 rfl gfl_Mo_34 gsh_83 rfl (gli hL gsh_83) 92 rfl ?_
  refine gr_bipush (M := gm_Mo_arrive) (v := 32) dq_Mo_arrive_4 (by decide) ⟨by decide, by decide⟩ 6 rfl ?_
  refine gr_iload_n (M := gm_Mo_arrive) dq_Mo_arrive_6 rfl 1 rfl 7 rfl ?_
  refine gr_iadd (M := gm_Mo_arrive) dq_Mo_arrive_7 8 rfl ?_
  refine gr_iald (M := gm_Mo_arrive) dq_Mo_arrive_8 9 rfl gsh_92 (glj hL gsh_92 (by decide)) ?_
  refine gr_istore_n (M := gm_Mo_arrive) (lv' := [(2, .inl (h 92 (gadd 32 a1).toNat)), (0, .inr (.inr 83)), (1, .inl a1)]) dq_Mo_arrive_9 rfl (by decide) rfl 10 rfl ?_
  refine gr_aload_n (M := gm_Mo_arrive) dq_Mo_arrive_10 rfl 1 rfl 11 rfl ?_
  refine gr_getr (M := gm_Mo_arrive) dq_Mo_arrive_11 14 rfl gfl_Mo_34 gsh_83 rfl (gli hL gsh_83) 92 rfl ?_
  refine gr_bipush (M := gm_Mo_arrive) (v := 26) dq_Mo_arrive_14 (by decide) ⟨by decide, by decide⟩ 16 rfl ?_
  refine gr_iload_n (M := gm_Mo_arrive) dq_Mo_arrive_16 rfl 2 rfl 17 rfl ?_
  refine gr_iadd (M := gm_Mo_arrive) dq_Mo_arrive_17 18 rfl ?_
  refine gr_iald (M := gm_Mo_arrive) dq_Mo_arrive_18 19 rfl gsh_92 (glj hL gsh_92 (by decide)) ?_
  refine gr_iconst (M := gm_Mo_arrive) (v := 2) dq_Mo_arrive_19 rfl ⟨by decide, by decide⟩ 20 rfl ?_
  refine gr_icmp_ne (M := gm_Mo_arrive) dq_Mo_arrive_20 125 23 rfl rfl (fun c1 => ?_) (fun c1 => ?_)
  · exact gr_return (M := gm_Mo_arrive) dq_Mo_arrive_125 hF
  refine gr_aload_n (M := gm_Mo_arrive) dq_Mo_arrive_23 rfl 1 rfl 24 rfl ?_
  refine gr_getr (M := gm_Mo_arrive) dq_Mo_arrive_24 27 rfl gfl_Mo_34 gsh_83 rfl (gli hL gsh_83) 92 rfl ?_
  refine gr_iconst (M := gm_Mo_arrive) (v := 0) dq_Mo_arrive_27 rfl ⟨by decide, by decide⟩ 28 rfl ?_
  refine gr_iald (M := gm_Mo_arrive) dq_Mo_arrive_28 29 rfl gsh_92 (glj hL gsh_92 (by decide)) ?_
  refine gr_aload_n (M := gm_Mo_arrive) dq_Mo_arrive_29 rfl 1 rfl 30 rfl ?_
  refine gr_getr (M := gm_Mo_arrive) dq_Mo_arrive_30 33 rfl gfl_Mo_34 gsh_83 rfl (gli hL gsh_83) 92 rfl ?_
  refine gr_bipush (M := gm_Mo_arrive) (v := 38) dq_Mo_arrive_33 (by decide) ⟨by decide, by decide⟩ 35 rfl ?_
  refine gr_iload_n (M := gm_Mo_arrive) dq_Mo_arrive_35 rfl 2 rfl 36 rfl ?_
  refine gr_iadd (M := gm_Mo_arrive) dq_Mo_arrive_36 37 rfl ?_
  refine gr_iald (M := gm_Mo_arrive) dq_Mo_arrive_37 38 rfl gsh_92 (glj hL gsh_92 (by decide)) ?_
  refine gr_isub (M := gm_Mo_arrive) dq_Mo_arrive_38 39 rfl ?_
  refine gr_aload_n (M := gm_Mo_arrive) dq_Mo_arrive_39 rfl 1 rfl 40 rfl ?_
  refine gr_getr (M := gm_Mo_arrive) dq_Mo_arrive_40 43 rfl gfl_Mo_16 gsh_83 rfl (gli hL gsh_83) 86 rfl ?_
  refine gr_iload_n (M := gm_Mo_arrive) dq_Mo_arrive_43 rfl 0 rfl 44 rfl ?_
  refine gr_iald (M := gm_Mo_arrive) dq_Mo_arrive_44 45 rfl gsh_86 (glj hL gsh_86 (by decide)) ?_
  refine gr_icmp_ne (M := gm_Mo_arrive) dq_Mo_arrive_45 125 48 rfl rfl (fun c2 => ?_) (fun c2 => ?_)
  · exact gr_return (M := gm_Mo_arrive) dq_Mo_arrive_125 hF
  refine gr_aload_n (M := gm_Mo_arrive) dq_Mo_arrive_48 rfl 1 rfl 49 rfl ?_
  refine gr_getr (M := gm_Mo_arrive) dq_Mo_arrive_49 52 rfl gfl_Mo_34 gsh_83 rfl (gli hL gsh_83) 92 rfl ?_
  refine gr_bipush (M := gm_Mo_arrive) (v := 11) dq_Mo_arrive_52 (by decide) ⟨by decide, by decide⟩ 54 rfl ?_
  refine gr_iload_n (M := gm_Mo_arrive) dq_Mo_arrive_54 rfl 0 rfl 55 rfl ?_
  refine gr_iadd (M := gm_Mo_arrive) dq_Mo_arrive_55 56 rfl ?_
  refine gr_iald (M := gm_Mo_arrive) dq_Mo_arrive_56 57 rfl gsh_92 (glj hL gsh_92 (by decide)) ?_
  refine gr_if_ne (M := gm_Mo_arrive) dq_Mo_arrive_57 69 60 rfl rfl (fun c3 => ?_) (fun c3 => ?_)
  · refine gr_aload_n (M := gm_Mo_arrive) dq_Mo_arrive_69 rfl 1 rfl 70 rfl ?_
    refine gr_getr (M := gm_Mo_arrive) dq_Mo_arrive_70 73 rfl gfl_Mo_7 gsh_83 rfl (gli hL gsh_83) 84 rfl ?_
    refine gr_iload_n (M := gm_Mo_arrive) dq_Mo_arrive_73 rfl 0 rfl 74 rfl ?_
    refine gr_iald (M := gm_Mo_arrive) dq_Mo_arrive_74 75 rfl gsh_84 (glj hL gsh_84 (by decide)) ?_
    refine gr_sub (M := gm_Mo_arrive) (lv' := [(0, .inr (.inr 83)), (1, .inl a1)]) [1, 2] rfl ?_
    exact w_Mo_arrive_J75 hL hn hF   
  refine gr_aload_n (M := gm_Mo_arrive) dq_Mo_arrive_60 rfl 1 rfl 61 rfl ?_
  refine gr_getr (M := gm_Mo_arrive) dq_Mo_arrive_61 64 rfl gfl_Mo_13 gsh_83 rfl (gli hL gsh_83) 85 rfl ?_
  refine gr_iload_n (M := gm_Mo_arrive) dq_Mo_arrive_64 rfl 0 rfl 65 rfl ?_
  refine gr_iald (M := gm_Mo_arrive) dq_Mo_arrive_65 66 rfl gsh_85 (glj hL gsh_85 (by decide)) ?_
  refine gr_goto (M := gm_Mo_arrive) dq_Mo_arrive_66 75 rfl ?_
  refine gr_sub (M := gm_Mo_arrive) (lv' := [(0, .inr (.inr 83)), (1, .inl a1)]) [1, 2] rfl ?_
  exact w_Mo_arrive_J75 hL hn hF   

-- Mo_start
theorem dq_Mo_start_0 : decode gc_Mo_start 0 = .ok (.aload_n 0, 1) := by decide +kernel
theorem dq_Mo_start_1 : decode gc_Mo_start 1 = .ok (.getfield 34, 3) := by decide +kernel
theorem dq_Mo_start_4 : decode gc_Mo_start 4 = .ok (.bipush 26, 2) := by decide +kernel
theorem dq_Mo_start_6 : decode gc_Mo_start 6 = .ok (.iload_n 1, 1) := by decide +kernel
theorem dq_Mo_start_7 : decode gc_Mo_start 7 = .ok (.iadd, 1) := by decide +kernel
theorem dq_Mo_start_8 : decode gc_Mo_start 8 = .ok (.iaload, 1) := by decide +kernel
theorem dq_Mo_start_9 : decode gc_Mo_start 9 = .ok (.ifCond .ne 74, 3) := by decide +kernel
theorem dq_Mo_start_12 : decode gc_Mo_start 12 = .ok (.aload_n 0, 1) := by decide +kernel
theorem dq_Mo_start_13 : decode gc_Mo_start 13 = .ok (.getfield 25, 3) := by decide +kernel
theorem dq_Mo_start_16 : decode gc_Mo_start 16 = .ok (.iload_n 1, 1) := by decide +kernel
theorem dq_Mo_start_17 : decode gc_Mo_start 17 = .ok (.iaload, 1) := by decide +kernel
theorem dq_Mo_start_18 : decode gc_Mo_start 18 = .ok (.aload_n 0, 1) := by decide +kernel
theorem dq_Mo_start_19 : decode gc_Mo_start 19 = .ok (.getfield 34, 3) := by decide +kernel
theorem dq_Mo_start_22 : decode gc_Mo_start 22 = .ok (.iconst 0, 1) := by decide +kernel
theorem dq_Mo_start_23 : decode gc_Mo_start 23 = .ok (.iaload, 1) := by decide +kernel
theorem dq_Mo_start_24 : decode gc_Mo_start 24 = .ok (.if_icmp .ne 59, 3) := by decide +kernel
theorem dq_Mo_start_27 : decode gc_Mo_start 27 = .ok (.iload_n 1, 1) := by decide +kernel
theorem dq_Mo_start_28 : decode gc_Mo_start 28 = .ok (.aload_n 0, 1) := by decide +kernel
theorem dq_Mo_start_29 : decode gc_Mo_start 29 = .ok (.getfield 74, 3) := by decide +kernel
theorem dq_Mo_start_32 : decode gc_Mo_start 32 = .ok (.if_icmp .eq 51, 3) := by decide +kernel
theorem dq_Mo_start_35 : decode gc_Mo_start 35 = .ok (.aload_n 0, 1) := by decide +kernel
theorem dq_Mo_start_36 : decode gc_Mo_start 36 = .ok (.getfield 34, 3) := by decide +kernel
theorem dq_Mo_start_39 : decode gc_Mo_start 39 = .ok (.bipush 38, 2) := by decide +kernel
theorem dq_Mo_start_41 : decode gc_Mo_start 41 = .ok (.iload_n 1, 1) := by decide +kernel
theorem dq_Mo_start_42 : decode gc_Mo_start 42 = .ok (.iadd, 1) := by decide +kernel
theorem dq_Mo_start_43 : decode gc_Mo_start 43 = .ok (.aload_n 0, 1) := by decide +kernel
theorem dq_Mo_start_44 : decode gc_Mo_start 44 = .ok (.getfield 34, 3) := by decide +kernel
theorem dq_Mo_start_47 : decode gc_Mo_start 47 = .ok (.iconst 0, 1) := by decide +kernel
theorem dq_Mo_start_48 : decode gc_Mo_start 48 = .ok (.iaload, 1) := by decide +kernel
theorem dq_Mo_start_49 : decode gc_Mo_start 49 = .ok (.iastore, 1) := by decide +kernel
theorem dq_Mo_start_50 : decode gc_Mo_start 50 = .ok (.aload_n 0, 1) := by decide +kernel
theorem dq_Mo_start_51 : decode gc_Mo_start 51 = .ok (.getfield 34, 3) := by decide +kernel
theorem dq_Mo_start_54 : decode gc_Mo_start 54 = .ok (.bipush 26, 2) := by decide +kernel
theorem dq_Mo_start_56 : decode gc_Mo_start 56 = .ok (.iload_n 1, 1) := by decide +kernel
theorem dq_Mo_start_57 : decode gc_Mo_start 57 = .ok (.iadd, 1) := by decide +kernel
theorem dq_Mo_start_58 : decode gc_Mo_start 58 = .ok (.aload_n 0, 1) := by decide +kernel
theorem dq_Mo_start_59 : decode gc_Mo_start 59 = .ok (.aload_n 0, 1) := by decide +kernel
theorem dq_Mo_start_60 : decode gc_Mo_start 60 = .ok (.getfield 19, 3) := by decide +kernel
theorem dq_Mo_start_63 : decode gc_Mo_start 63 = .ok (.iload_n 1, 1) := by decide +kernel
theorem dq_Mo_start_64 : decode gc_Mo_start 64 = .ok (.iaload, 1) := by decide +kernel
theorem dq_Mo_start_65 : decode gc_Mo_start 65 = .ok (.aload_n 0, 1) := by decide +kernel
theorem dq_Mo_start_66 : decode gc_Mo_start 66 = .ok (.getfield 22, 3) := by decide +kernel
theorem dq_Mo_start_69 : decode gc_Mo_start 69 = .ok (.iload_n 1, 1) := by decide +kernel
theorem dq_Mo_start_70 : decode gc_Mo_start 70 = .ok (.iaload, 1) := by decide +kernel
theorem dq_Mo_start_71 : decode gc_Mo_start 71 = .ok (.invokevirtual 221, 3) := by decide +kernel
theorem dq_Mo_start_74 : decode gc_Mo_start 74 = .ok (.ifCond .ge 7, 3) := by decide +kernel
theorem dq_Mo_start_77 : decode gc_Mo_start 77 = .ok (.iconst 4, 1) := by decide +kernel
theorem dq_Mo_start_78 : decode gc_Mo_start 78 = .ok (.goto 4, 3) := by decide +kernel
theorem dq_Mo_start_81 : decode gc_Mo_start 81 = .ok (.iconst 1, 1) := by decide +kernel
theorem dq_Mo_start_82 : decode gc_Mo_start 82 = .ok (.iastore, 1) := by decide +kernel
theorem dq_Mo_start_83 : decode gc_Mo_start 83 = .ok (.return_, 1) := by decide +kernel
abbrev gm_Mo_start : gM := (gc_Mo_start, gR_7, 2, 48, 2)
theorem gfl_Mo_74 : gFl gR_7 74 7 32 := ⟨_, _, _, rfl, by decide, (gtab_at 766 (by decide +kernel) rfl), gin_7⟩
def f_Mo_start_J82   (s2 : Int) (s1 : Int) (h : gH) : Option gO := gd (gix 50 s1) (gs (gup h 92 s1.toNat s2) (fun h8 => some (h8, 0)))
theorem w_Mo_start_J82 {o : gO} {X : gX} (hL : gLive (xZ X)) (hn : (zL (xZ X)).Nodup) (hF : gFin X none o)     {s2 : Int} {s1 : Int} {h : gH}  : gr (f_Mo_start_J82   s2 s1 h) o gm_Mo_start X h 82 [] [.inl s2, .inl s1, .inr (.inr 92)] := by
  unfold f_Mo_start_J82
  refine gr_iast (M := gm_Mo_start) dq_Mo_start_82 83 rfl gsh_92 (glj hL gsh_92 (by decide)) (fun h8 _ => ?_)
  exact gr_return (M := gm_Mo_start) dq_Mo_start_83 hF

def f_Mo_start (a1 : Int) (h : gH) : Option gO := gd (gix 50 (gadd 26 a1)) (if (h 92 (gadd 26 a1).toNat) = 0 then (gd (gix 6 a1) (gd (gix 50 0) (if (h 89 a1.toNat) = (h 92 0) then (if a1 = (h 83 32) then (some (h, 0)) else (gd (gix 50 0) (gd (gix 50 (gadd 38 a1)) (gs (gup h 92 (gadd 38 a1).toNat (h 92 0)) (fun h4 => gd (gix 6 a1) (gd (gix 6 a1) (gb (f_Mo_nextFrom (h4 87 a1.toNat) (h4 88 a1.toNat) h4) (fun h5 r6 => if 0 ≤ r6 then (f_Mo_start_J82   1 (gadd 26 a1) h5) else (f_Mo_start_J82   4 (gadd 26 a1) h5))))))))) else (some (h, 0))))) else (some (h, 0)))
theorem c_Mo_start {Z : gZ} (hL : gLive Z) (hn : (zL Z).Nodup) {a1 : Int}  {h : gH} {o : gO} (hg : gRg h) (ha : gRl [.inr (.inr 83), .inl a1]) (hx : f_Mo_start a1 h = some o) : gC Z gy_Mo_start gc_Mo_start 2 none 2 48 [.inr (.inr 83), .inl a1] h o := by
  unfold f_Mo_start at hx
  refine gC_of (lv := [(0, .inr (.inr 83)), (1, .inl a1)]) (own := gR_7) (by decide +kernel) rfl (Nat.le_of_ble_eq_true rfl) rfl rfl hn hg ha hx (fun X hZ hF => ?_)
  subst hZ
  show gr _ o gm_Mo_start X h 0 _ _
  refine gr_aload_n (M := gm_Mo_start) dq_Mo_start_0 rfl 0 rfl 1 rfl ?_
  refine gr_getr (M := gm_Mo_start) dq_Mo_start_1 4 rfl gfl_Mo_34 gsh_83 rfl (gli hL gsh_83) 92 rfl ?_
  refine gr_bipush (M := gm_Mo_start) (v := 26) dq_Mo_start_4 (by decide) ⟨by decide, by decide⟩ 6 rfl ?_
  refine gr_iload_n (M := gm_Mo_start) dq_Mo_start_6 rfl 1 rfl 7 rfl ?_
  refine gr_iadd (M := gm_Mo_start) dq_Mo_start_7 8 rfl ?_
  refine gr_iald (M := gm_Mo_start) dq_Mo_start_8 9 rfl gsh_92 (glj hL gsh_92 (by decide)) ?_
  refine gr_if_ne (M := gm_Mo_start) dq_Mo_start_9 83 12 rfl rfl (fun c1 => ?_) (fun c1 => ?_)
  · exact gr_return (M := gm_Mo_start) dq_Mo_start_83 hF
  refine gr_aload_n (M := gm_Mo_start) dq_Mo_start_12 rfl 0 rfl 13 rfl ?_
  refine gr_getr (M := gm_Mo_start) dq_Mo_start_13 16 rfl gfl_Mo_25 gsh_83 rfl (gli hL gsh_83) 89 rfl ?_
  refine gr_iload_n (M := gm_Mo_start) dq_Mo_start_16 rfl 1 rfl 17 rfl ?_
  refine gr_iald (M := gm_Mo_start) dq_Mo_start_17 18 rfl gsh_89 (glj hL gsh_89 (by decide)) ?_
  refine gr_aload_n (M := gm_Mo_start) dq_Mo_start_18 rfl 0 rfl 19 rfl ?_
  refine gr_getr (M := gm_Mo_start) dq_Mo_start_19 22 rfl gfl_Mo_34 gsh_83 rfl (gli hL gsh_83) 92 rfl ?_
  refine gr_iconst (M := gm_Mo_start) (v := 0) dq_Mo_start_22 rfl ⟨by decide, by decide⟩ 23 rfl ?_
  refine gr_iald (M := gm_Mo_start) dq_Mo_start_23 24 rfl gsh_92 (glj hL gsh_92 (by decide)) ?_
  refine gr_icmp_ne (M := gm_Mo_start) dq_Mo_start_24 83 27 rfl rfl (fun c2 => ?_) (fun c2 => ?_)
  · exact gr_return (M := gm_Mo_start) dq_Mo_start_83 hF
  refine gr_iload_n (M := gm_Mo_start) dq_Mo_start_27 rfl 1 rfl 28 rfl ?_
  refine gr_aload_n (M := gm_Mo_start) dq_Mo_start_28 rfl 0 rfl 29 rfl ?_
  refine gr_geti (M := gm_Mo_start) dq_Mo_start_29 32 rfl gfl_Mo_74 gsh_83 rfl (gli hL gsh_83) ?_
  refine gr_icmp_eq (M := gm_Mo_start) dq_Mo_start_32 83 35 rfl rfl (fun c3 => ?_) (fun c3 => ?_)
  · exact gr_return (M := gm_Mo_start) dq_Mo_start_83 hF
  refine gr_aload_n (M := gm_Mo_start) dq_Mo_start_35 rfl 0 rfl 36 rfl ?_
  refine gr_getr (M := gm_Mo_start) dq_Mo_start_36 39 rfl gfl_Mo_34 gsh_83 rfl (gli hL gsh_83) 92 rfl ?_
  refine gr_bipush (M := gm_Mo_start) (v := 38) dq_Mo_start_39 (by decide) ⟨by decide, by decide⟩ 41 rfl ?_
  refine gr_iload_n (M := gm_Mo_start) dq_Mo_start_41 rfl 1 rfl 42 rfl ?_
  refine gr_iadd (M := gm_Mo_start) dq_Mo_start_42 43 rfl ?_
  refine gr_aload_n (M := gm_Mo_start) dq_Mo_start_43 rfl 0 rfl 44 rfl ?_
  refine gr_getr (M := gm_Mo_start) dq_Mo_start_44 47 rfl gfl_Mo_34 gsh_83 rfl (gli hL gsh_83) 92 rfl ?_
  refine gr_iconst (M := gm_Mo_start) (v := 0) dq_Mo_start_47 rfl ⟨by decide, by decide⟩ 48 rfl ?_
  refine gr_iald (M := gm_Mo_start) dq_Mo_start_48 49 rfl gsh_92 (glj hL gsh_92 (by decide)) ?_
  refine gr_iast (M := gm_Mo_start) dq_Mo_start_49 50 rfl gsh_92 (glj hL gsh_92 (by decide)) (fun h4 _ => ?_)
  refine gr_aload_n (M := gm_Mo_start) dq_Mo_start_50 rfl 0 rfl 51 rfl ?_
  refine gr_getr (M := gm_Mo_start) dq_Mo_start_51 54 rfl gfl_Mo_34 gsh_83 rfl (gli hL gsh_83) 92 rfl ?_
  refine gr_bipush (M := gm_Mo_start) (v := 26) dq_Mo_start_54 (by decide) ⟨by decide, by decide⟩ 56 rfl ?_
  refine gr_iload_n (M := gm_Mo_start) dq_Mo_start_56 rfl 1 rfl 57 rfl ?_
  refine gr_iadd (M := gm_Mo_start) dq_Mo_start_57 58 rfl ?_
  refine gr_aload_n (M := gm_Mo_start) dq_Mo_start_58 rfl 0 rfl 59 rfl ?_
  refine gr_aload_n (M := gm_Mo_start) dq_Mo_start_59 rfl 0 rfl 60 rfl ?_
  refine gr_getr (M := gm_Mo_start) dq_Mo_start_60 63 rfl gfl_Mo_19 gsh_83 rfl (gli hL gsh_83) 87 rfl ?_
  refine gr_iload_n (M := gm_Mo_start) dq_Mo_start_63 rfl 1 rfl 64 rfl ?_
  refine gr_iald (M := gm_Mo_start) dq_Mo_start_64 65 rfl gsh_87 (glj hL gsh_87 (by decide)) ?_
  refine gr_aload_n (M := gm_Mo_start) dq_Mo_start_65 rfl 0 rfl 66 rfl ?_
  refine gr_getr (M := gm_Mo_start) dq_Mo_start_66 69 rfl gfl_Mo_22 gsh_83 rfl (gli hL gsh_83) 88 rfl ?_
  refine gr_iload_n (M := gm_Mo_start) dq_Mo_start_69 rfl 1 rfl 70 rfl ?_
  refine gr_iald (M := gm_Mo_start) dq_Mo_start_70 71 rfl gsh_88 (glj hL gsh_88 (by decide)) ?_
  refine gr_callVi (M := gm_Mo_start) (as := [.inl (h4 87 a1.toNat), .inl (h4 88 a1.toNat)]) dq_Mo_start_71 74 rfl rfl gcy_Mo_221 gim_Mo_nextFrom gse_Mo_nextFrom ⟨by decide, by decide⟩ (Nat.le_of_ble_eq_true rfl) gsh_83 rfl (gli hL gsh_83) (fun o1 hg ha hx => c_Mo_nextFrom hL hn  hg ha hx) (fun h5 r6 _ => ?_)
  refine gr_if_ge (M := gm_Mo_start) dq_Mo_start_74 81 77 rfl rfl (fun c7 => ?_) (fun c7 => ?_)
  · refine gr_iconst (M := gm_Mo_start) (v := 1) dq_Mo_start_81 rfl ⟨by decide, by decide⟩ 82 rfl ?_
    refine gr_sub (M := gm_Mo_start) (lv' := []) [] rfl ?_
    exact w_Mo_start_J82 hL hn hF   
  refine gr_iconst (M := gm_Mo_start) (v := 4) dq_Mo_start_77 rfl ⟨by decide, by decide⟩ 78 rfl ?_
  refine gr_goto (M := gm_Mo_start) dq_Mo_start_78 82 rfl ?_
  refine gr_sub (M := gm_Mo_start) (lv' := []) [] rfl ?_
  exact w_Mo_start_J82 hL hn hF   

-- Mo_enter
theorem dq_Mo_enter_0 : decode gc_Mo_enter 0 = .ok (.aload_n 0, 1) := by decide +kernel
theorem dq_Mo_enter_1 : decode gc_Mo_enter 1 = .ok (.getfield 34, 3) := by decide +kernel
theorem dq_Mo_enter_4 : decode gc_Mo_enter 4 = .ok (.bipush 11, 2) := by decide +kernel
theorem dq_Mo_enter_6 : decode gc_Mo_enter 6 = .ok (.iload_n 1, 1) := by decide +kernel
theorem dq_Mo_enter_7 : decode gc_Mo_enter 7 = .ok (.iadd, 1) := by decide +kernel
theorem dq_Mo_enter_8 : decode gc_Mo_enter 8 = .ok (.aload_n 0, 1) := by decide +kernel
theorem dq_Mo_enter_9 : decode gc_Mo_enter 9 = .ok (.iload_n 1, 1) := by decide +kernel
theorem dq_Mo_enter_10 : decode gc_Mo_enter 10 = .ok (.invokevirtual 212, 3) := by decide +kernel
theorem dq_Mo_enter_13 : decode gc_Mo_enter 13 = .ok (.ifCond .ne 11, 3) := by decide +kernel
theorem dq_Mo_enter_16 : decode gc_Mo_enter 16 = .ok (.aload_n 0, 1) := by decide +kernel
theorem dq_Mo_enter_17 : decode gc_Mo_enter 17 = .ok (.iload_n 1, 1) := by decide +kernel
theorem dq_Mo_enter_18 : decode gc_Mo_enter 18 = .ok (.invokevirtual 251, 3) := by decide +kernel
theorem dq_Mo_enter_21 : decode gc_Mo_enter 21 = .ok (.goto 12, 3) := by decide +kernel
theorem dq_Mo_enter_24 : decode gc_Mo_enter 24 = .ok (.aload_n 0, 1) := by decide +kernel
theorem dq_Mo_enter_25 : decode gc_Mo_enter 25 = .ok (.getfield 34, 3) := by decide +kernel
theorem dq_Mo_enter_28 : decode gc_Mo_enter 28 = .ok (.bipush 11, 2) := by decide +kernel
theorem dq_Mo_enter_30 : decode gc_Mo_enter 30 = .ok (.iload_n 1, 1) := by decide +kernel
theorem dq_Mo_enter_31 : decode gc_Mo_enter 31 = .ok (.iadd, 1) := by decide +kernel
theorem dq_Mo_enter_32 : decode gc_Mo_enter 32 = .ok (.iaload, 1) := by decide +kernel
theorem dq_Mo_enter_33 : decode gc_Mo_enter 33 = .ok (.iastore, 1) := by decide +kernel
theorem dq_Mo_enter_34 : decode gc_Mo_enter 34 = .ok (.aload_n 0, 1) := by decide +kernel
theorem dq_Mo_enter_35 : decode gc_Mo_enter 35 = .ok (.iload_n 1, 1) := by decide +kernel
theorem dq_Mo_enter_36 : decode gc_Mo_enter 36 = .ok (.aload_n 0, 1) := by decide +kernel
theorem dq_Mo_enter_37 : decode gc_Mo_enter 37 = .ok (.getfield 34, 3) := by decide +kernel
theorem dq_Mo_enter_40 : decode gc_Mo_enter 40 = .ok (.bipush 11, 2) := by decide +kernel
theorem dq_Mo_enter_42 : decode gc_Mo_enter 42 = .ok (.iload_n 1, 1) := by decide +kernel
theorem dq_Mo_enter_43 : decode gc_Mo_enter 43 = .ok (.iadd, 1) := by decide +kernel
theorem dq_Mo_enter_44 : decode gc_Mo_enter 44 = .ok (.iaload, 1) := by decide +kernel
theorem dq_Mo_enter_45 : decode gc_Mo_enter 45 = .ok (.invokevirtual 235, 3) := by decide +kernel
theorem dq_Mo_enter_48 : decode gc_Mo_enter 48 = .ok (.istore_n 2, 1) := by decide +kernel
theorem dq_Mo_enter_49 : decode gc_Mo_enter 49 = .ok (.iload_n 2, 1) := by decide +kernel
theorem dq_Mo_enter_50 : decode gc_Mo_enter 50 = .ok (.ifCond .lt 38, 3) := by decide +kernel
theorem dq_Mo_enter_53 : decode gc_Mo_enter 53 = .ok (.aload_n 0, 1) := by decide +kernel
theorem dq_Mo_enter_54 : decode gc_Mo_enter 54 = .ok (.getfield 34, 3) := by decide +kernel
theorem dq_Mo_enter_57 : decode gc_Mo_enter 57 = .ok (.bipush 26, 2) := by decide +kernel
theorem dq_Mo_enter_59 : decode gc_Mo_enter 59 = .ok (.iload_n 2, 1) := by decide +kernel
theorem dq_Mo_enter_60 : decode gc_Mo_enter 60 = .ok (.iadd, 1) := by decide +kernel
theorem dq_Mo_enter_61 : decode gc_Mo_enter 61 = .ok (.iconst 2, 1) := by decide +kernel
theorem dq_Mo_enter_62 : decode gc_Mo_enter 62 = .ok (.iastore, 1) := by decide +kernel
theorem dq_Mo_enter_63 : decode gc_Mo_enter 63 = .ok (.aload_n 0, 1) := by decide +kernel
theorem dq_Mo_enter_64 : decode gc_Mo_enter 64 = .ok (.getfield 34, 3) := by decide +kernel
theorem dq_Mo_enter_67 : decode gc_Mo_enter 67 = .ok (.bipush 32, 2) := by decide +kernel
theorem dq_Mo_enter_69 : decode gc_Mo_enter 69 = .ok (.iload_n 2, 1) := by decide +kernel
theorem dq_Mo_enter_70 : decode gc_Mo_enter 70 = .ok (.iadd, 1) := by decide +kernel
theorem dq_Mo_enter_71 : decode gc_Mo_enter 71 = .ok (.iload_n 1, 1) := by decide +kernel
theorem dq_Mo_enter_72 : decode gc_Mo_enter 72 = .ok (.iastore, 1) := by decide +kernel
theorem dq_Mo_enter_73 : decode gc_Mo_enter 73 = .ok (.aload_n 0, 1) := by decide +kernel
theorem dq_Mo_enter_74 : decode gc_Mo_enter 74 = .ok (.getfield 34, 3) := by decide +kernel
theorem dq_Mo_enter_77 : decode gc_Mo_enter 77 = .ok (.bipush 38, 2) := by decide +kernel
theorem dq_Mo_enter_79 : decode gc_Mo_enter 79 = .ok (.iload_n 2, 1) := by decide +kernel
theorem dq_Mo_enter_80 : decode gc_Mo_enter 80 = .ok (.iadd, 1) := by decide +kernel
theorem dq_Mo_enter_81 : decode gc_Mo_enter 81 = .ok (.aload_n 0, 1) := by decide +kernel
theorem dq_Mo_enter_82 : decode gc_Mo_enter 82 = .ok (.getfield 34, 3) := by decide +kernel
theorem dq_Mo_enter_85 : decode gc_Mo_enter 85 = .ok (.iconst 0, 1) := by decide +kernel
theorem dq_Mo_enter_86 : decode gc_Mo_enter 86 = .ok (.iaload, 1) := by decide +kernel
theorem dq_Mo_enter_87 : decode gc_Mo_enter 87 = .ok (.iastore, 1) := by decide +kernel
theorem dq_Mo_enter_88 : decode gc_Mo_enter 88 = .ok (.return_, 1) := by decide +kernel
abbrev gm_Mo_enter : gM := (gc_Mo_enter, gR_7, 6, 141, 3)
set_option maxRecDepth 20000 in
theorem gcy_Mo_251 : gCy gR_7 251 gy_Mo_goesBy gc_Mo_goesBy 6 (some .int) 1 := ⟨(gtab_at 1041 (by decide +kernel) rfl), (gtab_at 8 (by decide +kernel) rfl), (gtab_at 1044 rfl rfl), by decide, by decide, by decide +kernel⟩
theorem gim_Mo_goesBy : Cond.instanceMethod gy_Mo_goesBy ∈ gtbl := (gtab_at 1043 (by decide +kernel) rfl)
theorem gse_Mo_goesBy : Cond.selects gy_Mo_goesBy.cls gy_Mo_goesBy gy_Mo_goesBy ∈ gtbl := (by decide +kernel)
def f_Mo_enter_J33   (v1 : Int) (s2 : Int) (s1 : Int) (h : gH) : Option gO := gd (gix 50 s1) (gs (gup h 92 s1.toNat s2) (fun h4 => gd (gix 50 (gadd 11 v1)) (gb (f_Mo_foremostOf v1 (h4 92 (gadd 11 v1).toNat) h4) (fun h5 r6 => if r6 < 0 then (some (h5, 0)) else (gd (gix 50 (gadd 26 r6)) (gs (gup h5 92 (gadd 26 r6).toNat 2) (fun h8 => gd (gix 50 (gadd 32 r6)) (gs (gup h8 92 (gadd 32 r6).toNat v1) (fun h9 => gd (gix 50 0) (gd (gix 50 (gadd 38 r6)) (gs (gup h9 92 (gadd 38 r6).toNat (h9 92 0)) (fun h10 => some (h10, 0)))))))))))))
theorem w_Mo_enter_J33 {o : gO} {X : gX} (hL : gLive (xZ X)) (hn : (zL (xZ X)).Nodup) (hF : gFin X none o)     {v1 : Int} {s2 : Int} {s1 : Int} {h : gH}  : gr (f_Mo_enter_J33   v1 s2 s1 h) o gm_Mo_enter X h 33 [(0, .inr (.inr 83)), (1, .inl v1)] [.inl s2, .inl s1, .inr (.inr 92)] := by
  unfold f_Mo_enter_J33
  refine gr_iast (M := gm_Mo_enter) dq_Mo_enter_33 34 rfl gsh_92 (glj hL gsh_92 (by decide)) (fun h4 _ => ?_)
  refine gr_aload_n (M := gm_Mo_enter) dq_Mo_enter_34 rfl 0 rfl 35 rfl ?_
  refine gr_iload_n (M := gm_Mo_enter) dq_Mo_enter_35 rfl 1 rfl 36 rfl ?_
  refine gr_aload_n (M := gm_Mo_enter) dq_Mo_enter_36 rfl 0 rfl 37 rfl ?_
  refine gr_getr (M := gm_Mo_enter) dq_Mo_enter_37 40 rfl gfl_Mo_34 gsh_83 rfl (gli hL gsh_83) 92 rfl ?_
  refine gr_bipush (M := gm_Mo_enter) (v := 11) dq_Mo_enter_40 (by decide) ⟨by decide, by decide⟩ 42 rfl ?_
  refine gr_iload_n (M := gm_Mo_enter) dq_Mo_enter_42 rfl 1 rfl 43 rfl ?_
  refine gr_iadd (M := gm_Mo_enter) dq_Mo_enter_43 44 rfl ?_
  refine gr_iald (M := gm_Mo_enter) dq_Mo_enter_44 45 rfl gsh_92 (glj hL gsh_92 (by decide)) ?_
  refine gr_callVi (M := gm_Mo_enter) (as := [.inl v1, .inl (h4 92 (gadd 11 v1).toNat)]) dq_Mo_enter_45 48 rfl rfl gcy_Mo_235 gim_Mo_foremostOf gse_Mo_foremostOf ⟨by decide, by decide⟩ (Nat.le_of_ble_eq_true rfl) gsh_83 rfl (gli hL gsh_83) (fun o1 hg ha hx => c_Mo_foremostOf hL hn  hg ha hx) (fun h5 r6 _ => ?_)
  refine gr_istore_n (M := gm_Mo_enter) (lv' := [(2, .inl r6), (0, .inr (.inr 83)), (1, .inl v1)]) dq_Mo_enter_48 rfl (by decide) rfl 49 rfl ?_
  refine gr_iload_n (M := gm_Mo_enter) dq_Mo_enter_49 rfl 0 rfl 50 rfl ?_
  refine gr_if_lt (M := gm_Mo_enter) dq_Mo_enter_50 88 53 rfl rfl (fun c7 => ?_) (fun c7 => ?_)
  · exact gr_return (M := gm_Mo_enter) dq_Mo_enter_88 hF
  refine gr_aload_n (M := gm_Mo_enter) dq_Mo_enter_53 rfl 1 rfl 54 rfl ?_
  refine gr_getr (M := gm_Mo_enter) dq_Mo_enter_54 57 rfl gfl_Mo_34 gsh_83 rfl (gli hL gsh_83) 92 rfl ?_
  refine gr_bipush (M := gm_Mo_enter) (v := 26) dq_Mo_enter_57 (by decide) ⟨by decide, by decide⟩ 59 rfl ?_
  refine gr_iload_n (M := gm_Mo_enter) dq_Mo_enter_59 rfl 0 rfl 60 rfl ?_
  refine gr_iadd (M := gm_Mo_enter) dq_Mo_enter_60 61 rfl ?_
  refine gr_iconst (M := gm_Mo_enter) (v := 2) dq_Mo_enter_61 rfl ⟨by decide, by decide⟩ 62 rfl ?_
  refine gr_iast (M := gm_Mo_enter) dq_Mo_enter_62 63 rfl gsh_92 (glj hL gsh_92 (by decide)) (fun h8 _ => ?_)
  refine gr_aload_n (M := gm_Mo_enter) dq_Mo_enter_63 rfl 1 rfl 64 rfl ?_
  refine gr_getr (M := gm_Mo_enter) dq_Mo_enter_64 67 rfl gfl_Mo_34 gsh_83 rfl (gli hL gsh_83) 92 rfl ?_
  refine gr_bipush (M := gm_Mo_enter) (v := 32) dq_Mo_enter_67 (by decide) ⟨by decide, by decide⟩ 69 rfl ?_
  refine gr_iload_n (M := gm_Mo_enter) dq_Mo_enter_69 rfl 0 rfl 70 rfl ?_
  refine gr_iadd (M := gm_Mo_enter) dq_Mo_enter_70 71 rfl ?_
  refine gr_iload_n (M := gm_Mo_enter) dq_Mo_enter_71 rfl 2 rfl 72 rfl ?_
  refine gr_iast (M := gm_Mo_enter) dq_Mo_enter_72 73 rfl gsh_92 (glj hL gsh_92 (by decide)) (fun h9 _ => ?_)
  refine gr_aload_n (M := gm_Mo_enter) dq_Mo_enter_73 rfl 1 rfl 74 rfl ?_
  refine gr_getr (M := gm_Mo_enter) dq_Mo_enter_74 77 rfl gfl_Mo_34 gsh_83 rfl (gli hL gsh_83) 92 rfl ?_
  refine gr_bipush (M := gm_Mo_enter) (v := 38) dq_Mo_enter_77 (by decide) ⟨by decide, by decide⟩ 79 rfl ?_
  refine gr_iload_n (M := gm_Mo_enter) dq_Mo_enter_79 rfl 0 rfl 80 rfl ?_
  refine gr_iadd (M := gm_Mo_enter) dq_Mo_enter_80 81 rfl ?_
  refine gr_aload_n (M := gm_Mo_enter) dq_Mo_enter_81 rfl 1 rfl 82 rfl ?_
  refine gr_getr (M := gm_Mo_enter) dq_Mo_enter_82 85 rfl gfl_Mo_34 gsh_83 rfl (gli hL gsh_83) 92 rfl ?_
  refine gr_iconst (M := gm_Mo_enter) (v := 0) dq_Mo_enter_85 rfl ⟨by decide, by decide⟩ 86 rfl ?_
  refine gr_iald (M := gm_Mo_enter) dq_Mo_enter_86 87 rfl gsh_92 (glj hL gsh_92 (by decide)) ?_
  refine gr_iast (M := gm_Mo_enter) dq_Mo_enter_87 88 rfl gsh_92 (glj hL gsh_92 (by decide)) (fun h10 _ => ?_)
  exact gr_return (M := gm_Mo_enter) dq_Mo_enter_88 hF

def f_Mo_enter (a1 : Int) (h : gH) : Option gO := gb (f_Mo_onStreet a1 h) (fun h1 r2 => if r2 = 0 then (gb (f_Mo_goesBy a1 h1) (fun h11 r12 => f_Mo_enter_J33   a1 r12 (gadd 11 a1) h11)) else (gd (gix 50 (gadd 11 a1)) (f_Mo_enter_J33   a1 (h1 92 (gadd 11 a1).toNat) (gadd 11 a1) h1)))
theorem c_Mo_enter {Z : gZ} (hL : gLive Z) (hn : (zL Z).Nodup) {a1 : Int}  {h : gH} {o : gO} (hg : gRg h) (ha : gRl [.inr (.inr 83), .inl a1]) (hx : f_Mo_enter a1 h = some o) : gC Z gy_Mo_enter gc_Mo_enter 3 none 6 141 [.inr (.inr 83), .inl a1] h o := by
  unfold f_Mo_enter at hx
  refine gC_of (lv := [(0, .inr (.inr 83)), (1, .inl a1)]) (own := gR_7) (by decide +kernel) rfl (Nat.le_of_ble_eq_true rfl) rfl rfl hn hg ha hx (fun X hZ hF => ?_)
  subst hZ
  show gr _ o gm_Mo_enter X h 0 _ _
  refine gr_aload_n (M := gm_Mo_enter) dq_Mo_enter_0 rfl 0 rfl 1 rfl ?_
  refine gr_getr (M := gm_Mo_enter) dq_Mo_enter_1 4 rfl gfl_Mo_34 gsh_83 rfl (gli hL gsh_83) 92 rfl ?_
  refine gr_bipush (M := gm_Mo_enter) (v := 11) dq_Mo_enter_4 (by decide) ⟨by decide, by decide⟩ 6 rfl ?_
  refine gr_iload_n (M := gm_Mo_enter) dq_Mo_enter_6 rfl 1 rfl 7 rfl ?_
  refine gr_iadd (M := gm_Mo_enter) dq_Mo_enter_7 8 rfl ?_
  refine gr_aload_n (M := gm_Mo_enter) dq_Mo_enter_8 rfl 0 rfl 9 rfl ?_
  refine gr_iload_n (M := gm_Mo_enter) dq_Mo_enter_9 rfl 1 rfl 10 rfl ?_
  refine gr_callVi (M := gm_Mo_enter) (as := [.inl a1]) dq_Mo_enter_10 13 rfl rfl gcy_Mo_212 gim_Mo_onStreet gse_Mo_onStreet ⟨by decide, by decide⟩ (Nat.le_of_ble_eq_true rfl) gsh_83 rfl (gli hL gsh_83) (fun o1 hg ha hx => c_Mo_onStreet hL hn  hg ha hx) (fun h1 r2 _ => ?_)
  refine gr_if_ne (M := gm_Mo_enter) dq_Mo_enter_13 24 16 rfl rfl (fun c3 => ?_) (fun c3 => ?_)
  · refine gr_aload_n (M := gm_Mo_enter) dq_Mo_enter_24 rfl 0 rfl 25 rfl ?_
    refine gr_getr (M := gm_Mo_enter) dq_Mo_enter_25 28 rfl gfl_Mo_34 gsh_83 rfl (gli hL gsh_83) 92 rfl ?_
    refine gr_bipush (M := gm_Mo_enter) (v := 11) dq_Mo_enter_28 (by decide) ⟨by decide, by decide⟩ 30 rfl ?_
    refine gr_iload_n (M := gm_Mo_enter) dq_Mo_enter_30 rfl 1 rfl 31 rfl ?_
    refine gr_iadd (M := gm_Mo_enter) dq_Mo_enter_31 32 rfl ?_
    refine gr_iald (M := gm_Mo_enter) dq_Mo_enter_32 33 rfl gsh_92 (glj hL gsh_92 (by decide)) ?_
    exact w_Mo_enter_J33 hL hn hF   
  refine gr_aload_n (M := gm_Mo_enter) dq_Mo_enter_16 rfl 0 rfl 17 rfl ?_
  refine gr_iload_n (M := gm_Mo_enter) dq_Mo_enter_17 rfl 1 rfl 18 rfl ?_
  refine gr_callVi (M := gm_Mo_enter) (as := [.inl a1]) dq_Mo_enter_18 21 rfl rfl gcy_Mo_251 gim_Mo_goesBy gse_Mo_goesBy ⟨by decide, by decide⟩ (Nat.le_of_ble_eq_true rfl) gsh_83 rfl (gli hL gsh_83) (fun o1 hg ha hx => c_Mo_goesBy hL hn  hg ha hx) (fun h11 r12 _ => ?_)
  refine gr_goto (M := gm_Mo_enter) dq_Mo_enter_21 33 rfl ?_
  exact w_Mo_enter_J33 hL hn hF   

-- Mo_tire
theorem dq_Mo_tire_0 : decode gc_Mo_tire 0 = .ok (.aload_n 0, 1) := by decide +kernel
theorem dq_Mo_tire_1 : decode gc_Mo_tire 1 = .ok (.getfield 34, 3) := by decide +kernel
theorem dq_Mo_tire_4 : decode gc_Mo_tire 4 = .ok (.bipush 26, 2) := by decide +kernel
theorem dq_Mo_tire_6 : decode gc_Mo_tire 6 = .ok (.iload_n 1, 1) := by decide +kernel
theorem dq_Mo_tire_7 : decode gc_Mo_tire 7 = .ok (.iadd, 1) := by decide +kernel
theorem dq_Mo_tire_8 : decode gc_Mo_tire 8 = .ok (.iaload, 1) := by decide +kernel
theorem dq_Mo_tire_9 : decode gc_Mo_tire 9 = .ok (.iconst 1, 1) := by decide +kernel
theorem dq_Mo_tire_10 : decode gc_Mo_tire 10 = .ok (.if_icmp .ne 69, 3) := by decide +kernel
theorem dq_Mo_tire_13 : decode gc_Mo_tire 13 = .ok (.aload_n 0, 1) := by decide +kernel
theorem dq_Mo_tire_14 : decode gc_Mo_tire 14 = .ok (.getfield 34, 3) := by decide +kernel
theorem dq_Mo_tire_17 : decode gc_Mo_tire 17 = .ok (.bipush 44, 2) := by decide +kernel
theorem dq_Mo_tire_19 : decode gc_Mo_tire 19 = .ok (.iload_n 1, 1) := by decide +kernel
theorem dq_Mo_tire_20 : decode gc_Mo_tire 20 = .ok (.iadd, 1) := by decide +kernel
theorem dq_Mo_tire_21 : decode gc_Mo_tire 21 = .ok (.dup2, 1) := by decide +kernel
theorem dq_Mo_tire_22 : decode gc_Mo_tire 22 = .ok (.iaload, 1) := by decide +kernel
theorem dq_Mo_tire_23 : decode gc_Mo_tire 23 = .ok (.iconst 1, 1) := by decide +kernel
theorem dq_Mo_tire_24 : decode gc_Mo_tire 24 = .ok (.iadd, 1) := by decide +kernel
theorem dq_Mo_tire_25 : decode gc_Mo_tire 25 = .ok (.iastore, 1) := by decide +kernel
theorem dq_Mo_tire_26 : decode gc_Mo_tire 26 = .ok (.aload_n 0, 1) := by decide +kernel
theorem dq_Mo_tire_27 : decode gc_Mo_tire 27 = .ok (.getfield 34, 3) := by decide +kernel
theorem dq_Mo_tire_30 : decode gc_Mo_tire 30 = .ok (.iconst 1, 1) := by decide +kernel
theorem dq_Mo_tire_31 : decode gc_Mo_tire 31 = .ok (.dup2, 1) := by decide +kernel
theorem dq_Mo_tire_32 : decode gc_Mo_tire 32 = .ok (.iaload, 1) := by decide +kernel
theorem dq_Mo_tire_33 : decode gc_Mo_tire 33 = .ok (.iconst 1, 1) := by decide +kernel
theorem dq_Mo_tire_34 : decode gc_Mo_tire 34 = .ok (.iadd, 1) := by decide +kernel
theorem dq_Mo_tire_35 : decode gc_Mo_tire 35 = .ok (.iastore, 1) := by decide +kernel
theorem dq_Mo_tire_36 : decode gc_Mo_tire 36 = .ok (.aload_n 0, 1) := by decide +kernel
theorem dq_Mo_tire_37 : decode gc_Mo_tire 37 = .ok (.getfield 34, 3) := by decide +kernel
theorem dq_Mo_tire_40 : decode gc_Mo_tire 40 = .ok (.bipush 44, 2) := by decide +kernel
theorem dq_Mo_tire_42 : decode gc_Mo_tire 42 = .ok (.iload_n 1, 1) := by decide +kernel
theorem dq_Mo_tire_43 : decode gc_Mo_tire 43 = .ok (.iadd, 1) := by decide +kernel
theorem dq_Mo_tire_44 : decode gc_Mo_tire 44 = .ok (.iaload, 1) := by decide +kernel
theorem dq_Mo_tire_45 : decode gc_Mo_tire 45 = .ok (.aload_n 0, 1) := by decide +kernel
theorem dq_Mo_tire_46 : decode gc_Mo_tire 46 = .ok (.getfield 28, 3) := by decide +kernel
theorem dq_Mo_tire_49 : decode gc_Mo_tire 49 = .ok (.iload_n 1, 1) := by decide +kernel
theorem dq_Mo_tire_50 : decode gc_Mo_tire 50 = .ok (.iaload, 1) := by decide +kernel
theorem dq_Mo_tire_51 : decode gc_Mo_tire 51 = .ok (.if_icmp .le 28, 3) := by decide +kernel
theorem dq_Mo_tire_54 : decode gc_Mo_tire 54 = .ok (.aload_n 0, 1) := by decide +kernel
theorem dq_Mo_tire_55 : decode gc_Mo_tire 55 = .ok (.getfield 34, 3) := by decide +kernel
theorem dq_Mo_tire_58 : decode gc_Mo_tire 58 = .ok (.bipush 26, 2) := by decide +kernel
theorem dq_Mo_tire_60 : decode gc_Mo_tire 60 = .ok (.iload_n 1, 1) := by decide +kernel
theorem dq_Mo_tire_61 : decode gc_Mo_tire 61 = .ok (.iadd, 1) := by decide +kernel
theorem dq_Mo_tire_62 : decode gc_Mo_tire 62 = .ok (.iconst 4, 1) := by decide +kernel
theorem dq_Mo_tire_63 : decode gc_Mo_tire 63 = .ok (.iastore, 1) := by decide +kernel
theorem dq_Mo_tire_64 : decode gc_Mo_tire 64 = .ok (.aload_n 0, 1) := by decide +kernel
theorem dq_Mo_tire_65 : decode gc_Mo_tire 65 = .ok (.getfield 34, 3) := by decide +kernel
theorem dq_Mo_tire_68 : decode gc_Mo_tire 68 = .ok (.bipush 38, 2) := by decide +kernel
theorem dq_Mo_tire_70 : decode gc_Mo_tire 70 = .ok (.iload_n 1, 1) := by decide +kernel
theorem dq_Mo_tire_71 : decode gc_Mo_tire 71 = .ok (.iadd, 1) := by decide +kernel
theorem dq_Mo_tire_72 : decode gc_Mo_tire 72 = .ok (.aload_n 0, 1) := by decide +kernel
theorem dq_Mo_tire_73 : decode gc_Mo_tire 73 = .ok (.getfield 34, 3) := by decide +kernel
theorem dq_Mo_tire_76 : decode gc_Mo_tire 76 = .ok (.iconst 0, 1) := by decide +kernel
theorem dq_Mo_tire_77 : decode gc_Mo_tire 77 = .ok (.iaload, 1) := by decide +kernel
theorem dq_Mo_tire_78 : decode gc_Mo_tire 78 = .ok (.iastore, 1) := by decide +kernel
theorem dq_Mo_tire_79 : decode gc_Mo_tire 79 = .ok (.return_, 1) := by decide +kernel
abbrev gm_Mo_tire : gM := (gc_Mo_tire, gR_7, 0, 0, 2)
def f_Mo_tire (a1 : Int) (h : gH) : Option gO := gd (gix 50 (gadd 26 a1)) (if (h 92 (gadd 26 a1).toNat) = 1 then (gd (gix 50 (gadd 44 a1)) (gd (gix 50 (gadd 44 a1)) (gs (gup h 92 (gadd 44 a1).toNat (gadd (h 92 (gadd 44 a1).toNat) 1)) (fun h2 => gd (gix 50 1) (gd (gix 50 1) (gs (gup h2 92 1 (gadd (h2 92 1) 1)) (fun h3 => gd (gix 50 (gadd 44 a1)) (gd (gix 6 a1) (if (h3 92 (gadd 44 a1).toNat) ≤ (h3 90 a1.toNat) then (some (h3, 0)) else (gd (gix 50 (gadd 26 a1)) (gs (gup h3 92 (gadd 26 a1).toNat 4) (fun h5 => gd (gix 50 0) (gd (gix 50 (gadd 38 a1)) (gs (gup h5 92 (gadd 38 a1).toNat (h5 92 0)) (fun h6 => some (h6, 0)))))))))))))))) else (some (h, 0)))
theorem c_Mo_tire {Z : gZ} (hL : gLive Z) (hn : (zL Z).Nodup) {a1 : Int}  {h : gH} {o : gO} (hg : gRg h) (ha : gRl [.inr (.inr 83), .inl a1]) (hx : f_Mo_tire a1 h = some o) : gC Z gy_Mo_tire gc_Mo_tire 2 none 0 0 [.inr (.inr 83), .inl a1] h o := by
  unfold f_Mo_tire at hx
  refine gC_of (lv := [(0, .inr (.inr 83)), (1, .inl a1)]) (own := gR_7) (by decide +kernel) rfl (Nat.le_of_ble_eq_true rfl) rfl rfl hn hg ha hx (fun X hZ hF => ?_)
  subst hZ
  show gr _ o gm_Mo_tire X h 0 _ _
  refine gr_aload_n (M := gm_Mo_tire) dq_Mo_tire_0 rfl 0 rfl 1 rfl ?_
  refine gr_getr (M := gm_Mo_tire) dq_Mo_tire_1 4 rfl gfl_Mo_34 gsh_83 rfl (gli hL gsh_83) 92 rfl ?_
  refine gr_bipush (M := gm_Mo_tire) (v := 26) dq_Mo_tire_4 (by decide) ⟨by decide, by decide⟩ 6 rfl ?_
  refine gr_iload_n (M := gm_Mo_tire) dq_Mo_tire_6 rfl 1 rfl 7 rfl ?_
  refine gr_iadd (M := gm_Mo_tire) dq_Mo_tire_7 8 rfl ?_
  refine gr_iald (M := gm_Mo_tire) dq_Mo_tire_8 9 rfl gsh_92 (glj hL gsh_92 (by decide)) ?_
  refine gr_iconst (M := gm_Mo_tire) (v := 1) dq_Mo_tire_9 rfl ⟨by decide, by decide⟩ 10 rfl ?_
  refine gr_icmp_ne (M := gm_Mo_tire) dq_Mo_tire_10 79 13 rfl rfl (fun c1 => ?_) (fun c1 => ?_)
  · exact gr_return (M := gm_Mo_tire) dq_Mo_tire_79 hF
  refine gr_aload_n (M := gm_Mo_tire) dq_Mo_tire_13 rfl 0 rfl 14 rfl ?_
  refine gr_getr (M := gm_Mo_tire) dq_Mo_tire_14 17 rfl gfl_Mo_34 gsh_83 rfl (gli hL gsh_83) 92 rfl ?_
  refine gr_bipush (M := gm_Mo_tire) (v := 44) dq_Mo_tire_17 (by decide) ⟨by decide, by decide⟩ 19 rfl ?_
  refine gr_iload_n (M := gm_Mo_tire) dq_Mo_tire_19 rfl 1 rfl 20 rfl ?_
  refine gr_iadd (M := gm_Mo_tire) dq_Mo_tire_20 21 rfl ?_
  refine gr_dup2 (M := gm_Mo_tire) dq_Mo_tire_21 (fun _ q => by cases q) (fun _ q => by cases q) 22 rfl ?_
  refine gr_iald (M := gm_Mo_tire) dq_Mo_tire_22 23 rfl gsh_92 (glj hL gsh_92 (by decide)) ?_
  refine gr_iconst (M := gm_Mo_tire) (v := 1) dq_Mo_tire_23 rfl ⟨by decide, by decide⟩ 24 rfl ?_
  refine gr_iadd (M := gm_Mo_tire) dq_Mo_tire_24 25 rfl ?_
  refine gr_iast (M := gm_Mo_tire) dq_Mo_tire_25 26 rfl gsh_92 (glj hL gsh_92 (by decide)) (fun h2 _ => ?_)
  refine gr_aload_n (M := gm_Mo_tire) dq_Mo_tire_26 rfl 0 rfl 27 rfl ?_
  refine gr_getr (M := gm_Mo_tire) dq_Mo_tire_27 30 rfl gfl_Mo_34 gsh_83 rfl (gli hL gsh_83) 92 rfl ?_
  refine gr_iconst (M := gm_Mo_tire) (v := 1) dq_Mo_tire_30 rfl ⟨by decide, by decide⟩ 31 rfl ?_
  refine gr_dup2 (M := gm_Mo_tire) dq_Mo_tire_31 (fun _ q => by cases q) (fun _ q => by cases q) 32 rfl ?_
  refine gr_iald (M := gm_Mo_tire) dq_Mo_tire_32 33 rfl gsh_92 (glj hL gsh_92 (by decide)) ?_
  refine gr_iconst (M := gm_Mo_tire) (v := 1) dq_Mo_tire_33 rfl ⟨by decide, by decide⟩ 34 rfl ?_
  refine gr_iadd (M := gm_Mo_tire) dq_Mo_tire_34 35 rfl ?_
  refine gr_iast (M := gm_Mo_tire) dq_Mo_tire_35 36 rfl gsh_92 (glj hL gsh_92 (by decide)) (fun h3 _ => ?_)
  refine gr_aload_n (M := gm_Mo_tire) dq_Mo_tire_36 rfl 0 rfl 37 rfl ?_
  refine gr_getr (M := gm_Mo_tire) dq_Mo_tire_37 40 rfl gfl_Mo_34 gsh_83 rfl (gli hL gsh_83) 92 rfl ?_
  refine gr_bipush (M := gm_Mo_tire) (v := 44) dq_Mo_tire_40 (by decide) ⟨by decide, by decide⟩ 42 rfl ?_
  refine gr_iload_n (M := gm_Mo_tire) dq_Mo_tire_42 rfl 1 rfl 43 rfl ?_
  refine gr_iadd (M := gm_Mo_tire) dq_Mo_tire_43 44 rfl ?_
  refine gr_iald (M := gm_Mo_tire) dq_Mo_tire_44 45 rfl gsh_92 (glj hL gsh_92 (by decide)) ?_
  refine gr_aload_n (M := gm_Mo_tire) dq_Mo_tire_45 rfl 0 rfl 46 rfl ?_
  refine gr_getr (M := gm_Mo_tire) dq_Mo_tire_46 49 rfl gfl_Mo_28 gsh_83 rfl (gli hL gsh_83) 90 rfl ?_
  refine gr_iload_n (M := gm_Mo_tire) dq_Mo_tire_49 rfl 1 rfl 50 rfl ?_
  refine gr_iald (M := gm_Mo_tire) dq_Mo_tire_50 51 rfl gsh_90 (glj hL gsh_90 (by decide)) ?_
  refine gr_icmp_le (M := gm_Mo_tire) dq_Mo_tire_51 79 54 rfl rfl (fun c4 => ?_) (fun c4 => ?_)
  · exact gr_return (M := gm_Mo_tire) dq_Mo_tire_79 hF
  refine gr_aload_n (M := gm_Mo_tire) dq_Mo_tire_54 rfl 0 rfl 55 rfl ?_
  refine gr_getr (M := gm_Mo_tire) dq_Mo_tire_55 58 rfl gfl_Mo_34 gsh_83 rfl (gli hL gsh_83) 92 rfl ?_
  refine gr_bipush (M := gm_Mo_tire) (v := 26) dq_Mo_tire_58 (by decide) ⟨by decide, by decide⟩ 60 rfl ?_
  refine gr_iload_n (M := gm_Mo_tire) dq_Mo_tire_60 rfl 1 rfl 61 rfl ?_
  refine gr_iadd (M := gm_Mo_tire) dq_Mo_tire_61 62 rfl ?_
  refine gr_iconst (M := gm_Mo_tire) (v := 4) dq_Mo_tire_62 rfl ⟨by decide, by decide⟩ 63 rfl ?_
  refine gr_iast (M := gm_Mo_tire) dq_Mo_tire_63 64 rfl gsh_92 (glj hL gsh_92 (by decide)) (fun h5 _ => ?_)
  refine gr_aload_n (M := gm_Mo_tire) dq_Mo_tire_64 rfl 0 rfl 65 rfl ?_
  refine gr_getr (M := gm_Mo_tire) dq_Mo_tire_65 68 rfl gfl_Mo_34 gsh_83 rfl (gli hL gsh_83) 92 rfl ?_
  refine gr_bipush (M := gm_Mo_tire) (v := 38) dq_Mo_tire_68 (by decide) ⟨by decide, by decide⟩ 70 rfl ?_
  refine gr_iload_n (M := gm_Mo_tire) dq_Mo_tire_70 rfl 1 rfl 71 rfl ?_
  refine gr_iadd (M := gm_Mo_tire) dq_Mo_tire_71 72 rfl ?_
  refine gr_aload_n (M := gm_Mo_tire) dq_Mo_tire_72 rfl 0 rfl 73 rfl ?_
  refine gr_getr (M := gm_Mo_tire) dq_Mo_tire_73 76 rfl gfl_Mo_34 gsh_83 rfl (gli hL gsh_83) 92 rfl ?_
  refine gr_iconst (M := gm_Mo_tire) (v := 0) dq_Mo_tire_76 rfl ⟨by decide, by decide⟩ 77 rfl ?_
  refine gr_iald (M := gm_Mo_tire) dq_Mo_tire_77 78 rfl gsh_92 (glj hL gsh_92 (by decide)) ?_
  refine gr_iast (M := gm_Mo_tire) dq_Mo_tire_78 79 rfl gsh_92 (glj hL gsh_92 (by decide)) (fun h6 _ => ?_)
  exact gr_return (M := gm_Mo_tire) dq_Mo_tire_79 hF

-- Mo_pass
theorem dq_Mo_pass_0 : decode gc_Mo_pass 0 = .ok (.iconst 0, 1) := by decide +kernel
theorem dq_Mo_pass_1 : decode gc_Mo_pass 1 = .ok (.istore_n 1, 1) := by decide +kernel
theorem dq_Mo_pass_2 : decode gc_Mo_pass 2 = .ok (.iload_n 1, 1) := by decide +kernel
theorem dq_Mo_pass_3 : decode gc_Mo_pass 3 = .ok (.aload_n 0, 1) := by decide +kernel
theorem dq_Mo_pass_4 : decode gc_Mo_pass 4 = .ok (.getfield 124, 3) := by decide +kernel
theorem dq_Mo_pass_7 : decode gc_Mo_pass 7 = .ok (.if_icmp .ge 14, 3) := by decide +kernel
theorem dq_Mo_pass_10 : decode gc_Mo_pass 10 = .ok (.aload_n 0, 1) := by decide +kernel
theorem dq_Mo_pass_11 : decode gc_Mo_pass 11 = .ok (.iload_n 1, 1) := by decide +kernel
theorem dq_Mo_pass_12 : decode gc_Mo_pass 12 = .ok (.invokevirtual 254, 3) := by decide +kernel
theorem dq_Mo_pass_15 : decode gc_Mo_pass 15 = .ok (.iinc 1 1, 3) := by decide +kernel
theorem dq_Mo_pass_18 : decode gc_Mo_pass 18 = .ok (.goto (-16), 3) := by decide +kernel
theorem dq_Mo_pass_21 : decode gc_Mo_pass 21 = .ok (.iconst 0, 1) := by decide +kernel
theorem dq_Mo_pass_22 : decode gc_Mo_pass 22 = .ok (.istore_n 1, 1) := by decide +kernel
theorem dq_Mo_pass_23 : decode gc_Mo_pass 23 = .ok (.iload_n 1, 1) := by decide +kernel
theorem dq_Mo_pass_24 : decode gc_Mo_pass 24 = .ok (.aload_n 0, 1) := by decide +kernel
theorem dq_Mo_pass_25 : decode gc_Mo_pass 25 = .ok (.getfield 124, 3) := by decide +kernel
theorem dq_Mo_pass_28 : decode gc_Mo_pass 28 = .ok (.if_icmp .ge 14, 3) := by decide +kernel
theorem dq_Mo_pass_31 : decode gc_Mo_pass 31 = .ok (.aload_n 0, 1) := by decide +kernel
theorem dq_Mo_pass_32 : decode gc_Mo_pass 32 = .ok (.iload_n 1, 1) := by decide +kernel
theorem dq_Mo_pass_33 : decode gc_Mo_pass 33 = .ok (.invokevirtual 258, 3) := by decide +kernel
theorem dq_Mo_pass_36 : decode gc_Mo_pass 36 = .ok (.iinc 1 1, 3) := by decide +kernel
theorem dq_Mo_pass_39 : decode gc_Mo_pass 39 = .ok (.goto (-16), 3) := by decide +kernel
theorem dq_Mo_pass_42 : decode gc_Mo_pass 42 = .ok (.iconst 0, 1) := by decide +kernel
theorem dq_Mo_pass_43 : decode gc_Mo_pass 43 = .ok (.istore_n 1, 1) := by decide +kernel
theorem dq_Mo_pass_44 : decode gc_Mo_pass 44 = .ok (.iload_n 1, 1) := by decide +kernel
theorem dq_Mo_pass_45 : decode gc_Mo_pass 45 = .ok (.aload_n 0, 1) := by decide +kernel
theorem dq_Mo_pass_46 : decode gc_Mo_pass 46 = .ok (.getfield 121, 3) := by decide +kernel
theorem dq_Mo_pass_49 : decode gc_Mo_pass 49 = .ok (.if_icmp .ge 14, 3) := by decide +kernel
theorem dq_Mo_pass_52 : decode gc_Mo_pass 52 = .ok (.aload_n 0, 1) := by decide +kernel
theorem dq_Mo_pass_53 : decode gc_Mo_pass 53 = .ok (.iload_n 1, 1) := by decide +kernel
theorem dq_Mo_pass_54 : decode gc_Mo_pass 54 = .ok (.invokevirtual 261, 3) := by decide +kernel
theorem dq_Mo_pass_57 : decode gc_Mo_pass 57 = .ok (.iinc 1 1, 3) := by decide +kernel
theorem dq_Mo_pass_60 : decode gc_Mo_pass 60 = .ok (.goto (-16), 3) := by decide +kernel
theorem dq_Mo_pass_63 : decode gc_Mo_pass 63 = .ok (.iconst 0, 1) := by decide +kernel
theorem dq_Mo_pass_64 : decode gc_Mo_pass 64 = .ok (.istore_n 1, 1) := by decide +kernel
theorem dq_Mo_pass_65 : decode gc_Mo_pass 65 = .ok (.iload_n 1, 1) := by decide +kernel
theorem dq_Mo_pass_66 : decode gc_Mo_pass 66 = .ok (.aload_n 0, 1) := by decide +kernel
theorem dq_Mo_pass_67 : decode gc_Mo_pass 67 = .ok (.getfield 124, 3) := by decide +kernel
theorem dq_Mo_pass_70 : decode gc_Mo_pass 70 = .ok (.if_icmp .ge 14, 3) := by decide +kernel
theorem dq_Mo_pass_73 : decode gc_Mo_pass 73 = .ok (.aload_n 0, 1) := by decide +kernel
theorem dq_Mo_pass_74 : decode gc_Mo_pass 74 = .ok (.iload_n 1, 1) := by decide +kernel
theorem dq_Mo_pass_75 : decode gc_Mo_pass 75 = .ok (.invokevirtual 264, 3) := by decide +kernel
theorem dq_Mo_pass_78 : decode gc_Mo_pass 78 = .ok (.iinc 1 1, 3) := by decide +kernel
theorem dq_Mo_pass_81 : decode gc_Mo_pass 81 = .ok (.goto (-16), 3) := by decide +kernel
theorem dq_Mo_pass_84 : decode gc_Mo_pass 84 = .ok (.aload_n 0, 1) := by decide +kernel
theorem dq_Mo_pass_85 : decode gc_Mo_pass 85 = .ok (.getfield 34, 3) := by decide +kernel
theorem dq_Mo_pass_88 : decode gc_Mo_pass 88 = .ok (.iconst 0, 1) := by decide +kernel
theorem dq_Mo_pass_89 : decode gc_Mo_pass 89 = .ok (.dup2, 1) := by decide +kernel
theorem dq_Mo_pass_90 : decode gc_Mo_pass 90 = .ok (.iaload, 1) := by decide +kernel
theorem dq_Mo_pass_91 : decode gc_Mo_pass 91 = .ok (.iconst 1, 1) := by decide +kernel
theorem dq_Mo_pass_92 : decode gc_Mo_pass 92 = .ok (.iadd, 1) := by decide +kernel
theorem dq_Mo_pass_93 : decode gc_Mo_pass 93 = .ok (.iastore, 1) := by decide +kernel
theorem dq_Mo_pass_94 : decode gc_Mo_pass 94 = .ok (.return_, 1) := by decide +kernel
abbrev gm_Mo_pass : gM := (gc_Mo_pass, gR_7, 7, 163, 2)
set_option maxRecDepth 20000 in
theorem gcy_Mo_254 : gCy gR_7 254 gy_Mo_arrive gc_Mo_arrive 4 none 1 := ⟨(gtab_at 1029 (by decide +kernel) rfl), (gtab_at 8 (by decide +kernel) rfl), (gtab_at 1032 rfl rfl), by decide, by decide, by decide +kernel⟩
theorem gim_Mo_arrive : Cond.instanceMethod gy_Mo_arrive ∈ gtbl := (gtab_at 1031 (by decide +kernel) rfl)
theorem gse_Mo_arrive : Cond.selects gy_Mo_arrive.cls gy_Mo_arrive gy_Mo_arrive ∈ gtbl := (by decide +kernel)
set_option maxRecDepth 20000 in
theorem gcy_Mo_258 : gCy gR_7 258 gy_Mo_start gc_Mo_start 2 none 1 := ⟨(gtab_at 1033 (by decide +kernel) rfl), (gtab_at 8 (by decide +kernel) rfl), (gtab_at 1036 rfl rfl), by decide, by decide, by decide +kernel⟩
theorem gim_Mo_start : Cond.instanceMethod gy_Mo_start ∈ gtbl := (gtab_at 1035 (by decide +kernel) rfl)
theorem gse_Mo_start : Cond.selects gy_Mo_start.cls gy_Mo_start gy_Mo_start ∈ gtbl := (by decide +kernel)
set_option maxRecDepth 20000 in
theorem gcy_Mo_261 : gCy gR_7 261 gy_Mo_enter gc_Mo_enter 3 none 1 := ⟨(gtab_at 1037 (by decide +kernel) rfl), (gtab_at 8 (by decide +kernel) rfl), (gtab_at 1040 rfl rfl), by decide, by decide, by decide +kernel⟩
theorem gim_Mo_enter : Cond.instanceMethod gy_Mo_enter ∈ gtbl := (gtab_at 1039 (by decide +kernel) rfl)
theorem gse_Mo_enter : Cond.selects gy_Mo_enter.cls gy_Mo_enter gy_Mo_enter ∈ gtbl := (by decide +kernel)
set_option maxRecDepth 20000 in
theorem gcy_Mo_264 : gCy gR_7 264 gy_Mo_tire gc_Mo_tire 2 none 1 := ⟨(gtab_at 1060 (by decide +kernel) rfl), (gtab_at 8 (by decide +kernel) rfl), (gtab_at 1063 rfl rfl), by decide, by decide, by decide +kernel⟩
theorem gim_Mo_tire : Cond.instanceMethod gy_Mo_tire ∈ gtbl := (gtab_at 1062 (by decide +kernel) rfl)
theorem gse_Mo_tire : Cond.selects gy_Mo_tire.cls gy_Mo_tire gy_Mo_tire ∈ gtbl := (by decide +kernel)
def f_Mo_pass_L2  (k21 : gH → Option gO) : Nat → Int → gH → Option gO
  | 0, _, _ => none
  | n + 1, v1, h => if (h 83 6) ≤ v1 then (k21  h) else (gb (f_Mo_arrive v1 h) (fun h2 r3 => f_Mo_pass_L2 k21 n (gadd v1 1) h2))
theorem w_Mo_pass_L2 {o : gO} {X : gX} (hL : gLive (xZ X)) (hn : (zL (xZ X)).Nodup) (hF : gFin X none o)    {k21 : gH → Option gO} (hk21 : ∀ (h : gH), gr (k21 h) o gm_Mo_pass X h 21 [(0, .inr (.inr 83))] []) : ∀ (n : Nat) (v1 : Int) (h : gH), gr (f_Mo_pass_L2  k21 n v1 h) o gm_Mo_pass X h 2 [(0, .inr (.inr 83)), (1, .inl v1)] [] := by
  intro n
  induction n with
  | zero => intros; exact gr_none
  | succ n ih =>
    intro v1 h
    unfold f_Mo_pass_L2
    refine gr_iload_n (M := gm_Mo_pass) dq_Mo_pass_2 rfl 1 rfl 3 rfl ?_
    refine gr_aload_n (M := gm_Mo_pass) dq_Mo_pass_3 rfl 0 rfl 4 rfl ?_
    refine gr_geti (M := gm_Mo_pass) dq_Mo_pass_4 7 rfl gfl_Mo_124 gsh_83 rfl (gli hL gsh_83) ?_
    refine gr_icmp_ge (M := gm_Mo_pass) dq_Mo_pass_7 21 10 rfl rfl (fun c1 => ?_) (fun c1 => ?_)
    · refine gr_sub (M := gm_Mo_pass) (lv' := [(0, .inr (.inr 83))]) [0] rfl ?_
      exact hk21  _
    refine gr_aload_n (M := gm_Mo_pass) dq_Mo_pass_10 rfl 0 rfl 11 rfl ?_
    refine gr_iload_n (M := gm_Mo_pass) dq_Mo_pass_11 rfl 1 rfl 12 rfl ?_
    refine gr_callVv (M := gm_Mo_pass) (as := [.inl v1]) dq_Mo_pass_12 15 rfl rfl gcy_Mo_254 gim_Mo_arrive gse_Mo_arrive ⟨by decide, by decide⟩ (Nat.le_of_ble_eq_true rfl) gsh_83 rfl (gli hL gsh_83) (fun o1 hg ha hx => c_Mo_arrive hL hn  hg ha hx) (fun h2 r3 _ => ?_)
    refine gr_iinc (M := gm_Mo_pass) (lv' := [(1, .inl (gadd v1 1)), (0, .inr (.inr 83))]) dq_Mo_pass_15 1 rfl rfl (by decide) rfl 18 rfl ?_
    refine gr_goto (M := gm_Mo_pass) dq_Mo_pass_18 2 rfl ?_
    refine gr_sub (M := gm_Mo_pass) (lv' := [(0, .inr (.inr 83)), (1, .inl (gadd v1 1))]) [1, 0] rfl ?_
    exact ih _ _

def f_Mo_pass_L23  (k42 : gH → Option gO) : Nat → Int → gH → Option gO
  | 0, _, _ => none
  | n + 1, v1, h => if (h 83 6) ≤ v1 then (k42  h) else (gb (f_Mo_start v1 h) (fun h6 r7 => f_Mo_pass_L23 k42 n (gadd v1 1) h6))
theorem w_Mo_pass_L23 {o : gO} {X : gX} (hL : gLive (xZ X)) (hn : (zL (xZ X)).Nodup) (hF : gFin X none o)    {k42 : gH → Option gO} (hk42 : ∀ (h : gH), gr (k42 h) o gm_Mo_pass X h 42 [(0, .inr (.inr 83))] []) : ∀ (n : Nat) (v1 : Int) (h : gH), gr (f_Mo_pass_L23  k42 n v1 h) o gm_Mo_pass X h 23 [(0, .inr (.inr 83)), (1, .inl v1)] [] := by
  intro n
  induction n with
  | zero => intros; exact gr_none
  | succ n ih =>
    intro v1 h
    unfold f_Mo_pass_L23
    refine gr_iload_n (M := gm_Mo_pass) dq_Mo_pass_23 rfl 1 rfl 24 rfl ?_
    refine gr_aload_n (M := gm_Mo_pass) dq_Mo_pass_24 rfl 0 rfl 25 rfl ?_
    refine gr_geti (M := gm_Mo_pass) dq_Mo_pass_25 28 rfl gfl_Mo_124 gsh_83 rfl (gli hL gsh_83) ?_
    refine gr_icmp_ge (M := gm_Mo_pass) dq_Mo_pass_28 42 31 rfl rfl (fun c5 => ?_) (fun c5 => ?_)
    · refine gr_sub (M := gm_Mo_pass) (lv' := [(0, .inr (.inr 83))]) [0] rfl ?_
      exact hk42  _
    refine gr_aload_n (M := gm_Mo_pass) dq_Mo_pass_31 rfl 0 rfl 32 rfl ?_
    refine gr_iload_n (M := gm_Mo_pass) dq_Mo_pass_32 rfl 1 rfl 33 rfl ?_
    refine gr_callVv (M := gm_Mo_pass) (as := [.inl v1]) dq_Mo_pass_33 36 rfl rfl gcy_Mo_258 gim_Mo_start gse_Mo_start ⟨by decide, by decide⟩ (Nat.le_of_ble_eq_true rfl) gsh_83 rfl (gli hL gsh_83) (fun o1 hg ha hx => c_Mo_start hL hn  hg ha hx) (fun h6 r7 _ => ?_)
    refine gr_iinc (M := gm_Mo_pass) (lv' := [(1, .inl (gadd v1 1)), (0, .inr (.inr 83))]) dq_Mo_pass_36 1 rfl rfl (by decide) rfl 39 rfl ?_
    refine gr_goto (M := gm_Mo_pass) dq_Mo_pass_39 23 rfl ?_
    refine gr_sub (M := gm_Mo_pass) (lv' := [(0, .inr (.inr 83)), (1, .inl (gadd v1 1))]) [1, 0] rfl ?_
    exact ih _ _

def f_Mo_pass_L44  (k63 : gH → Option gO) : Nat → Int → gH → Option gO
  | 0, _, _ => none
  | n + 1, v1, h => if (h 83 2) ≤ v1 then (k63  h) else (gb (f_Mo_enter v1 h) (fun h10 r11 => f_Mo_pass_L44 k63 n (gadd v1 1) h10))
theorem w_Mo_pass_L44 {o : gO} {X : gX} (hL : gLive (xZ X)) (hn : (zL (xZ X)).Nodup) (hF : gFin X none o)    {k63 : gH → Option gO} (hk63 : ∀ (h : gH), gr (k63 h) o gm_Mo_pass X h 63 [(0, .inr (.inr 83))] []) : ∀ (n : Nat) (v1 : Int) (h : gH), gr (f_Mo_pass_L44  k63 n v1 h) o gm_Mo_pass X h 44 [(0, .inr (.inr 83)), (1, .inl v1)] [] := by
  intro n
  induction n with
  | zero => intros; exact gr_none
  | succ n ih =>
    intro v1 h
    unfold f_Mo_pass_L44
    refine gr_iload_n (M := gm_Mo_pass) dq_Mo_pass_44 rfl 1 rfl 45 rfl ?_
    refine gr_aload_n (M := gm_Mo_pass) dq_Mo_pass_45 rfl 0 rfl 46 rfl ?_
    refine gr_geti (M := gm_Mo_pass) dq_Mo_pass_46 49 rfl gfl_Mo_121 gsh_83 rfl (gli hL gsh_83) ?_
    refine gr_icmp_ge (M := gm_Mo_pass) dq_Mo_pass_49 63 52 rfl rfl (fun c9 => ?_) (fun c9 => ?_)
    · refine gr_sub (M := gm_Mo_pass) (lv' := [(0, .inr (.inr 83))]) [0] rfl ?_
      exact hk63  _
    refine gr_aload_n (M := gm_Mo_pass) dq_Mo_pass_52 rfl 0 rfl 53 rfl ?_
    refine gr_iload_n (M := gm_Mo_pass) dq_Mo_pass_53 rfl 1 rfl 54 rfl ?_
    refine gr_callVv (M := gm_Mo_pass) (as := [.inl v1]) dq_Mo_pass_54 57 rfl rfl gcy_Mo_261 gim_Mo_enter gse_Mo_enter ⟨by decide, by decide⟩ (Nat.le_of_ble_eq_true rfl) gsh_83 rfl (gli hL gsh_83) (fun o1 hg ha hx => c_Mo_enter hL hn  hg ha hx) (fun h10 r11 _ => ?_)
    refine gr_iinc (M := gm_Mo_pass) (lv' := [(1, .inl (gadd v1 1)), (0, .inr (.inr 83))]) dq_Mo_pass_57 1 rfl rfl (by decide) rfl 60 rfl ?_
    refine gr_goto (M := gm_Mo_pass) dq_Mo_pass_60 44 rfl ?_
    refine gr_sub (M := gm_Mo_pass) (lv' := [(0, .inr (.inr 83)), (1, .inl (gadd v1 1))]) [1, 0] rfl ?_
    exact ih _ _

def f_Mo_pass_L65  (k84 : gH → Option gO) : Nat → Int → gH → Option gO
  | 0, _, _ => none
  | n + 1, v1, h => if (h 83 6) ≤ v1 then (k84  h) else (gb (f_Mo_tire v1 h) (fun h14 r15 => f_Mo_pass_L65 k84 n (gadd v1 1) h14))
theorem w_Mo_pass_L65 {o : gO} {X : gX} (hL : gLive (xZ X)) (hn : (zL (xZ X)).Nodup) (hF : gFin X none o)    {k84 : gH → Option gO} (hk84 : ∀ (h : gH), gr (k84 h) o gm_Mo_pass X h 84 [(0, .inr (.inr 83))] []) : ∀ (n : Nat) (v1 : Int) (h : gH), gr (f_Mo_pass_L65  k84 n v1 h) o gm_Mo_pass X h 65 [(0, .inr (.inr 83)), (1, .inl v1)] [] := by
  intro n
  induction n with
  | zero => intros; exact gr_none
  | succ n ih =>
    intro v1 h
    unfold f_Mo_pass_L65
    refine gr_iload_n (M := gm_Mo_pass) dq_Mo_pass_65 rfl 1 rfl 66 rfl ?_
    refine gr_aload_n (M := gm_Mo_pass) dq_Mo_pass_66 rfl 0 rfl 67 rfl ?_
    refine gr_geti (M := gm_Mo_pass) dq_Mo_pass_67 70 rfl gfl_Mo_124 gsh_83 rfl (gli hL gsh_83) ?_
    refine gr_icmp_ge (M := gm_Mo_pass) dq_Mo_pass_70 84 73 rfl rfl (fun c13 => ?_) (fun c13 => ?_)
    · refine gr_sub (M := gm_Mo_pass) (lv' := [(0, .inr (.inr 83))]) [0] rfl ?_
      exact hk84  _
    refine gr_aload_n (M := gm_Mo_pass) dq_Mo_pass_73 rfl 0 rfl 74 rfl ?_
    refine gr_iload_n (M := gm_Mo_pass) dq_Mo_pass_74 rfl 1 rfl 75 rfl ?_
    refine gr_callVv (M := gm_Mo_pass) (as := [.inl v1]) dq_Mo_pass_75 78 rfl rfl gcy_Mo_264 gim_Mo_tire gse_Mo_tire ⟨by decide, by decide⟩ (Nat.le_of_ble_eq_true rfl) gsh_83 rfl (gli hL gsh_83) (fun o1 hg ha hx => c_Mo_tire hL hn  hg ha hx) (fun h14 r15 _ => ?_)
    refine gr_iinc (M := gm_Mo_pass) (lv' := [(1, .inl (gadd v1 1)), (0, .inr (.inr 83))]) dq_Mo_pass_78 1 rfl rfl (by decide) rfl 81 rfl ?_
    refine gr_goto (M := gm_Mo_pass) dq_Mo_pass_81 65 rfl ?_
    refine gr_sub (M := gm_Mo_pass) (lv' := [(0, .inr (.inr 83)), (1, .inl (gadd v1 1))]) [1, 0] rfl ?_
    exact ih _ _

def f_Mo_pass  (h : gH) : Option gO := f_Mo_pass_L2  (fun  h4 => f_Mo_pass_L23  (fun  h8 => f_Mo_pass_L44  (fun  h12 => f_Mo_pass_L65  (fun  h16 => gd (gix 50 0) (gd (gix 50 0) (gs (gup h16 92 0 (gadd (h16 92 0) 1)) (fun h17 => some (h17, 0))))) 50000 0 h12) 50000 0 h8) 50000 0 h4) 50000 0 h
theorem c_Mo_pass {Z : gZ} (hL : gLive Z) (hn : (zL Z).Nodup)   {h : gH} {o : gO} (hg : gRg h) (ha : gRl [.inr (.inr 83)]) (hx : f_Mo_pass  h = some o) : gC Z gy_Mo_pass gc_Mo_pass 2 none 7 163 [.inr (.inr 83)] h o := by
  unfold f_Mo_pass at hx
  refine gC_of (lv := [(0, .inr (.inr 83))]) (own := gR_7) (by decide +kernel) rfl (Nat.le_of_ble_eq_true rfl) rfl rfl hn hg ha hx (fun X hZ hF => ?_)
  subst hZ
  show gr _ o gm_Mo_pass X h 0 _ _
  refine gr_iconst (M := gm_Mo_pass) (v := 0) dq_Mo_pass_0 rfl ⟨by decide, by decide⟩ 1 rfl ?_
  refine gr_istore_n (M := gm_Mo_pass) (lv' := [(1, .inl 0), (0, .inr (.inr 83))]) dq_Mo_pass_1 rfl (by decide) rfl 2 rfl ?_
  refine gr_sub (M := gm_Mo_pass) (lv' := [(0, .inr (.inr 83)), (1, .inl 0)]) [1, 0] rfl ?_
  refine w_Mo_pass_L2 hL hn hF   (fun h4 => ?_) 50000 _ _
  refine gr_iconst (M := gm_Mo_pass) (v := 0) dq_Mo_pass_21 rfl ⟨by decide, by decide⟩ 22 rfl ?_
  refine gr_istore_n (M := gm_Mo_pass) (lv' := [(1, .inl 0), (0, .inr (.inr 83))]) dq_Mo_pass_22 rfl (by decide) rfl 23 rfl ?_
  refine gr_sub (M := gm_Mo_pass) (lv' := [(0, .inr (.inr 83)), (1, .inl 0)]) [1, 0] rfl ?_
  refine w_Mo_pass_L23 hL hn hF   (fun h8 => ?_) 50000 _ _
  refine gr_iconst (M := gm_Mo_pass) (v := 0) dq_Mo_pass_42 rfl ⟨by decide, by decide⟩ 43 rfl ?_
  refine gr_istore_n (M := gm_Mo_pass) (lv' := [(1, .inl 0), (0, .inr (.inr 83))]) dq_Mo_pass_43 rfl (by decide) rfl 44 rfl ?_
  refine gr_sub (M := gm_Mo_pass) (lv' := [(0, .inr (.inr 83)), (1, .inl 0)]) [1, 0] rfl ?_
  refine w_Mo_pass_L44 hL hn hF   (fun h12 => ?_) 50000 _ _
  refine gr_iconst (M := gm_Mo_pass) (v := 0) dq_Mo_pass_63 rfl ⟨by decide, by decide⟩ 64 rfl ?_
  refine gr_istore_n (M := gm_Mo_pass) (lv' := [(1, .inl 0), (0, .inr (.inr 83))]) dq_Mo_pass_64 rfl (by decide) rfl 65 rfl ?_
  refine gr_sub (M := gm_Mo_pass) (lv' := [(0, .inr (.inr 83)), (1, .inl 0)]) [1, 0] rfl ?_
  refine w_Mo_pass_L65 hL hn hF   (fun h16 => ?_) 50000 _ _
  refine gr_aload_n (M := gm_Mo_pass) dq_Mo_pass_84 rfl 0 rfl 85 rfl ?_
  refine gr_getr (M := gm_Mo_pass) dq_Mo_pass_85 88 rfl gfl_Mo_34 gsh_83 rfl (gli hL gsh_83) 92 rfl ?_
  refine gr_iconst (M := gm_Mo_pass) (v := 0) dq_Mo_pass_88 rfl ⟨by decide, by decide⟩ 89 rfl ?_
  refine gr_dup2 (M := gm_Mo_pass) dq_Mo_pass_89 (fun _ q => by cases q) (fun _ q => by cases q) 90 rfl ?_
  refine gr_iald (M := gm_Mo_pass) dq_Mo_pass_90 91 rfl gsh_92 (glj hL gsh_92 (by decide)) ?_
  refine gr_iconst (M := gm_Mo_pass) (v := 1) dq_Mo_pass_91 rfl ⟨by decide, by decide⟩ 92 rfl ?_
  refine gr_iadd (M := gm_Mo_pass) dq_Mo_pass_92 93 rfl ?_
  refine gr_iast (M := gm_Mo_pass) dq_Mo_pass_93 94 rfl gsh_92 (glj hL gsh_92 (by decide)) (fun h17 _ => ?_)
  exact gr_return (M := gm_Mo_pass) dq_Mo_pass_94 hF

-- Mo_home
theorem dq_Mo_home_0 : decode gc_Mo_home 0 = .ok (.iconst 0, 1) := by decide +kernel
theorem dq_Mo_home_1 : decode gc_Mo_home 1 = .ok (.istore_n 1, 1) := by decide +kernel
theorem dq_Mo_home_2 : decode gc_Mo_home 2 = .ok (.iconst 0, 1) := by decide +kernel
theorem dq_Mo_home_3 : decode gc_Mo_home 3 = .ok (.istore_n 2, 1) := by decide +kernel
theorem dq_Mo_home_4 : decode gc_Mo_home 4 = .ok (.iload_n 2, 1) := by decide +kernel
theorem dq_Mo_home_5 : decode gc_Mo_home 5 = .ok (.aload_n 0, 1) := by decide +kernel
theorem dq_Mo_home_6 : decode gc_Mo_home 6 = .ok (.getfield 124, 3) := by decide +kernel
theorem dq_Mo_home_9 : decode gc_Mo_home 9 = .ok (.if_icmp .ge 30, 3) := by decide +kernel
theorem dq_Mo_home_12 : decode gc_Mo_home 12 = .ok (.iload_n 1, 1) := by decide +kernel
theorem dq_Mo_home_13 : decode gc_Mo_home 13 = .ok (.aload_n 0, 1) := by decide +kernel
theorem dq_Mo_home_14 : decode gc_Mo_home 14 = .ok (.getfield 34, 3) := by decide +kernel
theorem dq_Mo_home_17 : decode gc_Mo_home 17 = .ok (.bipush 26, 2) := by decide +kernel
theorem dq_Mo_home_19 : decode gc_Mo_home 19 = .ok (.iload_n 2, 1) := by decide +kernel
theorem dq_Mo_home_20 : decode gc_Mo_home 20 = .ok (.iadd, 1) := by decide +kernel
theorem dq_Mo_home_21 : decode gc_Mo_home 21 = .ok (.iaload, 1) := by decide +kernel
theorem dq_Mo_home_22 : decode gc_Mo_home 22 = .ok (.iconst 3, 1) := by decide +kernel
theorem dq_Mo_home_23 : decode gc_Mo_home 23 = .ok (.if_icmp .ne 7, 3) := by decide +kernel
theorem dq_Mo_home_26 : decode gc_Mo_home 26 = .ok (.iconst 1, 1) := by decide +kernel
theorem dq_Mo_home_27 : decode gc_Mo_home 27 = .ok (.goto 4, 3) := by decide +kernel
theorem dq_Mo_home_30 : decode gc_Mo_home 30 = .ok (.iconst 0, 1) := by decide +kernel
theorem dq_Mo_home_31 : decode gc_Mo_home 31 = .ok (.iadd, 1) := by decide +kernel
theorem dq_Mo_home_32 : decode gc_Mo_home 32 = .ok (.istore_n 1, 1) := by decide +kernel
theorem dq_Mo_home_33 : decode gc_Mo_home 33 = .ok (.iinc 2 1, 3) := by decide +kernel
theorem dq_Mo_home_36 : decode gc_Mo_home 36 = .ok (.goto (-32), 3) := by decide +kernel
theorem dq_Mo_home_39 : decode gc_Mo_home 39 = .ok (.iload_n 1, 1) := by decide +kernel
theorem dq_Mo_home_40 : decode gc_Mo_home 40 = .ok (.ireturn, 1) := by decide +kernel
abbrev gm_Mo_home : gM := (gc_Mo_home, gR_7, 0, 0, 3)
def f_Mo_home_J31  (k4 : Int → Int → gH → Option gO) (v2 : Int) (s1 : Int) (s0 : Int) (h : gH) : Option gO := k4 (gadd s0 s1) (gadd v2 1) h
theorem w_Mo_home_J31 {o : gO} {X : gX} (hL : gLive (xZ X)) (hn : (zL (xZ X)).Nodup) (hF : gFin X (some .int) o)    {k4 : Int → Int → gH → Option gO} {v2 : Int} {s1 : Int} {s0 : Int} {h : gH} (hk4 : ∀ (v1 : Int) (v2 : Int) (h : gH), gr (k4 v1 v2 h) o gm_Mo_home X h 4 [(0, .inr (.inr 83)), (1, .inl v1), (2, .inl v2)] []) : gr (f_Mo_home_J31  k4 v2 s1 s0 h) o gm_Mo_home X h 31 [(0, .inr (.inr 83)), (2, .inl v2)] [.inl s1, .inl s0] := by
  unfold f_Mo_home_J31
  refine gr_iadd (M := gm_Mo_home) dq_Mo_home_31 32 rfl ?_
  refine gr_istore_n (M := gm_Mo_home) (lv' := [(1, .inl (gadd s0 s1)), (0, .inr (.inr 83)), (2, .inl v2)]) dq_Mo_home_32 rfl (by decide) rfl 33 rfl ?_
  refine gr_iinc (M := gm_Mo_home) (lv' := [(2, .inl (gadd v2 1)), (1, .inl (gadd s0 s1)), (0, .inr (.inr 83))]) dq_Mo_home_33 2 rfl rfl (by decide) rfl 36 rfl ?_
  refine gr_goto (M := gm_Mo_home) dq_Mo_home_36 4 rfl ?_
  refine gr_sub (M := gm_Mo_home) (lv' := [(0, .inr (.inr 83)), (1, .inl (gadd s0 s1)), (2, .inl (gadd v2 1))]) [2, 1, 0] rfl ?_
  exact hk4 _ _ _

def f_Mo_home_L4  (k39 : Int → gH → Option gO) : Nat → Int → Int → gH → Option gO
  | 0, _, _, _ => none
  | n + 1, v1, v2, h => if (h 83 6) ≤ v2 then (k39 v1 h) else (gd (gix 50 (gadd 26 v2)) (if (h 92 (gadd 26 v2).toNat) = 3 then (f_Mo_home_J31  (f_Mo_home_L4 k39 n) v2 1 v1 h) else (f_Mo_home_J31  (f_Mo_home_L4 k39 n) v2 0 v1 h)))
theorem w_Mo_home_L4 {o : gO} {X : gX} (hL : gLive (xZ X)) (hn : (zL (xZ X)).Nodup) (hF : gFin X (some .int) o)    {k39 : Int → gH → Option gO} (hk39 : ∀ (v1 : Int) (h : gH), gr (k39 v1 h) o gm_Mo_home X h 39 [(1, .inl v1)] []) : ∀ (n : Nat) (v1 : Int) (v2 : Int) (h : gH), gr (f_Mo_home_L4  k39 n v1 v2 h) o gm_Mo_home X h 4 [(0, .inr (.inr 83)), (1, .inl v1), (2, .inl v2)] [] := by
  intro n
  induction n with
  | zero => intros; exact gr_none
  | succ n ih =>
    intro v1 v2 h
    unfold f_Mo_home_L4
    refine gr_iload_n (M := gm_Mo_home) dq_Mo_home_4 rfl 2 rfl 5 rfl ?_
    refine gr_aload_n (M := gm_Mo_home) dq_Mo_home_5 rfl 0 rfl 6 rfl ?_
    refine gr_geti (M := gm_Mo_home) dq_Mo_home_6 9 rfl gfl_Mo_124 gsh_83 rfl (gli hL gsh_83) ?_
    refine gr_icmp_ge (M := gm_Mo_home) dq_Mo_home_9 39 12 rfl rfl (fun c1 => ?_) (fun c1 => ?_)
    · refine gr_sub (M := gm_Mo_home) (lv' := [(1, .inl v1)]) [1] rfl ?_
      exact hk39 _ _
    refine gr_iload_n (M := gm_Mo_home) dq_Mo_home_12 rfl 1 rfl 13 rfl ?_
    refine gr_aload_n (M := gm_Mo_home) dq_Mo_home_13 rfl 0 rfl 14 rfl ?_
    refine gr_getr (M := gm_Mo_home) dq_Mo_home_14 17 rfl gfl_Mo_34 gsh_83 rfl (gli hL gsh_83) 92 rfl ?_
    refine gr_bipush (M := gm_Mo_home) (v := 26) dq_Mo_home_17 (by decide) ⟨by decide, by decide⟩ 19 rfl ?_
    refine gr_iload_n (M := gm_Mo_home) dq_Mo_home_19 rfl 2 rfl 20 rfl ?_
    refine gr_iadd (M := gm_Mo_home) dq_Mo_home_20 21 rfl ?_
    refine gr_iald (M := gm_Mo_home) dq_Mo_home_21 22 rfl gsh_92 (glj hL gsh_92 (by decide)) ?_
    refine gr_iconst (M := gm_Mo_home) (v := 3) dq_Mo_home_22 rfl ⟨by decide, by decide⟩ 23 rfl ?_
    refine gr_icmp_ne (M := gm_Mo_home) dq_Mo_home_23 30 26 rfl rfl (fun c2 => ?_) (fun c2 => ?_)
    · refine gr_iconst (M := gm_Mo_home) (v := 0) dq_Mo_home_30 rfl ⟨by decide, by decide⟩ 31 rfl ?_
      refine gr_sub (M := gm_Mo_home) (lv' := [(0, .inr (.inr 83)), (2, .inl v2)]) [0, 2] rfl ?_
      exact w_Mo_home_J31 hL hn hF   ih
    refine gr_iconst (M := gm_Mo_home) (v := 1) dq_Mo_home_26 rfl ⟨by decide, by decide⟩ 27 rfl ?_
    refine gr_goto (M := gm_Mo_home) dq_Mo_home_27 31 rfl ?_
    refine gr_sub (M := gm_Mo_home) (lv' := [(0, .inr (.inr 83)), (2, .inl v2)]) [0, 2] rfl ?_
    exact w_Mo_home_J31 hL hn hF   ih

def f_Mo_home  (h : gH) : Option gO := f_Mo_home_L4  (fun v3 h4 => some (h4, v3)) 50000 0 0 h
theorem c_Mo_home {Z : gZ} (hL : gLive Z) (hn : (zL Z).Nodup)   {h : gH} {o : gO} (hg : gRg h) (ha : gRl [.inr (.inr 83)]) (hx : f_Mo_home  h = some o) : gC Z gy_Mo_home gc_Mo_home 3 (some .int) 0 0 [.inr (.inr 83)] h o := by
  unfold f_Mo_home at hx
  refine gC_of (lv := [(0, .inr (.inr 83))]) (own := gR_7) (by decide +kernel) rfl (Nat.le_of_ble_eq_true rfl) rfl rfl hn hg ha hx (fun X hZ hF => ?_)
  subst hZ
  show gr _ o gm_Mo_home X h 0 _ _
  refine gr_iconst (M := gm_Mo_home) (v := 0) dq_Mo_home_0 rfl ⟨by decide, by decide⟩ 1 rfl ?_
  refine gr_istore_n (M := gm_Mo_home) (lv' := [(1, .inl 0), (0, .inr (.inr 83))]) dq_Mo_home_1 rfl (by decide) rfl 2 rfl ?_
  refine gr_iconst (M := gm_Mo_home) (v := 0) dq_Mo_home_2 rfl ⟨by decide, by decide⟩ 3 rfl ?_
  refine gr_istore_n (M := gm_Mo_home) (lv' := [(2, .inl 0), (1, .inl 0), (0, .inr (.inr 83))]) dq_Mo_home_3 rfl (by decide) rfl 4 rfl ?_
  refine gr_sub (M := gm_Mo_home) (lv' := [(0, .inr (.inr 83)), (1, .inl 0), (2, .inl 0)]) [2, 1, 0] rfl ?_
  refine w_Mo_home_L4 hL hn hF   (fun v3 h4 => ?_) 50000 _ _ _
  refine gr_iload_n (M := gm_Mo_home) dq_Mo_home_39 rfl 0 rfl 40 rfl ?_
  exact gr_ireturn (M := gm_Mo_home) dq_Mo_home_40 hF

-- Mo_minutesRefused
theorem dq_Mo_minutesRefused_0 : decode gc_Mo_minutesRefused 0 = .ok (.iload_n 1, 1) := by decide +kernel
theorem dq_Mo_minutesRefused_1 : decode gc_Mo_minutesRefused 1 = .ok (.i2l, 1) := by decide +kernel
theorem dq_Mo_minutesRefused_2 : decode gc_Mo_minutesRefused 2 = .ok (.lconst 1, 1) := by decide +kernel
theorem dq_Mo_minutesRefused_3 : decode gc_Mo_minutesRefused 3 = .ok (.ldc2_w 267, 3) := by decide +kernel
theorem dq_Mo_minutesRefused_6 : decode gc_Mo_minutesRefused 6 = .ok (.invokestatic 117, 3) := by decide +kernel
theorem dq_Mo_minutesRefused_9 : decode gc_Mo_minutesRefused 9 = .ok (.ifCond .ne 6, 3) := by decide +kernel
theorem dq_Mo_minutesRefused_12 : decode gc_Mo_minutesRefused 12 = .ok (.ldc 129, 2) := by decide +kernel
theorem dq_Mo_minutesRefused_14 : decode gc_Mo_minutesRefused 14 = .ok (.ireturn, 1) := by decide +kernel
theorem dq_Mo_minutesRefused_15 : decode gc_Mo_minutesRefused 15 = .ok (.aload_n 0, 1) := by decide +kernel
theorem dq_Mo_minutesRefused_16 : decode gc_Mo_minutesRefused 16 = .ok (.getfield 114, 3) := by decide +kernel
theorem dq_Mo_minutesRefused_19 : decode gc_Mo_minutesRefused 19 = .ok (.ifCond .ne 9, 3) := by decide +kernel
theorem dq_Mo_minutesRefused_22 : decode gc_Mo_minutesRefused 22 = .ok (.ldc_w 269, 3) := by decide +kernel
theorem dq_Mo_minutesRefused_25 : decode gc_Mo_minutesRefused 25 = .ok (.goto 21, 3) := by decide +kernel
theorem dq_Mo_minutesRefused_28 : decode gc_Mo_minutesRefused 28 = .ok (.aload_n 0, 1) := by decide +kernel
theorem dq_Mo_minutesRefused_29 : decode gc_Mo_minutesRefused 29 = .ok (.getfield 34, 3) := by decide +kernel
theorem dq_Mo_minutesRefused_32 : decode gc_Mo_minutesRefused 32 = .ok (.iconst 0, 1) := by decide +kernel
theorem dq_Mo_minutesRefused_33 : decode gc_Mo_minutesRefused 33 = .ok (.iaload, 1) := by decide +kernel
theorem dq_Mo_minutesRefused_34 : decode gc_Mo_minutesRefused 34 = .ok (.ldc_w 270, 3) := by decide +kernel
theorem dq_Mo_minutesRefused_37 : decode gc_Mo_minutesRefused 37 = .ok (.if_icmp .le 8, 3) := by decide +kernel
theorem dq_Mo_minutesRefused_40 : decode gc_Mo_minutesRefused 40 = .ok (.ldc 133, 2) := by decide +kernel
theorem dq_Mo_minutesRefused_42 : decode gc_Mo_minutesRefused 42 = .ok (.goto 4, 3) := by decide +kernel
theorem dq_Mo_minutesRefused_45 : decode gc_Mo_minutesRefused 45 = .ok (.iconst 0, 1) := by decide +kernel
theorem dq_Mo_minutesRefused_46 : decode gc_Mo_minutesRefused 46 = .ok (.ireturn, 1) := by decide +kernel
abbrev gm_Mo_minutesRefused : gM := (gc_Mo_minutesRefused, gR_7, 1, 25, 2)
theorem gk_Mo_267 : Cond.constantLong gR_7 267 (Int64.ofInt 300) ∈ gtbl := (gtab_at 1018 (by decide +kernel) rfl)
theorem gk_Mo_270 : Cond.constant gR_7 270 (Int32.ofInt 90000) ∈ gtbl := (gtab_at 1020 (by decide +kernel) rfl)
theorem gk_Mo_269 : Cond.constant gR_7 269 (Int32.ofInt (-1000000003)) ∈ gtbl := (gtab_at 1019 (by decide +kernel) rfl)
def f_Mo_minutesRefused (a1 : Int) (h : gH) : Option gO := gb (f_Mo_in a1 1 300 h) (fun h1 r2 => if r2 = 0 then (some (h1, (-1000000002))) else (if (h1 83 0) = 0 then (some (h1, (-1000000003))) else (gd (gix 50 0) (if (h1 92 0) ≤ 90000 then (some (h1, 0)) else (some (h1, (-1000000004)))))))
theorem c_Mo_minutesRefused {Z : gZ} (hL : gLive Z) (hn : (zL Z).Nodup) {a1 : Int}  {h : gH} {o : gO} (hg : gRg h) (ha : gRl [.inr (.inr 83), .inl a1]) (hx : f_Mo_minutesRefused a1 h = some o) : gC Z gy_Mo_minutesRefused gc_Mo_minutesRefused 2 (some .int) 1 25 [.inr (.inr 83), .inl a1] h o := by
  unfold f_Mo_minutesRefused at hx
  refine gC_of (lv := [(0, .inr (.inr 83)), (1, .inl a1)]) (own := gR_7) (by decide +kernel) rfl (Nat.le_of_ble_eq_true rfl) rfl rfl hn hg ha hx (fun X hZ hF => ?_)
  subst hZ
  show gr _ o gm_Mo_minutesRefused X h 0 _ _
  refine gr_iload_n (M := gm_Mo_minutesRefused) dq_Mo_minutesRefused_0 rfl 1 rfl 1 rfl ?_
  refine gr_i2l (M := gm_Mo_minutesRefused) dq_Mo_minutesRefused_1 2 rfl ?_
  refine gr_lconst (M := gm_Mo_minutesRefused) (v := 1) dq_Mo_minutesRefused_2 (by decide) ⟨by decide, by decide⟩ 3 rfl ?_
  refine gr_ldc2_w (M := gm_Mo_minutesRefused) (v := 300) dq_Mo_minutesRefused_3 gk_Mo_267 ⟨by decide, by decide⟩ 6 rfl ?_
  refine gr_callSi (M := gm_Mo_minutesRefused) (as := [.inr (.inl a1), .inr (.inl 1), .inr (.inl 300)]) dq_Mo_minutesRefused_6 9 rfl rfl gcy_Mo_117 gst_Mo_in ⟨by decide, by decide⟩ (Nat.le_of_ble_eq_true rfl) (fun o1 hg ha hx => c_Mo_in hL hn  hg ha hx) (fun h1 r2 _ => ?_)
  refine gr_if_ne (M := gm_Mo_minutesRefused) dq_Mo_minutesRefused_9 15 12 rfl rfl (fun c3 => ?_) (fun c3 => ?_)
  · refine gr_aload_n (M := gm_Mo_minutesRefused) dq_Mo_minutesRefused_15 rfl 0 rfl 16 rfl ?_
    refine gr_geti (M := gm_Mo_minutesRefused) dq_Mo_minutesRefused_16 19 rfl gfl_Mo_114 gsh_83 rfl (gli hL gsh_83) ?_
    refine gr_if_ne (M := gm_Mo_minutesRefused) dq_Mo_minutesRefused_19 28 22 rfl rfl (fun c4 => ?_) (fun c4 => ?_)
    · refine gr_aload_n (M := gm_Mo_minutesRefused) dq_Mo_minutesRefused_28 rfl 0 rfl 29 rfl ?_
      refine gr_getr (M := gm_Mo_minutesRefused) dq_Mo_minutesRefused_29 32 rfl gfl_Mo_34 gsh_83 rfl (gli hL gsh_83) 92 rfl ?_
      refine gr_iconst (M := gm_Mo_minutesRefused) (v := 0) dq_Mo_minutesRefused_32 rfl ⟨by decide, by decide⟩ 33 rfl ?_
      refine gr_iald (M := gm_Mo_minutesRefused) dq_Mo_minutesRefused_33 34 rfl gsh_92 (glj hL gsh_92 (by decide)) ?_
      refine gr_ldc_w (M := gm_Mo_minutesRefused) (v := 90000) dq_Mo_minutesRefused_34 gk_Mo_270 ⟨by decide, by decide⟩ 37 rfl ?_
      refine gr_icmp_le (M := gm_Mo_minutesRefused) dq_Mo_minutesRefused_37 45 40 rfl rfl (fun c5 => ?_) (fun c5 => ?_)
      · refine gr_iconst (M := gm_Mo_minutesRefused) (v := 0) dq_Mo_minutesRefused_45 rfl ⟨by decide, by decide⟩ 46 rfl ?_
        exact gr_ireturn (M := gm_Mo_minutesRefused) dq_Mo_minutesRefused_46 hF
      refine gr_ldc (M := gm_Mo_minutesRefused) (v := (-1000000004)) dq_Mo_minutesRefused_40 gk_Mo_133 ⟨by decide, by decide⟩ 42 rfl ?_
      refine gr_goto (M := gm_Mo_minutesRefused) dq_Mo_minutesRefused_42 46 rfl ?_
      exact gr_ireturn (M := gm_Mo_minutesRefused) dq_Mo_minutesRefused_46 hF
    refine gr_ldc_w (M := gm_Mo_minutesRefused) (v := (-1000000003)) dq_Mo_minutesRefused_22 gk_Mo_269 ⟨by decide, by decide⟩ 25 rfl ?_
    refine gr_goto (M := gm_Mo_minutesRefused) dq_Mo_minutesRefused_25 46 rfl ?_
    exact gr_ireturn (M := gm_Mo_minutesRefused) dq_Mo_minutesRefused_46 hF
  refine gr_ldc (M := gm_Mo_minutesRefused) (v := (-1000000002)) dq_Mo_minutesRefused_12 gk_Mo_129 ⟨by decide, by decide⟩ 14 rfl ?_
  exact gr_ireturn (M := gm_Mo_minutesRefused) dq_Mo_minutesRefused_14 hF

-- Mo_minute
theorem dq_Mo_minute_0 : decode gc_Mo_minute 0 = .ok (.aload_n 0, 1) := by decide +kernel
theorem dq_Mo_minute_1 : decode gc_Mo_minute 1 = .ok (.iload_n 1, 1) := by decide +kernel
theorem dq_Mo_minute_2 : decode gc_Mo_minute 2 = .ok (.invokevirtual 271, 3) := by decide +kernel
theorem dq_Mo_minute_5 : decode gc_Mo_minute 5 = .ok (.istore_n 2, 1) := by decide +kernel
theorem dq_Mo_minute_6 : decode gc_Mo_minute 6 = .ok (.iload_n 2, 1) := by decide +kernel
theorem dq_Mo_minute_7 : decode gc_Mo_minute 7 = .ok (.ifCond .eq 5, 3) := by decide +kernel
theorem dq_Mo_minute_10 : decode gc_Mo_minute 10 = .ok (.iload_n 2, 1) := by decide +kernel
theorem dq_Mo_minute_11 : decode gc_Mo_minute 11 = .ok (.ireturn, 1) := by decide +kernel
theorem dq_Mo_minute_12 : decode gc_Mo_minute 12 = .ok (.aload_n 0, 1) := by decide +kernel
theorem dq_Mo_minute_13 : decode gc_Mo_minute 13 = .ok (.invokevirtual 274, 3) := by decide +kernel
theorem dq_Mo_minute_16 : decode gc_Mo_minute 16 = .ok (.istore_n 3, 1) := by decide +kernel
theorem dq_Mo_minute_17 : decode gc_Mo_minute 17 = .ok (.iconst 0, 1) := by decide +kernel
theorem dq_Mo_minute_18 : decode gc_Mo_minute 18 = .ok (.istore 4, 2) := by decide +kernel
theorem dq_Mo_minute_20 : decode gc_Mo_minute 20 = .ok (.iload 4, 2) := by decide +kernel
theorem dq_Mo_minute_22 : decode gc_Mo_minute 22 = .ok (.iload_n 1, 1) := by decide +kernel
theorem dq_Mo_minute_23 : decode gc_Mo_minute 23 = .ok (.if_icmp .ge 13, 3) := by decide +kernel
theorem dq_Mo_minute_26 : decode gc_Mo_minute 26 = .ok (.aload_n 0, 1) := by decide +kernel
theorem dq_Mo_minute_27 : decode gc_Mo_minute 27 = .ok (.invokevirtual 277, 3) := by decide +kernel
theorem dq_Mo_minute_30 : decode gc_Mo_minute 30 = .ok (.iinc 4 1, 3) := by decide +kernel
theorem dq_Mo_minute_33 : decode gc_Mo_minute 33 = .ok (.goto (-13), 3) := by decide +kernel
theorem dq_Mo_minute_36 : decode gc_Mo_minute 36 = .ok (.aload_n 0, 1) := by decide +kernel
theorem dq_Mo_minute_37 : decode gc_Mo_minute 37 = .ok (.invokevirtual 274, 3) := by decide +kernel
theorem dq_Mo_minute_40 : decode gc_Mo_minute 40 = .ok (.iload_n 3, 1) := by decide +kernel
theorem dq_Mo_minute_41 : decode gc_Mo_minute 41 = .ok (.isub, 1) := by decide +kernel
theorem dq_Mo_minute_42 : decode gc_Mo_minute 42 = .ok (.ireturn, 1) := by decide +kernel
abbrev gm_Mo_minute : gM := (gc_Mo_minute, gR_7, 8, 184, 5)
set_option maxRecDepth 20000 in
theorem gcy_Mo_271 : gCy gR_7 271 gy_Mo_minutesRefused gc_Mo_minutesRefused 2 (some .int) 1 := ⟨(gtab_at 1014 (by decide +kernel) rfl), (gtab_at 8 (by decide +kernel) rfl), (gtab_at 1017 rfl rfl), by decide, by decide, by decide +kernel⟩
theorem gim_Mo_minutesRefused : Cond.instanceMethod gy_Mo_minutesRefused ∈ gtbl := (gtab_at 1016 (by decide +kernel) rfl)
theorem gse_Mo_minutesRefused : Cond.selects gy_Mo_minutesRefused.cls gy_Mo_minutesRefused gy_Mo_minutesRefused ∈ gtbl := (by decide +kernel)
set_option maxRecDepth 20000 in
theorem gcy_Mo_274 : gCy gR_7 274 gy_Mo_home gc_Mo_home 3 (some .int) 0 := ⟨(gtab_at 1021 (by decide +kernel) rfl), (gtab_at 8 (by decide +kernel) rfl), (gtab_at 1024 rfl rfl), by decide, by decide, by decide +kernel⟩
theorem gim_Mo_home : Cond.instanceMethod gy_Mo_home ∈ gtbl := (gtab_at 1023 (by decide +kernel) rfl)
theorem gse_Mo_home : Cond.selects gy_Mo_home.cls gy_Mo_home gy_Mo_home ∈ gtbl := (by decide +kernel)
set_option maxRecDepth 20000 in
theorem gcy_Mo_277 : gCy gR_7 277 gy_Mo_pass gc_Mo_pass 2 none 0 := ⟨(gtab_at 1025 (by decide +kernel) rfl), (gtab_at 8 (by decide +kernel) rfl), (gtab_at 1028 rfl rfl), by decide, by decide, by decide +kernel⟩
theorem gim_Mo_pass : Cond.instanceMethod gy_Mo_pass ∈ gtbl := (gtab_at 1027 (by decide +kernel) rfl)
theorem gse_Mo_pass : Cond.selects gy_Mo_pass.cls gy_Mo_pass gy_Mo_pass ∈ gtbl := (by decide +kernel)
def f_Mo_minute_L20 (v1 : Int) (v3 : Int) (k36 : gH → Option gO) : Nat → Int → gH → Option gO
  | 0, _, _ => none
  | n + 1, v4, h => if v1 ≤ v4 then (k36  h) else (gb (f_Mo_pass  h) (fun h7 r8 => f_Mo_minute_L20 v1 v3 k36 n (gadd v4 1) h7))
theorem w_Mo_minute_L20 {o : gO} {X : gX} (hL : gLive (xZ X)) (hn : (zL (xZ X)).Nodup) (hF : gFin X (some .int) o) {v1 : Int} {v3 : Int}   {k36 : gH → Option gO} (hk36 : ∀ (h : gH), gr (k36 h) o gm_Mo_minute X h 36 [(0, .inr (.inr 83)), (3, .inl v3)] []) : ∀ (n : Nat) (v4 : Int) (h : gH), gr (f_Mo_minute_L20 v1 v3 k36 n v4 h) o gm_Mo_minute X h 20 [(0, .inr (.inr 83)), (1, .inl v1), (3, .inl v3), (4, .inl v4)] [] := by
  intro n
  induction n with
  | zero => intros; exact gr_none
  | succ n ih =>
    intro v4 h
    unfold f_Mo_minute_L20
    refine gr_iload (M := gm_Mo_minute) dq_Mo_minute_20 3 rfl 22 rfl ?_
    refine gr_iload_n (M := gm_Mo_minute) dq_Mo_minute_22 rfl 1 rfl 23 rfl ?_
    refine gr_icmp_ge (M := gm_Mo_minute) dq_Mo_minute_23 36 26 rfl rfl (fun c6 => ?_) (fun c6 => ?_)
    · refine gr_sub (M := gm_Mo_minute) (lv' := [(0, .inr (.inr 83)), (3, .inl v3)]) [0, 2] rfl ?_
      exact hk36  _
    refine gr_aload_n (M := gm_Mo_minute) dq_Mo_minute_26 rfl 0 rfl 27 rfl ?_
    refine gr_callVv (M := gm_Mo_minute) (as := []) dq_Mo_minute_27 30 rfl rfl gcy_Mo_277 gim_Mo_pass gse_Mo_pass ⟨by decide, by decide⟩ (Nat.le_of_ble_eq_true rfl) gsh_83 rfl (gli hL gsh_83) (fun o1 hg ha hx => c_Mo_pass hL hn  hg ha hx) (fun h7 r8 _ => ?_)
    refine gr_iinc (M := gm_Mo_minute) (lv' := [(4, .inl (gadd v4 1)), (0, .inr (.inr 83)), (1, .inl v1), (3, .inl v3)]) dq_Mo_minute_30 3 rfl rfl (by decide) rfl 33 rfl ?_
    refine gr_goto (M := gm_Mo_minute) dq_Mo_minute_33 20 rfl ?_
    refine gr_sub (M := gm_Mo_minute) (lv' := [(0, .inr (.inr 83)), (1, .inl v1), (3, .inl v3), (4, .inl (gadd v4 1))]) [1, 2, 3, 0] rfl ?_
    exact ih _ _

def f_Mo_minute (a1 : Int) (h : gH) : Option gO := gb (f_Mo_minutesRefused a1 h) (fun h1 r2 => if r2 = 0 then (gb (f_Mo_home  h1) (fun h4 r5 => f_Mo_minute_L20 a1 r5 (fun  h9 => gb (f_Mo_home  h9) (fun h10 r11 => some (h10, (gsub r11 r5)))) 50000 0 h4)) else (some (h1, r2)))
theorem c_Mo_minute {Z : gZ} (hL : gLive Z) (hn : (zL Z).Nodup) {a1 : Int}  {h : gH} {o : gO} (hg : gRg h) (ha : gRl [.inr (.inr 83), .inl a1]) (hx : f_Mo_minute a1 h = some o) : gC Z gy_Mo_minute gc_Mo_minute 5 (some .int) 8 184 [.inr (.inr 83), .inl a1] h o := by
  unfold f_Mo_minute at hx
  refine gC_of (lv := [(0, .inr (.inr 83)), (1, .inl a1)]) (own := gR_7) (by decide +kernel) rfl (Nat.le_of_ble_eq_true rfl) rfl rfl hn hg ha hx (fun X hZ hF => ?_)
  subst hZ
  show gr _ o gm_Mo_minute X h 0 _ _
  refine gr_aload_n (M := gm_Mo_minute) dq_Mo_minute_0 rfl 0 rfl 1 rfl ?_
  refine gr_iload_n (M := gm_Mo_minute) dq_Mo_minute_1 rfl 1 rfl 2 rfl ?_
  refine gr_callVi (M := gm_Mo_minute) (as := [.inl a1]) dq_Mo_minute_2 5 rfl rfl gcy_Mo_271 gim_Mo_minutesRefused gse_Mo_minutesRefused ⟨by decide, by decide⟩ (Nat.le_of_ble_eq_true rfl) gsh_83 rfl (gli hL gsh_83) (fun o1 hg ha hx => c_Mo_minutesRefused hL hn  hg ha hx) (fun h1 r2 _ => ?_)
  refine gr_istore_n (M := gm_Mo_minute) (lv' := [(2, .inl r2), (0, .inr (.inr 83)), (1, .inl a1)]) dq_Mo_minute_5 rfl (by decide) rfl 6 rfl ?_
  refine gr_iload_n (M := gm_Mo_minute) dq_Mo_minute_6 rfl 0 rfl 7 rfl ?_
  refine gr_if_eq (M := gm_Mo_minute) dq_Mo_minute_7 12 10 rfl rfl (fun c3 => ?_) (fun c3 => ?_)
  · refine gr_aload_n (M := gm_Mo_minute) dq_Mo_minute_12 rfl 1 rfl 13 rfl ?_
    refine gr_callVi (M := gm_Mo_minute) (as := []) dq_Mo_minute_13 16 rfl rfl gcy_Mo_274 gim_Mo_home gse_Mo_home ⟨by decide, by decide⟩ (Nat.le_of_ble_eq_true rfl) gsh_83 rfl (gli hL gsh_83) (fun o1 hg ha hx => c_Mo_home hL hn  hg ha hx) (fun h4 r5 _ => ?_)
    refine gr_istore_n (M := gm_Mo_minute) (lv' := [(3, .inl r5), (2, .inl r2), (0, .inr (.inr 83)), (1, .inl a1)]) dq_Mo_minute_16 rfl (by decide) rfl 17 rfl ?_
    refine gr_iconst (M := gm_Mo_minute) (v := 0) dq_Mo_minute_17 rfl ⟨by decide, by decide⟩ 18 rfl ?_
    refine gr_istore (M := gm_Mo_minute) (kk := 0) (lv' := [(4, .inl 0), (3, .inl r5), (2, .inl r2), (0, .inr (.inr 83)), (1, .inl a1)]) dq_Mo_minute_18 (by decide) rfl 20 rfl ?_
    refine gr_sub (M := gm_Mo_minute) (lv' := [(0, .inr (.inr 83)), (1, .inl a1), (3, .inl r5), (4, .inl 0)]) [3, 4, 1, 0] rfl ?_
    refine w_Mo_minute_L20 hL hn hF   (fun h9 => ?_) 50000 _ _
    refine gr_aload_n (M := gm_Mo_minute) dq_Mo_minute_36 rfl 0 rfl 37 rfl ?_
    refine gr_callVi (M := gm_Mo_minute) (as := []) dq_Mo_minute_37 40 rfl rfl gcy_Mo_274 gim_Mo_home gse_Mo_home ⟨by decide, by decide⟩ (Nat.le_of_ble_eq_true rfl) gsh_83 rfl (gli hL gsh_83) (fun o1 hg ha hx => c_Mo_home hL hn  hg ha hx) (fun h10 r11 _ => ?_)
    refine gr_iload_n (M := gm_Mo_minute) dq_Mo_minute_40 rfl 1 rfl 41 rfl ?_
    refine gr_isub (M := gm_Mo_minute) dq_Mo_minute_41 42 rfl ?_
    exact gr_ireturn (M := gm_Mo_minute) dq_Mo_minute_42 hF
  refine gr_iload_n (M := gm_Mo_minute) dq_Mo_minute_10 rfl 0 rfl 11 rfl ?_
  exact gr_ireturn (M := gm_Mo_minute) dq_Mo_minute_11 hF

-- Mo_draw
theorem dq_Mo_draw_0 : decode gc_Mo_draw 0 = .ok (.aload_n 0, 1) := by decide +kernel
theorem dq_Mo_draw_1 : decode gc_Mo_draw 1 = .ok (.aload_n 0, 1) := by decide +kernel
theorem dq_Mo_draw_2 : decode gc_Mo_draw 2 = .ok (.getfield 280, 3) := by decide +kernel
theorem dq_Mo_draw_5 : decode gc_Mo_draw 5 = .ok (.i2l, 1) := by decide +kernel
theorem dq_Mo_draw_6 : decode gc_Mo_draw 6 = .ok (.ldc2_w 283, 3) := by decide +kernel
theorem dq_Mo_draw_9 : decode gc_Mo_draw 9 = .ok (.lmul, 1) := by decide +kernel
theorem dq_Mo_draw_10 : decode gc_Mo_draw 10 = .ok (.ldc2_w 285, 3) := by decide +kernel
theorem dq_Mo_draw_13 : decode gc_Mo_draw 13 = .ok (.ladd, 1) := by decide +kernel
theorem dq_Mo_draw_14 : decode gc_Mo_draw 14 = .ok (.ldc2_w 287, 3) := by decide +kernel
theorem dq_Mo_draw_17 : decode gc_Mo_draw 17 = .ok (.lrem, 1) := by decide +kernel
theorem dq_Mo_draw_18 : decode gc_Mo_draw 18 = .ok (.l2i, 1) := by decide +kernel
theorem dq_Mo_draw_19 : decode gc_Mo_draw 19 = .ok (.putfield 280, 3) := by decide +kernel
theorem dq_Mo_draw_22 : decode gc_Mo_draw 22 = .ok (.aload_n 0, 1) := by decide +kernel
theorem dq_Mo_draw_23 : decode gc_Mo_draw 23 = .ok (.getfield 280, 3) := by decide +kernel
theorem dq_Mo_draw_26 : decode gc_Mo_draw 26 = .ok (.ldc_w 289, 3) := by decide +kernel
theorem dq_Mo_draw_29 : decode gc_Mo_draw 29 = .ok (.idiv, 1) := by decide +kernel
theorem dq_Mo_draw_30 : decode gc_Mo_draw 30 = .ok (.iload_n 1, 1) := by decide +kernel
theorem dq_Mo_draw_31 : decode gc_Mo_draw 31 = .ok (.irem, 1) := by decide +kernel
theorem dq_Mo_draw_32 : decode gc_Mo_draw 32 = .ok (.ireturn, 1) := by decide +kernel
abbrev gm_Mo_draw : gM := (gc_Mo_draw, gR_7, 0, 0, 2)
theorem gfl_Mo_280 : gFl gR_7 280 7 13 := ⟨_, _, _, rfl, by decide, (gtab_at 747 (by decide +kernel) rfl), gin_7⟩
theorem gk_Mo_283 : Cond.constantLong gR_7 283 (Int64.ofInt 1103515245) ∈ gtbl := (gtab_at 1072 (by decide +kernel) rfl)
theorem gk_Mo_285 : Cond.constantLong gR_7 285 (Int64.ofInt 12345) ∈ gtbl := (gtab_at 1073 (by decide +kernel) rfl)
theorem gk_Mo_287 : Cond.constantLong gR_7 287 (Int64.ofInt 2147483648) ∈ gtbl := (gtab_at 1074 (by decide +kernel) rfl)
theorem gfp_Mo_280 : gFp gR_7 280 7 13 .int := ⟨_, _, _, gt_7, rfl, by decide, (gtab_at 747 (by decide +kernel) rfl), gin_7, gto_7, gnm_7, rfl, by decide +kernel⟩
theorem gk_Mo_289 : Cond.constant gR_7 289 (Int32.ofInt 65536) ∈ gtbl := (gtab_at 1075 (by decide +kernel) rfl)
def f_Mo_draw (a1 : Int) (h : gH) : Option gO := gd (gnz 2147483648) (gs (gup h 83 13 (gl2i (glrem (gladd (glmul (h 83 13) 1103515245) 12345) 2147483648))) (fun h1 => gd (gnz 65536) (gd (gnz a1) (some (h1, (grem (gdiv (h1 83 13) 65536) a1))))))
theorem c_Mo_draw {Z : gZ} (hL : gLive Z) (hn : (zL Z).Nodup) {a1 : Int}  {h : gH} {o : gO} (hg : gRg h) (ha : gRl [.inr (.inr 83), .inl a1]) (hx : f_Mo_draw a1 h = some o) : gC Z gy_Mo_draw gc_Mo_draw 2 (some .int) 0 0 [.inr (.inr 83), .inl a1] h o := by
  unfold f_Mo_draw at hx
  refine gC_of (lv := [(0, .inr (.inr 83)), (1, .inl a1)]) (own := gR_7) (by decide +kernel) rfl (Nat.le_of_ble_eq_true rfl) rfl rfl hn hg ha hx (fun X hZ hF => ?_)
  subst hZ
  show gr _ o gm_Mo_draw X h 0 _ _
  refine gr_aload_n (M := gm_Mo_draw) dq_Mo_draw_0 rfl 0 rfl 1 rfl ?_
  refine gr_aload_n (M := gm_Mo_draw) dq_Mo_draw_1 rfl 0 rfl 2 rfl ?_
  refine gr_geti (M := gm_Mo_draw) dq_Mo_draw_2 5 rfl gfl_Mo_280 gsh_83 rfl (gli hL gsh_83) ?_
  refine gr_i2l (M := gm_Mo_draw) dq_Mo_draw_5 6 rfl ?_
  refine gr_ldc2_w (M := gm_Mo_draw) (v := 1103515245) dq_Mo_draw_6 gk_Mo_283 ⟨by decide, by decide⟩ 9 rfl ?_
  refine gr_lmul (M := gm_Mo_draw) dq_Mo_draw_9 10 rfl ?_
  refine gr_ldc2_w (M := gm_Mo_draw) (v := 12345) dq_Mo_draw_10 gk_Mo_285 ⟨by decide, by decide⟩ 13 rfl ?_
  refine gr_ladd (M := gm_Mo_draw) dq_Mo_draw_13 14 rfl ?_
  refine gr_ldc2_w (M := gm_Mo_draw) (v := 2147483648) dq_Mo_draw_14 gk_Mo_287 ⟨by decide, by decide⟩ 17 rfl ?_
  refine gr_lrem (M := gm_Mo_draw) dq_Mo_draw_17 18 rfl ?_
  refine gr_l2i (M := gm_Mo_draw) dq_Mo_draw_18 19 rfl ?_
  refine gr_puti (M := gm_Mo_draw) dq_Mo_draw_19 22 rfl gfp_Mo_280 gsh_83 rfl (gli hL gsh_83) (fun h1 _ => ?_)
  refine gr_aload_n (M := gm_Mo_draw) dq_Mo_draw_22 rfl 0 rfl 23 rfl ?_
  refine gr_geti (M := gm_Mo_draw) dq_Mo_draw_23 26 rfl gfl_Mo_280 gsh_83 rfl (gli hL gsh_83) ?_
  refine gr_ldc_w (M := gm_Mo_draw) (v := 65536) dq_Mo_draw_26 gk_Mo_289 ⟨by decide, by decide⟩ 29 rfl ?_
  refine gr_idiv (M := gm_Mo_draw) dq_Mo_draw_29 30 rfl ?_
  refine gr_iload_n (M := gm_Mo_draw) dq_Mo_draw_30 rfl 1 rfl 31 rfl ?_
  refine gr_irem (M := gm_Mo_draw) dq_Mo_draw_31 32 rfl ?_
  exact gr_ireturn (M := gm_Mo_draw) dq_Mo_draw_32 hF

-- Mo_turnNow
theorem dq_Mo_turnNow_0 : decode gc_Mo_turnNow 0 = .ok (.aload_n 0, 1) := by decide +kernel
theorem dq_Mo_turnNow_1 : decode gc_Mo_turnNow 1 = .ok (.getfield 34, 3) := by decide +kernel
theorem dq_Mo_turnNow_4 : decode gc_Mo_turnNow 4 = .ok (.bipush 11, 2) := by decide +kernel
theorem dq_Mo_turnNow_6 : decode gc_Mo_turnNow 6 = .ok (.iload_n 1, 1) := by decide +kernel
theorem dq_Mo_turnNow_7 : decode gc_Mo_turnNow 7 = .ok (.iadd, 1) := by decide +kernel
theorem dq_Mo_turnNow_8 : decode gc_Mo_turnNow 8 = .ok (.aload_n 0, 1) := by decide +kernel
theorem dq_Mo_turnNow_9 : decode gc_Mo_turnNow 9 = .ok (.iload_n 1, 1) := by decide +kernel
theorem dq_Mo_turnNow_10 : decode gc_Mo_turnNow 10 = .ok (.invokevirtual 212, 3) := by decide +kernel
theorem dq_Mo_turnNow_13 : decode gc_Mo_turnNow 13 = .ok (.ifCond .ne 17, 3) := by decide +kernel
theorem dq_Mo_turnNow_16 : decode gc_Mo_turnNow 16 = .ok (.iconst 1, 1) := by decide +kernel
theorem dq_Mo_turnNow_17 : decode gc_Mo_turnNow 17 = .ok (.aload_n 0, 1) := by decide +kernel
theorem dq_Mo_turnNow_18 : decode gc_Mo_turnNow 18 = .ok (.getfield 34, 3) := by decide +kernel
theorem dq_Mo_turnNow_21 : decode gc_Mo_turnNow 21 = .ok (.bipush 11, 2) := by decide +kernel
theorem dq_Mo_turnNow_23 : decode gc_Mo_turnNow 23 = .ok (.iload_n 1, 1) := by decide +kernel
theorem dq_Mo_turnNow_24 : decode gc_Mo_turnNow 24 = .ok (.iadd, 1) := by decide +kernel
theorem dq_Mo_turnNow_25 : decode gc_Mo_turnNow 25 = .ok (.iaload, 1) := by decide +kernel
theorem dq_Mo_turnNow_26 : decode gc_Mo_turnNow 26 = .ok (.isub, 1) := by decide +kernel
theorem dq_Mo_turnNow_27 : decode gc_Mo_turnNow 27 = .ok (.goto 12, 3) := by decide +kernel
theorem dq_Mo_turnNow_30 : decode gc_Mo_turnNow 30 = .ok (.aload_n 0, 1) := by decide +kernel
theorem dq_Mo_turnNow_31 : decode gc_Mo_turnNow 31 = .ok (.getfield 34, 3) := by decide +kernel
theorem dq_Mo_turnNow_34 : decode gc_Mo_turnNow 34 = .ok (.bipush 11, 2) := by decide +kernel
theorem dq_Mo_turnNow_36 : decode gc_Mo_turnNow 36 = .ok (.iload_n 1, 1) := by decide +kernel
theorem dq_Mo_turnNow_37 : decode gc_Mo_turnNow 37 = .ok (.iadd, 1) := by decide +kernel
theorem dq_Mo_turnNow_38 : decode gc_Mo_turnNow 38 = .ok (.iaload, 1) := by decide +kernel
theorem dq_Mo_turnNow_39 : decode gc_Mo_turnNow 39 = .ok (.iastore, 1) := by decide +kernel
theorem dq_Mo_turnNow_40 : decode gc_Mo_turnNow 40 = .ok (.return_, 1) := by decide +kernel
abbrev gm_Mo_turnNow : gM := (gc_Mo_turnNow, gR_7, 1, 23, 2)
def f_Mo_turnNow_J39   (s2 : Int) (s1 : Int) (h : gH) : Option gO := gd (gix 50 s1) (gs (gup h 92 s1.toNat s2) (fun h4 => some (h4, 0)))
theorem w_Mo_turnNow_J39 {o : gO} {X : gX} (hL : gLive (xZ X)) (hn : (zL (xZ X)).Nodup) (hF : gFin X none o)     {s2 : Int} {s1 : Int} {h : gH}  : gr (f_Mo_turnNow_J39   s2 s1 h) o gm_Mo_turnNow X h 39 [] [.inl s2, .inl s1, .inr (.inr 92)] := by
  unfold f_Mo_turnNow_J39
  refine gr_iast (M := gm_Mo_turnNow) dq_Mo_turnNow_39 40 rfl gsh_92 (glj hL gsh_92 (by decide)) (fun h4 _ => ?_)
  exact gr_return (M := gm_Mo_turnNow) dq_Mo_turnNow_40 hF

def f_Mo_turnNow (a1 : Int) (h : gH) : Option gO := gb (f_Mo_onStreet a1 h) (fun h1 r2 => if r2 = 0 then (gd (gix 50 (gadd 11 a1)) (f_Mo_turnNow_J39   (gsub 1 (h1 92 (gadd 11 a1).toNat)) (gadd 11 a1) h1)) else (gd (gix 50 (gadd 11 a1)) (f_Mo_turnNow_J39   (h1 92 (gadd 11 a1).toNat) (gadd 11 a1) h1)))
theorem c_Mo_turnNow {Z : gZ} (hL : gLive Z) (hn : (zL Z).Nodup) {a1 : Int}  {h : gH} {o : gO} (hg : gRg h) (ha : gRl [.inr (.inr 83), .inl a1]) (hx : f_Mo_turnNow a1 h = some o) : gC Z gy_Mo_turnNow gc_Mo_turnNow 2 none 1 23 [.inr (.inr 83), .inl a1] h o := by
  unfold f_Mo_turnNow at hx
  refine gC_of (lv := [(0, .inr (.inr 83)), (1, .inl a1)]) (own := gR_7) (by decide +kernel) rfl (Nat.le_of_ble_eq_true rfl) rfl rfl hn hg ha hx (fun X hZ hF => ?_)
  subst hZ
  show gr _ o gm_Mo_turnNow X h 0 _ _
  refine gr_aload_n (M := gm_Mo_turnNow) dq_Mo_turnNow_0 rfl 0 rfl 1 rfl ?_
  refine gr_getr (M := gm_Mo_turnNow) dq_Mo_turnNow_1 4 rfl gfl_Mo_34 gsh_83 rfl (gli hL gsh_83) 92 rfl ?_
  refine gr_bipush (M := gm_Mo_turnNow) (v := 11) dq_Mo_turnNow_4 (by decide) ⟨by decide, by decide⟩ 6 rfl ?_
  refine gr_iload_n (M := gm_Mo_turnNow) dq_Mo_turnNow_6 rfl 1 rfl 7 rfl ?_
  refine gr_iadd (M := gm_Mo_turnNow) dq_Mo_turnNow_7 8 rfl ?_
  refine gr_aload_n (M := gm_Mo_turnNow) dq_Mo_turnNow_8 rfl 0 rfl 9 rfl ?_
  refine gr_iload_n (M := gm_Mo_turnNow) dq_Mo_turnNow_9 rfl 1 rfl 10 rfl ?_
  refine gr_callVi (M := gm_Mo_turnNow) (as := [.inl a1]) dq_Mo_turnNow_10 13 rfl rfl gcy_Mo_212 gim_Mo_onStreet gse_Mo_onStreet ⟨by decide, by decide⟩ (Nat.le_of_ble_eq_true rfl) gsh_83 rfl (gli hL gsh_83) (fun o1 hg ha hx => c_Mo_onStreet hL hn  hg ha hx) (fun h1 r2 _ => ?_)
  refine gr_if_ne (M := gm_Mo_turnNow) dq_Mo_turnNow_13 30 16 rfl rfl (fun c3 => ?_) (fun c3 => ?_)
  · refine gr_aload_n (M := gm_Mo_turnNow) dq_Mo_turnNow_30 rfl 0 rfl 31 rfl ?_
    refine gr_getr (M := gm_Mo_turnNow) dq_Mo_turnNow_31 34 rfl gfl_Mo_34 gsh_83 rfl (gli hL gsh_83) 92 rfl ?_
    refine gr_bipush (M := gm_Mo_turnNow) (v := 11) dq_Mo_turnNow_34 (by decide) ⟨by decide, by decide⟩ 36 rfl ?_
    refine gr_iload_n (M := gm_Mo_turnNow) dq_Mo_turnNow_36 rfl 1 rfl 37 rfl ?_
    refine gr_iadd (M := gm_Mo_turnNow) dq_Mo_turnNow_37 38 rfl ?_
    refine gr_iald (M := gm_Mo_turnNow) dq_Mo_turnNow_38 39 rfl gsh_92 (glj hL gsh_92 (by decide)) ?_
    refine gr_sub (M := gm_Mo_turnNow) (lv' := []) [] rfl ?_
    exact w_Mo_turnNow_J39 hL hn hF   
  refine gr_iconst (M := gm_Mo_turnNow) (v := 1) dq_Mo_turnNow_16 rfl ⟨by decide, by decide⟩ 17 rfl ?_
  refine gr_aload_n (M := gm_Mo_turnNow) dq_Mo_turnNow_17 rfl 0 rfl 18 rfl ?_
  refine gr_getr (M := gm_Mo_turnNow) dq_Mo_turnNow_18 21 rfl gfl_Mo_34 gsh_83 rfl (gli hL gsh_83) 92 rfl ?_
  refine gr_bipush (M := gm_Mo_turnNow) (v := 11) dq_Mo_turnNow_21 (by decide) ⟨by decide, by decide⟩ 23 rfl ?_
  refine gr_iload_n (M := gm_Mo_turnNow) dq_Mo_turnNow_23 rfl 1 rfl 24 rfl ?_
  refine gr_iadd (M := gm_Mo_turnNow) dq_Mo_turnNow_24 25 rfl ?_
  refine gr_iald (M := gm_Mo_turnNow) dq_Mo_turnNow_25 26 rfl gsh_92 (glj hL gsh_92 (by decide)) ?_
  refine gr_isub (M := gm_Mo_turnNow) dq_Mo_turnNow_26 27 rfl ?_
  refine gr_goto (M := gm_Mo_turnNow) dq_Mo_turnNow_27 39 rfl ?_
  refine gr_sub (M := gm_Mo_turnNow) (lv' := []) [] rfl ?_
  exact w_Mo_turnNow_J39 hL hn hF   

-- Mo_drift
theorem dq_Mo_drift_0 : decode gc_Mo_drift 0 = .ok (.aload_n 0, 1) := by decide +kernel
theorem dq_Mo_drift_1 : decode gc_Mo_drift 1 = .ok (.iload_n 1, 1) := by decide +kernel
theorem dq_Mo_drift_2 : decode gc_Mo_drift 2 = .ok (.invokevirtual 271, 3) := by decide +kernel
theorem dq_Mo_drift_5 : decode gc_Mo_drift 5 = .ok (.istore_n 2, 1) := by decide +kernel
theorem dq_Mo_drift_6 : decode gc_Mo_drift 6 = .ok (.iload_n 2, 1) := by decide +kernel
theorem dq_Mo_drift_7 : decode gc_Mo_drift 7 = .ok (.ifCond .eq 5, 3) := by decide +kernel
theorem dq_Mo_drift_10 : decode gc_Mo_drift 10 = .ok (.iload_n 2, 1) := by decide +kernel
theorem dq_Mo_drift_11 : decode gc_Mo_drift 11 = .ok (.ireturn, 1) := by decide +kernel
theorem dq_Mo_drift_12 : decode gc_Mo_drift 12 = .ok (.aload_n 0, 1) := by decide +kernel
theorem dq_Mo_drift_13 : decode gc_Mo_drift 13 = .ok (.invokevirtual 274, 3) := by decide +kernel
theorem dq_Mo_drift_16 : decode gc_Mo_drift 16 = .ok (.istore_n 3, 1) := by decide +kernel
theorem dq_Mo_drift_17 : decode gc_Mo_drift 17 = .ok (.iconst 0, 1) := by decide +kernel
theorem dq_Mo_drift_18 : decode gc_Mo_drift 18 = .ok (.istore 4, 2) := by decide +kernel
theorem dq_Mo_drift_20 : decode gc_Mo_drift 20 = .ok (.iload 4, 2) := by decide +kernel
theorem dq_Mo_drift_22 : decode gc_Mo_drift 22 = .ok (.iload_n 1, 1) := by decide +kernel
theorem dq_Mo_drift_23 : decode gc_Mo_drift 23 = .ok (.if_icmp .ge 40, 3) := by decide +kernel
theorem dq_Mo_drift_26 : decode gc_Mo_drift 26 = .ok (.aload_n 0, 1) := by decide +kernel
theorem dq_Mo_drift_27 : decode gc_Mo_drift 27 = .ok (.iconst 4, 1) := by decide +kernel
theorem dq_Mo_drift_28 : decode gc_Mo_drift 28 = .ok (.invokevirtual 290, 3) := by decide +kernel
theorem dq_Mo_drift_31 : decode gc_Mo_drift 31 = .ok (.ifCond .ne 22, 3) := by decide +kernel
theorem dq_Mo_drift_34 : decode gc_Mo_drift 34 = .ok (.aload_n 0, 1) := by decide +kernel
theorem dq_Mo_drift_35 : decode gc_Mo_drift 35 = .ok (.getfield 121, 3) := by decide +kernel
theorem dq_Mo_drift_38 : decode gc_Mo_drift 38 = .ok (.ifCond .le 15, 3) := by decide +kernel
theorem dq_Mo_drift_41 : decode gc_Mo_drift 41 = .ok (.aload_n 0, 1) := by decide +kernel
theorem dq_Mo_drift_42 : decode gc_Mo_drift 42 = .ok (.aload_n 0, 1) := by decide +kernel
theorem dq_Mo_drift_43 : decode gc_Mo_drift 43 = .ok (.aload_n 0, 1) := by decide +kernel
theorem dq_Mo_drift_44 : decode gc_Mo_drift 44 = .ok (.getfield 121, 3) := by decide +kernel
theorem dq_Mo_drift_47 : decode gc_Mo_drift 47 = .ok (.invokevirtual 290, 3) := by decide +kernel
theorem dq_Mo_drift_50 : decode gc_Mo_drift 50 = .ok (.invokevirtual 293, 3) := by decide +kernel
theorem dq_Mo_drift_53 : decode gc_Mo_drift 53 = .ok (.aload_n 0, 1) := by decide +kernel
theorem dq_Mo_drift_54 : decode gc_Mo_drift 54 = .ok (.invokevirtual 277, 3) := by decide +kernel
theorem dq_Mo_drift_57 : decode gc_Mo_drift 57 = .ok (.iinc 4 1, 3) := by decide +kernel
theorem dq_Mo_drift_60 : decode gc_Mo_drift 60 = .ok (.goto (-40), 3) := by decide +kernel
theorem dq_Mo_drift_63 : decode gc_Mo_drift 63 = .ok (.aload_n 0, 1) := by decide +kernel
theorem dq_Mo_drift_64 : decode gc_Mo_drift 64 = .ok (.invokevirtual 274, 3) := by decide +kernel
theorem dq_Mo_drift_67 : decode gc_Mo_drift 67 = .ok (.iload_n 3, 1) := by decide +kernel
theorem dq_Mo_drift_68 : decode gc_Mo_drift 68 = .ok (.isub, 1) := by decide +kernel
theorem dq_Mo_drift_69 : decode gc_Mo_drift 69 = .ok (.ireturn, 1) := by decide +kernel
abbrev gm_Mo_drift : gM := (gc_Mo_drift, gR_7, 8, 184, 5)
set_option maxRecDepth 20000 in
theorem gcy_Mo_290 : gCy gR_7 290 gy_Mo_draw gc_Mo_draw 2 (some .int) 1 := ⟨(gtab_at 1068 (by decide +kernel) rfl), (gtab_at 8 (by decide +kernel) rfl), (gtab_at 1071 rfl rfl), by decide, by decide, by decide +kernel⟩
theorem gim_Mo_draw : Cond.instanceMethod gy_Mo_draw ∈ gtbl := (gtab_at 1070 (by decide +kernel) rfl)
theorem gse_Mo_draw : Cond.selects gy_Mo_draw.cls gy_Mo_draw gy_Mo_draw ∈ gtbl := (by decide +kernel)
set_option maxRecDepth 20000 in
theorem gcy_Mo_293 : gCy gR_7 293 gy_Mo_turnNow gc_Mo_turnNow 2 none 1 := ⟨(gtab_at 1076 (by decide +kernel) rfl), (gtab_at 8 (by decide +kernel) rfl), (gtab_at 1079 rfl rfl), by decide, by decide, by decide +kernel⟩
theorem gim_Mo_turnNow : Cond.instanceMethod gy_Mo_turnNow ∈ gtbl := (gtab_at 1078 (by decide +kernel) rfl)
theorem gse_Mo_turnNow : Cond.selects gy_Mo_turnNow.cls gy_Mo_turnNow gy_Mo_turnNow ∈ gtbl := (by decide +kernel)
def f_Mo_drift_J53  (k20 : Int → gH → Option gO) (v1 : Int) (v3 : Int) (v4 : Int) (h : gH) : Option gO := gb (f_Mo_pass  h) (fun h10 r11 => k20 (gadd v4 1) h10)
theorem w_Mo_drift_J53 {o : gO} {X : gX} (hL : gLive (xZ X)) (hn : (zL (xZ X)).Nodup) (hF : gFin X (some .int) o)    {k20 : Int → gH → Option gO} {v1 : Int} {v3 : Int} {v4 : Int} {h : gH} (hk20 : ∀ (v4 : Int) (h : gH), gr (k20 v4 h) o gm_Mo_drift X h 20 [(0, .inr (.inr 83)), (1, .inl v1), (3, .inl v3), (4, .inl v4)] []) : gr (f_Mo_drift_J53  k20 v1 v3 v4 h) o gm_Mo_drift X h 53 [(0, .inr (.inr 83)), (1, .inl v1), (3, .inl v3), (4, .inl v4)] [] := by
  unfold f_Mo_drift_J53
  refine gr_aload_n (M := gm_Mo_drift) dq_Mo_drift_53 rfl 0 rfl 54 rfl ?_
  refine gr_callVv (M := gm_Mo_drift) (as := []) dq_Mo_drift_54 57 rfl rfl gcy_Mo_277 gim_Mo_pass gse_Mo_pass ⟨by decide, by decide⟩ (Nat.le_of_ble_eq_true rfl) gsh_83 rfl (gli hL gsh_83) (fun o1 hg ha hx => c_Mo_pass hL hn  hg ha hx) (fun h10 r11 _ => ?_)
  refine gr_iinc (M := gm_Mo_drift) (lv' := [(4, .inl (gadd v4 1)), (0, .inr (.inr 83)), (1, .inl v1), (3, .inl v3)]) dq_Mo_drift_57 3 rfl rfl (by decide) rfl 60 rfl ?_
  refine gr_goto (M := gm_Mo_drift) dq_Mo_drift_60 20 rfl ?_
  refine gr_sub (M := gm_Mo_drift) (lv' := [(0, .inr (.inr 83)), (1, .inl v1), (3, .inl v3), (4, .inl (gadd v4 1))]) [1, 2, 3, 0] rfl ?_
  exact hk20 _ _

def f_Mo_drift_L20 (v1 : Int) (v3 : Int) (k63 : gH → Option gO) : Nat → Int → gH → Option gO
  | 0, _, _ => none
  | n + 1, v4, h => if v1 ≤ v4 then (k63  h) else (gb (f_Mo_draw 4 h) (fun h7 r8 => if r8 = 0 then (if (h7 83 2) ≤ 0 then (f_Mo_drift_J53  (f_Mo_drift_L20 v1 v3 k63 n) v1 v3 v4 h7) else (gb (f_Mo_draw (h7 83 2) h7) (fun h13 r14 => gb (f_Mo_turnNow r14 h13) (fun h15 r16 => f_Mo_drift_J53  (f_Mo_drift_L20 v1 v3 k63 n) v1 v3 v4 h15)))) else (f_Mo_drift_J53  (f_Mo_drift_L20 v1 v3 k63 n) v1 v3 v4 h7)))
theorem w_Mo_drift_L20 {o : gO} {X : gX} (hL : gLive (xZ X)) (hn : (zL (xZ X)).Nodup) (hF : gFin X (some .int) o) {v1 : Int} {v3 : Int}   {k63 : gH → Option gO} (hk63 : ∀ (h : gH), gr (k63 h) o gm_Mo_drift X h 63 [(0, .inr (.inr 83)), (3, .inl v3)] []) : ∀ (n : Nat) (v4 : Int) (h : gH), gr (f_Mo_drift_L20 v1 v3 k63 n v4 h) o gm_Mo_drift X h 20 [(0, .inr (.inr 83)), (1, .inl v1), (3, .inl v3), (4, .inl v4)] [] := by
  intro n
  induction n with
  | zero => intros; exact gr_none
  | succ n ih =>
    intro v4 h
    unfold f_Mo_drift_L20
    refine gr_iload (M := gm_Mo_drift) dq_Mo_drift_20 3 rfl 22 rfl ?_
    refine gr_iload_n (M := gm_Mo_drift) dq_Mo_drift_22 rfl 1 rfl 23 rfl ?_
    refine gr_icmp_ge (M := gm_Mo_drift) dq_Mo_drift_23 63 26 rfl rfl (fun c6 => ?_) (fun c6 => ?_)
    · refine gr_sub (M := gm_Mo_drift) (lv' := [(0, .inr (.inr 83)), (3, .inl v3)]) [0, 2] rfl ?_
      exact hk63  _
    refine gr_aload_n (M := gm_Mo_drift) dq_Mo_drift_26 rfl 0 rfl 27 rfl ?_
    refine gr_iconst (M := gm_Mo_drift) (v := 4) dq_Mo_drift_27 rfl ⟨by decide, by decide⟩ 28 rfl ?_
    refine gr_callVi (M := gm_Mo_drift) (as := [.inl 4]) dq_Mo_drift_28 31 rfl rfl gcy_Mo_290 gim_Mo_draw gse_Mo_draw ⟨by decide, by decide⟩ (Nat.le_of_ble_eq_true rfl) gsh_83 rfl (gli hL gsh_83) (fun o1 hg ha hx => c_Mo_draw hL hn  hg ha hx) (fun h7 r8 _ => ?_)
    refine gr_if_ne (M := gm_Mo_drift) dq_Mo_drift_31 53 34 rfl rfl (fun c9 => ?_) (fun c9 => ?_)
    · exact w_Mo_drift_J53 hL hn hF   ih
    refine gr_aload_n (M := gm_Mo_drift) dq_Mo_drift_34 rfl 0 rfl 35 rfl ?_
    refine gr_geti (M := gm_Mo_drift) dq_Mo_drift_35 38 rfl gfl_Mo_121 gsh_83 rfl (gli hL gsh_83) ?_
    refine gr_if_le (M := gm_Mo_drift) dq_Mo_drift_38 53 41 rfl rfl (fun c12 => ?_) (fun c12 => ?_)
    · exact w_Mo_drift_J53 hL hn hF   ih
    refine gr_aload_n (M := gm_Mo_drift) dq_Mo_drift_41 rfl 0 rfl 42 rfl ?_
    refine gr_aload_n (M := gm_Mo_drift) dq_Mo_drift_42 rfl 0 rfl 43 rfl ?_
    refine gr_aload_n (M := gm_Mo_drift) dq_Mo_drift_43 rfl 0 rfl 44 rfl ?_
    refine gr_geti (M := gm_Mo_drift) dq_Mo_drift_44 47 rfl gfl_Mo_121 gsh_83 rfl (gli hL gsh_83) ?_
    refine gr_callVi (M := gm_Mo_drift) (as := [.inl (h7 83 2)]) dq_Mo_drift_47 50 rfl rfl gcy_Mo_290 gim_Mo_draw gse_Mo_draw ⟨by decide, by decide⟩ (Nat.le_of_ble_eq_true rfl) gsh_83 rfl (gli hL gsh_83) (fun o1 hg ha hx => c_Mo_draw hL hn  hg ha hx) (fun h13 r14 _ => ?_)
    refine gr_callVv (M := gm_Mo_drift) (as := [.inl r14]) dq_Mo_drift_50 53 rfl rfl gcy_Mo_293 gim_Mo_turnNow gse_Mo_turnNow ⟨by decide, by decide⟩ (Nat.le_of_ble_eq_true rfl) gsh_83 rfl (gli hL gsh_83) (fun o1 hg ha hx => c_Mo_turnNow hL hn  hg ha hx) (fun h15 r16 _ => ?_)
    exact w_Mo_drift_J53 hL hn hF   ih

def f_Mo_drift (a1 : Int) (h : gH) : Option gO := gb (f_Mo_minutesRefused a1 h) (fun h1 r2 => if r2 = 0 then (gb (f_Mo_home  h1) (fun h4 r5 => f_Mo_drift_L20 a1 r5 (fun  h17 => gb (f_Mo_home  h17) (fun h18 r19 => some (h18, (gsub r19 r5)))) 50000 0 h4)) else (some (h1, r2)))
theorem c_Mo_drift {Z : gZ} (hL : gLive Z) (hn : (zL Z).Nodup) {a1 : Int}  {h : gH} {o : gO} (hg : gRg h) (ha : gRl [.inr (.inr 83), .inl a1]) (hx : f_Mo_drift a1 h = some o) : gC Z gy_Mo_drift gc_Mo_drift 5 (some .int) 8 184 [.inr (.inr 83), .inl a1] h o := by
  unfold f_Mo_drift at hx
  refine gC_of (lv := [(0, .inr (.inr 83)), (1, .inl a1)]) (own := gR_7) (by decide +kernel) rfl (Nat.le_of_ble_eq_true rfl) rfl rfl hn hg ha hx (fun X hZ hF => ?_)
  subst hZ
  show gr _ o gm_Mo_drift X h 0 _ _
  refine gr_aload_n (M := gm_Mo_drift) dq_Mo_drift_0 rfl 0 rfl 1 rfl ?_
  refine gr_iload_n (M := gm_Mo_drift) dq_Mo_drift_1 rfl 1 rfl 2 rfl ?_
  refine gr_callVi (M := gm_Mo_drift) (as := [.inl a1]) dq_Mo_drift_2 5 rfl rfl gcy_Mo_271 gim_Mo_minutesRefused gse_Mo_minutesRefused ⟨by decide, by decide⟩ (Nat.le_of_ble_eq_true rfl) gsh_83 rfl (gli hL gsh_83) (fun o1 hg ha hx => c_Mo_minutesRefused hL hn  hg ha hx) (fun h1 r2 _ => ?_)
  refine gr_istore_n (M := gm_Mo_drift) (lv' := [(2, .inl r2), (0, .inr (.inr 83)), (1, .inl a1)]) dq_Mo_drift_5 rfl (by decide) rfl 6 rfl ?_
  refine gr_iload_n (M := gm_Mo_drift) dq_Mo_drift_6 rfl 0 rfl 7 rfl ?_
  refine gr_if_eq (M := gm_Mo_drift) dq_Mo_drift_7 12 10 rfl rfl (fun c3 => ?_) (fun c3 => ?_)
  · refine gr_aload_n (M := gm_Mo_drift) dq_Mo_drift_12 rfl 1 rfl 13 rfl ?_
    refine gr_callVi (M := gm_Mo_drift) (as := []) dq_Mo_drift_13 16 rfl rfl gcy_Mo_274 gim_Mo_home gse_Mo_home ⟨by decide, by decide⟩ (Nat.le_of_ble_eq_true rfl) gsh_83 rfl (gli hL gsh_83) (fun o1 hg ha hx => c_Mo_home hL hn  hg ha hx) (fun h4 r5 _ => ?_)
    refine gr_istore_n (M := gm_Mo_drift) (lv' := [(3, .inl r5), (2, .inl r2), (0, .inr (.inr 83)), (1, .inl a1)]) dq_Mo_drift_16 rfl (by decide) rfl 17 rfl ?_
    refine gr_iconst (M := gm_Mo_drift) (v := 0) dq_Mo_drift_17 rfl ⟨by decide, by decide⟩ 18 rfl ?_
    refine gr_istore (M := gm_Mo_drift) (kk := 0) (lv' := [(4, .inl 0), (3, .inl r5), (2, .inl r2), (0, .inr (.inr 83)), (1, .inl a1)]) dq_Mo_drift_18 (by decide) rfl 20 rfl ?_
    refine gr_sub (M := gm_Mo_drift) (lv' := [(0, .inr (.inr 83)), (1, .inl a1), (3, .inl r5), (4, .inl 0)]) [3, 4, 1, 0] rfl ?_
    refine w_Mo_drift_L20 hL hn hF   (fun h17 => ?_) 50000 _ _
    refine gr_aload_n (M := gm_Mo_drift) dq_Mo_drift_63 rfl 0 rfl 64 rfl ?_
    refine gr_callVi (M := gm_Mo_drift) (as := []) dq_Mo_drift_64 67 rfl rfl gcy_Mo_274 gim_Mo_home gse_Mo_home ⟨by decide, by decide⟩ (Nat.le_of_ble_eq_true rfl) gsh_83 rfl (gli hL gsh_83) (fun o1 hg ha hx => c_Mo_home hL hn  hg ha hx) (fun h18 r19 _ => ?_)
    refine gr_iload_n (M := gm_Mo_drift) dq_Mo_drift_67 rfl 1 rfl 68 rfl ?_
    refine gr_isub (M := gm_Mo_drift) dq_Mo_drift_68 69 rfl ?_
    exact gr_ireturn (M := gm_Mo_drift) dq_Mo_drift_69 hF
  refine gr_iload_n (M := gm_Mo_drift) dq_Mo_drift_10 rfl 0 rfl 11 rfl ?_
  exact gr_ireturn (M := gm_Mo_drift) dq_Mo_drift_11 hF

-- Mo_turn
theorem dq_Mo_turn_0 : decode gc_Mo_turn 0 = .ok (.aload_n 0, 1) := by decide +kernel
theorem dq_Mo_turn_1 : decode gc_Mo_turn 1 = .ok (.iload_n 1, 1) := by decide +kernel
theorem dq_Mo_turn_2 : decode gc_Mo_turn 2 = .ok (.invokevirtual 209, 3) := by decide +kernel
theorem dq_Mo_turn_5 : decode gc_Mo_turn 5 = .ok (.ifCond .ne 6, 3) := by decide +kernel
theorem dq_Mo_turn_8 : decode gc_Mo_turn 8 = .ok (.ldc 208, 2) := by decide +kernel
theorem dq_Mo_turn_10 : decode gc_Mo_turn 10 = .ok (.ireturn, 1) := by decide +kernel
theorem dq_Mo_turn_11 : decode gc_Mo_turn 11 = .ok (.aload_n 0, 1) := by decide +kernel
theorem dq_Mo_turn_12 : decode gc_Mo_turn 12 = .ok (.iload_n 1, 1) := by decide +kernel
theorem dq_Mo_turn_13 : decode gc_Mo_turn 13 = .ok (.invokevirtual 212, 3) := by decide +kernel
theorem dq_Mo_turn_16 : decode gc_Mo_turn 16 = .ok (.ifCond .eq 7, 3) := by decide +kernel
theorem dq_Mo_turn_19 : decode gc_Mo_turn 19 = .ok (.ldc_w 269, 3) := by decide +kernel
theorem dq_Mo_turn_22 : decode gc_Mo_turn 22 = .ok (.ireturn, 1) := by decide +kernel
theorem dq_Mo_turn_23 : decode gc_Mo_turn 23 = .ok (.aload_n 0, 1) := by decide +kernel
theorem dq_Mo_turn_24 : decode gc_Mo_turn 24 = .ok (.iload_n 1, 1) := by decide +kernel
theorem dq_Mo_turn_25 : decode gc_Mo_turn 25 = .ok (.invokevirtual 293, 3) := by decide +kernel
theorem dq_Mo_turn_28 : decode gc_Mo_turn 28 = .ok (.aload_n 0, 1) := by decide +kernel
theorem dq_Mo_turn_29 : decode gc_Mo_turn 29 = .ok (.getfield 34, 3) := by decide +kernel
theorem dq_Mo_turn_32 : decode gc_Mo_turn 32 = .ok (.bipush 11, 2) := by decide +kernel
theorem dq_Mo_turn_34 : decode gc_Mo_turn 34 = .ok (.iload_n 1, 1) := by decide +kernel
theorem dq_Mo_turn_35 : decode gc_Mo_turn 35 = .ok (.iadd, 1) := by decide +kernel
theorem dq_Mo_turn_36 : decode gc_Mo_turn 36 = .ok (.iaload, 1) := by decide +kernel
theorem dq_Mo_turn_37 : decode gc_Mo_turn 37 = .ok (.ireturn, 1) := by decide +kernel
abbrev gm_Mo_turn : gM := (gc_Mo_turn, gR_7, 2, 46, 2)
def f_Mo_turn (a1 : Int) (h : gH) : Option gO := gb (f_Mo_isStreet a1 h) (fun h1 r2 => if r2 = 0 then (some (h1, (-1000000001))) else (gb (f_Mo_onStreet a1 h1) (fun h4 r5 => if r5 = 0 then (gb (f_Mo_turnNow a1 h4) (fun h7 r8 => gd (gix 50 (gadd 11 a1)) (some (h7, (h7 92 (gadd 11 a1).toNat))))) else (some (h4, (-1000000003))))))
theorem c_Mo_turn {Z : gZ} (hL : gLive Z) (hn : (zL Z).Nodup) {a1 : Int}  {h : gH} {o : gO} (hg : gRg h) (ha : gRl [.inr (.inr 83), .inl a1]) (hx : f_Mo_turn a1 h = some o) : gC Z gy_Mo_turn gc_Mo_turn 2 (some .int) 2 46 [.inr (.inr 83), .inl a1] h o := by
  unfold f_Mo_turn at hx
  refine gC_of (lv := [(0, .inr (.inr 83)), (1, .inl a1)]) (own := gR_7) (by decide +kernel) rfl (Nat.le_of_ble_eq_true rfl) rfl rfl hn hg ha hx (fun X hZ hF => ?_)
  subst hZ
  show gr _ o gm_Mo_turn X h 0 _ _
  refine gr_aload_n (M := gm_Mo_turn) dq_Mo_turn_0 rfl 0 rfl 1 rfl ?_
  refine gr_iload_n (M := gm_Mo_turn) dq_Mo_turn_1 rfl 1 rfl 2 rfl ?_
  refine gr_callVi (M := gm_Mo_turn) (as := [.inl a1]) dq_Mo_turn_2 5 rfl rfl gcy_Mo_209 gim_Mo_isStreet gse_Mo_isStreet ⟨by decide, by decide⟩ (Nat.le_of_ble_eq_true rfl) gsh_83 rfl (gli hL gsh_83) (fun o1 hg ha hx => c_Mo_isStreet hL hn  hg ha hx) (fun h1 r2 _ => ?_)
  refine gr_if_ne (M := gm_Mo_turn) dq_Mo_turn_5 11 8 rfl rfl (fun c3 => ?_) (fun c3 => ?_)
  · refine gr_aload_n (M := gm_Mo_turn) dq_Mo_turn_11 rfl 0 rfl 12 rfl ?_
    refine gr_iload_n (M := gm_Mo_turn) dq_Mo_turn_12 rfl 1 rfl 13 rfl ?_
    refine gr_callVi (M := gm_Mo_turn) (as := [.inl a1]) dq_Mo_turn_13 16 rfl rfl gcy_Mo_212 gim_Mo_onStreet gse_Mo_onStreet ⟨by decide, by decide⟩ (Nat.le_of_ble_eq_true rfl) gsh_83 rfl (gli hL gsh_83) (fun o1 hg ha hx => c_Mo_onStreet hL hn  hg ha hx) (fun h4 r5 _ => ?_)
    refine gr_if_eq (M := gm_Mo_turn) dq_Mo_turn_16 23 19 rfl rfl (fun c6 => ?_) (fun c6 => ?_)
    · refine gr_aload_n (M := gm_Mo_turn) dq_Mo_turn_23 rfl 0 rfl 24 rfl ?_
      refine gr_iload_n (M := gm_Mo_turn) dq_Mo_turn_24 rfl 1 rfl 25 rfl ?_
      refine gr_callVv (M := gm_Mo_turn) (as := [.inl a1]) dq_Mo_turn_25 28 rfl rfl gcy_Mo_293 gim_Mo_turnNow gse_Mo_turnNow ⟨by decide, by decide⟩ (Nat.le_of_ble_eq_true rfl) gsh_83 rfl (gli hL gsh_83) (fun o1 hg ha hx => c_Mo_turnNow hL hn  hg ha hx) (fun h7 r8 _ => ?_)
      refine gr_aload_n (M := gm_Mo_turn) dq_Mo_turn_28 rfl 0 rfl 29 rfl ?_
      refine gr_getr (M := gm_Mo_turn) dq_Mo_turn_29 32 rfl gfl_Mo_34 gsh_83 rfl (gli hL gsh_83) 92 rfl ?_
      refine gr_bipush (M := gm_Mo_turn) (v := 11) dq_Mo_turn_32 (by decide) ⟨by decide, by decide⟩ 34 rfl ?_
      refine gr_iload_n (M := gm_Mo_turn) dq_Mo_turn_34 rfl 1 rfl 35 rfl ?_
      refine gr_iadd (M := gm_Mo_turn) dq_Mo_turn_35 36 rfl ?_
      refine gr_iald (M := gm_Mo_turn) dq_Mo_turn_36 37 rfl gsh_92 (glj hL gsh_92 (by decide)) ?_
      exact gr_ireturn (M := gm_Mo_turn) dq_Mo_turn_37 hF
    refine gr_ldc_w (M := gm_Mo_turn) (v := (-1000000003)) dq_Mo_turn_19 gk_Mo_269 ⟨by decide, by decide⟩ 22 rfl ?_
    exact gr_ireturn (M := gm_Mo_turn) dq_Mo_turn_22 hF
  refine gr_ldc (M := gm_Mo_turn) (v := (-1000000001)) dq_Mo_turn_8 gk_Mo_208 ⟨by decide, by decide⟩ 10 rfl ?_
  exact gr_ireturn (M := gm_Mo_turn) dq_Mo_turn_10 hF

-- Mo_law
theorem dq_Mo_law_0 : decode gc_Mo_law 0 = .ok (.aload_n 0, 1) := by decide +kernel
theorem dq_Mo_law_1 : decode gc_Mo_law 1 = .ok (.iload_n 1, 1) := by decide +kernel
theorem dq_Mo_law_2 : decode gc_Mo_law 2 = .ok (.invokevirtual 209, 3) := by decide +kernel
theorem dq_Mo_law_5 : decode gc_Mo_law 5 = .ok (.ifCond .eq 15, 3) := by decide +kernel
theorem dq_Mo_law_8 : decode gc_Mo_law 8 = .ok (.iload_n 2, 1) := by decide +kernel
theorem dq_Mo_law_9 : decode gc_Mo_law 9 = .ok (.i2l, 1) := by decide +kernel
theorem dq_Mo_law_10 : decode gc_Mo_law 10 = .ok (.lconst 0, 1) := by decide +kernel
theorem dq_Mo_law_11 : decode gc_Mo_law 11 = .ok (.ldc2_w 296, 3) := by decide +kernel
theorem dq_Mo_law_14 : decode gc_Mo_law 14 = .ok (.invokestatic 117, 3) := by decide +kernel
theorem dq_Mo_law_17 : decode gc_Mo_law 17 = .ok (.ifCond .ne 6, 3) := by decide +kernel
theorem dq_Mo_law_20 : decode gc_Mo_law 20 = .ok (.ldc 208, 2) := by decide +kernel
theorem dq_Mo_law_22 : decode gc_Mo_law 22 = .ok (.ireturn, 1) := by decide +kernel
theorem dq_Mo_law_23 : decode gc_Mo_law 23 = .ok (.aload_n 0, 1) := by decide +kernel
theorem dq_Mo_law_24 : decode gc_Mo_law 24 = .ok (.getfield 34, 3) := by decide +kernel
theorem dq_Mo_law_27 : decode gc_Mo_law 27 = .ok (.iconst 2, 1) := by decide +kernel
theorem dq_Mo_law_28 : decode gc_Mo_law 28 = .ok (.iload_n 1, 1) := by decide +kernel
theorem dq_Mo_law_29 : decode gc_Mo_law 29 = .ok (.iadd, 1) := by decide +kernel
theorem dq_Mo_law_30 : decode gc_Mo_law 30 = .ok (.iaload, 1) := by decide +kernel
theorem dq_Mo_law_31 : decode gc_Mo_law 31 = .ok (.istore_n 3, 1) := by decide +kernel
theorem dq_Mo_law_32 : decode gc_Mo_law 32 = .ok (.aload_n 0, 1) := by decide +kernel
theorem dq_Mo_law_33 : decode gc_Mo_law 33 = .ok (.getfield 34, 3) := by decide +kernel
theorem dq_Mo_law_36 : decode gc_Mo_law 36 = .ok (.iconst 2, 1) := by decide +kernel
theorem dq_Mo_law_37 : decode gc_Mo_law 37 = .ok (.iload_n 1, 1) := by decide +kernel
theorem dq_Mo_law_38 : decode gc_Mo_law 38 = .ok (.iadd, 1) := by decide +kernel
theorem dq_Mo_law_39 : decode gc_Mo_law 39 = .ok (.iload_n 2, 1) := by decide +kernel
theorem dq_Mo_law_40 : decode gc_Mo_law 40 = .ok (.iastore, 1) := by decide +kernel
theorem dq_Mo_law_41 : decode gc_Mo_law 41 = .ok (.iload_n 3, 1) := by decide +kernel
theorem dq_Mo_law_42 : decode gc_Mo_law 42 = .ok (.ireturn, 1) := by decide +kernel
abbrev gm_Mo_law : gM := (gc_Mo_law, gR_7, 2, 46, 4)
theorem gk_Mo_296 : Cond.constantLong gR_7 296 (Int64.ofInt 4) ∈ gtbl := (gtab_at 1088 (by decide +kernel) rfl)
def f_Mo_law (a1 : Int) (a2 : Int) (h : gH) : Option gO := gb (f_Mo_isStreet a1 h) (fun h1 r2 => if r2 = 0 then (some (h1, (-1000000001))) else (gb (f_Mo_in a2 0 4 h1) (fun h4 r5 => if r5 = 0 then (some (h4, (-1000000001))) else (gd (gix 50 (gadd 2 a1)) (gd (gix 50 (gadd 2 a1)) (gs (gup h4 92 (gadd 2 a1).toNat a2) (fun h7 => some (h7, (h4 92 (gadd 2 a1).toNat)))))))))
theorem c_Mo_law {Z : gZ} (hL : gLive Z) (hn : (zL Z).Nodup) {a1 : Int} {a2 : Int}  {h : gH} {o : gO} (hg : gRg h) (ha : gRl [.inr (.inr 83), .inl a1, .inl a2]) (hx : f_Mo_law a1 a2 h = some o) : gC Z gy_Mo_law gc_Mo_law 4 (some .int) 2 46 [.inr (.inr 83), .inl a1, .inl a2] h o := by
  unfold f_Mo_law at hx
  refine gC_of (lv := [(0, .inr (.inr 83)), (1, .inl a1), (2, .inl a2)]) (own := gR_7) (by decide +kernel) rfl (Nat.le_of_ble_eq_true rfl) rfl rfl hn hg ha hx (fun X hZ hF => ?_)
  subst hZ
  show gr _ o gm_Mo_law X h 0 _ _
  refine gr_aload_n (M := gm_Mo_law) dq_Mo_law_0 rfl 0 rfl 1 rfl ?_
  refine gr_iload_n (M := gm_Mo_law) dq_Mo_law_1 rfl 1 rfl 2 rfl ?_
  refine gr_callVi (M := gm_Mo_law) (as := [.inl a1]) dq_Mo_law_2 5 rfl rfl gcy_Mo_209 gim_Mo_isStreet gse_Mo_isStreet ⟨by decide, by decide⟩ (Nat.le_of_ble_eq_true rfl) gsh_83 rfl (gli hL gsh_83) (fun o1 hg ha hx => c_Mo_isStreet hL hn  hg ha hx) (fun h1 r2 _ => ?_)
  refine gr_if_eq (M := gm_Mo_law) dq_Mo_law_5 20 8 rfl rfl (fun c3 => ?_) (fun c3 => ?_)
  · refine gr_ldc (M := gm_Mo_law) (v := (-1000000001)) dq_Mo_law_20 gk_Mo_208 ⟨by decide, by decide⟩ 22 rfl ?_
    exact gr_ireturn (M := gm_Mo_law) dq_Mo_law_22 hF
  refine gr_iload_n (M := gm_Mo_law) dq_Mo_law_8 rfl 2 rfl 9 rfl ?_
  refine gr_i2l (M := gm_Mo_law) dq_Mo_law_9 10 rfl ?_
  refine gr_lconst (M := gm_Mo_law) (v := 0) dq_Mo_law_10 (by decide) ⟨by decide, by decide⟩ 11 rfl ?_
  refine gr_ldc2_w (M := gm_Mo_law) (v := 4) dq_Mo_law_11 gk_Mo_296 ⟨by decide, by decide⟩ 14 rfl ?_
  refine gr_callSi (M := gm_Mo_law) (as := [.inr (.inl a2), .inr (.inl 0), .inr (.inl 4)]) dq_Mo_law_14 17 rfl rfl gcy_Mo_117 gst_Mo_in ⟨by decide, by decide⟩ (Nat.le_of_ble_eq_true rfl) (fun o1 hg ha hx => c_Mo_in hL hn  hg ha hx) (fun h4 r5 _ => ?_)
  refine gr_if_ne (M := gm_Mo_law) dq_Mo_law_17 23 20 rfl rfl (fun c6 => ?_) (fun c6 => ?_)
  · refine gr_aload_n (M := gm_Mo_law) dq_Mo_law_23 rfl 0 rfl 24 rfl ?_
    refine gr_getr (M := gm_Mo_law) dq_Mo_law_24 27 rfl gfl_Mo_34 gsh_83 rfl (gli hL gsh_83) 92 rfl ?_
    refine gr_iconst (M := gm_Mo_law) (v := 2) dq_Mo_law_27 rfl ⟨by decide, by decide⟩ 28 rfl ?_
    refine gr_iload_n (M := gm_Mo_law) dq_Mo_law_28 rfl 1 rfl 29 rfl ?_
    refine gr_iadd (M := gm_Mo_law) dq_Mo_law_29 30 rfl ?_
    refine gr_iald (M := gm_Mo_law) dq_Mo_law_30 31 rfl gsh_92 (glj hL gsh_92 (by decide)) ?_
    refine gr_istore_n (M := gm_Mo_law) (lv' := [(3, .inl (h4 92 (gadd 2 a1).toNat)), (0, .inr (.inr 83)), (1, .inl a1), (2, .inl a2)]) dq_Mo_law_31 rfl (by decide) rfl 32 rfl ?_
    refine gr_aload_n (M := gm_Mo_law) dq_Mo_law_32 rfl 1 rfl 33 rfl ?_
    refine gr_getr (M := gm_Mo_law) dq_Mo_law_33 36 rfl gfl_Mo_34 gsh_83 rfl (gli hL gsh_83) 92 rfl ?_
    refine gr_iconst (M := gm_Mo_law) (v := 2) dq_Mo_law_36 rfl ⟨by decide, by decide⟩ 37 rfl ?_
    refine gr_iload_n (M := gm_Mo_law) dq_Mo_law_37 rfl 2 rfl 38 rfl ?_
    refine gr_iadd (M := gm_Mo_law) dq_Mo_law_38 39 rfl ?_
    refine gr_iload_n (M := gm_Mo_law) dq_Mo_law_39 rfl 3 rfl 40 rfl ?_
    refine gr_iast (M := gm_Mo_law) dq_Mo_law_40 41 rfl gsh_92 (glj hL gsh_92 (by decide)) (fun h7 _ => ?_)
    refine gr_iload_n (M := gm_Mo_law) dq_Mo_law_41 rfl 0 rfl 42 rfl ?_
    exact gr_ireturn (M := gm_Mo_law) dq_Mo_law_42 hF
  refine gr_ldc (M := gm_Mo_law) (v := (-1000000001)) dq_Mo_law_20 gk_Mo_208 ⟨by decide, by decide⟩ 22 rfl ?_
  exact gr_ireturn (M := gm_Mo_law) dq_Mo_law_22 hF

-- Mo_rank
theorem dq_Mo_rank_0 : decode gc_Mo_rank 0 = .ok (.aload_n 0, 1) := by decide +kernel
theorem dq_Mo_rank_1 : decode gc_Mo_rank 1 = .ok (.iload_n 1, 1) := by decide +kernel
theorem dq_Mo_rank_2 : decode gc_Mo_rank 2 = .ok (.invokevirtual 215, 3) := by decide +kernel
theorem dq_Mo_rank_5 : decode gc_Mo_rank 5 = .ok (.ifCond .ne 6, 3) := by decide +kernel
theorem dq_Mo_rank_8 : decode gc_Mo_rank 8 = .ok (.ldc 208, 2) := by decide +kernel
theorem dq_Mo_rank_10 : decode gc_Mo_rank 10 = .ok (.ireturn, 1) := by decide +kernel
theorem dq_Mo_rank_11 : decode gc_Mo_rank 11 = .ok (.iload_n 2, 1) := by decide +kernel
theorem dq_Mo_rank_12 : decode gc_Mo_rank 12 = .ok (.i2l, 1) := by decide +kernel
theorem dq_Mo_rank_13 : decode gc_Mo_rank 13 = .ok (.lconst 1, 1) := by decide +kernel
theorem dq_Mo_rank_14 : decode gc_Mo_rank 14 = .ok (.ldc2_w 298, 3) := by decide +kernel
theorem dq_Mo_rank_17 : decode gc_Mo_rank 17 = .ok (.invokestatic 117, 3) := by decide +kernel
theorem dq_Mo_rank_20 : decode gc_Mo_rank 20 = .ok (.ifCond .ne 6, 3) := by decide +kernel
theorem dq_Mo_rank_23 : decode gc_Mo_rank 23 = .ok (.ldc 129, 2) := by decide +kernel
theorem dq_Mo_rank_25 : decode gc_Mo_rank 25 = .ok (.ireturn, 1) := by decide +kernel
theorem dq_Mo_rank_26 : decode gc_Mo_rank 26 = .ok (.aload_n 0, 1) := by decide +kernel
theorem dq_Mo_rank_27 : decode gc_Mo_rank 27 = .ok (.getfield 34, 3) := by decide +kernel
theorem dq_Mo_rank_30 : decode gc_Mo_rank 30 = .ok (.bipush 20, 2) := by decide +kernel
theorem dq_Mo_rank_32 : decode gc_Mo_rank 32 = .ok (.iload_n 1, 1) := by decide +kernel
theorem dq_Mo_rank_33 : decode gc_Mo_rank 33 = .ok (.iadd, 1) := by decide +kernel
theorem dq_Mo_rank_34 : decode gc_Mo_rank 34 = .ok (.iaload, 1) := by decide +kernel
theorem dq_Mo_rank_35 : decode gc_Mo_rank 35 = .ok (.istore_n 3, 1) := by decide +kernel
theorem dq_Mo_rank_36 : decode gc_Mo_rank 36 = .ok (.aload_n 0, 1) := by decide +kernel
theorem dq_Mo_rank_37 : decode gc_Mo_rank 37 = .ok (.getfield 34, 3) := by decide +kernel
theorem dq_Mo_rank_40 : decode gc_Mo_rank 40 = .ok (.bipush 20, 2) := by decide +kernel
theorem dq_Mo_rank_42 : decode gc_Mo_rank 42 = .ok (.iload_n 1, 1) := by decide +kernel
theorem dq_Mo_rank_43 : decode gc_Mo_rank 43 = .ok (.iadd, 1) := by decide +kernel
theorem dq_Mo_rank_44 : decode gc_Mo_rank 44 = .ok (.iload_n 2, 1) := by decide +kernel
theorem dq_Mo_rank_45 : decode gc_Mo_rank 45 = .ok (.iastore, 1) := by decide +kernel
theorem dq_Mo_rank_46 : decode gc_Mo_rank 46 = .ok (.iload_n 3, 1) := by decide +kernel
theorem dq_Mo_rank_47 : decode gc_Mo_rank 47 = .ok (.ireturn, 1) := by decide +kernel
abbrev gm_Mo_rank : gM := (gc_Mo_rank, gR_7, 2, 46, 4)
theorem gk_Mo_298 : Cond.constantLong gR_7 298 (Int64.ofInt 9) ∈ gtbl := (gtab_at 1093 (by decide +kernel) rfl)
def f_Mo_rank (a1 : Int) (a2 : Int) (h : gH) : Option gO := gb (f_Mo_isCart a1 h) (fun h1 r2 => if r2 = 0 then (some (h1, (-1000000001))) else (gb (f_Mo_in a2 1 9 h1) (fun h4 r5 => if r5 = 0 then (some (h4, (-1000000002))) else (gd (gix 50 (gadd 20 a1)) (gd (gix 50 (gadd 20 a1)) (gs (gup h4 92 (gadd 20 a1).toNat a2) (fun h7 => some (h7, (h4 92 (gadd 20 a1).toNat)))))))))
theorem c_Mo_rank {Z : gZ} (hL : gLive Z) (hn : (zL Z).Nodup) {a1 : Int} {a2 : Int}  {h : gH} {o : gO} (hg : gRg h) (ha : gRl [.inr (.inr 83), .inl a1, .inl a2]) (hx : f_Mo_rank a1 a2 h = some o) : gC Z gy_Mo_rank gc_Mo_rank 4 (some .int) 2 46 [.inr (.inr 83), .inl a1, .inl a2] h o := by
  unfold f_Mo_rank at hx
  refine gC_of (lv := [(0, .inr (.inr 83)), (1, .inl a1), (2, .inl a2)]) (own := gR_7) (by decide +kernel) rfl (Nat.le_of_ble_eq_true rfl) rfl rfl hn hg ha hx (fun X hZ hF => ?_)
  subst hZ
  show gr _ o gm_Mo_rank X h 0 _ _
  refine gr_aload_n (M := gm_Mo_rank) dq_Mo_rank_0 rfl 0 rfl 1 rfl ?_
  refine gr_iload_n (M := gm_Mo_rank) dq_Mo_rank_1 rfl 1 rfl 2 rfl ?_
  refine gr_callVi (M := gm_Mo_rank) (as := [.inl a1]) dq_Mo_rank_2 5 rfl rfl gcy_Mo_215 gim_Mo_isCart gse_Mo_isCart ⟨by decide, by decide⟩ (Nat.le_of_ble_eq_true rfl) gsh_83 rfl (gli hL gsh_83) (fun o1 hg ha hx => c_Mo_isCart hL hn  hg ha hx) (fun h1 r2 _ => ?_)
  refine gr_if_ne (M := gm_Mo_rank) dq_Mo_rank_5 11 8 rfl rfl (fun c3 => ?_) (fun c3 => ?_)
  · refine gr_iload_n (M := gm_Mo_rank) dq_Mo_rank_11 rfl 2 rfl 12 rfl ?_
    refine gr_i2l (M := gm_Mo_rank) dq_Mo_rank_12 13 rfl ?_
    refine gr_lconst (M := gm_Mo_rank) (v := 1) dq_Mo_rank_13 (by decide) ⟨by decide, by decide⟩ 14 rfl ?_
    refine gr_ldc2_w (M := gm_Mo_rank) (v := 9) dq_Mo_rank_14 gk_Mo_298 ⟨by decide, by decide⟩ 17 rfl ?_
    refine gr_callSi (M := gm_Mo_rank) (as := [.inr (.inl a2), .inr (.inl 1), .inr (.inl 9)]) dq_Mo_rank_17 20 rfl rfl gcy_Mo_117 gst_Mo_in ⟨by decide, by decide⟩ (Nat.le_of_ble_eq_true rfl) (fun o1 hg ha hx => c_Mo_in hL hn  hg ha hx) (fun h4 r5 _ => ?_)
    refine gr_if_ne (M := gm_Mo_rank) dq_Mo_rank_20 26 23 rfl rfl (fun c6 => ?_) (fun c6 => ?_)
    · refine gr_aload_n (M := gm_Mo_rank) dq_Mo_rank_26 rfl 0 rfl 27 rfl ?_
      refine gr_getr (M := gm_Mo_rank) dq_Mo_rank_27 30 rfl gfl_Mo_34 gsh_83 rfl (gli hL gsh_83) 92 rfl ?_
      refine gr_bipush (M := gm_Mo_rank) (v := 20) dq_Mo_rank_30 (by decide) ⟨by decide, by decide⟩ 32 rfl ?_
      refine gr_iload_n (M := gm_Mo_rank) dq_Mo_rank_32 rfl 1 rfl 33 rfl ?_
      refine gr_iadd (M := gm_Mo_rank) dq_Mo_rank_33 34 rfl ?_
      refine gr_iald (M := gm_Mo_rank) dq_Mo_rank_34 35 rfl gsh_92 (glj hL gsh_92 (by decide)) ?_
      refine gr_istore_n (M := gm_Mo_rank) (lv' := [(3, .inl (h4 92 (gadd 20 a1).toNat)), (0, .inr (.inr 83)), (1, .inl a1), (2, .inl a2)]) dq_Mo_rank_35 rfl (by decide) rfl 36 rfl ?_
      refine gr_aload_n (M := gm_Mo_rank) dq_Mo_rank_36 rfl 1 rfl 37 rfl ?_
      refine gr_getr (M := gm_Mo_rank) dq_Mo_rank_37 40 rfl gfl_Mo_34 gsh_83 rfl (gli hL gsh_83) 92 rfl ?_
      refine gr_bipush (M := gm_Mo_rank) (v := 20) dq_Mo_rank_40 (by decide) ⟨by decide, by decide⟩ 42 rfl ?_
      refine gr_iload_n (M := gm_Mo_rank) dq_Mo_rank_42 rfl 2 rfl 43 rfl ?_
      refine gr_iadd (M := gm_Mo_rank) dq_Mo_rank_43 44 rfl ?_
      refine gr_iload_n (M := gm_Mo_rank) dq_Mo_rank_44 rfl 3 rfl 45 rfl ?_
      refine gr_iast (M := gm_Mo_rank) dq_Mo_rank_45 46 rfl gsh_92 (glj hL gsh_92 (by decide)) (fun h7 _ => ?_)
      refine gr_iload_n (M := gm_Mo_rank) dq_Mo_rank_46 rfl 0 rfl 47 rfl ?_
      exact gr_ireturn (M := gm_Mo_rank) dq_Mo_rank_47 hF
    refine gr_ldc (M := gm_Mo_rank) (v := (-1000000002)) dq_Mo_rank_23 gk_Mo_129 ⟨by decide, by decide⟩ 25 rfl ?_
    exact gr_ireturn (M := gm_Mo_rank) dq_Mo_rank_25 hF
  refine gr_ldc (M := gm_Mo_rank) (v := (-1000000001)) dq_Mo_rank_8 gk_Mo_208 ⟨by decide, by decide⟩ 10 rfl ?_
  exact gr_ireturn (M := gm_Mo_rank) dq_Mo_rank_10 hF

-- Mo_save
theorem dq_Mo_save_0 : decode gc_Mo_save 0 = .ok (.iconst 0, 1) := by decide +kernel
theorem dq_Mo_save_1 : decode gc_Mo_save 1 = .ok (.istore_n 1, 1) := by decide +kernel
theorem dq_Mo_save_2 : decode gc_Mo_save 2 = .ok (.iload_n 1, 1) := by decide +kernel
theorem dq_Mo_save_3 : decode gc_Mo_save 3 = .ok (.bipush 50, 2) := by decide +kernel
theorem dq_Mo_save_5 : decode gc_Mo_save 5 = .ok (.if_icmp .ge 21, 3) := by decide +kernel
theorem dq_Mo_save_8 : decode gc_Mo_save 8 = .ok (.aload_n 0, 1) := by decide +kernel
theorem dq_Mo_save_9 : decode gc_Mo_save 9 = .ok (.getfield 77, 3) := by decide +kernel
theorem dq_Mo_save_12 : decode gc_Mo_save 12 = .ok (.iload_n 1, 1) := by decide +kernel
theorem dq_Mo_save_13 : decode gc_Mo_save 13 = .ok (.aload_n 0, 1) := by decide +kernel
theorem dq_Mo_save_14 : decode gc_Mo_save 14 = .ok (.getfield 34, 3) := by decide +kernel
theorem dq_Mo_save_17 : decode gc_Mo_save 17 = .ok (.iload_n 1, 1) := by decide +kernel
theorem dq_Mo_save_18 : decode gc_Mo_save 18 = .ok (.iaload, 1) := by decide +kernel
theorem dq_Mo_save_19 : decode gc_Mo_save 19 = .ok (.iastore, 1) := by decide +kernel
theorem dq_Mo_save_20 : decode gc_Mo_save 20 = .ok (.iinc 1 1, 3) := by decide +kernel
theorem dq_Mo_save_23 : decode gc_Mo_save 23 = .ok (.goto (-21), 3) := by decide +kernel
theorem dq_Mo_save_26 : decode gc_Mo_save 26 = .ok (.return_, 1) := by decide +kernel
abbrev gm_Mo_save : gM := (gc_Mo_save, gR_7, 0, 0, 2)
theorem gfl_Mo_77 : gFl gR_7 77 7 33 := ⟨_, _, _, rfl, by decide, (gtab_at 767 (by decide +kernel) rfl), gin_7⟩
def f_Mo_save_L2  (k26 : gH → Option gO) : Nat → Int → gH → Option gO
  | 0, _, _ => none
  | n + 1, v1, h => if 50 ≤ v1 then (k26  h) else (gd (gix 50 v1) (gd (gix 50 v1) (gs (gup h 104 v1.toNat (h 92 v1.toNat)) (fun h2 => f_Mo_save_L2 k26 n (gadd v1 1) h2))))
theorem w_Mo_save_L2 {o : gO} {X : gX} (hL : gLive (xZ X)) (hn : (zL (xZ X)).Nodup) (hF : gFin X none o)    {k26 : gH → Option gO} (hk26 : ∀ (h : gH), gr (k26 h) o gm_Mo_save X h 26 [] []) : ∀ (n : Nat) (v1 : Int) (h : gH), gr (f_Mo_save_L2  k26 n v1 h) o gm_Mo_save X h 2 [(0, .inr (.inr 83)), (1, .inl v1)] [] := by
  intro n
  induction n with
  | zero => intros; exact gr_none
  | succ n ih =>
    intro v1 h
    unfold f_Mo_save_L2
    refine gr_iload_n (M := gm_Mo_save) dq_Mo_save_2 rfl 1 rfl 3 rfl ?_
    refine gr_bipush (M := gm_Mo_save) (v := 50) dq_Mo_save_3 (by decide) ⟨by decide, by decide⟩ 5 rfl ?_
    refine gr_icmp_ge (M := gm_Mo_save) dq_Mo_save_5 26 8 rfl rfl (fun c1 => ?_) (fun c1 => ?_)
    · refine gr_sub (M := gm_Mo_save) (lv' := []) [] rfl ?_
      exact hk26  _
    refine gr_aload_n (M := gm_Mo_save) dq_Mo_save_8 rfl 0 rfl 9 rfl ?_
    refine gr_getr (M := gm_Mo_save) dq_Mo_save_9 12 rfl gfl_Mo_77 gsh_83 rfl (gli hL gsh_83) 104 rfl ?_
    refine gr_iload_n (M := gm_Mo_save) dq_Mo_save_12 rfl 1 rfl 13 rfl ?_
    refine gr_aload_n (M := gm_Mo_save) dq_Mo_save_13 rfl 0 rfl 14 rfl ?_
    refine gr_getr (M := gm_Mo_save) dq_Mo_save_14 17 rfl gfl_Mo_34 gsh_83 rfl (gli hL gsh_83) 92 rfl ?_
    refine gr_iload_n (M := gm_Mo_save) dq_Mo_save_17 rfl 1 rfl 18 rfl ?_
    refine gr_iald (M := gm_Mo_save) dq_Mo_save_18 19 rfl gsh_92 (glj hL gsh_92 (by decide)) ?_
    refine gr_iast (M := gm_Mo_save) dq_Mo_save_19 20 rfl gsh_104 (glj hL gsh_104 (by decide)) (fun h2 _ => ?_)
    refine gr_iinc (M := gm_Mo_save) (lv' := [(1, .inl (gadd v1 1)), (0, .inr (.inr 83))]) dq_Mo_save_20 1 rfl rfl (by decide) rfl 23 rfl ?_
    refine gr_goto (M := gm_Mo_save) dq_Mo_save_23 2 rfl ?_
    refine gr_sub (M := gm_Mo_save) (lv' := [(0, .inr (.inr 83)), (1, .inl (gadd v1 1))]) [1, 0] rfl ?_
    exact ih _ _

def f_Mo_save  (h : gH) : Option gO := f_Mo_save_L2  (fun  h3 => some (h3, 0)) 50000 0 h
theorem c_Mo_save {Z : gZ} (hL : gLive Z) (hn : (zL Z).Nodup)   {h : gH} {o : gO} (hg : gRg h) (ha : gRl [.inr (.inr 83)]) (hx : f_Mo_save  h = some o) : gC Z gy_Mo_save gc_Mo_save 2 none 0 0 [.inr (.inr 83)] h o := by
  unfold f_Mo_save at hx
  refine gC_of (lv := [(0, .inr (.inr 83))]) (own := gR_7) (by decide +kernel) rfl (Nat.le_of_ble_eq_true rfl) rfl rfl hn hg ha hx (fun X hZ hF => ?_)
  subst hZ
  show gr _ o gm_Mo_save X h 0 _ _
  refine gr_iconst (M := gm_Mo_save) (v := 0) dq_Mo_save_0 rfl ⟨by decide, by decide⟩ 1 rfl ?_
  refine gr_istore_n (M := gm_Mo_save) (lv' := [(1, .inl 0), (0, .inr (.inr 83))]) dq_Mo_save_1 rfl (by decide) rfl 2 rfl ?_
  refine gr_sub (M := gm_Mo_save) (lv' := [(0, .inr (.inr 83)), (1, .inl 0)]) [1, 0] rfl ?_
  refine w_Mo_save_L2 hL hn hF   (fun h3 => ?_) 50000 _ _
  exact gr_return (M := gm_Mo_save) dq_Mo_save_26 hF

