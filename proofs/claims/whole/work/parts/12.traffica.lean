-- Traffic_begin
theorem dq_Traffic_begin_0 : decode gc_Traffic_begin 0 = .ok (.aload_n 0, 1) := by decide +kernel
theorem dq_Traffic_begin_1 : decode gc_Traffic_begin 1 = .ok (.aload_n 1, 1) := by decide +kernel
theorem dq_Traffic_begin_2 : decode gc_Traffic_begin 2 = .ok (.putfield 45, 3) := by decide +kernel
theorem dq_Traffic_begin_5 : decode gc_Traffic_begin 5 = .ok (.aload_n 0, 1) := by decide +kernel
theorem dq_Traffic_begin_6 : decode gc_Traffic_begin 6 = .ok (.iconst 0, 1) := by decide +kernel
theorem dq_Traffic_begin_7 : decode gc_Traffic_begin 7 = .ok (.putfield 49, 3) := by decide +kernel
theorem dq_Traffic_begin_10 : decode gc_Traffic_begin 10 = .ok (.iconst 0, 1) := by decide +kernel
theorem dq_Traffic_begin_11 : decode gc_Traffic_begin 11 = .ok (.istore_n 2, 1) := by decide +kernel
theorem dq_Traffic_begin_12 : decode gc_Traffic_begin 12 = .ok (.iload_n 2, 1) := by decide +kernel
theorem dq_Traffic_begin_13 : decode gc_Traffic_begin 13 = .ok (.bipush 9, 2) := by decide +kernel
theorem dq_Traffic_begin_15 : decode gc_Traffic_begin 15 = .ok (.if_icmp .ge 58, 3) := by decide +kernel
theorem dq_Traffic_begin_18 : decode gc_Traffic_begin 18 = .ok (.aload_n 0, 1) := by decide +kernel
theorem dq_Traffic_begin_19 : decode gc_Traffic_begin 19 = .ok (.getfield 11, 3) := by decide +kernel
theorem dq_Traffic_begin_22 : decode gc_Traffic_begin 22 = .ok (.iload_n 2, 1) := by decide +kernel
theorem dq_Traffic_begin_23 : decode gc_Traffic_begin 23 = .ok (.aload_n 0, 1) := by decide +kernel
theorem dq_Traffic_begin_24 : decode gc_Traffic_begin 24 = .ok (.getfield 45, 3) := by decide +kernel
theorem dq_Traffic_begin_27 : decode gc_Traffic_begin 27 = .ok (.getfield 53, 3) := by decide +kernel
theorem dq_Traffic_begin_30 : decode gc_Traffic_begin 30 = .ok (.iload_n 2, 1) := by decide +kernel
theorem dq_Traffic_begin_31 : decode gc_Traffic_begin 31 = .ok (.iaload, 1) := by decide +kernel
theorem dq_Traffic_begin_32 : decode gc_Traffic_begin 32 = .ok (.iastore, 1) := by decide +kernel
theorem dq_Traffic_begin_33 : decode gc_Traffic_begin 33 = .ok (.aload_n 0, 1) := by decide +kernel
theorem dq_Traffic_begin_34 : decode gc_Traffic_begin 34 = .ok (.getfield 17, 3) := by decide +kernel
theorem dq_Traffic_begin_37 : decode gc_Traffic_begin 37 = .ok (.iload_n 2, 1) := by decide +kernel
theorem dq_Traffic_begin_38 : decode gc_Traffic_begin 38 = .ok (.iconst 0, 1) := by decide +kernel
theorem dq_Traffic_begin_39 : decode gc_Traffic_begin 39 = .ok (.iastore, 1) := by decide +kernel
theorem dq_Traffic_begin_40 : decode gc_Traffic_begin 40 = .ok (.aload_n 0, 1) := by decide +kernel
theorem dq_Traffic_begin_41 : decode gc_Traffic_begin 41 = .ok (.getfield 20, 3) := by decide +kernel
theorem dq_Traffic_begin_44 : decode gc_Traffic_begin 44 = .ok (.iload_n 2, 1) := by decide +kernel
theorem dq_Traffic_begin_45 : decode gc_Traffic_begin 45 = .ok (.iconst 0, 1) := by decide +kernel
theorem dq_Traffic_begin_46 : decode gc_Traffic_begin 46 = .ok (.iastore, 1) := by decide +kernel
theorem dq_Traffic_begin_47 : decode gc_Traffic_begin 47 = .ok (.aload_n 0, 1) := by decide +kernel
theorem dq_Traffic_begin_48 : decode gc_Traffic_begin 48 = .ok (.getfield 23, 3) := by decide +kernel
theorem dq_Traffic_begin_51 : decode gc_Traffic_begin 51 = .ok (.iconst 2, 1) := by decide +kernel
theorem dq_Traffic_begin_52 : decode gc_Traffic_begin 52 = .ok (.iload_n 2, 1) := by decide +kernel
theorem dq_Traffic_begin_53 : decode gc_Traffic_begin 53 = .ok (.imul, 1) := by decide +kernel
theorem dq_Traffic_begin_54 : decode gc_Traffic_begin 54 = .ok (.iconst 0, 1) := by decide +kernel
theorem dq_Traffic_begin_55 : decode gc_Traffic_begin 55 = .ok (.iastore, 1) := by decide +kernel
theorem dq_Traffic_begin_56 : decode gc_Traffic_begin 56 = .ok (.aload_n 0, 1) := by decide +kernel
theorem dq_Traffic_begin_57 : decode gc_Traffic_begin 57 = .ok (.getfield 23, 3) := by decide +kernel
theorem dq_Traffic_begin_60 : decode gc_Traffic_begin 60 = .ok (.iconst 2, 1) := by decide +kernel
theorem dq_Traffic_begin_61 : decode gc_Traffic_begin 61 = .ok (.iload_n 2, 1) := by decide +kernel
theorem dq_Traffic_begin_62 : decode gc_Traffic_begin 62 = .ok (.imul, 1) := by decide +kernel
theorem dq_Traffic_begin_63 : decode gc_Traffic_begin 63 = .ok (.iconst 1, 1) := by decide +kernel
theorem dq_Traffic_begin_64 : decode gc_Traffic_begin 64 = .ok (.iadd, 1) := by decide +kernel
theorem dq_Traffic_begin_65 : decode gc_Traffic_begin 65 = .ok (.iconst 0, 1) := by decide +kernel
theorem dq_Traffic_begin_66 : decode gc_Traffic_begin 66 = .ok (.iastore, 1) := by decide +kernel
theorem dq_Traffic_begin_67 : decode gc_Traffic_begin 67 = .ok (.iinc 2 1, 3) := by decide +kernel
theorem dq_Traffic_begin_70 : decode gc_Traffic_begin 70 = .ok (.goto (-58), 3) := by decide +kernel
theorem dq_Traffic_begin_73 : decode gc_Traffic_begin 73 = .ok (.iconst 0, 1) := by decide +kernel
theorem dq_Traffic_begin_74 : decode gc_Traffic_begin 74 = .ok (.istore_n 2, 1) := by decide +kernel
theorem dq_Traffic_begin_75 : decode gc_Traffic_begin 75 = .ok (.iload_n 2, 1) := by decide +kernel
theorem dq_Traffic_begin_76 : decode gc_Traffic_begin 76 = .ok (.bipush 6, 2) := by decide +kernel
theorem dq_Traffic_begin_78 : decode gc_Traffic_begin 78 = .ok (.if_icmp .ge 60, 3) := by decide +kernel
theorem dq_Traffic_begin_81 : decode gc_Traffic_begin 81 = .ok (.aload_n 0, 1) := by decide +kernel
theorem dq_Traffic_begin_82 : decode gc_Traffic_begin 82 = .ok (.getfield 26, 3) := by decide +kernel
theorem dq_Traffic_begin_85 : decode gc_Traffic_begin 85 = .ok (.iload_n 2, 1) := by decide +kernel
theorem dq_Traffic_begin_86 : decode gc_Traffic_begin 86 = .ok (.aload_n 0, 1) := by decide +kernel
theorem dq_Traffic_begin_87 : decode gc_Traffic_begin 87 = .ok (.getfield 45, 3) := by decide +kernel
theorem dq_Traffic_begin_90 : decode gc_Traffic_begin 90 = .ok (.getfield 56, 3) := by decide +kernel
theorem dq_Traffic_begin_93 : decode gc_Traffic_begin 93 = .ok (.iload_n 2, 1) := by decide +kernel
theorem dq_Traffic_begin_94 : decode gc_Traffic_begin 94 = .ok (.iaload, 1) := by decide +kernel
theorem dq_Traffic_begin_95 : decode gc_Traffic_begin 95 = .ok (.iastore, 1) := by decide +kernel
theorem dq_Traffic_begin_96 : decode gc_Traffic_begin 96 = .ok (.aload_n 0, 1) := by decide +kernel
theorem dq_Traffic_begin_97 : decode gc_Traffic_begin 97 = .ok (.getfield 29, 3) := by decide +kernel
theorem dq_Traffic_begin_100 : decode gc_Traffic_begin 100 = .ok (.iload_n 2, 1) := by decide +kernel
theorem dq_Traffic_begin_101 : decode gc_Traffic_begin 101 = .ok (.iconst 0, 1) := by decide +kernel
theorem dq_Traffic_begin_102 : decode gc_Traffic_begin 102 = .ok (.iastore, 1) := by decide +kernel
theorem dq_Traffic_begin_103 : decode gc_Traffic_begin 103 = .ok (.aload_n 0, 1) := by decide +kernel
theorem dq_Traffic_begin_104 : decode gc_Traffic_begin 104 = .ok (.getfield 32, 3) := by decide +kernel
theorem dq_Traffic_begin_107 : decode gc_Traffic_begin 107 = .ok (.iload_n 2, 1) := by decide +kernel
theorem dq_Traffic_begin_108 : decode gc_Traffic_begin 108 = .ok (.aload_n 0, 1) := by decide +kernel
theorem dq_Traffic_begin_109 : decode gc_Traffic_begin 109 = .ok (.getfield 45, 3) := by decide +kernel
theorem dq_Traffic_begin_112 : decode gc_Traffic_begin 112 = .ok (.getfield 59, 3) := by decide +kernel
theorem dq_Traffic_begin_115 : decode gc_Traffic_begin 115 = .ok (.iload_n 2, 1) := by decide +kernel
theorem dq_Traffic_begin_116 : decode gc_Traffic_begin 116 = .ok (.iaload, 1) := by decide +kernel
theorem dq_Traffic_begin_117 : decode gc_Traffic_begin 117 = .ok (.iastore, 1) := by decide +kernel
theorem dq_Traffic_begin_118 : decode gc_Traffic_begin 118 = .ok (.aload_n 0, 1) := by decide +kernel
theorem dq_Traffic_begin_119 : decode gc_Traffic_begin 119 = .ok (.getfield 35, 3) := by decide +kernel
theorem dq_Traffic_begin_122 : decode gc_Traffic_begin 122 = .ok (.iload_n 2, 1) := by decide +kernel
theorem dq_Traffic_begin_123 : decode gc_Traffic_begin 123 = .ok (.iconst (-1), 1) := by decide +kernel
theorem dq_Traffic_begin_124 : decode gc_Traffic_begin 124 = .ok (.iastore, 1) := by decide +kernel
theorem dq_Traffic_begin_125 : decode gc_Traffic_begin 125 = .ok (.aload_n 0, 1) := by decide +kernel
theorem dq_Traffic_begin_126 : decode gc_Traffic_begin 126 = .ok (.getfield 38, 3) := by decide +kernel
theorem dq_Traffic_begin_129 : decode gc_Traffic_begin 129 = .ok (.iload_n 2, 1) := by decide +kernel
theorem dq_Traffic_begin_130 : decode gc_Traffic_begin 130 = .ok (.iconst 0, 1) := by decide +kernel
theorem dq_Traffic_begin_131 : decode gc_Traffic_begin 131 = .ok (.iastore, 1) := by decide +kernel
theorem dq_Traffic_begin_132 : decode gc_Traffic_begin 132 = .ok (.iinc 2 1, 3) := by decide +kernel
theorem dq_Traffic_begin_135 : decode gc_Traffic_begin 135 = .ok (.goto (-60), 3) := by decide +kernel
theorem dq_Traffic_begin_138 : decode gc_Traffic_begin 138 = .ok (.return_, 1) := by decide +kernel
abbrev gm_Traffic_begin : gM := (gc_Traffic_begin, gR_4, 0, 0, 3)
theorem gfp_Traffic_45 : gFp gR_4 45 4 0 (.object "DecreedStreets$City") := ⟨_, _, _, gt_4, rfl, by decide, (gtab_at 152 (by decide +kernel) rfl), gin_4, gto_4, gnm_4, rfl, by decide +kernel⟩
theorem gfp_Traffic_49 : gFp gR_4 49 4 1 .int := ⟨_, _, _, gt_4, rfl, by decide, (gtab_at 155 (by decide +kernel) rfl), gin_4, gto_4, gnm_4, rfl, by decide +kernel⟩
theorem gfl_Traffic_11 : gFl gR_4 11 4 3 := ⟨_, _, _, rfl, by decide, (gtab_at 159 (by decide +kernel) rfl), gin_4⟩
theorem gfl_Traffic_45 : gFl gR_4 45 4 0 := ⟨_, _, _, rfl, by decide, (gtab_at 152 (by decide +kernel) rfl), gin_4⟩
theorem gfl_Traffic_53 : gFl gR_4 53 0 7 := ⟨_, _, _, rfl, by decide, (gtab_at 60 (by decide +kernel) rfl), gin_0⟩
theorem gfl_Traffic_17 : gFl gR_4 17 4 4 := ⟨_, _, _, rfl, by decide, (gtab_at 162 (by decide +kernel) rfl), gin_4⟩
theorem gfl_Traffic_20 : gFl gR_4 20 4 5 := ⟨_, _, _, rfl, by decide, (gtab_at 164 (by decide +kernel) rfl), gin_4⟩
theorem gfl_Traffic_23 : gFl gR_4 23 4 6 := ⟨_, _, _, rfl, by decide, (gtab_at 166 (by decide +kernel) rfl), gin_4⟩
theorem gfl_Traffic_26 : gFl gR_4 26 4 7 := ⟨_, _, _, rfl, by decide, (gtab_at 168 (by decide +kernel) rfl), gin_4⟩
theorem gfl_Traffic_56 : gFl gR_4 56 0 11 := ⟨_, _, _, rfl, by decide, (gtab_at 75 (by decide +kernel) rfl), gin_0⟩
theorem gfl_Traffic_29 : gFl gR_4 29 4 8 := ⟨_, _, _, rfl, by decide, (gtab_at 171 (by decide +kernel) rfl), gin_4⟩
theorem gfl_Traffic_32 : gFl gR_4 32 4 9 := ⟨_, _, _, rfl, by decide, (gtab_at 173 (by decide +kernel) rfl), gin_4⟩
theorem gfl_Traffic_59 : gFl gR_4 59 0 8 := ⟨_, _, _, rfl, by decide, (gtab_at 63 (by decide +kernel) rfl), gin_0⟩
theorem gfl_Traffic_35 : gFl gR_4 35 4 10 := ⟨_, _, _, rfl, by decide, (gtab_at 175 (by decide +kernel) rfl), gin_4⟩
theorem gfl_Traffic_38 : gFl gR_4 38 4 11 := ⟨_, _, _, rfl, by decide, (gtab_at 177 (by decide +kernel) rfl), gin_4⟩
def f_Traffic_begin_L12 (t : Nat) (p1 : Nat) (k73 : gH → Option gO) : Nat → Int → gH → Option gO
  | 0, _, _ => none
  | n + 1, v2, h => if 9 ≤ v2 then (k73  h) else (gd (gcl ((h t 0).toNat) 0) (gd (gix 9 v2) (gd (gix 9 v2) (gs (gup h (t + 1) v2.toNat (h ((h t 0).toNat + 4) v2.toNat)) (fun h5 => gd (gix 9 v2) (gs (gup h5 (t + 2) v2.toNat 0) (fun h6 => gd (gix 9 v2) (gs (gup h6 (t + 3) v2.toNat 0) (fun h7 => gd (gix 18 (gmul 2 v2)) (gs (gup h7 (t + 4) (gmul 2 v2).toNat 0) (fun h8 => gd (gix 18 (gadd (gmul 2 v2) 1)) (gs (gup h8 (t + 4) (gadd (gmul 2 v2) 1).toNat 0) (fun h9 => f_Traffic_begin_L12 t p1 k73 n (gadd v2 1) h9)))))))))))))
theorem w_Traffic_begin_L12 {o : gO} {X : gX} (hL : gLive (xZ X)) (hn : (zL (xZ X)).Nodup) (hF : gFin X none o) {t : Nat} {p1 : Nat} (ht : gsh t = .inr 4) (hp1 : gsh p1 = .inr 0)  {k73 : gH → Option gO} (hk73 : ∀ (h : gH), gr (k73 h) o gm_Traffic_begin X h 73 [(0, .inr (.inr t))] []) : ∀ (n : Nat) (v2 : Int) (h : gH), gr (f_Traffic_begin_L12 t p1 k73 n v2 h) o gm_Traffic_begin X h 12 [(0, .inr (.inr t)), (2, .inl v2)] [] := by
  intro n
  induction n with
  | zero => intros; exact gr_none
  | succ n ih =>
    intro v2 h
    unfold f_Traffic_begin_L12
    refine gr_iload_n (M := gm_Traffic_begin) dq_Traffic_begin_12 rfl 1 rfl 13 rfl ?_
    refine gr_bipush (M := gm_Traffic_begin) (v := 9) dq_Traffic_begin_13 (by decide) ⟨by decide, by decide⟩ 15 rfl ?_
    refine gr_icmp_ge (M := gm_Traffic_begin) dq_Traffic_begin_15 73 18 rfl rfl (fun c3 => ?_) (fun c3 => ?_)
    · refine gr_sub (M := gm_Traffic_begin) (lv' := [(0, .inr (.inr t))]) [0] rfl ?_
      exact hk73  _
    refine gr_aload_n (M := gm_Traffic_begin) dq_Traffic_begin_18 rfl 0 rfl 19 rfl ?_
    refine gr_getr (M := gm_Traffic_begin) dq_Traffic_begin_19 22 rfl gfl_Traffic_11 ht rfl (gli hL ht) (t + 1) rfl ?_
    refine gr_iload_n (M := gm_Traffic_begin) dq_Traffic_begin_22 rfl 1 rfl 23 rfl ?_
    refine gr_aload_n (M := gm_Traffic_begin) dq_Traffic_begin_23 rfl 0 rfl 24 rfl ?_
    refine gr_getd (M := gm_Traffic_begin) dq_Traffic_begin_24 27 rfl gfl_Traffic_45 ht rfl (gli hL ht) (fun hc4 => ?_)
    refine gr_getr (M := gm_Traffic_begin) dq_Traffic_begin_27 30 rfl gfl_Traffic_53 (gclE hc4) rfl (gli hL (gclE hc4)) ((h t 0).toNat + 4) rfl ?_
    refine gr_iload_n (M := gm_Traffic_begin) dq_Traffic_begin_30 rfl 1 rfl 31 rfl ?_
    refine gr_iald (M := gm_Traffic_begin) dq_Traffic_begin_31 32 rfl (gsC_4 (gclE hc4)) (glj hL (gsC_4 (gclE hc4)) (by decide)) ?_
    refine gr_iast (M := gm_Traffic_begin) dq_Traffic_begin_32 33 rfl (gsT_1 ht) (glj hL (gsT_1 ht) (by decide)) (fun h5 _ => ?_)
    refine gr_aload_n (M := gm_Traffic_begin) dq_Traffic_begin_33 rfl 0 rfl 34 rfl ?_
    refine gr_getr (M := gm_Traffic_begin) dq_Traffic_begin_34 37 rfl gfl_Traffic_17 ht rfl (gli hL ht) (t + 2) rfl ?_
    refine gr_iload_n (M := gm_Traffic_begin) dq_Traffic_begin_37 rfl 1 rfl 38 rfl ?_
    refine gr_iconst (M := gm_Traffic_begin) (v := 0) dq_Traffic_begin_38 rfl ⟨by decide, by decide⟩ 39 rfl ?_
    refine gr_iast (M := gm_Traffic_begin) dq_Traffic_begin_39 40 rfl (gsT_2 ht) (glj hL (gsT_2 ht) (by decide)) (fun h6 _ => ?_)
    refine gr_aload_n (M := gm_Traffic_begin) dq_Traffic_begin_40 rfl 0 rfl 41 rfl ?_
    refine gr_getr (M := gm_Traffic_begin) dq_Traffic_begin_41 44 rfl gfl_Traffic_20 ht rfl (gli hL ht) (t + 3) rfl ?_
    refine gr_iload_n (M := gm_Traffic_begin) dq_Traffic_begin_44 rfl 1 rfl 45 rfl ?_
    refine gr_iconst (M := gm_Traffic_begin) (v := 0) dq_Traffic_begin_45 rfl ⟨by decide, by decide⟩ 46 rfl ?_
    refine gr_iast (M := gm_Traffic_begin) dq_Traffic_begin_46 47 rfl (gsT_3 ht) (glj hL (gsT_3 ht) (by decide)) (fun h7 _ => ?_)
    refine gr_aload_n (M := gm_Traffic_begin) dq_Traffic_begin_47 rfl 0 rfl 48 rfl ?_
    refine gr_getr (M := gm_Traffic_begin) dq_Traffic_begin_48 51 rfl gfl_Traffic_23 ht rfl (gli hL ht) (t + 4) rfl ?_
    refine gr_iconst (M := gm_Traffic_begin) (v := 2) dq_Traffic_begin_51 rfl ⟨by decide, by decide⟩ 52 rfl ?_
    refine gr_iload_n (M := gm_Traffic_begin) dq_Traffic_begin_52 rfl 1 rfl 53 rfl ?_
    refine gr_imul (M := gm_Traffic_begin) dq_Traffic_begin_53 54 rfl ?_
    refine gr_iconst (M := gm_Traffic_begin) (v := 0) dq_Traffic_begin_54 rfl ⟨by decide, by decide⟩ 55 rfl ?_
    refine gr_iast (M := gm_Traffic_begin) dq_Traffic_begin_55 56 rfl (gsT_4 ht) (glj hL (gsT_4 ht) (by decide)) (fun h8 _ => ?_)
    refine gr_aload_n (M := gm_Traffic_begin) dq_Traffic_begin_56 rfl 0 rfl 57 rfl ?_
    refine gr_getr (M := gm_Traffic_begin) dq_Traffic_begin_57 60 rfl gfl_Traffic_23 ht rfl (gli hL ht) (t + 4) rfl ?_
    refine gr_iconst (M := gm_Traffic_begin) (v := 2) dq_Traffic_begin_60 rfl ⟨by decide, by decide⟩ 61 rfl ?_
    refine gr_iload_n (M := gm_Traffic_begin) dq_Traffic_begin_61 rfl 1 rfl 62 rfl ?_
    refine gr_imul (M := gm_Traffic_begin) dq_Traffic_begin_62 63 rfl ?_
    refine gr_iconst (M := gm_Traffic_begin) (v := 1) dq_Traffic_begin_63 rfl ⟨by decide, by decide⟩ 64 rfl ?_
    refine gr_iadd (M := gm_Traffic_begin) dq_Traffic_begin_64 65 rfl ?_
    refine gr_iconst (M := gm_Traffic_begin) (v := 0) dq_Traffic_begin_65 rfl ⟨by decide, by decide⟩ 66 rfl ?_
    refine gr_iast (M := gm_Traffic_begin) dq_Traffic_begin_66 67 rfl (gsT_4 ht) (glj hL (gsT_4 ht) (by decide)) (fun h9 _ => ?_)
    refine gr_iinc (M := gm_Traffic_begin) (lv' := [(2, .inl (gadd v2 1)), (0, .inr (.inr t))]) dq_Traffic_begin_67 1 rfl rfl (by decide) rfl 70 rfl ?_
    refine gr_goto (M := gm_Traffic_begin) dq_Traffic_begin_70 12 rfl ?_
    refine gr_sub (M := gm_Traffic_begin) (lv' := [(0, .inr (.inr t)), (2, .inl (gadd v2 1))]) [1, 0] rfl ?_
    exact ih _ _

def f_Traffic_begin_L75 (t : Nat) (p1 : Nat) (k138 : gH → Option gO) : Nat → Int → gH → Option gO
  | 0, _, _ => none
  | n + 1, v2, h => if 6 ≤ v2 then (k138  h) else (gd (gcl ((h t 0).toNat) 0) (gd (gix 6 v2) (gd (gix 6 v2) (gs (gup h (t + 5) v2.toNat (h ((h t 0).toNat + 8) v2.toNat)) (fun h13 => gd (gix 6 v2) (gs (gup h13 (t + 6) v2.toNat 0) (fun h14 => gd (gcl ((h14 t 0).toNat) 0) (gd (gix 6 v2) (gd (gix 6 v2) (gs (gup h14 (t + 7) v2.toNat (h14 ((h14 t 0).toNat + 5) v2.toNat)) (fun h16 => gd (gix 6 v2) (gs (gup h16 (t + 8) v2.toNat (-1)) (fun h17 => gd (gix 6 v2) (gs (gup h17 (t + 9) v2.toNat 0) (fun h18 => f_Traffic_begin_L75 t p1 k138 n (gadd v2 1) h18)))))))))))))))
theorem w_Traffic_begin_L75 {o : gO} {X : gX} (hL : gLive (xZ X)) (hn : (zL (xZ X)).Nodup) (hF : gFin X none o) {t : Nat} {p1 : Nat} (ht : gsh t = .inr 4) (hp1 : gsh p1 = .inr 0)  {k138 : gH → Option gO} (hk138 : ∀ (h : gH), gr (k138 h) o gm_Traffic_begin X h 138 [] []) : ∀ (n : Nat) (v2 : Int) (h : gH), gr (f_Traffic_begin_L75 t p1 k138 n v2 h) o gm_Traffic_begin X h 75 [(0, .inr (.inr t)), (2, .inl v2)] [] := by
  intro n
  induction n with
  | zero => intros; exact gr_none
  | succ n ih =>
    intro v2 h
    unfold f_Traffic_begin_L75
    refine gr_iload_n (M := gm_Traffic_begin) dq_Traffic_begin_75 rfl 1 rfl 76 rfl ?_
    refine gr_bipush (M := gm_Traffic_begin) (v := 6) dq_Traffic_begin_76 (by decide) ⟨by decide, by decide⟩ 78 rfl ?_
    refine gr_icmp_ge (M := gm_Traffic_begin) dq_Traffic_begin_78 138 81 rfl rfl (fun c11 => ?_) (fun c11 => ?_)
    · refine gr_sub (M := gm_Traffic_begin) (lv' := []) [] rfl ?_
      exact hk138  _
    refine gr_aload_n (M := gm_Traffic_begin) dq_Traffic_begin_81 rfl 0 rfl 82 rfl ?_
    refine gr_getr (M := gm_Traffic_begin) dq_Traffic_begin_82 85 rfl gfl_Traffic_26 ht rfl (gli hL ht) (t + 5) rfl ?_
    refine gr_iload_n (M := gm_Traffic_begin) dq_Traffic_begin_85 rfl 1 rfl 86 rfl ?_
    refine gr_aload_n (M := gm_Traffic_begin) dq_Traffic_begin_86 rfl 0 rfl 87 rfl ?_
    refine gr_getd (M := gm_Traffic_begin) dq_Traffic_begin_87 90 rfl gfl_Traffic_45 ht rfl (gli hL ht) (fun hc12 => ?_)
    refine gr_getr (M := gm_Traffic_begin) dq_Traffic_begin_90 93 rfl gfl_Traffic_56 (gclE hc12) rfl (gli hL (gclE hc12)) ((h t 0).toNat + 8) rfl ?_
    refine gr_iload_n (M := gm_Traffic_begin) dq_Traffic_begin_93 rfl 1 rfl 94 rfl ?_
    refine gr_iald (M := gm_Traffic_begin) dq_Traffic_begin_94 95 rfl (gsC_8 (gclE hc12)) (glj hL (gsC_8 (gclE hc12)) (by decide)) ?_
    refine gr_iast (M := gm_Traffic_begin) dq_Traffic_begin_95 96 rfl (gsT_5 ht) (glj hL (gsT_5 ht) (by decide)) (fun h13 _ => ?_)
    refine gr_aload_n (M := gm_Traffic_begin) dq_Traffic_begin_96 rfl 0 rfl 97 rfl ?_
    refine gr_getr (M := gm_Traffic_begin) dq_Traffic_begin_97 100 rfl gfl_Traffic_29 ht rfl (gli hL ht) (t + 6) rfl ?_
    refine gr_iload_n (M := gm_Traffic_begin) dq_Traffic_begin_100 rfl 1 rfl 101 rfl ?_
    refine gr_iconst (M := gm_Traffic_begin) (v := 0) dq_Traffic_begin_101 rfl ⟨by decide, by decide⟩ 102 rfl ?_
    refine gr_iast (M := gm_Traffic_begin) dq_Traffic_begin_102 103 rfl (gsT_6 ht) (glj hL (gsT_6 ht) (by decide)) (fun h14 _ => ?_)
    refine gr_aload_n (M := gm_Traffic_begin) dq_Traffic_begin_103 rfl 0 rfl 104 rfl ?_
    refine gr_getr (M := gm_Traffic_begin) dq_Traffic_begin_104 107 rfl gfl_Traffic_32 ht rfl (gli hL ht) (t + 7) rfl ?_
    refine gr_iload_n (M := gm_Traffic_begin) dq_Traffic_begin_107 rfl 1 rfl 108 rfl ?_
    refine gr_aload_n (M := gm_Traffic_begin) dq_Traffic_begin_108 rfl 0 rfl 109 rfl ?_
    refine gr_getd (M := gm_Traffic_begin) dq_Traffic_begin_109 112 rfl gfl_Traffic_45 ht rfl (gli hL ht) (fun hc15 => ?_)
    refine gr_getr (M := gm_Traffic_begin) dq_Traffic_begin_112 115 rfl gfl_Traffic_59 (gclE hc15) rfl (gli hL (gclE hc15)) ((h14 t 0).toNat + 5) rfl ?_
    refine gr_iload_n (M := gm_Traffic_begin) dq_Traffic_begin_115 rfl 1 rfl 116 rfl ?_
    refine gr_iald (M := gm_Traffic_begin) dq_Traffic_begin_116 117 rfl (gsC_5 (gclE hc15)) (glj hL (gsC_5 (gclE hc15)) (by decide)) ?_
    refine gr_iast (M := gm_Traffic_begin) dq_Traffic_begin_117 118 rfl (gsT_7 ht) (glj hL (gsT_7 ht) (by decide)) (fun h16 _ => ?_)
    refine gr_aload_n (M := gm_Traffic_begin) dq_Traffic_begin_118 rfl 0 rfl 119 rfl ?_
    refine gr_getr (M := gm_Traffic_begin) dq_Traffic_begin_119 122 rfl gfl_Traffic_35 ht rfl (gli hL ht) (t + 8) rfl ?_
    refine gr_iload_n (M := gm_Traffic_begin) dq_Traffic_begin_122 rfl 1 rfl 123 rfl ?_
    refine gr_iconst (M := gm_Traffic_begin) (v := (-1)) dq_Traffic_begin_123 rfl ⟨by decide, by decide⟩ 124 rfl ?_
    refine gr_iast (M := gm_Traffic_begin) dq_Traffic_begin_124 125 rfl (gsT_8 ht) (glj hL (gsT_8 ht) (by decide)) (fun h17 _ => ?_)
    refine gr_aload_n (M := gm_Traffic_begin) dq_Traffic_begin_125 rfl 0 rfl 126 rfl ?_
    refine gr_getr (M := gm_Traffic_begin) dq_Traffic_begin_126 129 rfl gfl_Traffic_38 ht rfl (gli hL ht) (t + 9) rfl ?_
    refine gr_iload_n (M := gm_Traffic_begin) dq_Traffic_begin_129 rfl 1 rfl 130 rfl ?_
    refine gr_iconst (M := gm_Traffic_begin) (v := 0) dq_Traffic_begin_130 rfl ⟨by decide, by decide⟩ 131 rfl ?_
    refine gr_iast (M := gm_Traffic_begin) dq_Traffic_begin_131 132 rfl (gsT_9 ht) (glj hL (gsT_9 ht) (by decide)) (fun h18 _ => ?_)
    refine gr_iinc (M := gm_Traffic_begin) (lv' := [(2, .inl (gadd v2 1)), (0, .inr (.inr t))]) dq_Traffic_begin_132 1 rfl rfl (by decide) rfl 135 rfl ?_
    refine gr_goto (M := gm_Traffic_begin) dq_Traffic_begin_135 75 rfl ?_
    refine gr_sub (M := gm_Traffic_begin) (lv' := [(0, .inr (.inr t)), (2, .inl (gadd v2 1))]) [1, 0] rfl ?_
    exact ih _ _

def f_Traffic_begin (t : Nat) (p1 : Nat) (h : gH) : Option gO := gs (gup h t 0 ((p1 : Nat) : Int)) (fun h1 => gs (gup h1 t 1 0) (fun h2 => f_Traffic_begin_L12 t p1 (fun  h10 => f_Traffic_begin_L75 t p1 (fun  h19 => some (h19, 0)) 50000 0 h10) 50000 0 h2))
theorem c_Traffic_begin {Z : gZ} (hL : gLive Z) (hn : (zL Z).Nodup) {t : Nat} {p1 : Nat} (ht : gsh t = .inr 4) (hp1 : gsh p1 = .inr 0) {h : gH} {o : gO} (hg : gRg h) (ha : gRl [.inr (.inr t), .inr (.inr p1)]) (hx : f_Traffic_begin t p1 h = some o) : gC Z gy_Traffic_begin gc_Traffic_begin 3 none 0 0 [.inr (.inr t), .inr (.inr p1)] h o := by
  unfold f_Traffic_begin at hx
  refine gC_of (lv := [(0, .inr (.inr t)), (1, .inr (.inr p1))]) (own := gR_4) (by decide +kernel) rfl (Nat.le_of_ble_eq_true rfl) rfl rfl hn hg ha hx (fun X hZ hF => ?_)
  subst hZ
  show gr _ o gm_Traffic_begin X h 0 _ _
  refine gr_aload_n (M := gm_Traffic_begin) dq_Traffic_begin_0 rfl 0 rfl 1 rfl ?_
  refine gr_aload_n (M := gm_Traffic_begin) dq_Traffic_begin_1 rfl 1 rfl 2 rfl ?_
  refine gr_putd (M := gm_Traffic_begin) dq_Traffic_begin_2 5 rfl gfp_Traffic_45 ht rfl (gli hL ht) hp1 (fun h1 _ => ?_)
  refine gr_aload_n (M := gm_Traffic_begin) dq_Traffic_begin_5 rfl 0 rfl 6 rfl ?_
  refine gr_iconst (M := gm_Traffic_begin) (v := 0) dq_Traffic_begin_6 rfl ⟨by decide, by decide⟩ 7 rfl ?_
  refine gr_puti (M := gm_Traffic_begin) dq_Traffic_begin_7 10 rfl gfp_Traffic_49 ht rfl (gli hL ht) (fun h2 _ => ?_)
  refine gr_iconst (M := gm_Traffic_begin) (v := 0) dq_Traffic_begin_10 rfl ⟨by decide, by decide⟩ 11 rfl ?_
  refine gr_istore_n (M := gm_Traffic_begin) (lv' := [(2, .inl 0), (0, .inr (.inr t)), (1, .inr (.inr p1))]) dq_Traffic_begin_11 rfl (by decide) rfl 12 rfl ?_
  refine gr_sub (M := gm_Traffic_begin) (lv' := [(0, .inr (.inr t)), (2, .inl 0)]) [1, 0] rfl ?_
  refine w_Traffic_begin_L12 hL hn hF ht hp1  (fun h10 => ?_) 50000 _ _
  refine gr_iconst (M := gm_Traffic_begin) (v := 0) dq_Traffic_begin_73 rfl ⟨by decide, by decide⟩ 74 rfl ?_
  refine gr_istore_n (M := gm_Traffic_begin) (lv' := [(2, .inl 0), (0, .inr (.inr t))]) dq_Traffic_begin_74 rfl (by decide) rfl 75 rfl ?_
  refine gr_sub (M := gm_Traffic_begin) (lv' := [(0, .inr (.inr t)), (2, .inl 0)]) [1, 0] rfl ?_
  refine w_Traffic_begin_L75 hL hn hF ht hp1  (fun h19 => ?_) 50000 _ _
  exact gr_return (M := gm_Traffic_begin) dq_Traffic_begin_138 hF

-- Traffic_copyFrom
theorem dq_Traffic_copyFrom_0 : decode gc_Traffic_copyFrom 0 = .ok (.aload_n 0, 1) := by decide +kernel
theorem dq_Traffic_copyFrom_1 : decode gc_Traffic_copyFrom 1 = .ok (.aload_n 1, 1) := by decide +kernel
theorem dq_Traffic_copyFrom_2 : decode gc_Traffic_copyFrom 2 = .ok (.getfield 45, 3) := by decide +kernel
theorem dq_Traffic_copyFrom_5 : decode gc_Traffic_copyFrom 5 = .ok (.putfield 45, 3) := by decide +kernel
theorem dq_Traffic_copyFrom_8 : decode gc_Traffic_copyFrom 8 = .ok (.aload_n 0, 1) := by decide +kernel
theorem dq_Traffic_copyFrom_9 : decode gc_Traffic_copyFrom 9 = .ok (.aload_n 1, 1) := by decide +kernel
theorem dq_Traffic_copyFrom_10 : decode gc_Traffic_copyFrom 10 = .ok (.getfield 49, 3) := by decide +kernel
theorem dq_Traffic_copyFrom_13 : decode gc_Traffic_copyFrom 13 = .ok (.putfield 49, 3) := by decide +kernel
theorem dq_Traffic_copyFrom_16 : decode gc_Traffic_copyFrom 16 = .ok (.aload_n 0, 1) := by decide +kernel
theorem dq_Traffic_copyFrom_17 : decode gc_Traffic_copyFrom 17 = .ok (.aload_n 1, 1) := by decide +kernel
theorem dq_Traffic_copyFrom_18 : decode gc_Traffic_copyFrom 18 = .ok (.getfield 62, 3) := by decide +kernel
theorem dq_Traffic_copyFrom_21 : decode gc_Traffic_copyFrom 21 = .ok (.putfield 62, 3) := by decide +kernel
theorem dq_Traffic_copyFrom_24 : decode gc_Traffic_copyFrom 24 = .ok (.aload_n 1, 1) := by decide +kernel
theorem dq_Traffic_copyFrom_25 : decode gc_Traffic_copyFrom 25 = .ok (.getfield 11, 3) := by decide +kernel
theorem dq_Traffic_copyFrom_28 : decode gc_Traffic_copyFrom 28 = .ok (.iconst 0, 1) := by decide +kernel
theorem dq_Traffic_copyFrom_29 : decode gc_Traffic_copyFrom 29 = .ok (.aload_n 0, 1) := by decide +kernel
theorem dq_Traffic_copyFrom_30 : decode gc_Traffic_copyFrom 30 = .ok (.getfield 11, 3) := by decide +kernel
theorem dq_Traffic_copyFrom_33 : decode gc_Traffic_copyFrom 33 = .ok (.iconst 0, 1) := by decide +kernel
theorem dq_Traffic_copyFrom_34 : decode gc_Traffic_copyFrom 34 = .ok (.bipush 9, 2) := by decide +kernel
theorem dq_Traffic_copyFrom_36 : decode gc_Traffic_copyFrom 36 = .ok (.invokestatic 65, 3) := by decide +kernel
theorem dq_Traffic_copyFrom_39 : decode gc_Traffic_copyFrom 39 = .ok (.aload_n 1, 1) := by decide +kernel
theorem dq_Traffic_copyFrom_40 : decode gc_Traffic_copyFrom 40 = .ok (.getfield 17, 3) := by decide +kernel
theorem dq_Traffic_copyFrom_43 : decode gc_Traffic_copyFrom 43 = .ok (.iconst 0, 1) := by decide +kernel
theorem dq_Traffic_copyFrom_44 : decode gc_Traffic_copyFrom 44 = .ok (.aload_n 0, 1) := by decide +kernel
theorem dq_Traffic_copyFrom_45 : decode gc_Traffic_copyFrom 45 = .ok (.getfield 17, 3) := by decide +kernel
theorem dq_Traffic_copyFrom_48 : decode gc_Traffic_copyFrom 48 = .ok (.iconst 0, 1) := by decide +kernel
theorem dq_Traffic_copyFrom_49 : decode gc_Traffic_copyFrom 49 = .ok (.bipush 9, 2) := by decide +kernel
theorem dq_Traffic_copyFrom_51 : decode gc_Traffic_copyFrom 51 = .ok (.invokestatic 65, 3) := by decide +kernel
theorem dq_Traffic_copyFrom_54 : decode gc_Traffic_copyFrom 54 = .ok (.aload_n 1, 1) := by decide +kernel
theorem dq_Traffic_copyFrom_55 : decode gc_Traffic_copyFrom 55 = .ok (.getfield 20, 3) := by decide +kernel
theorem dq_Traffic_copyFrom_58 : decode gc_Traffic_copyFrom 58 = .ok (.iconst 0, 1) := by decide +kernel
theorem dq_Traffic_copyFrom_59 : decode gc_Traffic_copyFrom 59 = .ok (.aload_n 0, 1) := by decide +kernel
theorem dq_Traffic_copyFrom_60 : decode gc_Traffic_copyFrom 60 = .ok (.getfield 20, 3) := by decide +kernel
theorem dq_Traffic_copyFrom_63 : decode gc_Traffic_copyFrom 63 = .ok (.iconst 0, 1) := by decide +kernel
theorem dq_Traffic_copyFrom_64 : decode gc_Traffic_copyFrom 64 = .ok (.bipush 9, 2) := by decide +kernel
theorem dq_Traffic_copyFrom_66 : decode gc_Traffic_copyFrom 66 = .ok (.invokestatic 65, 3) := by decide +kernel
theorem dq_Traffic_copyFrom_69 : decode gc_Traffic_copyFrom 69 = .ok (.aload_n 1, 1) := by decide +kernel
theorem dq_Traffic_copyFrom_70 : decode gc_Traffic_copyFrom 70 = .ok (.getfield 23, 3) := by decide +kernel
theorem dq_Traffic_copyFrom_73 : decode gc_Traffic_copyFrom 73 = .ok (.iconst 0, 1) := by decide +kernel
theorem dq_Traffic_copyFrom_74 : decode gc_Traffic_copyFrom 74 = .ok (.aload_n 0, 1) := by decide +kernel
theorem dq_Traffic_copyFrom_75 : decode gc_Traffic_copyFrom 75 = .ok (.getfield 23, 3) := by decide +kernel
theorem dq_Traffic_copyFrom_78 : decode gc_Traffic_copyFrom 78 = .ok (.iconst 0, 1) := by decide +kernel
theorem dq_Traffic_copyFrom_79 : decode gc_Traffic_copyFrom 79 = .ok (.bipush 18, 2) := by decide +kernel
theorem dq_Traffic_copyFrom_81 : decode gc_Traffic_copyFrom 81 = .ok (.invokestatic 65, 3) := by decide +kernel
theorem dq_Traffic_copyFrom_84 : decode gc_Traffic_copyFrom 84 = .ok (.aload_n 1, 1) := by decide +kernel
theorem dq_Traffic_copyFrom_85 : decode gc_Traffic_copyFrom 85 = .ok (.getfield 26, 3) := by decide +kernel
theorem dq_Traffic_copyFrom_88 : decode gc_Traffic_copyFrom 88 = .ok (.iconst 0, 1) := by decide +kernel
theorem dq_Traffic_copyFrom_89 : decode gc_Traffic_copyFrom 89 = .ok (.aload_n 0, 1) := by decide +kernel
theorem dq_Traffic_copyFrom_90 : decode gc_Traffic_copyFrom 90 = .ok (.getfield 26, 3) := by decide +kernel
theorem dq_Traffic_copyFrom_93 : decode gc_Traffic_copyFrom 93 = .ok (.iconst 0, 1) := by decide +kernel
theorem dq_Traffic_copyFrom_94 : decode gc_Traffic_copyFrom 94 = .ok (.bipush 6, 2) := by decide +kernel
theorem dq_Traffic_copyFrom_96 : decode gc_Traffic_copyFrom 96 = .ok (.invokestatic 65, 3) := by decide +kernel
theorem dq_Traffic_copyFrom_99 : decode gc_Traffic_copyFrom 99 = .ok (.aload_n 1, 1) := by decide +kernel
theorem dq_Traffic_copyFrom_100 : decode gc_Traffic_copyFrom 100 = .ok (.getfield 29, 3) := by decide +kernel
theorem dq_Traffic_copyFrom_103 : decode gc_Traffic_copyFrom 103 = .ok (.iconst 0, 1) := by decide +kernel
theorem dq_Traffic_copyFrom_104 : decode gc_Traffic_copyFrom 104 = .ok (.aload_n 0, 1) := by decide +kernel
theorem dq_Traffic_copyFrom_105 : decode gc_Traffic_copyFrom 105 = .ok (.getfield 29, 3) := by decide +kernel
theorem dq_Traffic_copyFrom_108 : decode gc_Traffic_copyFrom 108 = .ok (.iconst 0, 1) := by decide +kernel
theorem dq_Traffic_copyFrom_109 : decode gc_Traffic_copyFrom 109 = .ok (.bipush 6, 2) := by decide +kernel
theorem dq_Traffic_copyFrom_111 : decode gc_Traffic_copyFrom 111 = .ok (.invokestatic 65, 3) := by decide +kernel
theorem dq_Traffic_copyFrom_114 : decode gc_Traffic_copyFrom 114 = .ok (.aload_n 1, 1) := by decide +kernel
theorem dq_Traffic_copyFrom_115 : decode gc_Traffic_copyFrom 115 = .ok (.getfield 32, 3) := by decide +kernel
theorem dq_Traffic_copyFrom_118 : decode gc_Traffic_copyFrom 118 = .ok (.iconst 0, 1) := by decide +kernel
theorem dq_Traffic_copyFrom_119 : decode gc_Traffic_copyFrom 119 = .ok (.aload_n 0, 1) := by decide +kernel
theorem dq_Traffic_copyFrom_120 : decode gc_Traffic_copyFrom 120 = .ok (.getfield 32, 3) := by decide +kernel
theorem dq_Traffic_copyFrom_123 : decode gc_Traffic_copyFrom 123 = .ok (.iconst 0, 1) := by decide +kernel
theorem dq_Traffic_copyFrom_124 : decode gc_Traffic_copyFrom 124 = .ok (.bipush 6, 2) := by decide +kernel
theorem dq_Traffic_copyFrom_126 : decode gc_Traffic_copyFrom 126 = .ok (.invokestatic 65, 3) := by decide +kernel
theorem dq_Traffic_copyFrom_129 : decode gc_Traffic_copyFrom 129 = .ok (.aload_n 1, 1) := by decide +kernel
theorem dq_Traffic_copyFrom_130 : decode gc_Traffic_copyFrom 130 = .ok (.getfield 35, 3) := by decide +kernel
theorem dq_Traffic_copyFrom_133 : decode gc_Traffic_copyFrom 133 = .ok (.iconst 0, 1) := by decide +kernel
theorem dq_Traffic_copyFrom_134 : decode gc_Traffic_copyFrom 134 = .ok (.aload_n 0, 1) := by decide +kernel
theorem dq_Traffic_copyFrom_135 : decode gc_Traffic_copyFrom 135 = .ok (.getfield 35, 3) := by decide +kernel
theorem dq_Traffic_copyFrom_138 : decode gc_Traffic_copyFrom 138 = .ok (.iconst 0, 1) := by decide +kernel
theorem dq_Traffic_copyFrom_139 : decode gc_Traffic_copyFrom 139 = .ok (.bipush 6, 2) := by decide +kernel
theorem dq_Traffic_copyFrom_141 : decode gc_Traffic_copyFrom 141 = .ok (.invokestatic 65, 3) := by decide +kernel
theorem dq_Traffic_copyFrom_144 : decode gc_Traffic_copyFrom 144 = .ok (.aload_n 1, 1) := by decide +kernel
theorem dq_Traffic_copyFrom_145 : decode gc_Traffic_copyFrom 145 = .ok (.getfield 38, 3) := by decide +kernel
theorem dq_Traffic_copyFrom_148 : decode gc_Traffic_copyFrom 148 = .ok (.iconst 0, 1) := by decide +kernel
theorem dq_Traffic_copyFrom_149 : decode gc_Traffic_copyFrom 149 = .ok (.aload_n 0, 1) := by decide +kernel
theorem dq_Traffic_copyFrom_150 : decode gc_Traffic_copyFrom 150 = .ok (.getfield 38, 3) := by decide +kernel
theorem dq_Traffic_copyFrom_153 : decode gc_Traffic_copyFrom 153 = .ok (.iconst 0, 1) := by decide +kernel
theorem dq_Traffic_copyFrom_154 : decode gc_Traffic_copyFrom 154 = .ok (.bipush 6, 2) := by decide +kernel
theorem dq_Traffic_copyFrom_156 : decode gc_Traffic_copyFrom 156 = .ok (.invokestatic 65, 3) := by decide +kernel
theorem dq_Traffic_copyFrom_159 : decode gc_Traffic_copyFrom 159 = .ok (.return_, 1) := by decide +kernel
abbrev gm_Traffic_copyFrom : gM := (gc_Traffic_copyFrom, gR_4, 1, 26, 2)
theorem gfl_Traffic_49 : gFl gR_4 49 4 1 := ⟨_, _, _, rfl, by decide, (gtab_at 155 (by decide +kernel) rfl), gin_4⟩
theorem gfl_Traffic_62 : gFl gR_4 62 4 2 := ⟨_, _, _, rfl, by decide, (gtab_at 157 (by decide +kernel) rfl), gin_4⟩
theorem gfp_Traffic_62 : gFp gR_4 62 4 2 .int := ⟨_, _, _, gt_4, rfl, by decide, (gtab_at 157 (by decide +kernel) rfl), gin_4, gto_4, gnm_4, rfl, by decide +kernel⟩
theorem gac_n : Cond.native arraycopyName ∈ gtbl := (gtab_at 588 (by decide +kernel) rfl)
theorem gac_s : Cond.static arraycopyName ∈ gtbl := (gtab_at 587 (by decide +kernel) rfl)
theorem gac_i : Cond.initialized "java/lang/System" ∈ gtbl := (gtab_at 11 (by decide +kernel) rfl)
theorem gml_Traffic_65 : Cond.methodLink gR_4 65 arraycopyName ∈ gtbl := (gtab_at 586 (by decide +kernel) rfl)
def f_Traffic_copyFrom (t : Nat) (p1 : Nat) (h : gH) : Option gO := gd (gcl ((h p1 0).toNat) 0) (gs (gup h t 0 (((h p1 0).toNat : Nat) : Int)) (fun h2 => gs (gup h2 t 1 (h2 p1 1)) (fun h3 => gs (gup h3 t 2 (h3 p1 2)) (fun h4 => gd (gcpok (p1 + 1) (t + 1) 0 0 9) (gs (gcp h4 (p1 + 1) 0 (t + 1) 0 9) (fun h5 => gd (gcpok (p1 + 2) (t + 2) 0 0 9) (gs (gcp h5 (p1 + 2) 0 (t + 2) 0 9) (fun h6 => gd (gcpok (p1 + 3) (t + 3) 0 0 9) (gs (gcp h6 (p1 + 3) 0 (t + 3) 0 9) (fun h7 => gd (gcpok (p1 + 4) (t + 4) 0 0 18) (gs (gcp h7 (p1 + 4) 0 (t + 4) 0 18) (fun h8 => gd (gcpok (p1 + 5) (t + 5) 0 0 6) (gs (gcp h8 (p1 + 5) 0 (t + 5) 0 6) (fun h9 => gd (gcpok (p1 + 6) (t + 6) 0 0 6) (gs (gcp h9 (p1 + 6) 0 (t + 6) 0 6) (fun h10 => gd (gcpok (p1 + 7) (t + 7) 0 0 6) (gs (gcp h10 (p1 + 7) 0 (t + 7) 0 6) (fun h11 => gd (gcpok (p1 + 8) (t + 8) 0 0 6) (gs (gcp h11 (p1 + 8) 0 (t + 8) 0 6) (fun h12 => gd (gcpok (p1 + 9) (t + 9) 0 0 6) (gs (gcp h12 (p1 + 9) 0 (t + 9) 0 6) (fun h13 => some (h13, 0)))))))))))))))))))))))
theorem c_Traffic_copyFrom {Z : gZ} (hL : gLive Z) (hn : (zL Z).Nodup) {t : Nat} {p1 : Nat} (ht : gsh t = .inr 4) (hp1 : gsh p1 = .inr 4) {h : gH} {o : gO} (hg : gRg h) (ha : gRl [.inr (.inr t), .inr (.inr p1)]) (hx : f_Traffic_copyFrom t p1 h = some o) : gC Z gy_Traffic_copyFrom gc_Traffic_copyFrom 2 none 1 26 [.inr (.inr t), .inr (.inr p1)] h o := by
  unfold f_Traffic_copyFrom at hx
  refine gC_of (lv := [(0, .inr (.inr t)), (1, .inr (.inr p1))]) (own := gR_4) (by decide +kernel) rfl (Nat.le_of_ble_eq_true rfl) rfl rfl hn hg ha hx (fun X hZ hF => ?_)
  subst hZ
  show gr _ o gm_Traffic_copyFrom X h 0 _ _
  refine gr_aload_n (M := gm_Traffic_copyFrom) dq_Traffic_copyFrom_0 rfl 0 rfl 1 rfl ?_
  refine gr_aload_n (M := gm_Traffic_copyFrom) dq_Traffic_copyFrom_1 rfl 1 rfl 2 rfl ?_
  refine gr_getd (M := gm_Traffic_copyFrom) dq_Traffic_copyFrom_2 5 rfl gfl_Traffic_45 hp1 rfl (gli hL hp1) (fun hc1 => ?_)
  refine gr_putd (M := gm_Traffic_copyFrom) dq_Traffic_copyFrom_5 8 rfl gfp_Traffic_45 ht rfl (gli hL ht) (gclE hc1) (fun h2 _ => ?_)
  refine gr_aload_n (M := gm_Traffic_copyFrom) dq_Traffic_copyFrom_8 rfl 0 rfl 9 rfl ?_
  refine gr_aload_n (M := gm_Traffic_copyFrom) dq_Traffic_copyFrom_9 rfl 1 rfl 10 rfl ?_
  refine gr_geti (M := gm_Traffic_copyFrom) dq_Traffic_copyFrom_10 13 rfl gfl_Traffic_49 hp1 rfl (gli hL hp1) ?_
  refine gr_puti (M := gm_Traffic_copyFrom) dq_Traffic_copyFrom_13 16 rfl gfp_Traffic_49 ht rfl (gli hL ht) (fun h3 _ => ?_)
  refine gr_aload_n (M := gm_Traffic_copyFrom) dq_Traffic_copyFrom_16 rfl 0 rfl 17 rfl ?_
  refine gr_aload_n (M := gm_Traffic_copyFrom) dq_Traffic_copyFrom_17 rfl 1 rfl 18 rfl ?_
  refine gr_geti (M := gm_Traffic_copyFrom) dq_Traffic_copyFrom_18 21 rfl gfl_Traffic_62 hp1 rfl (gli hL hp1) ?_
  refine gr_puti (M := gm_Traffic_copyFrom) dq_Traffic_copyFrom_21 24 rfl gfp_Traffic_62 ht rfl (gli hL ht) (fun h4 _ => ?_)
  refine gr_aload_n (M := gm_Traffic_copyFrom) dq_Traffic_copyFrom_24 rfl 1 rfl 25 rfl ?_
  refine gr_getr (M := gm_Traffic_copyFrom) dq_Traffic_copyFrom_25 28 rfl gfl_Traffic_11 hp1 rfl (gli hL hp1) (p1 + 1) rfl ?_
  refine gr_iconst (M := gm_Traffic_copyFrom) (v := 0) dq_Traffic_copyFrom_28 rfl ⟨by decide, by decide⟩ 29 rfl ?_
  refine gr_aload_n (M := gm_Traffic_copyFrom) dq_Traffic_copyFrom_29 rfl 0 rfl 30 rfl ?_
  refine gr_getr (M := gm_Traffic_copyFrom) dq_Traffic_copyFrom_30 33 rfl gfl_Traffic_11 ht rfl (gli hL ht) (t + 1) rfl ?_
  refine gr_iconst (M := gm_Traffic_copyFrom) (v := 0) dq_Traffic_copyFrom_33 rfl ⟨by decide, by decide⟩ 34 rfl ?_
  refine gr_bipush (M := gm_Traffic_copyFrom) (v := 9) dq_Traffic_copyFrom_34 (by decide) ⟨by decide, by decide⟩ 36 rfl ?_
  refine gr_acopy (M := gm_Traffic_copyFrom) dq_Traffic_copyFrom_36 39 rfl gml_Traffic_65 gac_n gac_s gac_i ⟨by decide, by decide⟩ (Nat.le_of_ble_eq_true rfl) (gsT_1 hp1) (gsT_1 ht) (glj hL (gsT_1 hp1) (by decide)) (glj hL (gsT_1 ht) (by decide)) (fun h5 _ => ?_)
  refine gr_aload_n (M := gm_Traffic_copyFrom) dq_Traffic_copyFrom_39 rfl 1 rfl 40 rfl ?_
  refine gr_getr (M := gm_Traffic_copyFrom) dq_Traffic_copyFrom_40 43 rfl gfl_Traffic_17 hp1 rfl (gli hL hp1) (p1 + 2) rfl ?_
  refine gr_iconst (M := gm_Traffic_copyFrom) (v := 0) dq_Traffic_copyFrom_43 rfl ⟨by decide, by decide⟩ 44 rfl ?_
  refine gr_aload_n (M := gm_Traffic_copyFrom) dq_Traffic_copyFrom_44 rfl 0 rfl 45 rfl ?_
  refine gr_getr (M := gm_Traffic_copyFrom) dq_Traffic_copyFrom_45 48 rfl gfl_Traffic_17 ht rfl (gli hL ht) (t + 2) rfl ?_
  refine gr_iconst (M := gm_Traffic_copyFrom) (v := 0) dq_Traffic_copyFrom_48 rfl ⟨by decide, by decide⟩ 49 rfl ?_
  refine gr_bipush (M := gm_Traffic_copyFrom) (v := 9) dq_Traffic_copyFrom_49 (by decide) ⟨by decide, by decide⟩ 51 rfl ?_
  refine gr_acopy (M := gm_Traffic_copyFrom) dq_Traffic_copyFrom_51 54 rfl gml_Traffic_65 gac_n gac_s gac_i ⟨by decide, by decide⟩ (Nat.le_of_ble_eq_true rfl) (gsT_2 hp1) (gsT_2 ht) (glj hL (gsT_2 hp1) (by decide)) (glj hL (gsT_2 ht) (by decide)) (fun h6 _ => ?_)
  refine gr_aload_n (M := gm_Traffic_copyFrom) dq_Traffic_copyFrom_54 rfl 1 rfl 55 rfl ?_
  refine gr_getr (M := gm_Traffic_copyFrom) dq_Traffic_copyFrom_55 58 rfl gfl_Traffic_20 hp1 rfl (gli hL hp1) (p1 + 3) rfl ?_
  refine gr_iconst (M := gm_Traffic_copyFrom) (v := 0) dq_Traffic_copyFrom_58 rfl ⟨by decide, by decide⟩ 59 rfl ?_
  refine gr_aload_n (M := gm_Traffic_copyFrom) dq_Traffic_copyFrom_59 rfl 0 rfl 60 rfl ?_
  refine gr_getr (M := gm_Traffic_copyFrom) dq_Traffic_copyFrom_60 63 rfl gfl_Traffic_20 ht rfl (gli hL ht) (t + 3) rfl ?_
  refine gr_iconst (M := gm_Traffic_copyFrom) (v := 0) dq_Traffic_copyFrom_63 rfl ⟨by decide, by decide⟩ 64 rfl ?_
  refine gr_bipush (M := gm_Traffic_copyFrom) (v := 9) dq_Traffic_copyFrom_64 (by decide) ⟨by decide, by decide⟩ 66 rfl ?_
  refine gr_acopy (M := gm_Traffic_copyFrom) dq_Traffic_copyFrom_66 69 rfl gml_Traffic_65 gac_n gac_s gac_i ⟨by decide, by decide⟩ (Nat.le_of_ble_eq_true rfl) (gsT_3 hp1) (gsT_3 ht) (glj hL (gsT_3 hp1) (by decide)) (glj hL (gsT_3 ht) (by decide)) (fun h7 _ => ?_)
  refine gr_aload_n (M := gm_Traffic_copyFrom) dq_Traffic_copyFrom_69 rfl 1 rfl 70 rfl ?_
  refine gr_getr (M := gm_Traffic_copyFrom) dq_Traffic_copyFrom_70 73 rfl gfl_Traffic_23 hp1 rfl (gli hL hp1) (p1 + 4) rfl ?_
  refine gr_iconst (M := gm_Traffic_copyFrom) (v := 0) dq_Traffic_copyFrom_73 rfl ⟨by decide, by decide⟩ 74 rfl ?_
  refine gr_aload_n (M := gm_Traffic_copyFrom) dq_Traffic_copyFrom_74 rfl 0 rfl 75 rfl ?_
  refine gr_getr (M := gm_Traffic_copyFrom) dq_Traffic_copyFrom_75 78 rfl gfl_Traffic_23 ht rfl (gli hL ht) (t + 4) rfl ?_
  refine gr_iconst (M := gm_Traffic_copyFrom) (v := 0) dq_Traffic_copyFrom_78 rfl ⟨by decide, by decide⟩ 79 rfl ?_
  refine gr_bipush (M := gm_Traffic_copyFrom) (v := 18) dq_Traffic_copyFrom_79 (by decide) ⟨by decide, by decide⟩ 81 rfl ?_
  refine gr_acopy (M := gm_Traffic_copyFrom) dq_Traffic_copyFrom_81 84 rfl gml_Traffic_65 gac_n gac_s gac_i ⟨by decide, by decide⟩ (Nat.le_of_ble_eq_true rfl) (gsT_4 hp1) (gsT_4 ht) (glj hL (gsT_4 hp1) (by decide)) (glj hL (gsT_4 ht) (by decide)) (fun h8 _ => ?_)
  refine gr_aload_n (M := gm_Traffic_copyFrom) dq_Traffic_copyFrom_84 rfl 1 rfl 85 rfl ?_
  refine gr_getr (M := gm_Traffic_copyFrom) dq_Traffic_copyFrom_85 88 rfl gfl_Traffic_26 hp1 rfl (gli hL hp1) (p1 + 5) rfl ?_
  refine gr_iconst (M := gm_Traffic_copyFrom) (v := 0) dq_Traffic_copyFrom_88 rfl ⟨by decide, by decide⟩ 89 rfl ?_
  refine gr_aload_n (M := gm_Traffic_copyFrom) dq_Traffic_copyFrom_89 rfl 0 rfl 90 rfl ?_
  refine gr_getr (M := gm_Traffic_copyFrom) dq_Traffic_copyFrom_90 93 rfl gfl_Traffic_26 ht rfl (gli hL ht) (t + 5) rfl ?_
  refine gr_iconst (M := gm_Traffic_copyFrom) (v := 0) dq_Traffic_copyFrom_93 rfl ⟨by decide, by decide⟩ 94 rfl ?_
  refine gr_bipush (M := gm_Traffic_copyFrom) (v := 6) dq_Traffic_copyFrom_94 (by decide) ⟨by decide, by decide⟩ 96 rfl ?_
  refine gr_acopy (M := gm_Traffic_copyFrom) dq_Traffic_copyFrom_96 99 rfl gml_Traffic_65 gac_n gac_s gac_i ⟨by decide, by decide⟩ (Nat.le_of_ble_eq_true rfl) (gsT_5 hp1) (gsT_5 ht) (glj hL (gsT_5 hp1) (by decide)) (glj hL (gsT_5 ht) (by decide)) (fun h9 _ => ?_)
  refine gr_aload_n (M := gm_Traffic_copyFrom) dq_Traffic_copyFrom_99 rfl 1 rfl 100 rfl ?_
  refine gr_getr (M := gm_Traffic_copyFrom) dq_Traffic_copyFrom_100 103 rfl gfl_Traffic_29 hp1 rfl (gli hL hp1) (p1 + 6) rfl ?_
  refine gr_iconst (M := gm_Traffic_copyFrom) (v := 0) dq_Traffic_copyFrom_103 rfl ⟨by decide, by decide⟩ 104 rfl ?_
  refine gr_aload_n (M := gm_Traffic_copyFrom) dq_Traffic_copyFrom_104 rfl 0 rfl 105 rfl ?_
  refine gr_getr (M := gm_Traffic_copyFrom) dq_Traffic_copyFrom_105 108 rfl gfl_Traffic_29 ht rfl (gli hL ht) (t + 6) rfl ?_
  refine gr_iconst (M := gm_Traffic_copyFrom) (v := 0) dq_Traffic_copyFrom_108 rfl ⟨by decide, by decide⟩ 109 rfl ?_
  refine gr_bipush (M := gm_Traffic_copyFrom) (v := 6) dq_Traffic_copyFrom_109 (by decide) ⟨by decide, by decide⟩ 111 rfl ?_
  refine gr_acopy (M := gm_Traffic_copyFrom) dq_Traffic_copyFrom_111 114 rfl gml_Traffic_65 gac_n gac_s gac_i ⟨by decide, by decide⟩ (Nat.le_of_ble_eq_true rfl) (gsT_6 hp1) (gsT_6 ht) (glj hL (gsT_6 hp1) (by decide)) (glj hL (gsT_6 ht) (by decide)) (fun h10 _ => ?_)
  refine gr_aload_n (M := gm_Traffic_copyFrom) dq_Traffic_copyFrom_114 rfl 1 rfl 115 rfl ?_
  refine gr_getr (M := gm_Traffic_copyFrom) dq_Traffic_copyFrom_115 118 rfl gfl_Traffic_32 hp1 rfl (gli hL hp1) (p1 + 7) rfl ?_
  refine gr_iconst (M := gm_Traffic_copyFrom) (v := 0) dq_Traffic_copyFrom_118 rfl ⟨by decide, by decide⟩ 119 rfl ?_
  refine gr_aload_n (M := gm_Traffic_copyFrom) dq_Traffic_copyFrom_119 rfl 0 rfl 120 rfl ?_
  refine gr_getr (M := gm_Traffic_copyFrom) dq_Traffic_copyFrom_120 123 rfl gfl_Traffic_32 ht rfl (gli hL ht) (t + 7) rfl ?_
  refine gr_iconst (M := gm_Traffic_copyFrom) (v := 0) dq_Traffic_copyFrom_123 rfl ⟨by decide, by decide⟩ 124 rfl ?_
  refine gr_bipush (M := gm_Traffic_copyFrom) (v := 6) dq_Traffic_copyFrom_124 (by decide) ⟨by decide, by decide⟩ 126 rfl ?_
  refine gr_acopy (M := gm_Traffic_copyFrom) dq_Traffic_copyFrom_126 129 rfl gml_Traffic_65 gac_n gac_s gac_i ⟨by decide, by decide⟩ (Nat.le_of_ble_eq_true rfl) (gsT_7 hp1) (gsT_7 ht) (glj hL (gsT_7 hp1) (by decide)) (glj hL (gsT_7 ht) (by decide)) (fun h11 _ => ?_)
  refine gr_aload_n (M := gm_Traffic_copyFrom) dq_Traffic_copyFrom_129 rfl 1 rfl 130 rfl ?_
  refine gr_getr (M := gm_Traffic_copyFrom) dq_Traffic_copyFrom_130 133 rfl gfl_Traffic_35 hp1 rfl (gli hL hp1) (p1 + 8) rfl ?_
  refine gr_iconst (M := gm_Traffic_copyFrom) (v := 0) dq_Traffic_copyFrom_133 rfl ⟨by decide, by decide⟩ 134 rfl ?_
  refine gr_aload_n (M := gm_Traffic_copyFrom) dq_Traffic_copyFrom_134 rfl 0 rfl 135 rfl ?_
  refine gr_getr (M := gm_Traffic_copyFrom) dq_Traffic_copyFrom_135 138 rfl gfl_Traffic_35 ht rfl (gli hL ht) (t + 8) rfl ?_
  refine gr_iconst (M := gm_Traffic_copyFrom) (v := 0) dq_Traffic_copyFrom_138 rfl ⟨by decide, by decide⟩ 139 rfl ?_
  refine gr_bipush (M := gm_Traffic_copyFrom) (v := 6) dq_Traffic_copyFrom_139 (by decide) ⟨by decide, by decide⟩ 141 rfl ?_
  refine gr_acopy (M := gm_Traffic_copyFrom) dq_Traffic_copyFrom_141 144 rfl gml_Traffic_65 gac_n gac_s gac_i ⟨by decide, by decide⟩ (Nat.le_of_ble_eq_true rfl) (gsT_8 hp1) (gsT_8 ht) (glj hL (gsT_8 hp1) (by decide)) (glj hL (gsT_8 ht) (by decide)) (fun h12 _ => ?_)
  refine gr_aload_n (M := gm_Traffic_copyFrom) dq_Traffic_copyFrom_144 rfl 1 rfl 145 rfl ?_
  refine gr_getr (M := gm_Traffic_copyFrom) dq_Traffic_copyFrom_145 148 rfl gfl_Traffic_38 hp1 rfl (gli hL hp1) (p1 + 9) rfl ?_
  refine gr_iconst (M := gm_Traffic_copyFrom) (v := 0) dq_Traffic_copyFrom_148 rfl ⟨by decide, by decide⟩ 149 rfl ?_
  refine gr_aload_n (M := gm_Traffic_copyFrom) dq_Traffic_copyFrom_149 rfl 0 rfl 150 rfl ?_
  refine gr_getr (M := gm_Traffic_copyFrom) dq_Traffic_copyFrom_150 153 rfl gfl_Traffic_38 ht rfl (gli hL ht) (t + 9) rfl ?_
  refine gr_iconst (M := gm_Traffic_copyFrom) (v := 0) dq_Traffic_copyFrom_153 rfl ⟨by decide, by decide⟩ 154 rfl ?_
  refine gr_bipush (M := gm_Traffic_copyFrom) (v := 6) dq_Traffic_copyFrom_154 (by decide) ⟨by decide, by decide⟩ 156 rfl ?_
  refine gr_acopy (M := gm_Traffic_copyFrom) dq_Traffic_copyFrom_156 159 rfl gml_Traffic_65 gac_n gac_s gac_i ⟨by decide, by decide⟩ (Nat.le_of_ble_eq_true rfl) (gsT_9 hp1) (gsT_9 ht) (glj hL (gsT_9 hp1) (by decide)) (glj hL (gsT_9 ht) (by decide)) (fun h13 _ => ?_)
  exact gr_return (M := gm_Traffic_copyFrom) dq_Traffic_copyFrom_159 hF

-- Traffic_decreeLaw
theorem dq_Traffic_decreeLaw_0 : decode gc_Traffic_decreeLaw 0 = .ok (.iconst 0, 1) := by decide +kernel
theorem dq_Traffic_decreeLaw_1 : decode gc_Traffic_decreeLaw 1 = .ok (.istore_n 3, 1) := by decide +kernel
theorem dq_Traffic_decreeLaw_2 : decode gc_Traffic_decreeLaw 2 = .ok (.iload_n 3, 1) := by decide +kernel
theorem dq_Traffic_decreeLaw_3 : decode gc_Traffic_decreeLaw 3 = .ok (.aload_n 0, 1) := by decide +kernel
theorem dq_Traffic_decreeLaw_4 : decode gc_Traffic_decreeLaw 4 = .ok (.getfield 45, 3) := by decide +kernel
theorem dq_Traffic_decreeLaw_7 : decode gc_Traffic_decreeLaw 7 = .ok (.getfield 71, 3) := by decide +kernel
theorem dq_Traffic_decreeLaw_10 : decode gc_Traffic_decreeLaw 10 = .ok (.if_icmp .ge 26, 3) := by decide +kernel
theorem dq_Traffic_decreeLaw_13 : decode gc_Traffic_decreeLaw 13 = .ok (.iload_n 1, 1) := by decide +kernel
theorem dq_Traffic_decreeLaw_14 : decode gc_Traffic_decreeLaw 14 = .ok (.iconst (-1), 1) := by decide +kernel
theorem dq_Traffic_decreeLaw_15 : decode gc_Traffic_decreeLaw 15 = .ok (.if_icmp .eq 8, 3) := by decide +kernel
theorem dq_Traffic_decreeLaw_18 : decode gc_Traffic_decreeLaw 18 = .ok (.iload_n 1, 1) := by decide +kernel
theorem dq_Traffic_decreeLaw_19 : decode gc_Traffic_decreeLaw 19 = .ok (.iload_n 3, 1) := by decide +kernel
theorem dq_Traffic_decreeLaw_20 : decode gc_Traffic_decreeLaw 20 = .ok (.if_icmp .ne 10, 3) := by decide +kernel
theorem dq_Traffic_decreeLaw_23 : decode gc_Traffic_decreeLaw 23 = .ok (.aload_n 0, 1) := by decide +kernel
theorem dq_Traffic_decreeLaw_24 : decode gc_Traffic_decreeLaw 24 = .ok (.getfield 11, 3) := by decide +kernel
theorem dq_Traffic_decreeLaw_27 : decode gc_Traffic_decreeLaw 27 = .ok (.iload_n 3, 1) := by decide +kernel
theorem dq_Traffic_decreeLaw_28 : decode gc_Traffic_decreeLaw 28 = .ok (.iload_n 2, 1) := by decide +kernel
theorem dq_Traffic_decreeLaw_29 : decode gc_Traffic_decreeLaw 29 = .ok (.iastore, 1) := by decide +kernel
theorem dq_Traffic_decreeLaw_30 : decode gc_Traffic_decreeLaw 30 = .ok (.iinc 3 1, 3) := by decide +kernel
theorem dq_Traffic_decreeLaw_33 : decode gc_Traffic_decreeLaw 33 = .ok (.goto (-31), 3) := by decide +kernel
theorem dq_Traffic_decreeLaw_36 : decode gc_Traffic_decreeLaw 36 = .ok (.return_, 1) := by decide +kernel
abbrev gm_Traffic_decreeLaw : gM := (gc_Traffic_decreeLaw, gR_4, 0, 0, 4)
theorem gfl_Traffic_71 : gFl gR_4 71 0 2 := ⟨_, _, _, rfl, by decide, (gtab_at 36 (by decide +kernel) rfl), gin_0⟩
def f_Traffic_decreeLaw_J30 (t : Nat) (k2 : Int → gH → Option gO) (v1 : Int) (v2 : Int) (v3 : Int) (h : gH) : Option gO := k2 (gadd v3 1) h
theorem w_Traffic_decreeLaw_J30 {o : gO} {X : gX} (hL : gLive (xZ X)) (hn : (zL (xZ X)).Nodup) (hF : gFin X none o) {t : Nat} (ht : gsh t = .inr 4)  {k2 : Int → gH → Option gO} {v1 : Int} {v2 : Int} {v3 : Int} {h : gH} (hk2 : ∀ (v3 : Int) (h : gH), gr (k2 v3 h) o gm_Traffic_decreeLaw X h 2 [(0, .inr (.inr t)), (1, .inl v1), (2, .inl v2), (3, .inl v3)] []) : gr (f_Traffic_decreeLaw_J30 t k2 v1 v2 v3 h) o gm_Traffic_decreeLaw X h 30 [(0, .inr (.inr t)), (1, .inl v1), (2, .inl v2), (3, .inl v3)] [] := by
  unfold f_Traffic_decreeLaw_J30
  refine gr_iinc (M := gm_Traffic_decreeLaw) (lv' := [(3, .inl (gadd v3 1)), (0, .inr (.inr t)), (1, .inl v1), (2, .inl v2)]) dq_Traffic_decreeLaw_30 3 rfl rfl (by decide) rfl 33 rfl ?_
  refine gr_goto (M := gm_Traffic_decreeLaw) dq_Traffic_decreeLaw_33 2 rfl ?_
  refine gr_sub (M := gm_Traffic_decreeLaw) (lv' := [(0, .inr (.inr t)), (1, .inl v1), (2, .inl v2), (3, .inl (gadd v3 1))]) [1, 2, 3, 0] rfl ?_
  exact hk2 _ _

def f_Traffic_decreeLaw_J23 (t : Nat) (k2 : Int → gH → Option gO) (v1 : Int) (v2 : Int) (v3 : Int) (h : gH) : Option gO := gd (gix 9 v3) (gs (gup h (t + 1) v3.toNat v2) (fun h4 => f_Traffic_decreeLaw_J30 t (k2) v1 v2 v3 h4))
theorem w_Traffic_decreeLaw_J23 {o : gO} {X : gX} (hL : gLive (xZ X)) (hn : (zL (xZ X)).Nodup) (hF : gFin X none o) {t : Nat} (ht : gsh t = .inr 4)  {k2 : Int → gH → Option gO} {v1 : Int} {v2 : Int} {v3 : Int} {h : gH} (hk2 : ∀ (v3 : Int) (h : gH), gr (k2 v3 h) o gm_Traffic_decreeLaw X h 2 [(0, .inr (.inr t)), (1, .inl v1), (2, .inl v2), (3, .inl v3)] []) : gr (f_Traffic_decreeLaw_J23 t k2 v1 v2 v3 h) o gm_Traffic_decreeLaw X h 23 [(0, .inr (.inr t)), (1, .inl v1), (2, .inl v2), (3, .inl v3)] [] := by
  unfold f_Traffic_decreeLaw_J23
  refine gr_aload_n (M := gm_Traffic_decreeLaw) dq_Traffic_decreeLaw_23 rfl 0 rfl 24 rfl ?_
  refine gr_getr (M := gm_Traffic_decreeLaw) dq_Traffic_decreeLaw_24 27 rfl gfl_Traffic_11 ht rfl (gli hL ht) (t + 1) rfl ?_
  refine gr_iload_n (M := gm_Traffic_decreeLaw) dq_Traffic_decreeLaw_27 rfl 3 rfl 28 rfl ?_
  refine gr_iload_n (M := gm_Traffic_decreeLaw) dq_Traffic_decreeLaw_28 rfl 2 rfl 29 rfl ?_
  refine gr_iast (M := gm_Traffic_decreeLaw) dq_Traffic_decreeLaw_29 30 rfl (gsT_1 ht) (glj hL (gsT_1 ht) (by decide)) (fun h4 _ => ?_)
  exact w_Traffic_decreeLaw_J30 hL hn hF ht  hk2

def f_Traffic_decreeLaw_L2 (t : Nat) (v1 : Int) (v2 : Int) (k36 : gH → Option gO) : Nat → Int → gH → Option gO
  | 0, _, _ => none
  | n + 1, v3, h => gd (gcl ((h t 0).toNat) 0) (if (h (h t 0).toNat 2) ≤ v3 then (k36  h) else (if v1 = (-1) then (f_Traffic_decreeLaw_J23 t (f_Traffic_decreeLaw_L2 t v1 v2 k36 n) v1 v2 v3 h) else (if v1 = v3 then (f_Traffic_decreeLaw_J23 t (f_Traffic_decreeLaw_L2 t v1 v2 k36 n) v1 v2 v3 h) else (f_Traffic_decreeLaw_J30 t (f_Traffic_decreeLaw_L2 t v1 v2 k36 n) v1 v2 v3 h))))
theorem w_Traffic_decreeLaw_L2 {o : gO} {X : gX} (hL : gLive (xZ X)) (hn : (zL (xZ X)).Nodup) (hF : gFin X none o) {t : Nat} {v1 : Int} {v2 : Int} (ht : gsh t = .inr 4)  {k36 : gH → Option gO} (hk36 : ∀ (h : gH), gr (k36 h) o gm_Traffic_decreeLaw X h 36 [] []) : ∀ (n : Nat) (v3 : Int) (h : gH), gr (f_Traffic_decreeLaw_L2 t v1 v2 k36 n v3 h) o gm_Traffic_decreeLaw X h 2 [(0, .inr (.inr t)), (1, .inl v1), (2, .inl v2), (3, .inl v3)] [] := by
  intro n
  induction n with
  | zero => intros; exact gr_none
  | succ n ih =>
    intro v3 h
    unfold f_Traffic_decreeLaw_L2
    refine gr_iload_n (M := gm_Traffic_decreeLaw) dq_Traffic_decreeLaw_2 rfl 3 rfl 3 rfl ?_
    refine gr_aload_n (M := gm_Traffic_decreeLaw) dq_Traffic_decreeLaw_3 rfl 0 rfl 4 rfl ?_
    refine gr_getd (M := gm_Traffic_decreeLaw) dq_Traffic_decreeLaw_4 7 rfl gfl_Traffic_45 ht rfl (gli hL ht) (fun hc1 => ?_)
    refine gr_geti (M := gm_Traffic_decreeLaw) dq_Traffic_decreeLaw_7 10 rfl gfl_Traffic_71 (gclE hc1) rfl (gli hL (gclE hc1)) ?_
    refine gr_icmp_ge (M := gm_Traffic_decreeLaw) dq_Traffic_decreeLaw_10 36 13 rfl rfl (fun c2 => ?_) (fun c2 => ?_)
    · refine gr_sub (M := gm_Traffic_decreeLaw) (lv' := []) [] rfl ?_
      exact hk36  _
    refine gr_iload_n (M := gm_Traffic_decreeLaw) dq_Traffic_decreeLaw_13 rfl 1 rfl 14 rfl ?_
    refine gr_iconst (M := gm_Traffic_decreeLaw) (v := (-1)) dq_Traffic_decreeLaw_14 rfl ⟨by decide, by decide⟩ 15 rfl ?_
    refine gr_icmp_eq (M := gm_Traffic_decreeLaw) dq_Traffic_decreeLaw_15 23 18 rfl rfl (fun c3 => ?_) (fun c3 => ?_)
    · exact w_Traffic_decreeLaw_J23 hL hn hF ht  ih
    refine gr_iload_n (M := gm_Traffic_decreeLaw) dq_Traffic_decreeLaw_18 rfl 1 rfl 19 rfl ?_
    refine gr_iload_n (M := gm_Traffic_decreeLaw) dq_Traffic_decreeLaw_19 rfl 3 rfl 20 rfl ?_
    refine gr_icmp_ne (M := gm_Traffic_decreeLaw) dq_Traffic_decreeLaw_20 30 23 rfl rfl (fun c5 => ?_) (fun c5 => ?_)
    · exact w_Traffic_decreeLaw_J30 hL hn hF ht  ih
    exact w_Traffic_decreeLaw_J23 hL hn hF ht  ih

def f_Traffic_decreeLaw (t : Nat) (a1 : Int) (a2 : Int) (h : gH) : Option gO := f_Traffic_decreeLaw_L2 t a1 a2 (fun  h6 => some (h6, 0)) 50000 0 h
theorem c_Traffic_decreeLaw {Z : gZ} (hL : gLive Z) (hn : (zL Z).Nodup) {t : Nat} {a1 : Int} {a2 : Int} (ht : gsh t = .inr 4) {h : gH} {o : gO} (hg : gRg h) (ha : gRl [.inr (.inr t), .inl a1, .inl a2]) (hx : f_Traffic_decreeLaw t a1 a2 h = some o) : gC Z gy_Traffic_decreeLaw gc_Traffic_decreeLaw 4 none 0 0 [.inr (.inr t), .inl a1, .inl a2] h o := by
  unfold f_Traffic_decreeLaw at hx
  refine gC_of (lv := [(0, .inr (.inr t)), (1, .inl a1), (2, .inl a2)]) (own := gR_4) (by decide +kernel) rfl (Nat.le_of_ble_eq_true rfl) rfl rfl hn hg ha hx (fun X hZ hF => ?_)
  subst hZ
  show gr _ o gm_Traffic_decreeLaw X h 0 _ _
  refine gr_iconst (M := gm_Traffic_decreeLaw) (v := 0) dq_Traffic_decreeLaw_0 rfl ⟨by decide, by decide⟩ 1 rfl ?_
  refine gr_istore_n (M := gm_Traffic_decreeLaw) (lv' := [(3, .inl 0), (0, .inr (.inr t)), (1, .inl a1), (2, .inl a2)]) dq_Traffic_decreeLaw_1 rfl (by decide) rfl 2 rfl ?_
  refine gr_sub (M := gm_Traffic_decreeLaw) (lv' := [(0, .inr (.inr t)), (1, .inl a1), (2, .inl a2), (3, .inl 0)]) [1, 2, 3, 0] rfl ?_
  refine w_Traffic_decreeLaw_L2 hL hn hF ht  (fun h6 => ?_) 50000 _ _
  exact gr_return (M := gm_Traffic_decreeLaw) dq_Traffic_decreeLaw_36 hF

-- Traffic_those
theorem dq_Traffic_those_0 : decode gc_Traffic_those 0 = .ok (.iconst 0, 1) := by decide +kernel
theorem dq_Traffic_those_1 : decode gc_Traffic_those 1 = .ok (.istore_n 2, 1) := by decide +kernel
theorem dq_Traffic_those_2 : decode gc_Traffic_those 2 = .ok (.iconst 0, 1) := by decide +kernel
theorem dq_Traffic_those_3 : decode gc_Traffic_those 3 = .ok (.istore_n 3, 1) := by decide +kernel
theorem dq_Traffic_those_4 : decode gc_Traffic_those 4 = .ok (.iload_n 3, 1) := by decide +kernel
theorem dq_Traffic_those_5 : decode gc_Traffic_those 5 = .ok (.aload_n 0, 1) := by decide +kernel
theorem dq_Traffic_those_6 : decode gc_Traffic_those 6 = .ok (.getfield 45, 3) := by decide +kernel
theorem dq_Traffic_those_9 : decode gc_Traffic_those 9 = .ok (.getfield 74, 3) := by decide +kernel
theorem dq_Traffic_those_12 : decode gc_Traffic_those 12 = .ok (.if_icmp .ge 25, 3) := by decide +kernel
theorem dq_Traffic_those_15 : decode gc_Traffic_those 15 = .ok (.aload_n 0, 1) := by decide +kernel
theorem dq_Traffic_those_16 : decode gc_Traffic_those 16 = .ok (.getfield 29, 3) := by decide +kernel
theorem dq_Traffic_those_19 : decode gc_Traffic_those 19 = .ok (.iload_n 3, 1) := by decide +kernel
theorem dq_Traffic_those_20 : decode gc_Traffic_those 20 = .ok (.iaload, 1) := by decide +kernel
theorem dq_Traffic_those_21 : decode gc_Traffic_those 21 = .ok (.iload_n 1, 1) := by decide +kernel
theorem dq_Traffic_those_22 : decode gc_Traffic_those 22 = .ok (.if_icmp .ne 9, 3) := by decide +kernel
theorem dq_Traffic_those_25 : decode gc_Traffic_those 25 = .ok (.iload_n 2, 1) := by decide +kernel
theorem dq_Traffic_those_26 : decode gc_Traffic_those 26 = .ok (.iconst 1, 1) := by decide +kernel
theorem dq_Traffic_those_27 : decode gc_Traffic_those 27 = .ok (.iload_n 3, 1) := by decide +kernel
theorem dq_Traffic_those_28 : decode gc_Traffic_those 28 = .ok (.ishl, 1) := by decide +kernel
theorem dq_Traffic_those_29 : decode gc_Traffic_those 29 = .ok (.ior, 1) := by decide +kernel
theorem dq_Traffic_those_30 : decode gc_Traffic_those 30 = .ok (.istore_n 2, 1) := by decide +kernel
theorem dq_Traffic_those_31 : decode gc_Traffic_those 31 = .ok (.iinc 3 1, 3) := by decide +kernel
theorem dq_Traffic_those_34 : decode gc_Traffic_those 34 = .ok (.goto (-30), 3) := by decide +kernel
theorem dq_Traffic_those_37 : decode gc_Traffic_those 37 = .ok (.iload_n 2, 1) := by decide +kernel
theorem dq_Traffic_those_38 : decode gc_Traffic_those 38 = .ok (.ireturn, 1) := by decide +kernel
abbrev gm_Traffic_those : gM := (gc_Traffic_those, gR_4, 0, 0, 4)
theorem gfl_Traffic_74 : gFl gR_4 74 0 3 := ⟨_, _, _, rfl, by decide, (gtab_at 41 (by decide +kernel) rfl), gin_0⟩
def f_Traffic_those_J31 (t : Nat) (k4 : Int → Int → gH → Option gO) (v1 : Int) (v2 : Int) (v3 : Int) (h : gH) : Option gO := k4 v2 (gadd v3 1) h
theorem w_Traffic_those_J31 {o : gO} {X : gX} (hL : gLive (xZ X)) (hn : (zL (xZ X)).Nodup) (hF : gFin X (some .int) o) {t : Nat} (ht : gsh t = .inr 4)  {k4 : Int → Int → gH → Option gO} {v1 : Int} {v2 : Int} {v3 : Int} {h : gH} (hk4 : ∀ (v2 : Int) (v3 : Int) (h : gH), gr (k4 v2 v3 h) o gm_Traffic_those X h 4 [(0, .inr (.inr t)), (1, .inl v1), (2, .inl v2), (3, .inl v3)] []) : gr (f_Traffic_those_J31 t k4 v1 v2 v3 h) o gm_Traffic_those X h 31 [(0, .inr (.inr t)), (1, .inl v1), (2, .inl v2), (3, .inl v3)] [] := by
  unfold f_Traffic_those_J31
  refine gr_iinc (M := gm_Traffic_those) (lv' := [(3, .inl (gadd v3 1)), (0, .inr (.inr t)), (1, .inl v1), (2, .inl v2)]) dq_Traffic_those_31 3 rfl rfl (by decide) rfl 34 rfl ?_
  refine gr_goto (M := gm_Traffic_those) dq_Traffic_those_34 4 rfl ?_
  refine gr_sub (M := gm_Traffic_those) (lv' := [(0, .inr (.inr t)), (1, .inl v1), (2, .inl v2), (3, .inl (gadd v3 1))]) [1, 2, 3, 0] rfl ?_
  exact hk4 _ _ _

def f_Traffic_those_L4 (t : Nat) (v1 : Int) (k37 : Int → gH → Option gO) : Nat → Int → Int → gH → Option gO
  | 0, _, _, _ => none
  | n + 1, v2, v3, h => gd (gcl ((h t 0).toNat) 0) (if (h (h t 0).toNat 3) ≤ v3 then (k37 v2 h) else (gd (gix 6 v3) (if (h (t + 6) v3.toNat) = v1 then (f_Traffic_those_J31 t (f_Traffic_those_L4 t v1 k37 n) v1 (gor v2 (gshl 1 v3)) v3 h) else (f_Traffic_those_J31 t (f_Traffic_those_L4 t v1 k37 n) v1 v2 v3 h))))
theorem w_Traffic_those_L4 {o : gO} {X : gX} (hL : gLive (xZ X)) (hn : (zL (xZ X)).Nodup) (hF : gFin X (some .int) o) {t : Nat} {v1 : Int} (ht : gsh t = .inr 4)  {k37 : Int → gH → Option gO} (hk37 : ∀ (v2 : Int) (h : gH), gr (k37 v2 h) o gm_Traffic_those X h 37 [(2, .inl v2)] []) : ∀ (n : Nat) (v2 : Int) (v3 : Int) (h : gH), gr (f_Traffic_those_L4 t v1 k37 n v2 v3 h) o gm_Traffic_those X h 4 [(0, .inr (.inr t)), (1, .inl v1), (2, .inl v2), (3, .inl v3)] [] := by
  intro n
  induction n with
  | zero => intros; exact gr_none
  | succ n ih =>
    intro v2 v3 h
    unfold f_Traffic_those_L4
    refine gr_iload_n (M := gm_Traffic_those) dq_Traffic_those_4 rfl 3 rfl 5 rfl ?_
    refine gr_aload_n (M := gm_Traffic_those) dq_Traffic_those_5 rfl 0 rfl 6 rfl ?_
    refine gr_getd (M := gm_Traffic_those) dq_Traffic_those_6 9 rfl gfl_Traffic_45 ht rfl (gli hL ht) (fun hc1 => ?_)
    refine gr_geti (M := gm_Traffic_those) dq_Traffic_those_9 12 rfl gfl_Traffic_74 (gclE hc1) rfl (gli hL (gclE hc1)) ?_
    refine gr_icmp_ge (M := gm_Traffic_those) dq_Traffic_those_12 37 15 rfl rfl (fun c2 => ?_) (fun c2 => ?_)
    · refine gr_sub (M := gm_Traffic_those) (lv' := [(2, .inl v2)]) [2] rfl ?_
      exact hk37 _ _
    refine gr_aload_n (M := gm_Traffic_those) dq_Traffic_those_15 rfl 0 rfl 16 rfl ?_
    refine gr_getr (M := gm_Traffic_those) dq_Traffic_those_16 19 rfl gfl_Traffic_29 ht rfl (gli hL ht) (t + 6) rfl ?_
    refine gr_iload_n (M := gm_Traffic_those) dq_Traffic_those_19 rfl 3 rfl 20 rfl ?_
    refine gr_iald (M := gm_Traffic_those) dq_Traffic_those_20 21 rfl (gsT_6 ht) (glj hL (gsT_6 ht) (by decide)) ?_
    refine gr_iload_n (M := gm_Traffic_those) dq_Traffic_those_21 rfl 1 rfl 22 rfl ?_
    refine gr_icmp_ne (M := gm_Traffic_those) dq_Traffic_those_22 31 25 rfl rfl (fun c3 => ?_) (fun c3 => ?_)
    · exact w_Traffic_those_J31 hL hn hF ht  ih
    refine gr_iload_n (M := gm_Traffic_those) dq_Traffic_those_25 rfl 2 rfl 26 rfl ?_
    refine gr_iconst (M := gm_Traffic_those) (v := 1) dq_Traffic_those_26 rfl ⟨by decide, by decide⟩ 27 rfl ?_
    refine gr_iload_n (M := gm_Traffic_those) dq_Traffic_those_27 rfl 3 rfl 28 rfl ?_
    refine gr_ishl (M := gm_Traffic_those) dq_Traffic_those_28 29 rfl ?_
    refine gr_ior (M := gm_Traffic_those) dq_Traffic_those_29 30 rfl ?_
    refine gr_istore_n (M := gm_Traffic_those) (lv' := [(2, .inl (gor v2 (gshl 1 v3))), (0, .inr (.inr t)), (1, .inl v1), (3, .inl v3)]) dq_Traffic_those_30 rfl (by decide) rfl 31 rfl ?_
    refine gr_sub (M := gm_Traffic_those) (lv' := [(0, .inr (.inr t)), (1, .inl v1), (2, .inl (gor v2 (gshl 1 v3))), (3, .inl v3)]) [1, 2, 0, 3] rfl ?_
    exact w_Traffic_those_J31 hL hn hF ht  ih

def f_Traffic_those (t : Nat) (a1 : Int) (h : gH) : Option gO := f_Traffic_those_L4 t a1 (fun v4 h5 => some (h5, v4)) 50000 0 0 h
theorem c_Traffic_those {Z : gZ} (hL : gLive Z) (hn : (zL Z).Nodup) {t : Nat} {a1 : Int} (ht : gsh t = .inr 4) {h : gH} {o : gO} (hg : gRg h) (ha : gRl [.inr (.inr t), .inl a1]) (hx : f_Traffic_those t a1 h = some o) : gC Z gy_Traffic_those gc_Traffic_those 4 (some .int) 0 0 [.inr (.inr t), .inl a1] h o := by
  unfold f_Traffic_those at hx
  refine gC_of (lv := [(0, .inr (.inr t)), (1, .inl a1)]) (own := gR_4) (by decide +kernel) rfl (Nat.le_of_ble_eq_true rfl) rfl rfl hn hg ha hx (fun X hZ hF => ?_)
  subst hZ
  show gr _ o gm_Traffic_those X h 0 _ _
  refine gr_iconst (M := gm_Traffic_those) (v := 0) dq_Traffic_those_0 rfl ⟨by decide, by decide⟩ 1 rfl ?_
  refine gr_istore_n (M := gm_Traffic_those) (lv' := [(2, .inl 0), (0, .inr (.inr t)), (1, .inl a1)]) dq_Traffic_those_1 rfl (by decide) rfl 2 rfl ?_
  refine gr_iconst (M := gm_Traffic_those) (v := 0) dq_Traffic_those_2 rfl ⟨by decide, by decide⟩ 3 rfl ?_
  refine gr_istore_n (M := gm_Traffic_those) (lv' := [(3, .inl 0), (2, .inl 0), (0, .inr (.inr t)), (1, .inl a1)]) dq_Traffic_those_3 rfl (by decide) rfl 4 rfl ?_
  refine gr_sub (M := gm_Traffic_those) (lv' := [(0, .inr (.inr t)), (1, .inl a1), (2, .inl 0), (3, .inl 0)]) [2, 3, 1, 0] rfl ?_
  refine w_Traffic_those_L4 hL hn hF ht  (fun v4 h5 => ?_) 50000 _ _ _
  refine gr_iload_n (M := gm_Traffic_those) dq_Traffic_those_37 rfl 0 rfl 38 rfl ?_
  exact gr_ireturn (M := gm_Traffic_those) dq_Traffic_those_38 hF

-- Traffic_countHome
theorem dq_Traffic_countHome_0 : decode gc_Traffic_countHome 0 = .ok (.aload_n 0, 1) := by decide +kernel
theorem dq_Traffic_countHome_1 : decode gc_Traffic_countHome 1 = .ok (.iconst 3, 1) := by decide +kernel
theorem dq_Traffic_countHome_2 : decode gc_Traffic_countHome 2 = .ok (.invokevirtual 77, 3) := by decide +kernel
theorem dq_Traffic_countHome_5 : decode gc_Traffic_countHome 5 = .ok (.invokestatic 81, 3) := by decide +kernel
theorem dq_Traffic_countHome_8 : decode gc_Traffic_countHome 8 = .ok (.ireturn, 1) := by decide +kernel
abbrev gm_Traffic_countHome : gM := (gc_Traffic_countHome, gR_4, 1, 23, 1)
set_option maxRecDepth 20000 in
theorem gcy_Traffic_77 : gCy gR_4 77 gy_Traffic_those gc_Traffic_those 4 (some .int) 1 := ⟨(gtab_at 479 (by decide +kernel) rfl), (gtab_at 4 (by decide +kernel) rfl), (gtab_at 414 rfl rfl), by decide, by decide, by decide +kernel⟩
theorem gim_Traffic_those : Cond.instanceMethod gy_Traffic_those ∈ gtbl := (gtab_at 412 (by decide +kernel) rfl)
theorem gse_Traffic_those : Cond.selects gy_Traffic_those.cls gy_Traffic_those gy_Traffic_those ∈ gtbl := (gtab_at 413 (by decide +kernel) rfl)
set_option maxRecDepth 20000 in
theorem gcy_Traffic_81 : gCy gR_4 81 gy_JI_bitCount gc_JI_bitCount 1 (some .int) 1 := ⟨(gtab_at 480 (by decide +kernel) rfl), (gtab_at 9 (by decide +kernel) rfl), (gtab_at 482 rfl rfl), by decide, by decide, by decide +kernel⟩
theorem gst_JI_bitCount : Cond.static gy_JI_bitCount ∈ gtbl := (gtab_at 481 (by decide +kernel) rfl)
def f_Traffic_countHome (t : Nat) (h : gH) : Option gO := gb (f_Traffic_those t 3 h) (fun h1 r2 => gb (f_JI_bitCount r2 h1) (fun h3 r4 => some (h3, r4)))
theorem c_Traffic_countHome {Z : gZ} (hL : gLive Z) (hn : (zL Z).Nodup) {t : Nat} (ht : gsh t = .inr 4) {h : gH} {o : gO} (hg : gRg h) (ha : gRl [.inr (.inr t)]) (hx : f_Traffic_countHome t h = some o) : gC Z gy_Traffic_countHome gc_Traffic_countHome 1 (some .int) 1 23 [.inr (.inr t)] h o := by
  unfold f_Traffic_countHome at hx
  refine gC_of (lv := [(0, .inr (.inr t))]) (own := gR_4) (by decide +kernel) rfl (Nat.le_of_ble_eq_true rfl) rfl rfl hn hg ha hx (fun X hZ hF => ?_)
  subst hZ
  show gr _ o gm_Traffic_countHome X h 0 _ _
  refine gr_aload_n (M := gm_Traffic_countHome) dq_Traffic_countHome_0 rfl 0 rfl 1 rfl ?_
  refine gr_iconst (M := gm_Traffic_countHome) (v := 3) dq_Traffic_countHome_1 rfl ⟨by decide, by decide⟩ 2 rfl ?_
  refine gr_callVi (M := gm_Traffic_countHome) (as := [.inl 3]) dq_Traffic_countHome_2 5 rfl rfl gcy_Traffic_77 gim_Traffic_those gse_Traffic_those ⟨by decide, by decide⟩ (Nat.le_of_ble_eq_true rfl) ht rfl (gli hL ht) (fun o1 hg ha hx => c_Traffic_those hL hn ht hg ha hx) (fun h1 r2 _ => ?_)
  refine gr_callSi (M := gm_Traffic_countHome) (as := [.inl r2]) dq_Traffic_countHome_5 8 rfl rfl gcy_Traffic_81 gst_JI_bitCount ⟨by decide, by decide⟩ (Nat.le_of_ble_eq_true rfl) (fun o1 hg ha hx => c_JI_bitCount hL hn  hg ha hx) (fun h3 r4 _ => ?_)
  exact gr_ireturn (M := gm_Traffic_countHome) dq_Traffic_countHome_8 hF

-- Traffic_toll
theorem dq_Traffic_toll_0 : decode gc_Traffic_toll 0 = .ok (.iconst 0, 1) := by decide +kernel
theorem dq_Traffic_toll_1 : decode gc_Traffic_toll 1 = .ok (.istore_n 1, 1) := by decide +kernel
theorem dq_Traffic_toll_2 : decode gc_Traffic_toll 2 = .ok (.iconst 0, 1) := by decide +kernel
theorem dq_Traffic_toll_3 : decode gc_Traffic_toll 3 = .ok (.istore_n 2, 1) := by decide +kernel
theorem dq_Traffic_toll_4 : decode gc_Traffic_toll 4 = .ok (.iload_n 2, 1) := by decide +kernel
theorem dq_Traffic_toll_5 : decode gc_Traffic_toll 5 = .ok (.aload_n 0, 1) := by decide +kernel
theorem dq_Traffic_toll_6 : decode gc_Traffic_toll 6 = .ok (.getfield 45, 3) := by decide +kernel
theorem dq_Traffic_toll_9 : decode gc_Traffic_toll 9 = .ok (.getfield 74, 3) := by decide +kernel
theorem dq_Traffic_toll_12 : decode gc_Traffic_toll 12 = .ok (.if_icmp .ge 18, 3) := by decide +kernel
theorem dq_Traffic_toll_15 : decode gc_Traffic_toll 15 = .ok (.iload_n 1, 1) := by decide +kernel
theorem dq_Traffic_toll_16 : decode gc_Traffic_toll 16 = .ok (.aload_n 0, 1) := by decide +kernel
theorem dq_Traffic_toll_17 : decode gc_Traffic_toll 17 = .ok (.getfield 38, 3) := by decide +kernel
theorem dq_Traffic_toll_20 : decode gc_Traffic_toll 20 = .ok (.iload_n 2, 1) := by decide +kernel
theorem dq_Traffic_toll_21 : decode gc_Traffic_toll 21 = .ok (.iaload, 1) := by decide +kernel
theorem dq_Traffic_toll_22 : decode gc_Traffic_toll 22 = .ok (.iadd, 1) := by decide +kernel
theorem dq_Traffic_toll_23 : decode gc_Traffic_toll 23 = .ok (.istore_n 1, 1) := by decide +kernel
theorem dq_Traffic_toll_24 : decode gc_Traffic_toll 24 = .ok (.iinc 2 1, 3) := by decide +kernel
theorem dq_Traffic_toll_27 : decode gc_Traffic_toll 27 = .ok (.goto (-23), 3) := by decide +kernel
theorem dq_Traffic_toll_30 : decode gc_Traffic_toll 30 = .ok (.iload_n 1, 1) := by decide +kernel
theorem dq_Traffic_toll_31 : decode gc_Traffic_toll 31 = .ok (.ireturn, 1) := by decide +kernel
abbrev gm_Traffic_toll : gM := (gc_Traffic_toll, gR_4, 0, 0, 3)
def f_Traffic_toll_L4 (t : Nat) (k30 : Int → gH → Option gO) : Nat → Int → Int → gH → Option gO
  | 0, _, _, _ => none
  | n + 1, v1, v2, h => gd (gcl ((h t 0).toNat) 0) (if (h (h t 0).toNat 3) ≤ v2 then (k30 v1 h) else (gd (gix 6 v2) (f_Traffic_toll_L4 t k30 n (gadd v1 (h (t + 9) v2.toNat)) (gadd v2 1) h)))
theorem w_Traffic_toll_L4 {o : gO} {X : gX} (hL : gLive (xZ X)) (hn : (zL (xZ X)).Nodup) (hF : gFin X (some .int) o) {t : Nat} (ht : gsh t = .inr 4)  {k30 : Int → gH → Option gO} (hk30 : ∀ (v1 : Int) (h : gH), gr (k30 v1 h) o gm_Traffic_toll X h 30 [(1, .inl v1)] []) : ∀ (n : Nat) (v1 : Int) (v2 : Int) (h : gH), gr (f_Traffic_toll_L4 t k30 n v1 v2 h) o gm_Traffic_toll X h 4 [(0, .inr (.inr t)), (1, .inl v1), (2, .inl v2)] [] := by
  intro n
  induction n with
  | zero => intros; exact gr_none
  | succ n ih =>
    intro v1 v2 h
    unfold f_Traffic_toll_L4
    refine gr_iload_n (M := gm_Traffic_toll) dq_Traffic_toll_4 rfl 2 rfl 5 rfl ?_
    refine gr_aload_n (M := gm_Traffic_toll) dq_Traffic_toll_5 rfl 0 rfl 6 rfl ?_
    refine gr_getd (M := gm_Traffic_toll) dq_Traffic_toll_6 9 rfl gfl_Traffic_45 ht rfl (gli hL ht) (fun hc1 => ?_)
    refine gr_geti (M := gm_Traffic_toll) dq_Traffic_toll_9 12 rfl gfl_Traffic_74 (gclE hc1) rfl (gli hL (gclE hc1)) ?_
    refine gr_icmp_ge (M := gm_Traffic_toll) dq_Traffic_toll_12 30 15 rfl rfl (fun c2 => ?_) (fun c2 => ?_)
    · refine gr_sub (M := gm_Traffic_toll) (lv' := [(1, .inl v1)]) [1] rfl ?_
      exact hk30 _ _
    refine gr_iload_n (M := gm_Traffic_toll) dq_Traffic_toll_15 rfl 1 rfl 16 rfl ?_
    refine gr_aload_n (M := gm_Traffic_toll) dq_Traffic_toll_16 rfl 0 rfl 17 rfl ?_
    refine gr_getr (M := gm_Traffic_toll) dq_Traffic_toll_17 20 rfl gfl_Traffic_38 ht rfl (gli hL ht) (t + 9) rfl ?_
    refine gr_iload_n (M := gm_Traffic_toll) dq_Traffic_toll_20 rfl 2 rfl 21 rfl ?_
    refine gr_iald (M := gm_Traffic_toll) dq_Traffic_toll_21 22 rfl (gsT_9 ht) (glj hL (gsT_9 ht) (by decide)) ?_
    refine gr_iadd (M := gm_Traffic_toll) dq_Traffic_toll_22 23 rfl ?_
    refine gr_istore_n (M := gm_Traffic_toll) (lv' := [(1, .inl (gadd v1 (h (t + 9) v2.toNat))), (0, .inr (.inr t)), (2, .inl v2)]) dq_Traffic_toll_23 rfl (by decide) rfl 24 rfl ?_
    refine gr_iinc (M := gm_Traffic_toll) (lv' := [(2, .inl (gadd v2 1)), (1, .inl (gadd v1 (h (t + 9) v2.toNat))), (0, .inr (.inr t))]) dq_Traffic_toll_24 2 rfl rfl (by decide) rfl 27 rfl ?_
    refine gr_goto (M := gm_Traffic_toll) dq_Traffic_toll_27 4 rfl ?_
    refine gr_sub (M := gm_Traffic_toll) (lv' := [(0, .inr (.inr t)), (1, .inl (gadd v1 (h (t + 9) v2.toNat))), (2, .inl (gadd v2 1))]) [2, 1, 0] rfl ?_
    exact ih _ _ _

def f_Traffic_toll (t : Nat) (h : gH) : Option gO := f_Traffic_toll_L4 t (fun v3 h4 => some (h4, v3)) 50000 0 0 h
theorem c_Traffic_toll {Z : gZ} (hL : gLive Z) (hn : (zL Z).Nodup) {t : Nat} (ht : gsh t = .inr 4) {h : gH} {o : gO} (hg : gRg h) (ha : gRl [.inr (.inr t)]) (hx : f_Traffic_toll t h = some o) : gC Z gy_Traffic_toll gc_Traffic_toll 3 (some .int) 0 0 [.inr (.inr t)] h o := by
  unfold f_Traffic_toll at hx
  refine gC_of (lv := [(0, .inr (.inr t))]) (own := gR_4) (by decide +kernel) rfl (Nat.le_of_ble_eq_true rfl) rfl rfl hn hg ha hx (fun X hZ hF => ?_)
  subst hZ
  show gr _ o gm_Traffic_toll X h 0 _ _
  refine gr_iconst (M := gm_Traffic_toll) (v := 0) dq_Traffic_toll_0 rfl ⟨by decide, by decide⟩ 1 rfl ?_
  refine gr_istore_n (M := gm_Traffic_toll) (lv' := [(1, .inl 0), (0, .inr (.inr t))]) dq_Traffic_toll_1 rfl (by decide) rfl 2 rfl ?_
  refine gr_iconst (M := gm_Traffic_toll) (v := 0) dq_Traffic_toll_2 rfl ⟨by decide, by decide⟩ 3 rfl ?_
  refine gr_istore_n (M := gm_Traffic_toll) (lv' := [(2, .inl 0), (1, .inl 0), (0, .inr (.inr t))]) dq_Traffic_toll_3 rfl (by decide) rfl 4 rfl ?_
  refine gr_sub (M := gm_Traffic_toll) (lv' := [(0, .inr (.inr t)), (1, .inl 0), (2, .inl 0)]) [2, 1, 0] rfl ?_
  refine w_Traffic_toll_L4 hL hn hF ht  (fun v3 h4 => ?_) 50000 _ _ _
  refine gr_iload_n (M := gm_Traffic_toll) dq_Traffic_toll_30 rfl 0 rfl 31 rfl ?_
  exact gr_ireturn (M := gm_Traffic_toll) dq_Traffic_toll_31 hF

-- Traffic_together
theorem dq_Traffic_together_0 : decode gc_Traffic_together 0 = .ok (.iconst 0, 1) := by decide +kernel
theorem dq_Traffic_together_1 : decode gc_Traffic_together 1 = .ok (.istore_n 2, 1) := by decide +kernel
theorem dq_Traffic_together_2 : decode gc_Traffic_together 2 = .ok (.iconst 0, 1) := by decide +kernel
theorem dq_Traffic_together_3 : decode gc_Traffic_together 3 = .ok (.istore_n 3, 1) := by decide +kernel
theorem dq_Traffic_together_4 : decode gc_Traffic_together 4 = .ok (.iload_n 3, 1) := by decide +kernel
theorem dq_Traffic_together_5 : decode gc_Traffic_together 5 = .ok (.aload_n 0, 1) := by decide +kernel
theorem dq_Traffic_together_6 : decode gc_Traffic_together 6 = .ok (.getfield 45, 3) := by decide +kernel
theorem dq_Traffic_together_9 : decode gc_Traffic_together 9 = .ok (.getfield 74, 3) := by decide +kernel
theorem dq_Traffic_together_12 : decode gc_Traffic_together 12 = .ok (.if_icmp .ge 40, 3) := by decide +kernel
theorem dq_Traffic_together_15 : decode gc_Traffic_together 15 = .ok (.iload_n 3, 1) := by decide +kernel
theorem dq_Traffic_together_16 : decode gc_Traffic_together 16 = .ok (.iload_n 1, 1) := by decide +kernel
theorem dq_Traffic_together_17 : decode gc_Traffic_together 17 = .ok (.if_icmp .eq 29, 3) := by decide +kernel
theorem dq_Traffic_together_20 : decode gc_Traffic_together 20 = .ok (.iload_n 2, 1) := by decide +kernel
theorem dq_Traffic_together_21 : decode gc_Traffic_together 21 = .ok (.aload_n 0, 1) := by decide +kernel
theorem dq_Traffic_together_22 : decode gc_Traffic_together 22 = .ok (.getfield 29, 3) := by decide +kernel
theorem dq_Traffic_together_25 : decode gc_Traffic_together 25 = .ok (.iload_n 3, 1) := by decide +kernel
theorem dq_Traffic_together_26 : decode gc_Traffic_together 26 = .ok (.iaload, 1) := by decide +kernel
theorem dq_Traffic_together_27 : decode gc_Traffic_together 27 = .ok (.iconst 3, 1) := by decide +kernel
theorem dq_Traffic_together_28 : decode gc_Traffic_together 28 = .ok (.if_icmp .ne 12, 3) := by decide +kernel
theorem dq_Traffic_together_31 : decode gc_Traffic_together 31 = .ok (.aload_n 0, 1) := by decide +kernel
theorem dq_Traffic_together_32 : decode gc_Traffic_together 32 = .ok (.getfield 35, 3) := by decide +kernel
theorem dq_Traffic_together_35 : decode gc_Traffic_together 35 = .ok (.iload_n 3, 1) := by decide +kernel
theorem dq_Traffic_together_36 : decode gc_Traffic_together 36 = .ok (.iaload, 1) := by decide +kernel
theorem dq_Traffic_together_37 : decode gc_Traffic_together 37 = .ok (.goto 7, 3) := by decide +kernel
theorem dq_Traffic_together_40 : decode gc_Traffic_together 40 = .ok (.aload_n 0, 1) := by decide +kernel
theorem dq_Traffic_together_41 : decode gc_Traffic_together 41 = .ok (.getfield 49, 3) := by decide +kernel
theorem dq_Traffic_together_44 : decode gc_Traffic_together 44 = .ok (.iadd, 1) := by decide +kernel
theorem dq_Traffic_together_45 : decode gc_Traffic_together 45 = .ok (.istore_n 2, 1) := by decide +kernel
theorem dq_Traffic_together_46 : decode gc_Traffic_together 46 = .ok (.iinc 3 1, 3) := by decide +kernel
theorem dq_Traffic_together_49 : decode gc_Traffic_together 49 = .ok (.goto (-45), 3) := by decide +kernel
theorem dq_Traffic_together_52 : decode gc_Traffic_together 52 = .ok (.iload_n 2, 1) := by decide +kernel
theorem dq_Traffic_together_53 : decode gc_Traffic_together 53 = .ok (.ireturn, 1) := by decide +kernel
abbrev gm_Traffic_together : gM := (gc_Traffic_together, gR_4, 0, 0, 4)
def f_Traffic_together_J46 (t : Nat) (k4 : Int → Int → gH → Option gO) (v1 : Int) (v2 : Int) (v3 : Int) (h : gH) : Option gO := k4 v2 (gadd v3 1) h
theorem w_Traffic_together_J46 {o : gO} {X : gX} (hL : gLive (xZ X)) (hn : (zL (xZ X)).Nodup) (hF : gFin X (some .int) o) {t : Nat} (ht : gsh t = .inr 4)  {k4 : Int → Int → gH → Option gO} {v1 : Int} {v2 : Int} {v3 : Int} {h : gH} (hk4 : ∀ (v2 : Int) (v3 : Int) (h : gH), gr (k4 v2 v3 h) o gm_Traffic_together X h 4 [(0, .inr (.inr t)), (1, .inl v1), (2, .inl v2), (3, .inl v3)] []) : gr (f_Traffic_together_J46 t k4 v1 v2 v3 h) o gm_Traffic_together X h 46 [(0, .inr (.inr t)), (1, .inl v1), (2, .inl v2), (3, .inl v3)] [] := by
  unfold f_Traffic_together_J46
  refine gr_iinc (M := gm_Traffic_together) (lv' := [(3, .inl (gadd v3 1)), (0, .inr (.inr t)), (1, .inl v1), (2, .inl v2)]) dq_Traffic_together_46 3 rfl rfl (by decide) rfl 49 rfl ?_
  refine gr_goto (M := gm_Traffic_together) dq_Traffic_together_49 4 rfl ?_
  refine gr_sub (M := gm_Traffic_together) (lv' := [(0, .inr (.inr t)), (1, .inl v1), (2, .inl v2), (3, .inl (gadd v3 1))]) [1, 2, 3, 0] rfl ?_
  exact hk4 _ _ _

def f_Traffic_together_J44 (t : Nat) (k4 : Int → Int → gH → Option gO) (v1 : Int) (v3 : Int) (s1 : Int) (s0 : Int) (h : gH) : Option gO := f_Traffic_together_J46 t (k4) v1 (gadd s0 s1) v3 h
theorem w_Traffic_together_J44 {o : gO} {X : gX} (hL : gLive (xZ X)) (hn : (zL (xZ X)).Nodup) (hF : gFin X (some .int) o) {t : Nat} (ht : gsh t = .inr 4)  {k4 : Int → Int → gH → Option gO} {v1 : Int} {v3 : Int} {s1 : Int} {s0 : Int} {h : gH} (hk4 : ∀ (v2 : Int) (v3 : Int) (h : gH), gr (k4 v2 v3 h) o gm_Traffic_together X h 4 [(0, .inr (.inr t)), (1, .inl v1), (2, .inl v2), (3, .inl v3)] []) : gr (f_Traffic_together_J44 t k4 v1 v3 s1 s0 h) o gm_Traffic_together X h 44 [(0, .inr (.inr t)), (1, .inl v1), (3, .inl v3)] [.inl s1, .inl s0] := by
  unfold f_Traffic_together_J44
  refine gr_iadd (M := gm_Traffic_together) dq_Traffic_together_44 45 rfl ?_
  refine gr_istore_n (M := gm_Traffic_together) (lv' := [(2, .inl (gadd s0 s1)), (0, .inr (.inr t)), (1, .inl v1), (3, .inl v3)]) dq_Traffic_together_45 rfl (by decide) rfl 46 rfl ?_
  refine gr_sub (M := gm_Traffic_together) (lv' := [(0, .inr (.inr t)), (1, .inl v1), (2, .inl (gadd s0 s1)), (3, .inl v3)]) [1, 2, 0, 3] rfl ?_
  exact w_Traffic_together_J46 hL hn hF ht  hk4

def f_Traffic_together_L4 (t : Nat) (v1 : Int) (k52 : Int → gH → Option gO) : Nat → Int → Int → gH → Option gO
  | 0, _, _, _ => none
  | n + 1, v2, v3, h => gd (gcl ((h t 0).toNat) 0) (if (h (h t 0).toNat 3) ≤ v3 then (k52 v2 h) else (if v3 = v1 then (f_Traffic_together_J46 t (f_Traffic_together_L4 t v1 k52 n) v1 v2 v3 h) else (gd (gix 6 v3) (if (h (t + 6) v3.toNat) = 3 then (gd (gix 6 v3) (f_Traffic_together_J44 t (f_Traffic_together_L4 t v1 k52 n) v1 v3 (h (t + 8) v3.toNat) v2 h)) else (f_Traffic_together_J44 t (f_Traffic_together_L4 t v1 k52 n) v1 v3 (h t 1) v2 h)))))
theorem w_Traffic_together_L4 {o : gO} {X : gX} (hL : gLive (xZ X)) (hn : (zL (xZ X)).Nodup) (hF : gFin X (some .int) o) {t : Nat} {v1 : Int} (ht : gsh t = .inr 4)  {k52 : Int → gH → Option gO} (hk52 : ∀ (v2 : Int) (h : gH), gr (k52 v2 h) o gm_Traffic_together X h 52 [(2, .inl v2)] []) : ∀ (n : Nat) (v2 : Int) (v3 : Int) (h : gH), gr (f_Traffic_together_L4 t v1 k52 n v2 v3 h) o gm_Traffic_together X h 4 [(0, .inr (.inr t)), (1, .inl v1), (2, .inl v2), (3, .inl v3)] [] := by
  intro n
  induction n with
  | zero => intros; exact gr_none
  | succ n ih =>
    intro v2 v3 h
    unfold f_Traffic_together_L4
    refine gr_iload_n (M := gm_Traffic_together) dq_Traffic_together_4 rfl 3 rfl 5 rfl ?_
    refine gr_aload_n (M := gm_Traffic_together) dq_Traffic_together_5 rfl 0 rfl 6 rfl ?_
    refine gr_getd (M := gm_Traffic_together) dq_Traffic_together_6 9 rfl gfl_Traffic_45 ht rfl (gli hL ht) (fun hc1 => ?_)
    refine gr_geti (M := gm_Traffic_together) dq_Traffic_together_9 12 rfl gfl_Traffic_74 (gclE hc1) rfl (gli hL (gclE hc1)) ?_
    refine gr_icmp_ge (M := gm_Traffic_together) dq_Traffic_together_12 52 15 rfl rfl (fun c2 => ?_) (fun c2 => ?_)
    · refine gr_sub (M := gm_Traffic_together) (lv' := [(2, .inl v2)]) [2] rfl ?_
      exact hk52 _ _
    refine gr_iload_n (M := gm_Traffic_together) dq_Traffic_together_15 rfl 3 rfl 16 rfl ?_
    refine gr_iload_n (M := gm_Traffic_together) dq_Traffic_together_16 rfl 1 rfl 17 rfl ?_
    refine gr_icmp_eq (M := gm_Traffic_together) dq_Traffic_together_17 46 20 rfl rfl (fun c3 => ?_) (fun c3 => ?_)
    · exact w_Traffic_together_J46 hL hn hF ht  ih
    refine gr_iload_n (M := gm_Traffic_together) dq_Traffic_together_20 rfl 2 rfl 21 rfl ?_
    refine gr_aload_n (M := gm_Traffic_together) dq_Traffic_together_21 rfl 0 rfl 22 rfl ?_
    refine gr_getr (M := gm_Traffic_together) dq_Traffic_together_22 25 rfl gfl_Traffic_29 ht rfl (gli hL ht) (t + 6) rfl ?_
    refine gr_iload_n (M := gm_Traffic_together) dq_Traffic_together_25 rfl 3 rfl 26 rfl ?_
    refine gr_iald (M := gm_Traffic_together) dq_Traffic_together_26 27 rfl (gsT_6 ht) (glj hL (gsT_6 ht) (by decide)) ?_
    refine gr_iconst (M := gm_Traffic_together) (v := 3) dq_Traffic_together_27 rfl ⟨by decide, by decide⟩ 28 rfl ?_
    refine gr_icmp_ne (M := gm_Traffic_together) dq_Traffic_together_28 40 31 rfl rfl (fun c4 => ?_) (fun c4 => ?_)
    · refine gr_aload_n (M := gm_Traffic_together) dq_Traffic_together_40 rfl 0 rfl 41 rfl ?_
      refine gr_geti (M := gm_Traffic_together) dq_Traffic_together_41 44 rfl gfl_Traffic_49 ht rfl (gli hL ht) ?_
      refine gr_sub (M := gm_Traffic_together) (lv' := [(0, .inr (.inr t)), (1, .inl v1), (3, .inl v3)]) [0, 1, 3] rfl ?_
      exact w_Traffic_together_J44 hL hn hF ht  ih
    refine gr_aload_n (M := gm_Traffic_together) dq_Traffic_together_31 rfl 0 rfl 32 rfl ?_
    refine gr_getr (M := gm_Traffic_together) dq_Traffic_together_32 35 rfl gfl_Traffic_35 ht rfl (gli hL ht) (t + 8) rfl ?_
    refine gr_iload_n (M := gm_Traffic_together) dq_Traffic_together_35 rfl 3 rfl 36 rfl ?_
    refine gr_iald (M := gm_Traffic_together) dq_Traffic_together_36 37 rfl (gsT_8 ht) (glj hL (gsT_8 ht) (by decide)) ?_
    refine gr_goto (M := gm_Traffic_together) dq_Traffic_together_37 44 rfl ?_
    refine gr_sub (M := gm_Traffic_together) (lv' := [(0, .inr (.inr t)), (1, .inl v1), (3, .inl v3)]) [0, 1, 3] rfl ?_
    exact w_Traffic_together_J44 hL hn hF ht  ih

def f_Traffic_together (t : Nat) (a1 : Int) (h : gH) : Option gO := f_Traffic_together_L4 t a1 (fun v5 h6 => some (h6, v5)) 50000 0 0 h
theorem c_Traffic_together {Z : gZ} (hL : gLive Z) (hn : (zL Z).Nodup) {t : Nat} {a1 : Int} (ht : gsh t = .inr 4) {h : gH} {o : gO} (hg : gRg h) (ha : gRl [.inr (.inr t), .inl a1]) (hx : f_Traffic_together t a1 h = some o) : gC Z gy_Traffic_together gc_Traffic_together 4 (some .int) 0 0 [.inr (.inr t), .inl a1] h o := by
  unfold f_Traffic_together at hx
  refine gC_of (lv := [(0, .inr (.inr t)), (1, .inl a1)]) (own := gR_4) (by decide +kernel) rfl (Nat.le_of_ble_eq_true rfl) rfl rfl hn hg ha hx (fun X hZ hF => ?_)
  subst hZ
  show gr _ o gm_Traffic_together X h 0 _ _
  refine gr_iconst (M := gm_Traffic_together) (v := 0) dq_Traffic_together_0 rfl ⟨by decide, by decide⟩ 1 rfl ?_
  refine gr_istore_n (M := gm_Traffic_together) (lv' := [(2, .inl 0), (0, .inr (.inr t)), (1, .inl a1)]) dq_Traffic_together_1 rfl (by decide) rfl 2 rfl ?_
  refine gr_iconst (M := gm_Traffic_together) (v := 0) dq_Traffic_together_2 rfl ⟨by decide, by decide⟩ 3 rfl ?_
  refine gr_istore_n (M := gm_Traffic_together) (lv' := [(3, .inl 0), (2, .inl 0), (0, .inr (.inr t)), (1, .inl a1)]) dq_Traffic_together_3 rfl (by decide) rfl 4 rfl ?_
  refine gr_sub (M := gm_Traffic_together) (lv' := [(0, .inr (.inr t)), (1, .inl a1), (2, .inl 0), (3, .inl 0)]) [2, 3, 1, 0] rfl ?_
  refine w_Traffic_together_L4 hL hn hF ht  (fun v5 h6 => ?_) 50000 _ _ _
  refine gr_iload_n (M := gm_Traffic_together) dq_Traffic_together_52 rfl 0 rfl 53 rfl ?_
  exact gr_ireturn (M := gm_Traffic_together) dq_Traffic_together_53 hF

-- Traffic_skipIdle
theorem dq_Traffic_skipIdle_0 : decode gc_Traffic_skipIdle 0 = .ok (.iload_n 1, 1) := by decide +kernel
theorem dq_Traffic_skipIdle_1 : decode gc_Traffic_skipIdle 1 = .ok (.istore_n 2, 1) := by decide +kernel
theorem dq_Traffic_skipIdle_2 : decode gc_Traffic_skipIdle 2 = .ok (.iconst 0, 1) := by decide +kernel
theorem dq_Traffic_skipIdle_3 : decode gc_Traffic_skipIdle 3 = .ok (.istore_n 3, 1) := by decide +kernel
theorem dq_Traffic_skipIdle_4 : decode gc_Traffic_skipIdle 4 = .ok (.iload_n 3, 1) := by decide +kernel
theorem dq_Traffic_skipIdle_5 : decode gc_Traffic_skipIdle 5 = .ok (.aload_n 0, 1) := by decide +kernel
theorem dq_Traffic_skipIdle_6 : decode gc_Traffic_skipIdle 6 = .ok (.getfield 45, 3) := by decide +kernel
theorem dq_Traffic_skipIdle_9 : decode gc_Traffic_skipIdle 9 = .ok (.getfield 74, 3) := by decide +kernel
theorem dq_Traffic_skipIdle_12 : decode gc_Traffic_skipIdle 12 = .ok (.if_icmp .ge 82, 3) := by decide +kernel
theorem dq_Traffic_skipIdle_15 : decode gc_Traffic_skipIdle 15 = .ok (.aload_n 0, 1) := by decide +kernel
theorem dq_Traffic_skipIdle_16 : decode gc_Traffic_skipIdle 16 = .ok (.getfield 29, 3) := by decide +kernel
theorem dq_Traffic_skipIdle_19 : decode gc_Traffic_skipIdle 19 = .ok (.iload_n 3, 1) := by decide +kernel
theorem dq_Traffic_skipIdle_20 : decode gc_Traffic_skipIdle 20 = .ok (.iaload, 1) := by decide +kernel
theorem dq_Traffic_skipIdle_21 : decode gc_Traffic_skipIdle 21 = .ok (.iconst 1, 1) := by decide +kernel
theorem dq_Traffic_skipIdle_22 : decode gc_Traffic_skipIdle 22 = .ok (.if_icmp .ne 4, 3) := by decide +kernel
theorem dq_Traffic_skipIdle_25 : decode gc_Traffic_skipIdle 25 = .ok (.return_, 1) := by decide +kernel
theorem dq_Traffic_skipIdle_26 : decode gc_Traffic_skipIdle 26 = .ok (.aload_n 0, 1) := by decide +kernel
theorem dq_Traffic_skipIdle_27 : decode gc_Traffic_skipIdle 27 = .ok (.getfield 29, 3) := by decide +kernel
theorem dq_Traffic_skipIdle_30 : decode gc_Traffic_skipIdle 30 = .ok (.iload_n 3, 1) := by decide +kernel
theorem dq_Traffic_skipIdle_31 : decode gc_Traffic_skipIdle 31 = .ok (.iaload, 1) := by decide +kernel
theorem dq_Traffic_skipIdle_32 : decode gc_Traffic_skipIdle 32 = .ok (.ifCond .ne 20, 3) := by decide +kernel
theorem dq_Traffic_skipIdle_35 : decode gc_Traffic_skipIdle 35 = .ok (.iload_n 2, 1) := by decide +kernel
theorem dq_Traffic_skipIdle_36 : decode gc_Traffic_skipIdle 36 = .ok (.aload_n 0, 1) := by decide +kernel
theorem dq_Traffic_skipIdle_37 : decode gc_Traffic_skipIdle 37 = .ok (.getfield 45, 3) := by decide +kernel
theorem dq_Traffic_skipIdle_40 : decode gc_Traffic_skipIdle 40 = .ok (.getfield 103, 3) := by decide +kernel
theorem dq_Traffic_skipIdle_43 : decode gc_Traffic_skipIdle 43 = .ok (.iload_n 3, 1) := by decide +kernel
theorem dq_Traffic_skipIdle_44 : decode gc_Traffic_skipIdle 44 = .ok (.iaload, 1) := by decide +kernel
theorem dq_Traffic_skipIdle_45 : decode gc_Traffic_skipIdle 45 = .ok (.invokestatic 106, 3) := by decide +kernel
theorem dq_Traffic_skipIdle_48 : decode gc_Traffic_skipIdle 48 = .ok (.istore_n 2, 1) := by decide +kernel
theorem dq_Traffic_skipIdle_49 : decode gc_Traffic_skipIdle 49 = .ok (.goto 39, 3) := by decide +kernel
theorem dq_Traffic_skipIdle_52 : decode gc_Traffic_skipIdle 52 = .ok (.aload_n 0, 1) := by decide +kernel
theorem dq_Traffic_skipIdle_53 : decode gc_Traffic_skipIdle 53 = .ok (.getfield 29, 3) := by decide +kernel
theorem dq_Traffic_skipIdle_56 : decode gc_Traffic_skipIdle 56 = .ok (.iload_n 3, 1) := by decide +kernel
theorem dq_Traffic_skipIdle_57 : decode gc_Traffic_skipIdle 57 = .ok (.iaload, 1) := by decide +kernel
theorem dq_Traffic_skipIdle_58 : decode gc_Traffic_skipIdle 58 = .ok (.iconst 2, 1) := by decide +kernel
theorem dq_Traffic_skipIdle_59 : decode gc_Traffic_skipIdle 59 = .ok (.if_icmp .ne 29, 3) := by decide +kernel
theorem dq_Traffic_skipIdle_62 : decode gc_Traffic_skipIdle 62 = .ok (.iload_n 2, 1) := by decide +kernel
theorem dq_Traffic_skipIdle_63 : decode gc_Traffic_skipIdle 63 = .ok (.aload_n 0, 1) := by decide +kernel
theorem dq_Traffic_skipIdle_64 : decode gc_Traffic_skipIdle 64 = .ok (.getfield 35, 3) := by decide +kernel
theorem dq_Traffic_skipIdle_67 : decode gc_Traffic_skipIdle 67 = .ok (.iload_n 3, 1) := by decide +kernel
theorem dq_Traffic_skipIdle_68 : decode gc_Traffic_skipIdle 68 = .ok (.iaload, 1) := by decide +kernel
theorem dq_Traffic_skipIdle_69 : decode gc_Traffic_skipIdle 69 = .ok (.aload_n 0, 1) := by decide +kernel
theorem dq_Traffic_skipIdle_70 : decode gc_Traffic_skipIdle 70 = .ok (.getfield 45, 3) := by decide +kernel
theorem dq_Traffic_skipIdle_73 : decode gc_Traffic_skipIdle 73 = .ok (.getfield 112, 3) := by decide +kernel
theorem dq_Traffic_skipIdle_76 : decode gc_Traffic_skipIdle 76 = .ok (.aload_n 0, 1) := by decide +kernel
theorem dq_Traffic_skipIdle_77 : decode gc_Traffic_skipIdle 77 = .ok (.getfield 32, 3) := by decide +kernel
theorem dq_Traffic_skipIdle_80 : decode gc_Traffic_skipIdle 80 = .ok (.iload_n 3, 1) := by decide +kernel
theorem dq_Traffic_skipIdle_81 : decode gc_Traffic_skipIdle 81 = .ok (.iaload, 1) := by decide +kernel
theorem dq_Traffic_skipIdle_82 : decode gc_Traffic_skipIdle 82 = .ok (.iaload, 1) := by decide +kernel
theorem dq_Traffic_skipIdle_83 : decode gc_Traffic_skipIdle 83 = .ok (.iadd, 1) := by decide +kernel
theorem dq_Traffic_skipIdle_84 : decode gc_Traffic_skipIdle 84 = .ok (.invokestatic 106, 3) := by decide +kernel
theorem dq_Traffic_skipIdle_87 : decode gc_Traffic_skipIdle 87 = .ok (.istore_n 2, 1) := by decide +kernel
theorem dq_Traffic_skipIdle_88 : decode gc_Traffic_skipIdle 88 = .ok (.iinc 3 1, 3) := by decide +kernel
theorem dq_Traffic_skipIdle_91 : decode gc_Traffic_skipIdle 91 = .ok (.goto (-87), 3) := by decide +kernel
theorem dq_Traffic_skipIdle_94 : decode gc_Traffic_skipIdle 94 = .ok (.aload_n 0, 1) := by decide +kernel
theorem dq_Traffic_skipIdle_95 : decode gc_Traffic_skipIdle 95 = .ok (.aload_n 0, 1) := by decide +kernel
theorem dq_Traffic_skipIdle_96 : decode gc_Traffic_skipIdle 96 = .ok (.getfield 49, 3) := by decide +kernel
theorem dq_Traffic_skipIdle_99 : decode gc_Traffic_skipIdle 99 = .ok (.iload_n 2, 1) := by decide +kernel
theorem dq_Traffic_skipIdle_100 : decode gc_Traffic_skipIdle 100 = .ok (.invokestatic 115, 3) := by decide +kernel
theorem dq_Traffic_skipIdle_103 : decode gc_Traffic_skipIdle 103 = .ok (.putfield 49, 3) := by decide +kernel
theorem dq_Traffic_skipIdle_106 : decode gc_Traffic_skipIdle 106 = .ok (.return_, 1) := by decide +kernel
abbrev gm_Traffic_skipIdle : gM := (gc_Traffic_skipIdle, gR_4, 1, 21, 4)
theorem gfl_Traffic_112 : gFl gR_4 112 0 6 := ⟨_, _, _, rfl, by decide, (gtab_at 58 (by decide +kernel) rfl), gin_0⟩
theorem gmm_smin : Cond.static Lib.Math.min.name ∈ gtbl := (gtab_at 495 (by decide +kernel) rfl)
theorem gmm_cmin : Cond.code Lib.Math.min.name Lib.Math.min.code 2 (some .int) ∈ gtbl := (gtab_at 496 (by decide +kernel) rfl)
theorem gml_Traffic_106 : Cond.methodLink gR_4 106 Lib.Math.min.name ∈ gtbl := (gtab_at 494 (by decide +kernel) rfl)
theorem gfl_Traffic_103 : gFl gR_4 103 0 10 := ⟨_, _, _, rfl, by decide, (gtab_at 73 (by decide +kernel) rfl), gin_0⟩
theorem gml_Traffic_115 : Cond.methodLink gR_4 115 Lib.Math.max.name ∈ gtbl := (gtab_at 497 (by decide +kernel) rfl)
def f_Traffic_skipIdle_J88 (t : Nat) (k4 : Int → Int → gH → Option gO) (v2 : Int) (v3 : Int) (h : gH) : Option gO := k4 v2 (gadd v3 1) h
theorem w_Traffic_skipIdle_J88 {o : gO} {X : gX} (hL : gLive (xZ X)) (hn : (zL (xZ X)).Nodup) (hF : gFin X none o) {t : Nat} (ht : gsh t = .inr 4)  {k4 : Int → Int → gH → Option gO} {v2 : Int} {v3 : Int} {h : gH} (hk4 : ∀ (v2 : Int) (v3 : Int) (h : gH), gr (k4 v2 v3 h) o gm_Traffic_skipIdle X h 4 [(0, .inr (.inr t)), (2, .inl v2), (3, .inl v3)] []) : gr (f_Traffic_skipIdle_J88 t k4 v2 v3 h) o gm_Traffic_skipIdle X h 88 [(0, .inr (.inr t)), (2, .inl v2), (3, .inl v3)] [] := by
  unfold f_Traffic_skipIdle_J88
  refine gr_iinc (M := gm_Traffic_skipIdle) (lv' := [(3, .inl (gadd v3 1)), (0, .inr (.inr t)), (2, .inl v2)]) dq_Traffic_skipIdle_88 2 rfl rfl (by decide) rfl 91 rfl ?_
  refine gr_goto (M := gm_Traffic_skipIdle) dq_Traffic_skipIdle_91 4 rfl ?_
  refine gr_sub (M := gm_Traffic_skipIdle) (lv' := [(0, .inr (.inr t)), (2, .inl v2), (3, .inl (gadd v3 1))]) [1, 2, 0] rfl ?_
  exact hk4 _ _ _

def f_Traffic_skipIdle_L4 (t : Nat) (k94 : Int → gH → Option gO) : Nat → Int → Int → gH → Option gO
  | 0, _, _, _ => none
  | n + 1, v2, v3, h => gd (gcl ((h t 0).toNat) 0) (if (h (h t 0).toNat 3) ≤ v3 then (k94 v2 h) else (gd (gix 6 v3) (if (h (t + 6) v3.toNat) = 1 then (some (h, 0)) else (gd (gix 6 v3) (if (h (t + 6) v3.toNat) = 0 then (gd (gcl ((h t 0).toNat) 0) (gd (gix 6 v3) (f_Traffic_skipIdle_J88 t (f_Traffic_skipIdle_L4 t k94 n) (gmin v2 (h ((h t 0).toNat + 7) v3.toNat)) v3 h))) else (gd (gix 6 v3) (if (h (t + 6) v3.toNat) = 2 then (gd (gix 6 v3) (gd (gcl ((h t 0).toNat) 0) (gd (gix 6 v3) (gd (gix 9 (h (t + 7) v3.toNat)) (f_Traffic_skipIdle_J88 t (f_Traffic_skipIdle_L4 t k94 n) (gmin v2 (gadd (h (t + 8) v3.toNat) (h ((h t 0).toNat + 3) (h (t + 7) v3.toNat).toNat))) v3 h))))) else (f_Traffic_skipIdle_J88 t (f_Traffic_skipIdle_L4 t k94 n) v2 v3 h))))))))
theorem w_Traffic_skipIdle_L4 {o : gO} {X : gX} (hL : gLive (xZ X)) (hn : (zL (xZ X)).Nodup) (hF : gFin X none o) {t : Nat} (ht : gsh t = .inr 4)  {k94 : Int → gH → Option gO} (hk94 : ∀ (v2 : Int) (h : gH), gr (k94 v2 h) o gm_Traffic_skipIdle X h 94 [(0, .inr (.inr t)), (2, .inl v2)] []) : ∀ (n : Nat) (v2 : Int) (v3 : Int) (h : gH), gr (f_Traffic_skipIdle_L4 t k94 n v2 v3 h) o gm_Traffic_skipIdle X h 4 [(0, .inr (.inr t)), (2, .inl v2), (3, .inl v3)] [] := by
  intro n
  induction n with
  | zero => intros; exact gr_none
  | succ n ih =>
    intro v2 v3 h
    unfold f_Traffic_skipIdle_L4
    refine gr_iload_n (M := gm_Traffic_skipIdle) dq_Traffic_skipIdle_4 rfl 2 rfl 5 rfl ?_
    refine gr_aload_n (M := gm_Traffic_skipIdle) dq_Traffic_skipIdle_5 rfl 0 rfl 6 rfl ?_
    refine gr_getd (M := gm_Traffic_skipIdle) dq_Traffic_skipIdle_6 9 rfl gfl_Traffic_45 ht rfl (gli hL ht) (fun hc1 => ?_)
    refine gr_geti (M := gm_Traffic_skipIdle) dq_Traffic_skipIdle_9 12 rfl gfl_Traffic_74 (gclE hc1) rfl (gli hL (gclE hc1)) ?_
    refine gr_icmp_ge (M := gm_Traffic_skipIdle) dq_Traffic_skipIdle_12 94 15 rfl rfl (fun c2 => ?_) (fun c2 => ?_)
    · refine gr_sub (M := gm_Traffic_skipIdle) (lv' := [(0, .inr (.inr t)), (2, .inl v2)]) [0, 1] rfl ?_
      exact hk94 _ _
    refine gr_aload_n (M := gm_Traffic_skipIdle) dq_Traffic_skipIdle_15 rfl 0 rfl 16 rfl ?_
    refine gr_getr (M := gm_Traffic_skipIdle) dq_Traffic_skipIdle_16 19 rfl gfl_Traffic_29 ht rfl (gli hL ht) (t + 6) rfl ?_
    refine gr_iload_n (M := gm_Traffic_skipIdle) dq_Traffic_skipIdle_19 rfl 2 rfl 20 rfl ?_
    refine gr_iald (M := gm_Traffic_skipIdle) dq_Traffic_skipIdle_20 21 rfl (gsT_6 ht) (glj hL (gsT_6 ht) (by decide)) ?_
    refine gr_iconst (M := gm_Traffic_skipIdle) (v := 1) dq_Traffic_skipIdle_21 rfl ⟨by decide, by decide⟩ 22 rfl ?_
    refine gr_icmp_ne (M := gm_Traffic_skipIdle) dq_Traffic_skipIdle_22 26 25 rfl rfl (fun c3 => ?_) (fun c3 => ?_)
    · refine gr_aload_n (M := gm_Traffic_skipIdle) dq_Traffic_skipIdle_26 rfl 0 rfl 27 rfl ?_
      refine gr_getr (M := gm_Traffic_skipIdle) dq_Traffic_skipIdle_27 30 rfl gfl_Traffic_29 ht rfl (gli hL ht) (t + 6) rfl ?_
      refine gr_iload_n (M := gm_Traffic_skipIdle) dq_Traffic_skipIdle_30 rfl 2 rfl 31 rfl ?_
      refine gr_iald (M := gm_Traffic_skipIdle) dq_Traffic_skipIdle_31 32 rfl (gsT_6 ht) (glj hL (gsT_6 ht) (by decide)) ?_
      refine gr_if_ne (M := gm_Traffic_skipIdle) dq_Traffic_skipIdle_32 52 35 rfl rfl (fun c4 => ?_) (fun c4 => ?_)
      · refine gr_aload_n (M := gm_Traffic_skipIdle) dq_Traffic_skipIdle_52 rfl 0 rfl 53 rfl ?_
        refine gr_getr (M := gm_Traffic_skipIdle) dq_Traffic_skipIdle_53 56 rfl gfl_Traffic_29 ht rfl (gli hL ht) (t + 6) rfl ?_
        refine gr_iload_n (M := gm_Traffic_skipIdle) dq_Traffic_skipIdle_56 rfl 2 rfl 57 rfl ?_
        refine gr_iald (M := gm_Traffic_skipIdle) dq_Traffic_skipIdle_57 58 rfl (gsT_6 ht) (glj hL (gsT_6 ht) (by decide)) ?_
        refine gr_iconst (M := gm_Traffic_skipIdle) (v := 2) dq_Traffic_skipIdle_58 rfl ⟨by decide, by decide⟩ 59 rfl ?_
        refine gr_icmp_ne (M := gm_Traffic_skipIdle) dq_Traffic_skipIdle_59 88 62 rfl rfl (fun c5 => ?_) (fun c5 => ?_)
        · exact w_Traffic_skipIdle_J88 hL hn hF ht  ih
        refine gr_iload_n (M := gm_Traffic_skipIdle) dq_Traffic_skipIdle_62 rfl 1 rfl 63 rfl ?_
        refine gr_aload_n (M := gm_Traffic_skipIdle) dq_Traffic_skipIdle_63 rfl 0 rfl 64 rfl ?_
        refine gr_getr (M := gm_Traffic_skipIdle) dq_Traffic_skipIdle_64 67 rfl gfl_Traffic_35 ht rfl (gli hL ht) (t + 8) rfl ?_
        refine gr_iload_n (M := gm_Traffic_skipIdle) dq_Traffic_skipIdle_67 rfl 2 rfl 68 rfl ?_
        refine gr_iald (M := gm_Traffic_skipIdle) dq_Traffic_skipIdle_68 69 rfl (gsT_8 ht) (glj hL (gsT_8 ht) (by decide)) ?_
        refine gr_aload_n (M := gm_Traffic_skipIdle) dq_Traffic_skipIdle_69 rfl 0 rfl 70 rfl ?_
        refine gr_getd (M := gm_Traffic_skipIdle) dq_Traffic_skipIdle_70 73 rfl gfl_Traffic_45 ht rfl (gli hL ht) (fun hc6 => ?_)
        refine gr_getr (M := gm_Traffic_skipIdle) dq_Traffic_skipIdle_73 76 rfl gfl_Traffic_112 (gclE hc6) rfl (gli hL (gclE hc6)) ((h t 0).toNat + 3) rfl ?_
        refine gr_aload_n (M := gm_Traffic_skipIdle) dq_Traffic_skipIdle_76 rfl 0 rfl 77 rfl ?_
        refine gr_getr (M := gm_Traffic_skipIdle) dq_Traffic_skipIdle_77 80 rfl gfl_Traffic_32 ht rfl (gli hL ht) (t + 7) rfl ?_
        refine gr_iload_n (M := gm_Traffic_skipIdle) dq_Traffic_skipIdle_80 rfl 2 rfl 81 rfl ?_
        refine gr_iald (M := gm_Traffic_skipIdle) dq_Traffic_skipIdle_81 82 rfl (gsT_7 ht) (glj hL (gsT_7 ht) (by decide)) ?_
        refine gr_iald (M := gm_Traffic_skipIdle) dq_Traffic_skipIdle_82 83 rfl (gsC_3 (gclE hc6)) (glj hL (gsC_3 (gclE hc6)) (by decide)) ?_
        refine gr_iadd (M := gm_Traffic_skipIdle) dq_Traffic_skipIdle_83 84 rfl ?_
        refine gr_mmin (M := gm_Traffic_skipIdle) dq_Traffic_skipIdle_84 87 rfl gml_Traffic_106 gmm_smin gmm_i gmm_cmin ⟨by decide, by decide⟩ (Nat.le_of_ble_eq_true rfl) ?_
        refine gr_istore_n (M := gm_Traffic_skipIdle) (lv' := [(2, .inl (gmin v2 (gadd (h (t + 8) v3.toNat) (h ((h t 0).toNat + 3) (h (t + 7) v3.toNat).toNat)))), (0, .inr (.inr t)), (3, .inl v3)]) dq_Traffic_skipIdle_87 rfl (by decide) rfl 88 rfl ?_
        refine gr_sub (M := gm_Traffic_skipIdle) (lv' := [(0, .inr (.inr t)), (2, .inl (gmin v2 (gadd (h (t + 8) v3.toNat) (h ((h t 0).toNat + 3) (h (t + 7) v3.toNat).toNat)))), (3, .inl v3)]) [1, 0, 2] rfl ?_
        exact w_Traffic_skipIdle_J88 hL hn hF ht  ih
      refine gr_iload_n (M := gm_Traffic_skipIdle) dq_Traffic_skipIdle_35 rfl 1 rfl 36 rfl ?_
      refine gr_aload_n (M := gm_Traffic_skipIdle) dq_Traffic_skipIdle_36 rfl 0 rfl 37 rfl ?_
      refine gr_getd (M := gm_Traffic_skipIdle) dq_Traffic_skipIdle_37 40 rfl gfl_Traffic_45 ht rfl (gli hL ht) (fun hc7 => ?_)
      refine gr_getr (M := gm_Traffic_skipIdle) dq_Traffic_skipIdle_40 43 rfl gfl_Traffic_103 (gclE hc7) rfl (gli hL (gclE hc7)) ((h t 0).toNat + 7) rfl ?_
      refine gr_iload_n (M := gm_Traffic_skipIdle) dq_Traffic_skipIdle_43 rfl 2 rfl 44 rfl ?_
      refine gr_iald (M := gm_Traffic_skipIdle) dq_Traffic_skipIdle_44 45 rfl (gsC_7 (gclE hc7)) (glj hL (gsC_7 (gclE hc7)) (by decide)) ?_
      refine gr_mmin (M := gm_Traffic_skipIdle) dq_Traffic_skipIdle_45 48 rfl gml_Traffic_106 gmm_smin gmm_i gmm_cmin ⟨by decide, by decide⟩ (Nat.le_of_ble_eq_true rfl) ?_
      refine gr_istore_n (M := gm_Traffic_skipIdle) (lv' := [(2, .inl (gmin v2 (h ((h t 0).toNat + 7) v3.toNat))), (0, .inr (.inr t)), (3, .inl v3)]) dq_Traffic_skipIdle_48 rfl (by decide) rfl 49 rfl ?_
      refine gr_goto (M := gm_Traffic_skipIdle) dq_Traffic_skipIdle_49 88 rfl ?_
      refine gr_sub (M := gm_Traffic_skipIdle) (lv' := [(0, .inr (.inr t)), (2, .inl (gmin v2 (h ((h t 0).toNat + 7) v3.toNat))), (3, .inl v3)]) [1, 0, 2] rfl ?_
      exact w_Traffic_skipIdle_J88 hL hn hF ht  ih
    exact gr_return (M := gm_Traffic_skipIdle) dq_Traffic_skipIdle_25 hF

def f_Traffic_skipIdle (t : Nat) (a1 : Int) (h : gH) : Option gO := f_Traffic_skipIdle_L4 t (fun v8 h9 => gs (gup h9 t 1 (gmax (h9 t 1) v8)) (fun h10 => some (h10, 0))) 50000 a1 0 h
theorem c_Traffic_skipIdle {Z : gZ} (hL : gLive Z) (hn : (zL Z).Nodup) {t : Nat} {a1 : Int} (ht : gsh t = .inr 4) {h : gH} {o : gO} (hg : gRg h) (ha : gRl [.inr (.inr t), .inl a1]) (hx : f_Traffic_skipIdle t a1 h = some o) : gC Z gy_Traffic_skipIdle gc_Traffic_skipIdle 4 none 1 21 [.inr (.inr t), .inl a1] h o := by
  unfold f_Traffic_skipIdle at hx
  refine gC_of (lv := [(0, .inr (.inr t)), (1, .inl a1)]) (own := gR_4) (by decide +kernel) rfl (Nat.le_of_ble_eq_true rfl) rfl rfl hn hg ha hx (fun X hZ hF => ?_)
  subst hZ
  show gr _ o gm_Traffic_skipIdle X h 0 _ _
  refine gr_iload_n (M := gm_Traffic_skipIdle) dq_Traffic_skipIdle_0 rfl 1 rfl 1 rfl ?_
  refine gr_istore_n (M := gm_Traffic_skipIdle) (lv' := [(2, .inl a1), (0, .inr (.inr t)), (1, .inl a1)]) dq_Traffic_skipIdle_1 rfl (by decide) rfl 2 rfl ?_
  refine gr_iconst (M := gm_Traffic_skipIdle) (v := 0) dq_Traffic_skipIdle_2 rfl ⟨by decide, by decide⟩ 3 rfl ?_
  refine gr_istore_n (M := gm_Traffic_skipIdle) (lv' := [(3, .inl 0), (2, .inl a1), (0, .inr (.inr t)), (1, .inl a1)]) dq_Traffic_skipIdle_3 rfl (by decide) rfl 4 rfl ?_
  refine gr_sub (M := gm_Traffic_skipIdle) (lv' := [(0, .inr (.inr t)), (2, .inl a1), (3, .inl 0)]) [2, 1, 0] rfl ?_
  refine w_Traffic_skipIdle_L4 hL hn hF ht  (fun v8 h9 => ?_) 50000 _ _ _
  refine gr_aload_n (M := gm_Traffic_skipIdle) dq_Traffic_skipIdle_94 rfl 0 rfl 95 rfl ?_
  refine gr_aload_n (M := gm_Traffic_skipIdle) dq_Traffic_skipIdle_95 rfl 0 rfl 96 rfl ?_
  refine gr_geti (M := gm_Traffic_skipIdle) dq_Traffic_skipIdle_96 99 rfl gfl_Traffic_49 ht rfl (gli hL ht) ?_
  refine gr_iload_n (M := gm_Traffic_skipIdle) dq_Traffic_skipIdle_99 rfl 1 rfl 100 rfl ?_
  refine gr_mmax (M := gm_Traffic_skipIdle) dq_Traffic_skipIdle_100 103 rfl gml_Traffic_115 gmm_smax gmm_i gmm_cmax ⟨by decide, by decide⟩ (Nat.le_of_ble_eq_true rfl) ?_
  refine gr_puti (M := gm_Traffic_skipIdle) dq_Traffic_skipIdle_103 106 rfl gfp_Traffic_49 ht rfl (gli hL ht) (fun h10 _ => ?_)
  exact gr_return (M := gm_Traffic_skipIdle) dq_Traffic_skipIdle_106 hF

-- Traffic_settle
theorem dq_Traffic_settle_0 : decode gc_Traffic_settle 0 = .ok (.aload_n 0, 1) := by decide +kernel
theorem dq_Traffic_settle_1 : decode gc_Traffic_settle 1 = .ok (.getfield 29, 3) := by decide +kernel
theorem dq_Traffic_settle_4 : decode gc_Traffic_settle 4 = .ok (.iload_n 1, 1) := by decide +kernel
theorem dq_Traffic_settle_5 : decode gc_Traffic_settle 5 = .ok (.iload_n 2, 1) := by decide +kernel
theorem dq_Traffic_settle_6 : decode gc_Traffic_settle 6 = .ok (.iastore, 1) := by decide +kernel
theorem dq_Traffic_settle_7 : decode gc_Traffic_settle 7 = .ok (.aload_n 0, 1) := by decide +kernel
theorem dq_Traffic_settle_8 : decode gc_Traffic_settle 8 = .ok (.getfield 32, 3) := by decide +kernel
theorem dq_Traffic_settle_11 : decode gc_Traffic_settle 11 = .ok (.iload_n 1, 1) := by decide +kernel
theorem dq_Traffic_settle_12 : decode gc_Traffic_settle 12 = .ok (.iload_n 3, 1) := by decide +kernel
theorem dq_Traffic_settle_13 : decode gc_Traffic_settle 13 = .ok (.iastore, 1) := by decide +kernel
theorem dq_Traffic_settle_14 : decode gc_Traffic_settle 14 = .ok (.aload_n 0, 1) := by decide +kernel
theorem dq_Traffic_settle_15 : decode gc_Traffic_settle 15 = .ok (.getfield 35, 3) := by decide +kernel
theorem dq_Traffic_settle_18 : decode gc_Traffic_settle 18 = .ok (.iload_n 1, 1) := by decide +kernel
theorem dq_Traffic_settle_19 : decode gc_Traffic_settle 19 = .ok (.aload_n 0, 1) := by decide +kernel
theorem dq_Traffic_settle_20 : decode gc_Traffic_settle 20 = .ok (.getfield 49, 3) := by decide +kernel
theorem dq_Traffic_settle_23 : decode gc_Traffic_settle 23 = .ok (.iastore, 1) := by decide +kernel
theorem dq_Traffic_settle_24 : decode gc_Traffic_settle 24 = .ok (.return_, 1) := by decide +kernel
abbrev gm_Traffic_settle : gM := (gc_Traffic_settle, gR_4, 0, 0, 4)
def f_Traffic_settle (t : Nat) (a1 : Int) (a2 : Int) (a3 : Int) (h : gH) : Option gO := gd (gix 6 a1) (gs (gup h (t + 6) a1.toNat a2) (fun h1 => gd (gix 6 a1) (gs (gup h1 (t + 7) a1.toNat a3) (fun h2 => gd (gix 6 a1) (gs (gup h2 (t + 8) a1.toNat (h2 t 1)) (fun h3 => some (h3, 0)))))))
theorem c_Traffic_settle {Z : gZ} (hL : gLive Z) (hn : (zL Z).Nodup) {t : Nat} {a1 : Int} {a2 : Int} {a3 : Int} (ht : gsh t = .inr 4) {h : gH} {o : gO} (hg : gRg h) (ha : gRl [.inr (.inr t), .inl a1, .inl a2, .inl a3]) (hx : f_Traffic_settle t a1 a2 a3 h = some o) : gC Z gy_Traffic_settle gc_Traffic_settle 4 none 0 0 [.inr (.inr t), .inl a1, .inl a2, .inl a3] h o := by
  unfold f_Traffic_settle at hx
  refine gC_of (lv := [(0, .inr (.inr t)), (1, .inl a1), (2, .inl a2), (3, .inl a3)]) (own := gR_4) (by decide +kernel) rfl (Nat.le_of_ble_eq_true rfl) rfl rfl hn hg ha hx (fun X hZ hF => ?_)
  subst hZ
  show gr _ o gm_Traffic_settle X h 0 _ _
  refine gr_aload_n (M := gm_Traffic_settle) dq_Traffic_settle_0 rfl 0 rfl 1 rfl ?_
  refine gr_getr (M := gm_Traffic_settle) dq_Traffic_settle_1 4 rfl gfl_Traffic_29 ht rfl (gli hL ht) (t + 6) rfl ?_
  refine gr_iload_n (M := gm_Traffic_settle) dq_Traffic_settle_4 rfl 1 rfl 5 rfl ?_
  refine gr_iload_n (M := gm_Traffic_settle) dq_Traffic_settle_5 rfl 2 rfl 6 rfl ?_
  refine gr_iast (M := gm_Traffic_settle) dq_Traffic_settle_6 7 rfl (gsT_6 ht) (glj hL (gsT_6 ht) (by decide)) (fun h1 _ => ?_)
  refine gr_aload_n (M := gm_Traffic_settle) dq_Traffic_settle_7 rfl 0 rfl 8 rfl ?_
  refine gr_getr (M := gm_Traffic_settle) dq_Traffic_settle_8 11 rfl gfl_Traffic_32 ht rfl (gli hL ht) (t + 7) rfl ?_
  refine gr_iload_n (M := gm_Traffic_settle) dq_Traffic_settle_11 rfl 1 rfl 12 rfl ?_
  refine gr_iload_n (M := gm_Traffic_settle) dq_Traffic_settle_12 rfl 3 rfl 13 rfl ?_
  refine gr_iast (M := gm_Traffic_settle) dq_Traffic_settle_13 14 rfl (gsT_7 ht) (glj hL (gsT_7 ht) (by decide)) (fun h2 _ => ?_)
  refine gr_aload_n (M := gm_Traffic_settle) dq_Traffic_settle_14 rfl 0 rfl 15 rfl ?_
  refine gr_getr (M := gm_Traffic_settle) dq_Traffic_settle_15 18 rfl gfl_Traffic_35 ht rfl (gli hL ht) (t + 8) rfl ?_
  refine gr_iload_n (M := gm_Traffic_settle) dq_Traffic_settle_18 rfl 1 rfl 19 rfl ?_
  refine gr_aload_n (M := gm_Traffic_settle) dq_Traffic_settle_19 rfl 0 rfl 20 rfl ?_
  refine gr_geti (M := gm_Traffic_settle) dq_Traffic_settle_20 23 rfl gfl_Traffic_49 ht rfl (gli hL ht) ?_
  refine gr_iast (M := gm_Traffic_settle) dq_Traffic_settle_23 24 rfl (gsT_8 ht) (glj hL (gsT_8 ht) (by decide)) (fun h3 _ => ?_)
  exact gr_return (M := gm_Traffic_settle) dq_Traffic_settle_24 hF

-- Traffic_waitAt
theorem dq_Traffic_waitAt_0 : decode gc_Traffic_waitAt 0 = .ok (.aload_n 0, 1) := by decide +kernel
theorem dq_Traffic_waitAt_1 : decode gc_Traffic_waitAt 1 = .ok (.getfield 45, 3) := by decide +kernel
theorem dq_Traffic_waitAt_4 : decode gc_Traffic_waitAt 4 = .ok (.iload_n 2, 1) := by decide +kernel
theorem dq_Traffic_waitAt_5 : decode gc_Traffic_waitAt 5 = .ok (.aload_n 0, 1) := by decide +kernel
theorem dq_Traffic_waitAt_6 : decode gc_Traffic_waitAt 6 = .ok (.getfield 45, 3) := by decide +kernel
theorem dq_Traffic_waitAt_9 : decode gc_Traffic_waitAt 9 = .ok (.getfield 140, 3) := by decide +kernel
theorem dq_Traffic_waitAt_12 : decode gc_Traffic_waitAt 12 = .ok (.iload_n 1, 1) := by decide +kernel
theorem dq_Traffic_waitAt_13 : decode gc_Traffic_waitAt 13 = .ok (.iaload, 1) := by decide +kernel
theorem dq_Traffic_waitAt_14 : decode gc_Traffic_waitAt 14 = .ok (.invokevirtual 147, 3) := by decide +kernel
theorem dq_Traffic_waitAt_17 : decode gc_Traffic_waitAt 17 = .ok (.istore_n 3, 1) := by decide +kernel
theorem dq_Traffic_waitAt_18 : decode gc_Traffic_waitAt 18 = .ok (.iload_n 3, 1) := by decide +kernel
theorem dq_Traffic_waitAt_19 : decode gc_Traffic_waitAt 19 = .ok (.iconst (-1), 1) := by decide +kernel
theorem dq_Traffic_waitAt_20 : decode gc_Traffic_waitAt 20 = .ok (.if_icmp .ne 13, 3) := by decide +kernel
theorem dq_Traffic_waitAt_23 : decode gc_Traffic_waitAt 23 = .ok (.aload_n 0, 1) := by decide +kernel
theorem dq_Traffic_waitAt_24 : decode gc_Traffic_waitAt 24 = .ok (.iload_n 1, 1) := by decide +kernel
theorem dq_Traffic_waitAt_25 : decode gc_Traffic_waitAt 25 = .ok (.iconst 4, 1) := by decide +kernel
theorem dq_Traffic_waitAt_26 : decode gc_Traffic_waitAt 26 = .ok (.iload_n 2, 1) := by decide +kernel
theorem dq_Traffic_waitAt_27 : decode gc_Traffic_waitAt 27 = .ok (.invokevirtual 143, 3) := by decide +kernel
theorem dq_Traffic_waitAt_30 : decode gc_Traffic_waitAt 30 = .ok (.goto 34, 3) := by decide +kernel
theorem dq_Traffic_waitAt_33 : decode gc_Traffic_waitAt 33 = .ok (.aload_n 0, 1) := by decide +kernel
theorem dq_Traffic_waitAt_34 : decode gc_Traffic_waitAt 34 = .ok (.iload_n 1, 1) := by decide +kernel
theorem dq_Traffic_waitAt_35 : decode gc_Traffic_waitAt 35 = .ok (.iconst 1, 1) := by decide +kernel
theorem dq_Traffic_waitAt_36 : decode gc_Traffic_waitAt 36 = .ok (.iload_n 2, 1) := by decide +kernel
theorem dq_Traffic_waitAt_37 : decode gc_Traffic_waitAt 37 = .ok (.invokevirtual 143, 3) := by decide +kernel
theorem dq_Traffic_waitAt_40 : decode gc_Traffic_waitAt 40 = .ok (.aload_n 0, 1) := by decide +kernel
theorem dq_Traffic_waitAt_41 : decode gc_Traffic_waitAt 41 = .ok (.getfield 23, 3) := by decide +kernel
theorem dq_Traffic_waitAt_44 : decode gc_Traffic_waitAt 44 = .ok (.iconst 2, 1) := by decide +kernel
theorem dq_Traffic_waitAt_45 : decode gc_Traffic_waitAt 45 = .ok (.iload_n 3, 1) := by decide +kernel
theorem dq_Traffic_waitAt_46 : decode gc_Traffic_waitAt 46 = .ok (.imul, 1) := by decide +kernel
theorem dq_Traffic_waitAt_47 : decode gc_Traffic_waitAt 47 = .ok (.aload_n 0, 1) := by decide +kernel
theorem dq_Traffic_waitAt_48 : decode gc_Traffic_waitAt 48 = .ok (.getfield 45, 3) := by decide +kernel
theorem dq_Traffic_waitAt_51 : decode gc_Traffic_waitAt 51 = .ok (.iload_n 3, 1) := by decide +kernel
theorem dq_Traffic_waitAt_52 : decode gc_Traffic_waitAt 52 = .ok (.iload_n 2, 1) := by decide +kernel
theorem dq_Traffic_waitAt_53 : decode gc_Traffic_waitAt 53 = .ok (.invokevirtual 150, 3) := by decide +kernel
theorem dq_Traffic_waitAt_56 : decode gc_Traffic_waitAt 56 = .ok (.iadd, 1) := by decide +kernel
theorem dq_Traffic_waitAt_57 : decode gc_Traffic_waitAt 57 = .ok (.dup2, 1) := by decide +kernel
theorem dq_Traffic_waitAt_58 : decode gc_Traffic_waitAt 58 = .ok (.iaload, 1) := by decide +kernel
theorem dq_Traffic_waitAt_59 : decode gc_Traffic_waitAt 59 = .ok (.iconst 1, 1) := by decide +kernel
theorem dq_Traffic_waitAt_60 : decode gc_Traffic_waitAt 60 = .ok (.iload_n 1, 1) := by decide +kernel
theorem dq_Traffic_waitAt_61 : decode gc_Traffic_waitAt 61 = .ok (.ishl, 1) := by decide +kernel
theorem dq_Traffic_waitAt_62 : decode gc_Traffic_waitAt 62 = .ok (.ior, 1) := by decide +kernel
theorem dq_Traffic_waitAt_63 : decode gc_Traffic_waitAt 63 = .ok (.iastore, 1) := by decide +kernel
theorem dq_Traffic_waitAt_64 : decode gc_Traffic_waitAt 64 = .ok (.return_, 1) := by decide +kernel
abbrev gm_Traffic_waitAt : gM := (gc_Traffic_waitAt, gR_4, 1, 23, 4)
theorem gfl_Traffic_140 : gFl gR_4 140 0 9 := ⟨_, _, _, rfl, by decide, (gtab_at 69 (by decide +kernel) rfl), gin_0⟩
set_option maxRecDepth 20000 in
theorem gcy_Traffic_147 : gCy gR_4 147 gy_City_nextStreet gc_City_nextStreet 3 (some .int) 2 := ⟨(gtab_at 516 (by decide +kernel) rfl), (gtab_at 2 (by decide +kernel) rfl), (gtab_at 452 rfl rfl), by decide, by decide, by decide +kernel⟩
theorem gim_City_nextStreet : Cond.instanceMethod gy_City_nextStreet ∈ gtbl := (gtab_at 450 (by decide +kernel) rfl)
theorem gse_City_nextStreet : Cond.selects gy_City_nextStreet.cls gy_City_nextStreet gy_City_nextStreet ∈ gtbl := (gtab_at 451 (by decide +kernel) rfl)
set_option maxRecDepth 20000 in
theorem gcy_Traffic_143 : gCy gR_4 143 gy_Traffic_settle gc_Traffic_settle 4 none 3 := ⟨(gtab_at 508 (by decide +kernel) rfl), (gtab_at 4 (by decide +kernel) rfl), (gtab_at 511 rfl rfl), by decide, by decide, by decide +kernel⟩
theorem gim_Traffic_settle : Cond.instanceMethod gy_Traffic_settle ∈ gtbl := (gtab_at 510 (by decide +kernel) rfl)
theorem gse_Traffic_settle : Cond.selects gy_Traffic_settle.cls gy_Traffic_settle gy_Traffic_settle ∈ gtbl := (by decide +kernel)
set_option maxRecDepth 20000 in
theorem gcy_Traffic_150 : gCy gR_4 150 gy_City_sideOf gc_City_sideOf 3 (some .int) 2 := ⟨(gtab_at 517 (by decide +kernel) rfl), (gtab_at 2 (by decide +kernel) rfl), (gtab_at 520 rfl rfl), by decide, by decide, by decide +kernel⟩
theorem gim_City_sideOf : Cond.instanceMethod gy_City_sideOf ∈ gtbl := (gtab_at 518 (by decide +kernel) rfl)
theorem gse_City_sideOf : Cond.selects gy_City_sideOf.cls gy_City_sideOf gy_City_sideOf ∈ gtbl := (gtab_at 519 (by decide +kernel) rfl)
def f_Traffic_waitAt (t : Nat) (a1 : Int) (a2 : Int) (h : gH) : Option gO := gd (gcl ((h t 0).toNat) 0) (gd (gcl ((h t 0).toNat) 0) (gd (gix 6 a1) (gb (f_City_nextStreet (h t 0).toNat a2 (h ((h t 0).toNat + 6) a1.toNat) h) (fun h3 r4 => if r4 = (-1) then (gb (f_Traffic_settle t a1 4 a2 h3) (fun h12 r13 => some (h12, 0))) else (gb (f_Traffic_settle t a1 1 a2 h3) (fun h6 r7 => gd (gcl ((h6 t 0).toNat) 0) (gb (f_City_sideOf (h6 t 0).toNat r4 a2 h6) (fun h9 r10 => gd (gix 18 (gadd (gmul 2 r4) r10)) (gd (gix 18 (gadd (gmul 2 r4) r10)) (gs (gup h9 (t + 4) (gadd (gmul 2 r4) r10).toNat (gor (h9 (t + 4) (gadd (gmul 2 r4) r10).toNat) (gshl 1 a1))) (fun h11 => some (h11, 0))))))))))))
theorem c_Traffic_waitAt {Z : gZ} (hL : gLive Z) (hn : (zL Z).Nodup) {t : Nat} {a1 : Int} {a2 : Int} (ht : gsh t = .inr 4) {h : gH} {o : gO} (hg : gRg h) (ha : gRl [.inr (.inr t), .inl a1, .inl a2]) (hx : f_Traffic_waitAt t a1 a2 h = some o) : gC Z gy_Traffic_waitAt gc_Traffic_waitAt 4 none 1 23 [.inr (.inr t), .inl a1, .inl a2] h o := by
  unfold f_Traffic_waitAt at hx
  refine gC_of (lv := [(0, .inr (.inr t)), (1, .inl a1), (2, .inl a2)]) (own := gR_4) (by decide +kernel) rfl (Nat.le_of_ble_eq_true rfl) rfl rfl hn hg ha hx (fun X hZ hF => ?_)
  subst hZ
  show gr _ o gm_Traffic_waitAt X h 0 _ _
  refine gr_aload_n (M := gm_Traffic_waitAt) dq_Traffic_waitAt_0 rfl 0 rfl 1 rfl ?_
  refine gr_getd (M := gm_Traffic_waitAt) dq_Traffic_waitAt_1 4 rfl gfl_Traffic_45 ht rfl (gli hL ht) (fun hc1 => ?_)
  refine gr_iload_n (M := gm_Traffic_waitAt) dq_Traffic_waitAt_4 rfl 2 rfl 5 rfl ?_
  refine gr_aload_n (M := gm_Traffic_waitAt) dq_Traffic_waitAt_5 rfl 0 rfl 6 rfl ?_
  refine gr_getd (M := gm_Traffic_waitAt) dq_Traffic_waitAt_6 9 rfl gfl_Traffic_45 ht rfl (gli hL ht) (fun hc2 => ?_)
  refine gr_getr (M := gm_Traffic_waitAt) dq_Traffic_waitAt_9 12 rfl gfl_Traffic_140 (gclE hc2) rfl (gli hL (gclE hc2)) ((h t 0).toNat + 6) rfl ?_
  refine gr_iload_n (M := gm_Traffic_waitAt) dq_Traffic_waitAt_12 rfl 1 rfl 13 rfl ?_
  refine gr_iald (M := gm_Traffic_waitAt) dq_Traffic_waitAt_13 14 rfl (gsC_6 (gclE hc2)) (glj hL (gsC_6 (gclE hc2)) (by decide)) ?_
  refine gr_callVi (M := gm_Traffic_waitAt) (as := [.inl a2, .inl (h ((h t 0).toNat + 6) a1.toNat)]) dq_Traffic_waitAt_14 17 rfl rfl gcy_Traffic_147 gim_City_nextStreet gse_City_nextStreet ⟨by decide, by decide⟩ (Nat.le_of_ble_eq_true rfl) (gclE hc1) rfl (gli hL (gclE hc1)) (fun o1 hg ha hx => c_City_nextStreet hL hn (gclE hc1) hg ha hx) (fun h3 r4 _ => ?_)
  refine gr_istore_n (M := gm_Traffic_waitAt) (lv' := [(3, .inl r4), (0, .inr (.inr t)), (1, .inl a1), (2, .inl a2)]) dq_Traffic_waitAt_17 rfl (by decide) rfl 18 rfl ?_
  refine gr_iload_n (M := gm_Traffic_waitAt) dq_Traffic_waitAt_18 rfl 0 rfl 19 rfl ?_
  refine gr_iconst (M := gm_Traffic_waitAt) (v := (-1)) dq_Traffic_waitAt_19 rfl ⟨by decide, by decide⟩ 20 rfl ?_
  refine gr_icmp_ne (M := gm_Traffic_waitAt) dq_Traffic_waitAt_20 33 23 rfl rfl (fun c5 => ?_) (fun c5 => ?_)
  · refine gr_aload_n (M := gm_Traffic_waitAt) dq_Traffic_waitAt_33 rfl 1 rfl 34 rfl ?_
    refine gr_iload_n (M := gm_Traffic_waitAt) dq_Traffic_waitAt_34 rfl 2 rfl 35 rfl ?_
    refine gr_iconst (M := gm_Traffic_waitAt) (v := 1) dq_Traffic_waitAt_35 rfl ⟨by decide, by decide⟩ 36 rfl ?_
    refine gr_iload_n (M := gm_Traffic_waitAt) dq_Traffic_waitAt_36 rfl 3 rfl 37 rfl ?_
    refine gr_callVv (M := gm_Traffic_waitAt) (as := [.inl a1, .inl 1, .inl a2]) dq_Traffic_waitAt_37 40 rfl rfl gcy_Traffic_143 gim_Traffic_settle gse_Traffic_settle ⟨by decide, by decide⟩ (Nat.le_of_ble_eq_true rfl) ht rfl (gli hL ht) (fun o1 hg ha hx => c_Traffic_settle hL hn ht hg ha hx) (fun h6 r7 _ => ?_)
    refine gr_aload_n (M := gm_Traffic_waitAt) dq_Traffic_waitAt_40 rfl 1 rfl 41 rfl ?_
    refine gr_getr (M := gm_Traffic_waitAt) dq_Traffic_waitAt_41 44 rfl gfl_Traffic_23 ht rfl (gli hL ht) (t + 4) rfl ?_
    refine gr_iconst (M := gm_Traffic_waitAt) (v := 2) dq_Traffic_waitAt_44 rfl ⟨by decide, by decide⟩ 45 rfl ?_
    refine gr_iload_n (M := gm_Traffic_waitAt) dq_Traffic_waitAt_45 rfl 0 rfl 46 rfl ?_
    refine gr_imul (M := gm_Traffic_waitAt) dq_Traffic_waitAt_46 47 rfl ?_
    refine gr_aload_n (M := gm_Traffic_waitAt) dq_Traffic_waitAt_47 rfl 1 rfl 48 rfl ?_
    refine gr_getd (M := gm_Traffic_waitAt) dq_Traffic_waitAt_48 51 rfl gfl_Traffic_45 ht rfl (gli hL ht) (fun hc8 => ?_)
    refine gr_iload_n (M := gm_Traffic_waitAt) dq_Traffic_waitAt_51 rfl 0 rfl 52 rfl ?_
    refine gr_iload_n (M := gm_Traffic_waitAt) dq_Traffic_waitAt_52 rfl 3 rfl 53 rfl ?_
    refine gr_callVi (M := gm_Traffic_waitAt) (as := [.inl r4, .inl a2]) dq_Traffic_waitAt_53 56 rfl rfl gcy_Traffic_150 gim_City_sideOf gse_City_sideOf ⟨by decide, by decide⟩ (Nat.le_of_ble_eq_true rfl) (gclE hc8) rfl (gli hL (gclE hc8)) (fun o1 hg ha hx => c_City_sideOf hL hn (gclE hc8) hg ha hx) (fun h9 r10 _ => ?_)
    refine gr_iadd (M := gm_Traffic_waitAt) dq_Traffic_waitAt_56 57 rfl ?_
    refine gr_dup2 (M := gm_Traffic_waitAt) dq_Traffic_waitAt_57 (fun _ q => by cases q) (fun _ q => by cases q) 58 rfl ?_
    refine gr_iald (M := gm_Traffic_waitAt) dq_Traffic_waitAt_58 59 rfl (gsT_4 ht) (glj hL (gsT_4 ht) (by decide)) ?_
    refine gr_iconst (M := gm_Traffic_waitAt) (v := 1) dq_Traffic_waitAt_59 rfl ⟨by decide, by decide⟩ 60 rfl ?_
    refine gr_iload_n (M := gm_Traffic_waitAt) dq_Traffic_waitAt_60 rfl 2 rfl 61 rfl ?_
    refine gr_ishl (M := gm_Traffic_waitAt) dq_Traffic_waitAt_61 62 rfl ?_
    refine gr_ior (M := gm_Traffic_waitAt) dq_Traffic_waitAt_62 63 rfl ?_
    refine gr_iast (M := gm_Traffic_waitAt) dq_Traffic_waitAt_63 64 rfl (gsT_4 ht) (glj hL (gsT_4 ht) (by decide)) (fun h11 _ => ?_)
    exact gr_return (M := gm_Traffic_waitAt) dq_Traffic_waitAt_64 hF
  refine gr_aload_n (M := gm_Traffic_waitAt) dq_Traffic_waitAt_23 rfl 1 rfl 24 rfl ?_
  refine gr_iload_n (M := gm_Traffic_waitAt) dq_Traffic_waitAt_24 rfl 2 rfl 25 rfl ?_
  refine gr_iconst (M := gm_Traffic_waitAt) (v := 4) dq_Traffic_waitAt_25 rfl ⟨by decide, by decide⟩ 26 rfl ?_
  refine gr_iload_n (M := gm_Traffic_waitAt) dq_Traffic_waitAt_26 rfl 3 rfl 27 rfl ?_
  refine gr_callVv (M := gm_Traffic_waitAt) (as := [.inl a1, .inl 4, .inl a2]) dq_Traffic_waitAt_27 30 rfl rfl gcy_Traffic_143 gim_Traffic_settle gse_Traffic_settle ⟨by decide, by decide⟩ (Nat.le_of_ble_eq_true rfl) ht rfl (gli hL ht) (fun o1 hg ha hx => c_Traffic_settle hL hn ht hg ha hx) (fun h12 r13 _ => ?_)
  refine gr_goto (M := gm_Traffic_waitAt) dq_Traffic_waitAt_30 64 rfl ?_
  exact gr_return (M := gm_Traffic_waitAt) dq_Traffic_waitAt_64 hF

-- Traffic_arrive
theorem dq_Traffic_arrive_0 : decode gc_Traffic_arrive 0 = .ok (.aload_n 0, 1) := by decide +kernel
theorem dq_Traffic_arrive_1 : decode gc_Traffic_arrive 1 = .ok (.getfield 32, 3) := by decide +kernel
theorem dq_Traffic_arrive_4 : decode gc_Traffic_arrive 4 = .ok (.iload_n 1, 1) := by decide +kernel
theorem dq_Traffic_arrive_5 : decode gc_Traffic_arrive 5 = .ok (.iaload, 1) := by decide +kernel
theorem dq_Traffic_arrive_6 : decode gc_Traffic_arrive 6 = .ok (.istore_n 2, 1) := by decide +kernel
theorem dq_Traffic_arrive_7 : decode gc_Traffic_arrive 7 = .ok (.aload_n 0, 1) := by decide +kernel
theorem dq_Traffic_arrive_8 : decode gc_Traffic_arrive 8 = .ok (.getfield 20, 3) := by decide +kernel
theorem dq_Traffic_arrive_11 : decode gc_Traffic_arrive 11 = .ok (.iload_n 2, 1) := by decide +kernel
theorem dq_Traffic_arrive_12 : decode gc_Traffic_arrive 12 = .ok (.dup2, 1) := by decide +kernel
theorem dq_Traffic_arrive_13 : decode gc_Traffic_arrive 13 = .ok (.iaload, 1) := by decide +kernel
theorem dq_Traffic_arrive_14 : decode gc_Traffic_arrive 14 = .ok (.iconst 1, 1) := by decide +kernel
theorem dq_Traffic_arrive_15 : decode gc_Traffic_arrive 15 = .ok (.iload_n 1, 1) := by decide +kernel
theorem dq_Traffic_arrive_16 : decode gc_Traffic_arrive 16 = .ok (.ishl, 1) := by decide +kernel
theorem dq_Traffic_arrive_17 : decode gc_Traffic_arrive 17 = .ok (.iconst (-1), 1) := by decide +kernel
theorem dq_Traffic_arrive_18 : decode gc_Traffic_arrive 18 = .ok (.ixor, 1) := by decide +kernel
theorem dq_Traffic_arrive_19 : decode gc_Traffic_arrive 19 = .ok (.iand, 1) := by decide +kernel
theorem dq_Traffic_arrive_20 : decode gc_Traffic_arrive 20 = .ok (.iastore, 1) := by decide +kernel
theorem dq_Traffic_arrive_21 : decode gc_Traffic_arrive 21 = .ok (.aload_n 0, 1) := by decide +kernel
theorem dq_Traffic_arrive_22 : decode gc_Traffic_arrive 22 = .ok (.getfield 17, 3) := by decide +kernel
theorem dq_Traffic_arrive_25 : decode gc_Traffic_arrive 25 = .ok (.iload_n 2, 1) := by decide +kernel
theorem dq_Traffic_arrive_26 : decode gc_Traffic_arrive 26 = .ok (.iaload, 1) := by decide +kernel
theorem dq_Traffic_arrive_27 : decode gc_Traffic_arrive 27 = .ok (.ifCond .ne 15, 3) := by decide +kernel
theorem dq_Traffic_arrive_30 : decode gc_Traffic_arrive 30 = .ok (.aload_n 0, 1) := by decide +kernel
theorem dq_Traffic_arrive_31 : decode gc_Traffic_arrive 31 = .ok (.getfield 45, 3) := by decide +kernel
theorem dq_Traffic_arrive_34 : decode gc_Traffic_arrive 34 = .ok (.getfield 134, 3) := by decide +kernel
theorem dq_Traffic_arrive_37 : decode gc_Traffic_arrive 37 = .ok (.iload_n 2, 1) := by decide +kernel
theorem dq_Traffic_arrive_38 : decode gc_Traffic_arrive 38 = .ok (.iaload, 1) := by decide +kernel
theorem dq_Traffic_arrive_39 : decode gc_Traffic_arrive 39 = .ok (.goto 12, 3) := by decide +kernel
theorem dq_Traffic_arrive_42 : decode gc_Traffic_arrive 42 = .ok (.aload_n 0, 1) := by decide +kernel
theorem dq_Traffic_arrive_43 : decode gc_Traffic_arrive 43 = .ok (.getfield 45, 3) := by decide +kernel
theorem dq_Traffic_arrive_46 : decode gc_Traffic_arrive 46 = .ok (.getfield 137, 3) := by decide +kernel
theorem dq_Traffic_arrive_49 : decode gc_Traffic_arrive 49 = .ok (.iload_n 2, 1) := by decide +kernel
theorem dq_Traffic_arrive_50 : decode gc_Traffic_arrive 50 = .ok (.iaload, 1) := by decide +kernel
theorem dq_Traffic_arrive_51 : decode gc_Traffic_arrive 51 = .ok (.istore_n 3, 1) := by decide +kernel
theorem dq_Traffic_arrive_52 : decode gc_Traffic_arrive 52 = .ok (.iload_n 3, 1) := by decide +kernel
theorem dq_Traffic_arrive_53 : decode gc_Traffic_arrive 53 = .ok (.aload_n 0, 1) := by decide +kernel
theorem dq_Traffic_arrive_54 : decode gc_Traffic_arrive 54 = .ok (.getfield 45, 3) := by decide +kernel
theorem dq_Traffic_arrive_57 : decode gc_Traffic_arrive 57 = .ok (.getfield 140, 3) := by decide +kernel
theorem dq_Traffic_arrive_60 : decode gc_Traffic_arrive 60 = .ok (.iload_n 1, 1) := by decide +kernel
theorem dq_Traffic_arrive_61 : decode gc_Traffic_arrive 61 = .ok (.iaload, 1) := by decide +kernel
theorem dq_Traffic_arrive_62 : decode gc_Traffic_arrive 62 = .ok (.if_icmp .ne 13, 3) := by decide +kernel
theorem dq_Traffic_arrive_65 : decode gc_Traffic_arrive 65 = .ok (.aload_n 0, 1) := by decide +kernel
theorem dq_Traffic_arrive_66 : decode gc_Traffic_arrive 66 = .ok (.iload_n 1, 1) := by decide +kernel
theorem dq_Traffic_arrive_67 : decode gc_Traffic_arrive 67 = .ok (.iconst 3, 1) := by decide +kernel
theorem dq_Traffic_arrive_68 : decode gc_Traffic_arrive 68 = .ok (.iload_n 3, 1) := by decide +kernel
theorem dq_Traffic_arrive_69 : decode gc_Traffic_arrive 69 = .ok (.invokevirtual 143, 3) := by decide +kernel
theorem dq_Traffic_arrive_72 : decode gc_Traffic_arrive 72 = .ok (.goto 9, 3) := by decide +kernel
theorem dq_Traffic_arrive_75 : decode gc_Traffic_arrive 75 = .ok (.aload_n 0, 1) := by decide +kernel
theorem dq_Traffic_arrive_76 : decode gc_Traffic_arrive 76 = .ok (.iload_n 1, 1) := by decide +kernel
theorem dq_Traffic_arrive_77 : decode gc_Traffic_arrive 77 = .ok (.iload_n 3, 1) := by decide +kernel
theorem dq_Traffic_arrive_78 : decode gc_Traffic_arrive 78 = .ok (.invokevirtual 121, 3) := by decide +kernel
theorem dq_Traffic_arrive_81 : decode gc_Traffic_arrive 81 = .ok (.return_, 1) := by decide +kernel
abbrev gm_Traffic_arrive : gM := (gc_Traffic_arrive, gR_4, 2, 46, 4)
theorem gfl_Traffic_137 : gFl gR_4 137 0 4 := ⟨_, _, _, rfl, by decide, (gtab_at 48 (by decide +kernel) rfl), gin_0⟩
set_option maxRecDepth 20000 in
theorem gcy_Traffic_121 : gCy gR_4 121 gy_Traffic_waitAt gc_Traffic_waitAt 4 none 2 := ⟨(gtab_at 512 (by decide +kernel) rfl), (gtab_at 4 (by decide +kernel) rfl), (gtab_at 515 rfl rfl), by decide, by decide, by decide +kernel⟩
theorem gim_Traffic_waitAt : Cond.instanceMethod gy_Traffic_waitAt ∈ gtbl := (gtab_at 514 (by decide +kernel) rfl)
theorem gse_Traffic_waitAt : Cond.selects gy_Traffic_waitAt.cls gy_Traffic_waitAt gy_Traffic_waitAt ∈ gtbl := (by decide +kernel)
theorem gfl_Traffic_134 : gFl gR_4 134 0 5 := ⟨_, _, _, rfl, by decide, (gtab_at 53 (by decide +kernel) rfl), gin_0⟩
def f_Traffic_arrive_J51 (t : Nat)  (v1 : Int) (s0 : Int) (h : gH) : Option gO := gd (gcl ((h t 0).toNat) 0) (gd (gix 6 v1) (if s0 = (h ((h t 0).toNat + 6) v1.toNat) then (gb (f_Traffic_settle t v1 3 s0 h) (fun h8 r9 => some (h8, 0))) else (gb (f_Traffic_waitAt t v1 s0 h) (fun h6 r7 => some (h6, 0)))))
theorem w_Traffic_arrive_J51 {o : gO} {X : gX} (hL : gLive (xZ X)) (hn : (zL (xZ X)).Nodup) (hF : gFin X none o) {t : Nat} (ht : gsh t = .inr 4)   {v1 : Int} {s0 : Int} {h : gH}  : gr (f_Traffic_arrive_J51 t  v1 s0 h) o gm_Traffic_arrive X h 51 [(0, .inr (.inr t)), (1, .inl v1)] [.inl s0] := by
  unfold f_Traffic_arrive_J51
  refine gr_istore_n (M := gm_Traffic_arrive) (lv' := [(3, .inl s0), (0, .inr (.inr t)), (1, .inl v1)]) dq_Traffic_arrive_51 rfl (by decide) rfl 52 rfl ?_
  refine gr_iload_n (M := gm_Traffic_arrive) dq_Traffic_arrive_52 rfl 0 rfl 53 rfl ?_
  refine gr_aload_n (M := gm_Traffic_arrive) dq_Traffic_arrive_53 rfl 1 rfl 54 rfl ?_
  refine gr_getd (M := gm_Traffic_arrive) dq_Traffic_arrive_54 57 rfl gfl_Traffic_45 ht rfl (gli hL ht) (fun hc4 => ?_)
  refine gr_getr (M := gm_Traffic_arrive) dq_Traffic_arrive_57 60 rfl gfl_Traffic_140 (gclE hc4) rfl (gli hL (gclE hc4)) ((h t 0).toNat + 6) rfl ?_
  refine gr_iload_n (M := gm_Traffic_arrive) dq_Traffic_arrive_60 rfl 2 rfl 61 rfl ?_
  refine gr_iald (M := gm_Traffic_arrive) dq_Traffic_arrive_61 62 rfl (gsC_6 (gclE hc4)) (glj hL (gsC_6 (gclE hc4)) (by decide)) ?_
  refine gr_icmp_ne (M := gm_Traffic_arrive) dq_Traffic_arrive_62 75 65 rfl rfl (fun c5 => ?_) (fun c5 => ?_)
  · refine gr_aload_n (M := gm_Traffic_arrive) dq_Traffic_arrive_75 rfl 1 rfl 76 rfl ?_
    refine gr_iload_n (M := gm_Traffic_arrive) dq_Traffic_arrive_76 rfl 2 rfl 77 rfl ?_
    refine gr_iload_n (M := gm_Traffic_arrive) dq_Traffic_arrive_77 rfl 0 rfl 78 rfl ?_
    refine gr_callVv (M := gm_Traffic_arrive) (as := [.inl v1, .inl s0]) dq_Traffic_arrive_78 81 rfl rfl gcy_Traffic_121 gim_Traffic_waitAt gse_Traffic_waitAt ⟨by decide, by decide⟩ (Nat.le_of_ble_eq_true rfl) ht rfl (gli hL ht) (fun o1 hg ha hx => c_Traffic_waitAt hL hn ht hg ha hx) (fun h6 r7 _ => ?_)
    exact gr_return (M := gm_Traffic_arrive) dq_Traffic_arrive_81 hF
  refine gr_aload_n (M := gm_Traffic_arrive) dq_Traffic_arrive_65 rfl 1 rfl 66 rfl ?_
  refine gr_iload_n (M := gm_Traffic_arrive) dq_Traffic_arrive_66 rfl 2 rfl 67 rfl ?_
  refine gr_iconst (M := gm_Traffic_arrive) (v := 3) dq_Traffic_arrive_67 rfl ⟨by decide, by decide⟩ 68 rfl ?_
  refine gr_iload_n (M := gm_Traffic_arrive) dq_Traffic_arrive_68 rfl 0 rfl 69 rfl ?_
  refine gr_callVv (M := gm_Traffic_arrive) (as := [.inl v1, .inl 3, .inl s0]) dq_Traffic_arrive_69 72 rfl rfl gcy_Traffic_143 gim_Traffic_settle gse_Traffic_settle ⟨by decide, by decide⟩ (Nat.le_of_ble_eq_true rfl) ht rfl (gli hL ht) (fun o1 hg ha hx => c_Traffic_settle hL hn ht hg ha hx) (fun h8 r9 _ => ?_)
  refine gr_goto (M := gm_Traffic_arrive) dq_Traffic_arrive_72 81 rfl ?_
  exact gr_return (M := gm_Traffic_arrive) dq_Traffic_arrive_81 hF

def f_Traffic_arrive (t : Nat) (a1 : Int) (h : gH) : Option gO := gd (gix 6 a1) (gd (gix 9 (h (t + 7) a1.toNat)) (gd (gix 9 (h (t + 7) a1.toNat)) (gs (gup h (t + 3) (h (t + 7) a1.toNat).toNat (gand (h (t + 3) (h (t + 7) a1.toNat).toNat) (gxor (gshl 1 a1) (-1)))) (fun h1 => gd (gix 9 (h (t + 7) a1.toNat)) (if (h1 (t + 2) (h (t + 7) a1.toNat).toNat) = 0 then (gd (gcl ((h1 t 0).toNat) 0) (gd (gix 9 (h (t + 7) a1.toNat)) (f_Traffic_arrive_J51 t  a1 (h1 ((h1 t 0).toNat + 2) (h (t + 7) a1.toNat).toNat) h1))) else (gd (gcl ((h1 t 0).toNat) 0) (gd (gix 9 (h (t + 7) a1.toNat)) (f_Traffic_arrive_J51 t  a1 (h1 ((h1 t 0).toNat + 1) (h (t + 7) a1.toNat).toNat) h1))))))))
theorem c_Traffic_arrive {Z : gZ} (hL : gLive Z) (hn : (zL Z).Nodup) {t : Nat} {a1 : Int} (ht : gsh t = .inr 4) {h : gH} {o : gO} (hg : gRg h) (ha : gRl [.inr (.inr t), .inl a1]) (hx : f_Traffic_arrive t a1 h = some o) : gC Z gy_Traffic_arrive gc_Traffic_arrive 4 none 2 46 [.inr (.inr t), .inl a1] h o := by
  unfold f_Traffic_arrive at hx
  refine gC_of (lv := [(0, .inr (.inr t)), (1, .inl a1)]) (own := gR_4) (by decide +kernel) rfl (Nat.le_of_ble_eq_true rfl) rfl rfl hn hg ha hx (fun X hZ hF => ?_)
  subst hZ
  show gr _ o gm_Traffic_arrive X h 0 _ _
  refine gr_aload_n (M := gm_Traffic_arrive) dq_Traffic_arrive_0 rfl 0 rfl 1 rfl ?_
  refine gr_getr (M := gm_Traffic_arrive) dq_Traffic_arrive_1 4 rfl gfl_Traffic_32 ht rfl (gli hL ht) (t + 7) rfl ?_
  refine gr_iload_n (M := gm_Traffic_arrive) dq_Traffic_arrive_4 rfl 1 rfl 5 rfl ?_
  refine gr_iald (M := gm_Traffic_arrive) dq_Traffic_arrive_5 6 rfl (gsT_7 ht) (glj hL (gsT_7 ht) (by decide)) ?_
  refine gr_istore_n (M := gm_Traffic_arrive) (lv' := [(2, .inl (h (t + 7) a1.toNat)), (0, .inr (.inr t)), (1, .inl a1)]) dq_Traffic_arrive_6 rfl (by decide) rfl 7 rfl ?_
  refine gr_aload_n (M := gm_Traffic_arrive) dq_Traffic_arrive_7 rfl 1 rfl 8 rfl ?_
  refine gr_getr (M := gm_Traffic_arrive) dq_Traffic_arrive_8 11 rfl gfl_Traffic_20 ht rfl (gli hL ht) (t + 3) rfl ?_
  refine gr_iload_n (M := gm_Traffic_arrive) dq_Traffic_arrive_11 rfl 0 rfl 12 rfl ?_
  refine gr_dup2 (M := gm_Traffic_arrive) dq_Traffic_arrive_12 (fun _ q => by cases q) (fun _ q => by cases q) 13 rfl ?_
  refine gr_iald (M := gm_Traffic_arrive) dq_Traffic_arrive_13 14 rfl (gsT_3 ht) (glj hL (gsT_3 ht) (by decide)) ?_
  refine gr_iconst (M := gm_Traffic_arrive) (v := 1) dq_Traffic_arrive_14 rfl ⟨by decide, by decide⟩ 15 rfl ?_
  refine gr_iload_n (M := gm_Traffic_arrive) dq_Traffic_arrive_15 rfl 2 rfl 16 rfl ?_
  refine gr_ishl (M := gm_Traffic_arrive) dq_Traffic_arrive_16 17 rfl ?_
  refine gr_iconst (M := gm_Traffic_arrive) (v := (-1)) dq_Traffic_arrive_17 rfl ⟨by decide, by decide⟩ 18 rfl ?_
  refine gr_ixor (M := gm_Traffic_arrive) dq_Traffic_arrive_18 19 rfl ?_
  refine gr_iand (M := gm_Traffic_arrive) dq_Traffic_arrive_19 20 rfl ?_
  refine gr_iast (M := gm_Traffic_arrive) dq_Traffic_arrive_20 21 rfl (gsT_3 ht) (glj hL (gsT_3 ht) (by decide)) (fun h1 _ => ?_)
  refine gr_aload_n (M := gm_Traffic_arrive) dq_Traffic_arrive_21 rfl 1 rfl 22 rfl ?_
  refine gr_getr (M := gm_Traffic_arrive) dq_Traffic_arrive_22 25 rfl gfl_Traffic_17 ht rfl (gli hL ht) (t + 2) rfl ?_
  refine gr_iload_n (M := gm_Traffic_arrive) dq_Traffic_arrive_25 rfl 0 rfl 26 rfl ?_
  refine gr_iald (M := gm_Traffic_arrive) dq_Traffic_arrive_26 27 rfl (gsT_2 ht) (glj hL (gsT_2 ht) (by decide)) ?_
  refine gr_if_ne (M := gm_Traffic_arrive) dq_Traffic_arrive_27 42 30 rfl rfl (fun c2 => ?_) (fun c2 => ?_)
  · refine gr_aload_n (M := gm_Traffic_arrive) dq_Traffic_arrive_42 rfl 1 rfl 43 rfl ?_
    refine gr_getd (M := gm_Traffic_arrive) dq_Traffic_arrive_43 46 rfl gfl_Traffic_45 ht rfl (gli hL ht) (fun hc3 => ?_)
    refine gr_getr (M := gm_Traffic_arrive) dq_Traffic_arrive_46 49 rfl gfl_Traffic_137 (gclE hc3) rfl (gli hL (gclE hc3)) ((h1 t 0).toNat + 1) rfl ?_
    refine gr_iload_n (M := gm_Traffic_arrive) dq_Traffic_arrive_49 rfl 0 rfl 50 rfl ?_
    refine gr_iald (M := gm_Traffic_arrive) dq_Traffic_arrive_50 51 rfl (gsC_1 (gclE hc3)) (glj hL (gsC_1 (gclE hc3)) (by decide)) ?_
    refine gr_sub (M := gm_Traffic_arrive) (lv' := [(0, .inr (.inr t)), (1, .inl a1)]) [1, 2] rfl ?_
    exact w_Traffic_arrive_J51 hL hn hF ht  
  refine gr_aload_n (M := gm_Traffic_arrive) dq_Traffic_arrive_30 rfl 1 rfl 31 rfl ?_
  refine gr_getd (M := gm_Traffic_arrive) dq_Traffic_arrive_31 34 rfl gfl_Traffic_45 ht rfl (gli hL ht) (fun hc10 => ?_)
  refine gr_getr (M := gm_Traffic_arrive) dq_Traffic_arrive_34 37 rfl gfl_Traffic_134 (gclE hc10) rfl (gli hL (gclE hc10)) ((h1 t 0).toNat + 2) rfl ?_
  refine gr_iload_n (M := gm_Traffic_arrive) dq_Traffic_arrive_37 rfl 0 rfl 38 rfl ?_
  refine gr_iald (M := gm_Traffic_arrive) dq_Traffic_arrive_38 39 rfl (gsC_2 (gclE hc10)) (glj hL (gsC_2 (gclE hc10)) (by decide)) ?_
  refine gr_goto (M := gm_Traffic_arrive) dq_Traffic_arrive_39 51 rfl ?_
  refine gr_sub (M := gm_Traffic_arrive) (lv' := [(0, .inr (.inr t)), (1, .inl a1)]) [1, 2] rfl ?_
  exact w_Traffic_arrive_J51 hL hn hF ht  

-- Traffic_longest
theorem dq_Traffic_longest_0 : decode gc_Traffic_longest 0 = .ok (.ldc 175, 2) := by decide +kernel
theorem dq_Traffic_longest_2 : decode gc_Traffic_longest 2 = .ok (.istore_n 2, 1) := by decide +kernel
theorem dq_Traffic_longest_3 : decode gc_Traffic_longest 3 = .ok (.iconst 0, 1) := by decide +kernel
theorem dq_Traffic_longest_4 : decode gc_Traffic_longest 4 = .ok (.istore_n 3, 1) := by decide +kernel
theorem dq_Traffic_longest_5 : decode gc_Traffic_longest 5 = .ok (.iload_n 3, 1) := by decide +kernel
theorem dq_Traffic_longest_6 : decode gc_Traffic_longest 6 = .ok (.aload_n 0, 1) := by decide +kernel
theorem dq_Traffic_longest_7 : decode gc_Traffic_longest 7 = .ok (.getfield 45, 3) := by decide +kernel
theorem dq_Traffic_longest_10 : decode gc_Traffic_longest 10 = .ok (.getfield 74, 3) := by decide +kernel
theorem dq_Traffic_longest_13 : decode gc_Traffic_longest 13 = .ok (.if_icmp .ge 35, 3) := by decide +kernel
theorem dq_Traffic_longest_16 : decode gc_Traffic_longest 16 = .ok (.iload_n 1, 1) := by decide +kernel
theorem dq_Traffic_longest_17 : decode gc_Traffic_longest 17 = .ok (.iload_n 3, 1) := by decide +kernel
theorem dq_Traffic_longest_18 : decode gc_Traffic_longest 18 = .ok (.ishr, 1) := by decide +kernel
theorem dq_Traffic_longest_19 : decode gc_Traffic_longest 19 = .ok (.iconst 1, 1) := by decide +kernel
theorem dq_Traffic_longest_20 : decode gc_Traffic_longest 20 = .ok (.iand, 1) := by decide +kernel
theorem dq_Traffic_longest_21 : decode gc_Traffic_longest 21 = .ok (.iconst 1, 1) := by decide +kernel
theorem dq_Traffic_longest_22 : decode gc_Traffic_longest 22 = .ok (.if_icmp .ne 20, 3) := by decide +kernel
theorem dq_Traffic_longest_25 : decode gc_Traffic_longest 25 = .ok (.aload_n 0, 1) := by decide +kernel
theorem dq_Traffic_longest_26 : decode gc_Traffic_longest 26 = .ok (.getfield 35, 3) := by decide +kernel
theorem dq_Traffic_longest_29 : decode gc_Traffic_longest 29 = .ok (.iload_n 3, 1) := by decide +kernel
theorem dq_Traffic_longest_30 : decode gc_Traffic_longest 30 = .ok (.iaload, 1) := by decide +kernel
theorem dq_Traffic_longest_31 : decode gc_Traffic_longest 31 = .ok (.iload_n 2, 1) := by decide +kernel
theorem dq_Traffic_longest_32 : decode gc_Traffic_longest 32 = .ok (.if_icmp .ge 10, 3) := by decide +kernel
theorem dq_Traffic_longest_35 : decode gc_Traffic_longest 35 = .ok (.aload_n 0, 1) := by decide +kernel
theorem dq_Traffic_longest_36 : decode gc_Traffic_longest 36 = .ok (.getfield 35, 3) := by decide +kernel
theorem dq_Traffic_longest_39 : decode gc_Traffic_longest 39 = .ok (.iload_n 3, 1) := by decide +kernel
theorem dq_Traffic_longest_40 : decode gc_Traffic_longest 40 = .ok (.iaload, 1) := by decide +kernel
theorem dq_Traffic_longest_41 : decode gc_Traffic_longest 41 = .ok (.istore_n 2, 1) := by decide +kernel
theorem dq_Traffic_longest_42 : decode gc_Traffic_longest 42 = .ok (.iinc 3 1, 3) := by decide +kernel
theorem dq_Traffic_longest_45 : decode gc_Traffic_longest 45 = .ok (.goto (-40), 3) := by decide +kernel
theorem dq_Traffic_longest_48 : decode gc_Traffic_longest 48 = .ok (.iload_n 2, 1) := by decide +kernel
theorem dq_Traffic_longest_49 : decode gc_Traffic_longest 49 = .ok (.ireturn, 1) := by decide +kernel
abbrev gm_Traffic_longest : gM := (gc_Traffic_longest, gR_4, 0, 0, 4)
theorem gk_Traffic_175 : Cond.constant gR_4 175 (Int32.ofInt 1000000000) ∈ gtbl := (gtab_at 533 (by decide +kernel) rfl)
def f_Traffic_longest_J42 (t : Nat) (k5 : Int → Int → gH → Option gO) (v1 : Int) (v2 : Int) (v3 : Int) (h : gH) : Option gO := k5 v2 (gadd v3 1) h
theorem w_Traffic_longest_J42 {o : gO} {X : gX} (hL : gLive (xZ X)) (hn : (zL (xZ X)).Nodup) (hF : gFin X (some .int) o) {t : Nat} (ht : gsh t = .inr 4)  {k5 : Int → Int → gH → Option gO} {v1 : Int} {v2 : Int} {v3 : Int} {h : gH} (hk5 : ∀ (v2 : Int) (v3 : Int) (h : gH), gr (k5 v2 v3 h) o gm_Traffic_longest X h 5 [(0, .inr (.inr t)), (1, .inl v1), (2, .inl v2), (3, .inl v3)] []) : gr (f_Traffic_longest_J42 t k5 v1 v2 v3 h) o gm_Traffic_longest X h 42 [(0, .inr (.inr t)), (1, .inl v1), (2, .inl v2), (3, .inl v3)] [] := by
  unfold f_Traffic_longest_J42
  refine gr_iinc (M := gm_Traffic_longest) (lv' := [(3, .inl (gadd v3 1)), (0, .inr (.inr t)), (1, .inl v1), (2, .inl v2)]) dq_Traffic_longest_42 3 rfl rfl (by decide) rfl 45 rfl ?_
  refine gr_goto (M := gm_Traffic_longest) dq_Traffic_longest_45 5 rfl ?_
  refine gr_sub (M := gm_Traffic_longest) (lv' := [(0, .inr (.inr t)), (1, .inl v1), (2, .inl v2), (3, .inl (gadd v3 1))]) [1, 2, 3, 0] rfl ?_
  exact hk5 _ _ _

def f_Traffic_longest_L5 (t : Nat) (v1 : Int) (k48 : Int → gH → Option gO) : Nat → Int → Int → gH → Option gO
  | 0, _, _, _ => none
  | n + 1, v2, v3, h => gd (gcl ((h t 0).toNat) 0) (if (h (h t 0).toNat 3) ≤ v3 then (k48 v2 h) else (if (gand (gshr v1 v3) 1) = 1 then (gd (gix 6 v3) (if v2 ≤ (h (t + 8) v3.toNat) then (f_Traffic_longest_J42 t (f_Traffic_longest_L5 t v1 k48 n) v1 v2 v3 h) else (gd (gix 6 v3) (f_Traffic_longest_J42 t (f_Traffic_longest_L5 t v1 k48 n) v1 (h (t + 8) v3.toNat) v3 h)))) else (f_Traffic_longest_J42 t (f_Traffic_longest_L5 t v1 k48 n) v1 v2 v3 h)))
theorem w_Traffic_longest_L5 {o : gO} {X : gX} (hL : gLive (xZ X)) (hn : (zL (xZ X)).Nodup) (hF : gFin X (some .int) o) {t : Nat} {v1 : Int} (ht : gsh t = .inr 4)  {k48 : Int → gH → Option gO} (hk48 : ∀ (v2 : Int) (h : gH), gr (k48 v2 h) o gm_Traffic_longest X h 48 [(2, .inl v2)] []) : ∀ (n : Nat) (v2 : Int) (v3 : Int) (h : gH), gr (f_Traffic_longest_L5 t v1 k48 n v2 v3 h) o gm_Traffic_longest X h 5 [(0, .inr (.inr t)), (1, .inl v1), (2, .inl v2), (3, .inl v3)] [] := by
  intro n
  induction n with
  | zero => intros; exact gr_none
  | succ n ih =>
    intro v2 v3 h
    unfold f_Traffic_longest_L5
    refine gr_iload_n (M := gm_Traffic_longest) dq_Traffic_longest_5 rfl 3 rfl 6 rfl ?_
    refine gr_aload_n (M := gm_Traffic_longest) dq_Traffic_longest_6 rfl 0 rfl 7 rfl ?_
    refine gr_getd (M := gm_Traffic_longest) dq_Traffic_longest_7 10 rfl gfl_Traffic_45 ht rfl (gli hL ht) (fun hc1 => ?_)
    refine gr_geti (M := gm_Traffic_longest) dq_Traffic_longest_10 13 rfl gfl_Traffic_74 (gclE hc1) rfl (gli hL (gclE hc1)) ?_
    refine gr_icmp_ge (M := gm_Traffic_longest) dq_Traffic_longest_13 48 16 rfl rfl (fun c2 => ?_) (fun c2 => ?_)
    · refine gr_sub (M := gm_Traffic_longest) (lv' := [(2, .inl v2)]) [2] rfl ?_
      exact hk48 _ _
    refine gr_iload_n (M := gm_Traffic_longest) dq_Traffic_longest_16 rfl 1 rfl 17 rfl ?_
    refine gr_iload_n (M := gm_Traffic_longest) dq_Traffic_longest_17 rfl 3 rfl 18 rfl ?_
    refine gr_ishr (M := gm_Traffic_longest) dq_Traffic_longest_18 19 rfl ?_
    refine gr_iconst (M := gm_Traffic_longest) (v := 1) dq_Traffic_longest_19 rfl ⟨by decide, by decide⟩ 20 rfl ?_
    refine gr_iand (M := gm_Traffic_longest) dq_Traffic_longest_20 21 rfl ?_
    refine gr_iconst (M := gm_Traffic_longest) (v := 1) dq_Traffic_longest_21 rfl ⟨by decide, by decide⟩ 22 rfl ?_
    refine gr_icmp_ne (M := gm_Traffic_longest) dq_Traffic_longest_22 42 25 rfl rfl (fun c3 => ?_) (fun c3 => ?_)
    · exact w_Traffic_longest_J42 hL hn hF ht  ih
    refine gr_aload_n (M := gm_Traffic_longest) dq_Traffic_longest_25 rfl 0 rfl 26 rfl ?_
    refine gr_getr (M := gm_Traffic_longest) dq_Traffic_longest_26 29 rfl gfl_Traffic_35 ht rfl (gli hL ht) (t + 8) rfl ?_
    refine gr_iload_n (M := gm_Traffic_longest) dq_Traffic_longest_29 rfl 3 rfl 30 rfl ?_
    refine gr_iald (M := gm_Traffic_longest) dq_Traffic_longest_30 31 rfl (gsT_8 ht) (glj hL (gsT_8 ht) (by decide)) ?_
    refine gr_iload_n (M := gm_Traffic_longest) dq_Traffic_longest_31 rfl 2 rfl 32 rfl ?_
    refine gr_icmp_ge (M := gm_Traffic_longest) dq_Traffic_longest_32 42 35 rfl rfl (fun c4 => ?_) (fun c4 => ?_)
    · exact w_Traffic_longest_J42 hL hn hF ht  ih
    refine gr_aload_n (M := gm_Traffic_longest) dq_Traffic_longest_35 rfl 0 rfl 36 rfl ?_
    refine gr_getr (M := gm_Traffic_longest) dq_Traffic_longest_36 39 rfl gfl_Traffic_35 ht rfl (gli hL ht) (t + 8) rfl ?_
    refine gr_iload_n (M := gm_Traffic_longest) dq_Traffic_longest_39 rfl 3 rfl 40 rfl ?_
    refine gr_iald (M := gm_Traffic_longest) dq_Traffic_longest_40 41 rfl (gsT_8 ht) (glj hL (gsT_8 ht) (by decide)) ?_
    refine gr_istore_n (M := gm_Traffic_longest) (lv' := [(2, .inl (h (t + 8) v3.toNat)), (0, .inr (.inr t)), (1, .inl v1), (3, .inl v3)]) dq_Traffic_longest_41 rfl (by decide) rfl 42 rfl ?_
    refine gr_sub (M := gm_Traffic_longest) (lv' := [(0, .inr (.inr t)), (1, .inl v1), (2, .inl (h (t + 8) v3.toNat)), (3, .inl v3)]) [1, 2, 0, 3] rfl ?_
    exact w_Traffic_longest_J42 hL hn hF ht  ih

def f_Traffic_longest (t : Nat) (a1 : Int) (h : gH) : Option gO := f_Traffic_longest_L5 t a1 (fun v5 h6 => some (h6, v5)) 50000 1000000000 0 h
theorem c_Traffic_longest {Z : gZ} (hL : gLive Z) (hn : (zL Z).Nodup) {t : Nat} {a1 : Int} (ht : gsh t = .inr 4) {h : gH} {o : gO} (hg : gRg h) (ha : gRl [.inr (.inr t), .inl a1]) (hx : f_Traffic_longest t a1 h = some o) : gC Z gy_Traffic_longest gc_Traffic_longest 4 (some .int) 0 0 [.inr (.inr t), .inl a1] h o := by
  unfold f_Traffic_longest at hx
  refine gC_of (lv := [(0, .inr (.inr t)), (1, .inl a1)]) (own := gR_4) (by decide +kernel) rfl (Nat.le_of_ble_eq_true rfl) rfl rfl hn hg ha hx (fun X hZ hF => ?_)
  subst hZ
  show gr _ o gm_Traffic_longest X h 0 _ _
  refine gr_ldc (M := gm_Traffic_longest) (v := 1000000000) dq_Traffic_longest_0 gk_Traffic_175 ⟨by decide, by decide⟩ 2 rfl ?_
  refine gr_istore_n (M := gm_Traffic_longest) (lv' := [(2, .inl 1000000000), (0, .inr (.inr t)), (1, .inl a1)]) dq_Traffic_longest_2 rfl (by decide) rfl 3 rfl ?_
  refine gr_iconst (M := gm_Traffic_longest) (v := 0) dq_Traffic_longest_3 rfl ⟨by decide, by decide⟩ 4 rfl ?_
  refine gr_istore_n (M := gm_Traffic_longest) (lv' := [(3, .inl 0), (2, .inl 1000000000), (0, .inr (.inr t)), (1, .inl a1)]) dq_Traffic_longest_4 rfl (by decide) rfl 5 rfl ?_
  refine gr_sub (M := gm_Traffic_longest) (lv' := [(0, .inr (.inr t)), (1, .inl a1), (2, .inl 1000000000), (3, .inl 0)]) [2, 3, 1, 0] rfl ?_
  refine w_Traffic_longest_L5 hL hn hF ht  (fun v5 h6 => ?_) 50000 _ _ _
  refine gr_iload_n (M := gm_Traffic_longest) dq_Traffic_longest_48 rfl 0 rfl 49 rfl ?_
  exact gr_ireturn (M := gm_Traffic_longest) dq_Traffic_longest_49 hF

-- Traffic_wayOfLongest
theorem dq_Traffic_wayOfLongest_0 : decode gc_Traffic_wayOfLongest 0 = .ok (.iload_n 2, 1) := by decide +kernel
theorem dq_Traffic_wayOfLongest_1 : decode gc_Traffic_wayOfLongest 1 = .ok (.iload_n 3, 1) := by decide +kernel
theorem dq_Traffic_wayOfLongest_2 : decode gc_Traffic_wayOfLongest 2 = .ok (.ior, 1) := by decide +kernel
theorem dq_Traffic_wayOfLongest_3 : decode gc_Traffic_wayOfLongest 3 = .ok (.ifCond .ne 10, 3) := by decide +kernel
theorem dq_Traffic_wayOfLongest_6 : decode gc_Traffic_wayOfLongest 6 = .ok (.aload_n 0, 1) := by decide +kernel
theorem dq_Traffic_wayOfLongest_7 : decode gc_Traffic_wayOfLongest 7 = .ok (.getfield 17, 3) := by decide +kernel
theorem dq_Traffic_wayOfLongest_10 : decode gc_Traffic_wayOfLongest 10 = .ok (.iload_n 1, 1) := by decide +kernel
theorem dq_Traffic_wayOfLongest_11 : decode gc_Traffic_wayOfLongest 11 = .ok (.iaload, 1) := by decide +kernel
theorem dq_Traffic_wayOfLongest_12 : decode gc_Traffic_wayOfLongest 12 = .ok (.ireturn, 1) := by decide +kernel
theorem dq_Traffic_wayOfLongest_13 : decode gc_Traffic_wayOfLongest 13 = .ok (.aload_n 0, 1) := by decide +kernel
theorem dq_Traffic_wayOfLongest_14 : decode gc_Traffic_wayOfLongest 14 = .ok (.iload_n 2, 1) := by decide +kernel
theorem dq_Traffic_wayOfLongest_15 : decode gc_Traffic_wayOfLongest 15 = .ok (.invokevirtual 172, 3) := by decide +kernel
theorem dq_Traffic_wayOfLongest_18 : decode gc_Traffic_wayOfLongest 18 = .ok (.aload_n 0, 1) := by decide +kernel
theorem dq_Traffic_wayOfLongest_19 : decode gc_Traffic_wayOfLongest 19 = .ok (.iload_n 3, 1) := by decide +kernel
theorem dq_Traffic_wayOfLongest_20 : decode gc_Traffic_wayOfLongest 20 = .ok (.invokevirtual 172, 3) := by decide +kernel
theorem dq_Traffic_wayOfLongest_23 : decode gc_Traffic_wayOfLongest 23 = .ok (.if_icmp .gt 7, 3) := by decide +kernel
theorem dq_Traffic_wayOfLongest_26 : decode gc_Traffic_wayOfLongest 26 = .ok (.iconst 0, 1) := by decide +kernel
theorem dq_Traffic_wayOfLongest_27 : decode gc_Traffic_wayOfLongest 27 = .ok (.goto 4, 3) := by decide +kernel
theorem dq_Traffic_wayOfLongest_30 : decode gc_Traffic_wayOfLongest 30 = .ok (.iconst 1, 1) := by decide +kernel
theorem dq_Traffic_wayOfLongest_31 : decode gc_Traffic_wayOfLongest 31 = .ok (.ireturn, 1) := by decide +kernel
abbrev gm_Traffic_wayOfLongest : gM := (gc_Traffic_wayOfLongest, gR_4, 1, 23, 4)
set_option maxRecDepth 20000 in
theorem gcy_Traffic_172 : gCy gR_4 172 gy_Traffic_longest gc_Traffic_longest 4 (some .int) 1 := ⟨(gtab_at 529 (by decide +kernel) rfl), (gtab_at 4 (by decide +kernel) rfl), (gtab_at 532 rfl rfl), by decide, by decide, by decide +kernel⟩
theorem gim_Traffic_longest : Cond.instanceMethod gy_Traffic_longest ∈ gtbl := (gtab_at 531 (by decide +kernel) rfl)
theorem gse_Traffic_longest : Cond.selects gy_Traffic_longest.cls gy_Traffic_longest gy_Traffic_longest ∈ gtbl := (by decide +kernel)
def f_Traffic_wayOfLongest (t : Nat) (a1 : Int) (a2 : Int) (a3 : Int) (h : gH) : Option gO := if (gor a2 a3) = 0 then (gd (gix 9 a1) (some (h, (h (t + 2) a1.toNat)))) else (gb (f_Traffic_longest t a2 h) (fun h2 r3 => gb (f_Traffic_longest t a3 h2) (fun h4 r5 => if r5 < r3 then (some (h4, 1)) else (some (h4, 0)))))
theorem c_Traffic_wayOfLongest {Z : gZ} (hL : gLive Z) (hn : (zL Z).Nodup) {t : Nat} {a1 : Int} {a2 : Int} {a3 : Int} (ht : gsh t = .inr 4) {h : gH} {o : gO} (hg : gRg h) (ha : gRl [.inr (.inr t), .inl a1, .inl a2, .inl a3]) (hx : f_Traffic_wayOfLongest t a1 a2 a3 h = some o) : gC Z gy_Traffic_wayOfLongest gc_Traffic_wayOfLongest 4 (some .int) 1 23 [.inr (.inr t), .inl a1, .inl a2, .inl a3] h o := by
  unfold f_Traffic_wayOfLongest at hx
  refine gC_of (lv := [(0, .inr (.inr t)), (1, .inl a1), (2, .inl a2), (3, .inl a3)]) (own := gR_4) (by decide +kernel) rfl (Nat.le_of_ble_eq_true rfl) rfl rfl hn hg ha hx (fun X hZ hF => ?_)
  subst hZ
  show gr _ o gm_Traffic_wayOfLongest X h 0 _ _
  refine gr_iload_n (M := gm_Traffic_wayOfLongest) dq_Traffic_wayOfLongest_0 rfl 2 rfl 1 rfl ?_
  refine gr_iload_n (M := gm_Traffic_wayOfLongest) dq_Traffic_wayOfLongest_1 rfl 3 rfl 2 rfl ?_
  refine gr_ior (M := gm_Traffic_wayOfLongest) dq_Traffic_wayOfLongest_2 3 rfl ?_
  refine gr_if_ne (M := gm_Traffic_wayOfLongest) dq_Traffic_wayOfLongest_3 13 6 rfl rfl (fun c1 => ?_) (fun c1 => ?_)
  · refine gr_aload_n (M := gm_Traffic_wayOfLongest) dq_Traffic_wayOfLongest_13 rfl 0 rfl 14 rfl ?_
    refine gr_iload_n (M := gm_Traffic_wayOfLongest) dq_Traffic_wayOfLongest_14 rfl 2 rfl 15 rfl ?_
    refine gr_callVi (M := gm_Traffic_wayOfLongest) (as := [.inl a2]) dq_Traffic_wayOfLongest_15 18 rfl rfl gcy_Traffic_172 gim_Traffic_longest gse_Traffic_longest ⟨by decide, by decide⟩ (Nat.le_of_ble_eq_true rfl) ht rfl (gli hL ht) (fun o1 hg ha hx => c_Traffic_longest hL hn ht hg ha hx) (fun h2 r3 _ => ?_)
    refine gr_aload_n (M := gm_Traffic_wayOfLongest) dq_Traffic_wayOfLongest_18 rfl 0 rfl 19 rfl ?_
    refine gr_iload_n (M := gm_Traffic_wayOfLongest) dq_Traffic_wayOfLongest_19 rfl 3 rfl 20 rfl ?_
    refine gr_callVi (M := gm_Traffic_wayOfLongest) (as := [.inl a3]) dq_Traffic_wayOfLongest_20 23 rfl rfl gcy_Traffic_172 gim_Traffic_longest gse_Traffic_longest ⟨by decide, by decide⟩ (Nat.le_of_ble_eq_true rfl) ht rfl (gli hL ht) (fun o1 hg ha hx => c_Traffic_longest hL hn ht hg ha hx) (fun h4 r5 _ => ?_)
    refine gr_icmp_gt (M := gm_Traffic_wayOfLongest) dq_Traffic_wayOfLongest_23 30 26 rfl rfl (fun c6 => ?_) (fun c6 => ?_)
    · refine gr_iconst (M := gm_Traffic_wayOfLongest) (v := 1) dq_Traffic_wayOfLongest_30 rfl ⟨by decide, by decide⟩ 31 rfl ?_
      exact gr_ireturn (M := gm_Traffic_wayOfLongest) dq_Traffic_wayOfLongest_31 hF
    refine gr_iconst (M := gm_Traffic_wayOfLongest) (v := 0) dq_Traffic_wayOfLongest_26 rfl ⟨by decide, by decide⟩ 27 rfl ?_
    refine gr_goto (M := gm_Traffic_wayOfLongest) dq_Traffic_wayOfLongest_27 31 rfl ?_
    exact gr_ireturn (M := gm_Traffic_wayOfLongest) dq_Traffic_wayOfLongest_31 hF
  refine gr_aload_n (M := gm_Traffic_wayOfLongest) dq_Traffic_wayOfLongest_6 rfl 0 rfl 7 rfl ?_
  refine gr_getr (M := gm_Traffic_wayOfLongest) dq_Traffic_wayOfLongest_7 10 rfl gfl_Traffic_17 ht rfl (gli hL ht) (t + 2) rfl ?_
  refine gr_iload_n (M := gm_Traffic_wayOfLongest) dq_Traffic_wayOfLongest_10 rfl 1 rfl 11 rfl ?_
  refine gr_iald (M := gm_Traffic_wayOfLongest) dq_Traffic_wayOfLongest_11 12 rfl (gsT_2 ht) (glj hL (gsT_2 ht) (by decide)) ?_
  exact gr_ireturn (M := gm_Traffic_wayOfLongest) dq_Traffic_wayOfLongest_12 hF

-- Traffic_wayOfMore
theorem dq_Traffic_wayOfMore_0 : decode gc_Traffic_wayOfMore 0 = .ok (.iload_n 1, 1) := by decide +kernel
theorem dq_Traffic_wayOfMore_1 : decode gc_Traffic_wayOfMore 1 = .ok (.iload_n 2, 1) := by decide +kernel
theorem dq_Traffic_wayOfMore_2 : decode gc_Traffic_wayOfMore 2 = .ok (.if_icmp .ne 5, 3) := by decide +kernel
theorem dq_Traffic_wayOfMore_5 : decode gc_Traffic_wayOfMore 5 = .ok (.iload_n 0, 1) := by decide +kernel
theorem dq_Traffic_wayOfMore_6 : decode gc_Traffic_wayOfMore 6 = .ok (.ireturn, 1) := by decide +kernel
theorem dq_Traffic_wayOfMore_7 : decode gc_Traffic_wayOfMore 7 = .ok (.iload_n 1, 1) := by decide +kernel
theorem dq_Traffic_wayOfMore_8 : decode gc_Traffic_wayOfMore 8 = .ok (.iload_n 2, 1) := by decide +kernel
theorem dq_Traffic_wayOfMore_9 : decode gc_Traffic_wayOfMore 9 = .ok (.if_icmp .le 7, 3) := by decide +kernel
theorem dq_Traffic_wayOfMore_12 : decode gc_Traffic_wayOfMore 12 = .ok (.iconst 0, 1) := by decide +kernel
theorem dq_Traffic_wayOfMore_13 : decode gc_Traffic_wayOfMore 13 = .ok (.goto 4, 3) := by decide +kernel
theorem dq_Traffic_wayOfMore_16 : decode gc_Traffic_wayOfMore 16 = .ok (.iconst 1, 1) := by decide +kernel
theorem dq_Traffic_wayOfMore_17 : decode gc_Traffic_wayOfMore 17 = .ok (.ireturn, 1) := by decide +kernel
abbrev gm_Traffic_wayOfMore : gM := (gc_Traffic_wayOfMore, gR_4, 0, 0, 3)
def f_Traffic_wayOfMore (a0 : Int) (a1 : Int) (a2 : Int) (h : gH) : Option gO := if a1 = a2 then (some (h, a0)) else (if a1 ≤ a2 then (some (h, 1)) else (some (h, 0)))
theorem c_Traffic_wayOfMore {Z : gZ} (hL : gLive Z) (hn : (zL Z).Nodup) {a0 : Int} {a1 : Int} {a2 : Int}  {h : gH} {o : gO} (hg : gRg h) (ha : gRl [.inl a0, .inl a1, .inl a2]) (hx : f_Traffic_wayOfMore a0 a1 a2 h = some o) : gC Z gy_Traffic_wayOfMore gc_Traffic_wayOfMore 3 (some .int) 0 0 [.inl a0, .inl a1, .inl a2] h o := by
  unfold f_Traffic_wayOfMore at hx
  refine gC_of (lv := [(0, .inl a0), (1, .inl a1), (2, .inl a2)]) (own := gR_4) (by decide +kernel) rfl (Nat.le_of_ble_eq_true rfl) rfl rfl hn hg ha hx (fun X hZ hF => ?_)
  subst hZ
  show gr _ o gm_Traffic_wayOfMore X h 0 _ _
  refine gr_iload_n (M := gm_Traffic_wayOfMore) dq_Traffic_wayOfMore_0 rfl 1 rfl 1 rfl ?_
  refine gr_iload_n (M := gm_Traffic_wayOfMore) dq_Traffic_wayOfMore_1 rfl 2 rfl 2 rfl ?_
  refine gr_icmp_ne (M := gm_Traffic_wayOfMore) dq_Traffic_wayOfMore_2 7 5 rfl rfl (fun c1 => ?_) (fun c1 => ?_)
  · refine gr_iload_n (M := gm_Traffic_wayOfMore) dq_Traffic_wayOfMore_7 rfl 1 rfl 8 rfl ?_
    refine gr_iload_n (M := gm_Traffic_wayOfMore) dq_Traffic_wayOfMore_8 rfl 2 rfl 9 rfl ?_
    refine gr_icmp_le (M := gm_Traffic_wayOfMore) dq_Traffic_wayOfMore_9 16 12 rfl rfl (fun c2 => ?_) (fun c2 => ?_)
    · refine gr_iconst (M := gm_Traffic_wayOfMore) (v := 1) dq_Traffic_wayOfMore_16 rfl ⟨by decide, by decide⟩ 17 rfl ?_
      exact gr_ireturn (M := gm_Traffic_wayOfMore) dq_Traffic_wayOfMore_17 hF
    refine gr_iconst (M := gm_Traffic_wayOfMore) (v := 0) dq_Traffic_wayOfMore_12 rfl ⟨by decide, by decide⟩ 13 rfl ?_
    refine gr_goto (M := gm_Traffic_wayOfMore) dq_Traffic_wayOfMore_13 17 rfl ?_
    exact gr_ireturn (M := gm_Traffic_wayOfMore) dq_Traffic_wayOfMore_17 hF
  refine gr_iload_n (M := gm_Traffic_wayOfMore) dq_Traffic_wayOfMore_5 rfl 0 rfl 6 rfl ?_
  exact gr_ireturn (M := gm_Traffic_wayOfMore) dq_Traffic_wayOfMore_6 hF

-- Traffic_greatestRank
theorem dq_Traffic_greatestRank_0 : decode gc_Traffic_greatestRank 0 = .ok (.iconst 0, 1) := by decide +kernel
theorem dq_Traffic_greatestRank_1 : decode gc_Traffic_greatestRank 1 = .ok (.istore_n 2, 1) := by decide +kernel
theorem dq_Traffic_greatestRank_2 : decode gc_Traffic_greatestRank 2 = .ok (.iconst 0, 1) := by decide +kernel
theorem dq_Traffic_greatestRank_3 : decode gc_Traffic_greatestRank 3 = .ok (.istore_n 3, 1) := by decide +kernel
theorem dq_Traffic_greatestRank_4 : decode gc_Traffic_greatestRank 4 = .ok (.iload_n 3, 1) := by decide +kernel
theorem dq_Traffic_greatestRank_5 : decode gc_Traffic_greatestRank 5 = .ok (.aload_n 0, 1) := by decide +kernel
theorem dq_Traffic_greatestRank_6 : decode gc_Traffic_greatestRank 6 = .ok (.getfield 45, 3) := by decide +kernel
theorem dq_Traffic_greatestRank_9 : decode gc_Traffic_greatestRank 9 = .ok (.getfield 74, 3) := by decide +kernel
theorem dq_Traffic_greatestRank_12 : decode gc_Traffic_greatestRank 12 = .ok (.if_icmp .ge 35, 3) := by decide +kernel
theorem dq_Traffic_greatestRank_15 : decode gc_Traffic_greatestRank 15 = .ok (.iload_n 1, 1) := by decide +kernel
theorem dq_Traffic_greatestRank_16 : decode gc_Traffic_greatestRank 16 = .ok (.iload_n 3, 1) := by decide +kernel
theorem dq_Traffic_greatestRank_17 : decode gc_Traffic_greatestRank 17 = .ok (.ishr, 1) := by decide +kernel
theorem dq_Traffic_greatestRank_18 : decode gc_Traffic_greatestRank 18 = .ok (.iconst 1, 1) := by decide +kernel
theorem dq_Traffic_greatestRank_19 : decode gc_Traffic_greatestRank 19 = .ok (.iand, 1) := by decide +kernel
theorem dq_Traffic_greatestRank_20 : decode gc_Traffic_greatestRank 20 = .ok (.iconst 1, 1) := by decide +kernel
theorem dq_Traffic_greatestRank_21 : decode gc_Traffic_greatestRank 21 = .ok (.if_icmp .ne 20, 3) := by decide +kernel
theorem dq_Traffic_greatestRank_24 : decode gc_Traffic_greatestRank 24 = .ok (.aload_n 0, 1) := by decide +kernel
theorem dq_Traffic_greatestRank_25 : decode gc_Traffic_greatestRank 25 = .ok (.getfield 26, 3) := by decide +kernel
theorem dq_Traffic_greatestRank_28 : decode gc_Traffic_greatestRank 28 = .ok (.iload_n 3, 1) := by decide +kernel
theorem dq_Traffic_greatestRank_29 : decode gc_Traffic_greatestRank 29 = .ok (.iaload, 1) := by decide +kernel
theorem dq_Traffic_greatestRank_30 : decode gc_Traffic_greatestRank 30 = .ok (.iload_n 2, 1) := by decide +kernel
theorem dq_Traffic_greatestRank_31 : decode gc_Traffic_greatestRank 31 = .ok (.if_icmp .le 10, 3) := by decide +kernel
theorem dq_Traffic_greatestRank_34 : decode gc_Traffic_greatestRank 34 = .ok (.aload_n 0, 1) := by decide +kernel
theorem dq_Traffic_greatestRank_35 : decode gc_Traffic_greatestRank 35 = .ok (.getfield 26, 3) := by decide +kernel
theorem dq_Traffic_greatestRank_38 : decode gc_Traffic_greatestRank 38 = .ok (.iload_n 3, 1) := by decide +kernel
theorem dq_Traffic_greatestRank_39 : decode gc_Traffic_greatestRank 39 = .ok (.iaload, 1) := by decide +kernel
theorem dq_Traffic_greatestRank_40 : decode gc_Traffic_greatestRank 40 = .ok (.istore_n 2, 1) := by decide +kernel
theorem dq_Traffic_greatestRank_41 : decode gc_Traffic_greatestRank 41 = .ok (.iinc 3 1, 3) := by decide +kernel
theorem dq_Traffic_greatestRank_44 : decode gc_Traffic_greatestRank 44 = .ok (.goto (-40), 3) := by decide +kernel
theorem dq_Traffic_greatestRank_47 : decode gc_Traffic_greatestRank 47 = .ok (.iload_n 2, 1) := by decide +kernel
theorem dq_Traffic_greatestRank_48 : decode gc_Traffic_greatestRank 48 = .ok (.ireturn, 1) := by decide +kernel
abbrev gm_Traffic_greatestRank : gM := (gc_Traffic_greatestRank, gR_4, 0, 0, 4)
def f_Traffic_greatestRank_J41 (t : Nat) (k4 : Int → Int → gH → Option gO) (v1 : Int) (v2 : Int) (v3 : Int) (h : gH) : Option gO := k4 v2 (gadd v3 1) h
theorem w_Traffic_greatestRank_J41 {o : gO} {X : gX} (hL : gLive (xZ X)) (hn : (zL (xZ X)).Nodup) (hF : gFin X (some .int) o) {t : Nat} (ht : gsh t = .inr 4)  {k4 : Int → Int → gH → Option gO} {v1 : Int} {v2 : Int} {v3 : Int} {h : gH} (hk4 : ∀ (v2 : Int) (v3 : Int) (h : gH), gr (k4 v2 v3 h) o gm_Traffic_greatestRank X h 4 [(0, .inr (.inr t)), (1, .inl v1), (2, .inl v2), (3, .inl v3)] []) : gr (f_Traffic_greatestRank_J41 t k4 v1 v2 v3 h) o gm_Traffic_greatestRank X h 41 [(0, .inr (.inr t)), (1, .inl v1), (2, .inl v2), (3, .inl v3)] [] := by
  unfold f_Traffic_greatestRank_J41
  refine gr_iinc (M := gm_Traffic_greatestRank) (lv' := [(3, .inl (gadd v3 1)), (0, .inr (.inr t)), (1, .inl v1), (2, .inl v2)]) dq_Traffic_greatestRank_41 3 rfl rfl (by decide) rfl 44 rfl ?_
  refine gr_goto (M := gm_Traffic_greatestRank) dq_Traffic_greatestRank_44 4 rfl ?_
  refine gr_sub (M := gm_Traffic_greatestRank) (lv' := [(0, .inr (.inr t)), (1, .inl v1), (2, .inl v2), (3, .inl (gadd v3 1))]) [1, 2, 3, 0] rfl ?_
  exact hk4 _ _ _

def f_Traffic_greatestRank_L4 (t : Nat) (v1 : Int) (k47 : Int → gH → Option gO) : Nat → Int → Int → gH → Option gO
  | 0, _, _, _ => none
  | n + 1, v2, v3, h => gd (gcl ((h t 0).toNat) 0) (if (h (h t 0).toNat 3) ≤ v3 then (k47 v2 h) else (if (gand (gshr v1 v3) 1) = 1 then (gd (gix 6 v3) (if (h (t + 5) v3.toNat) ≤ v2 then (f_Traffic_greatestRank_J41 t (f_Traffic_greatestRank_L4 t v1 k47 n) v1 v2 v3 h) else (gd (gix 6 v3) (f_Traffic_greatestRank_J41 t (f_Traffic_greatestRank_L4 t v1 k47 n) v1 (h (t + 5) v3.toNat) v3 h)))) else (f_Traffic_greatestRank_J41 t (f_Traffic_greatestRank_L4 t v1 k47 n) v1 v2 v3 h)))
theorem w_Traffic_greatestRank_L4 {o : gO} {X : gX} (hL : gLive (xZ X)) (hn : (zL (xZ X)).Nodup) (hF : gFin X (some .int) o) {t : Nat} {v1 : Int} (ht : gsh t = .inr 4)  {k47 : Int → gH → Option gO} (hk47 : ∀ (v2 : Int) (h : gH), gr (k47 v2 h) o gm_Traffic_greatestRank X h 47 [(2, .inl v2)] []) : ∀ (n : Nat) (v2 : Int) (v3 : Int) (h : gH), gr (f_Traffic_greatestRank_L4 t v1 k47 n v2 v3 h) o gm_Traffic_greatestRank X h 4 [(0, .inr (.inr t)), (1, .inl v1), (2, .inl v2), (3, .inl v3)] [] := by
  intro n
  induction n with
  | zero => intros; exact gr_none
  | succ n ih =>
    intro v2 v3 h
    unfold f_Traffic_greatestRank_L4
    refine gr_iload_n (M := gm_Traffic_greatestRank) dq_Traffic_greatestRank_4 rfl 3 rfl 5 rfl ?_
    refine gr_aload_n (M := gm_Traffic_greatestRank) dq_Traffic_greatestRank_5 rfl 0 rfl 6 rfl ?_
    refine gr_getd (M := gm_Traffic_greatestRank) dq_Traffic_greatestRank_6 9 rfl gfl_Traffic_45 ht rfl (gli hL ht) (fun hc1 => ?_)
    refine gr_geti (M := gm_Traffic_greatestRank) dq_Traffic_greatestRank_9 12 rfl gfl_Traffic_74 (gclE hc1) rfl (gli hL (gclE hc1)) ?_
    refine gr_icmp_ge (M := gm_Traffic_greatestRank) dq_Traffic_greatestRank_12 47 15 rfl rfl (fun c2 => ?_) (fun c2 => ?_)
    · refine gr_sub (M := gm_Traffic_greatestRank) (lv' := [(2, .inl v2)]) [2] rfl ?_
      exact hk47 _ _
    refine gr_iload_n (M := gm_Traffic_greatestRank) dq_Traffic_greatestRank_15 rfl 1 rfl 16 rfl ?_
    refine gr_iload_n (M := gm_Traffic_greatestRank) dq_Traffic_greatestRank_16 rfl 3 rfl 17 rfl ?_
    refine gr_ishr (M := gm_Traffic_greatestRank) dq_Traffic_greatestRank_17 18 rfl ?_
    refine gr_iconst (M := gm_Traffic_greatestRank) (v := 1) dq_Traffic_greatestRank_18 rfl ⟨by decide, by decide⟩ 19 rfl ?_
    refine gr_iand (M := gm_Traffic_greatestRank) dq_Traffic_greatestRank_19 20 rfl ?_
    refine gr_iconst (M := gm_Traffic_greatestRank) (v := 1) dq_Traffic_greatestRank_20 rfl ⟨by decide, by decide⟩ 21 rfl ?_
    refine gr_icmp_ne (M := gm_Traffic_greatestRank) dq_Traffic_greatestRank_21 41 24 rfl rfl (fun c3 => ?_) (fun c3 => ?_)
    · exact w_Traffic_greatestRank_J41 hL hn hF ht  ih
    refine gr_aload_n (M := gm_Traffic_greatestRank) dq_Traffic_greatestRank_24 rfl 0 rfl 25 rfl ?_
    refine gr_getr (M := gm_Traffic_greatestRank) dq_Traffic_greatestRank_25 28 rfl gfl_Traffic_26 ht rfl (gli hL ht) (t + 5) rfl ?_
    refine gr_iload_n (M := gm_Traffic_greatestRank) dq_Traffic_greatestRank_28 rfl 3 rfl 29 rfl ?_
    refine gr_iald (M := gm_Traffic_greatestRank) dq_Traffic_greatestRank_29 30 rfl (gsT_5 ht) (glj hL (gsT_5 ht) (by decide)) ?_
    refine gr_iload_n (M := gm_Traffic_greatestRank) dq_Traffic_greatestRank_30 rfl 2 rfl 31 rfl ?_
    refine gr_icmp_le (M := gm_Traffic_greatestRank) dq_Traffic_greatestRank_31 41 34 rfl rfl (fun c4 => ?_) (fun c4 => ?_)
    · exact w_Traffic_greatestRank_J41 hL hn hF ht  ih
    refine gr_aload_n (M := gm_Traffic_greatestRank) dq_Traffic_greatestRank_34 rfl 0 rfl 35 rfl ?_
    refine gr_getr (M := gm_Traffic_greatestRank) dq_Traffic_greatestRank_35 38 rfl gfl_Traffic_26 ht rfl (gli hL ht) (t + 5) rfl ?_
    refine gr_iload_n (M := gm_Traffic_greatestRank) dq_Traffic_greatestRank_38 rfl 3 rfl 39 rfl ?_
    refine gr_iald (M := gm_Traffic_greatestRank) dq_Traffic_greatestRank_39 40 rfl (gsT_5 ht) (glj hL (gsT_5 ht) (by decide)) ?_
    refine gr_istore_n (M := gm_Traffic_greatestRank) (lv' := [(2, .inl (h (t + 5) v3.toNat)), (0, .inr (.inr t)), (1, .inl v1), (3, .inl v3)]) dq_Traffic_greatestRank_40 rfl (by decide) rfl 41 rfl ?_
    refine gr_sub (M := gm_Traffic_greatestRank) (lv' := [(0, .inr (.inr t)), (1, .inl v1), (2, .inl (h (t + 5) v3.toNat)), (3, .inl v3)]) [1, 2, 0, 3] rfl ?_
    exact w_Traffic_greatestRank_J41 hL hn hF ht  ih

def f_Traffic_greatestRank (t : Nat) (a1 : Int) (h : gH) : Option gO := f_Traffic_greatestRank_L4 t a1 (fun v5 h6 => some (h6, v5)) 50000 0 0 h
theorem c_Traffic_greatestRank {Z : gZ} (hL : gLive Z) (hn : (zL Z).Nodup) {t : Nat} {a1 : Int} (ht : gsh t = .inr 4) {h : gH} {o : gO} (hg : gRg h) (ha : gRl [.inr (.inr t), .inl a1]) (hx : f_Traffic_greatestRank t a1 h = some o) : gC Z gy_Traffic_greatestRank gc_Traffic_greatestRank 4 (some .int) 0 0 [.inr (.inr t), .inl a1] h o := by
  unfold f_Traffic_greatestRank at hx
  refine gC_of (lv := [(0, .inr (.inr t)), (1, .inl a1)]) (own := gR_4) (by decide +kernel) rfl (Nat.le_of_ble_eq_true rfl) rfl rfl hn hg ha hx (fun X hZ hF => ?_)
  subst hZ
  show gr _ o gm_Traffic_greatestRank X h 0 _ _
  refine gr_iconst (M := gm_Traffic_greatestRank) (v := 0) dq_Traffic_greatestRank_0 rfl ⟨by decide, by decide⟩ 1 rfl ?_
  refine gr_istore_n (M := gm_Traffic_greatestRank) (lv' := [(2, .inl 0), (0, .inr (.inr t)), (1, .inl a1)]) dq_Traffic_greatestRank_1 rfl (by decide) rfl 2 rfl ?_
  refine gr_iconst (M := gm_Traffic_greatestRank) (v := 0) dq_Traffic_greatestRank_2 rfl ⟨by decide, by decide⟩ 3 rfl ?_
  refine gr_istore_n (M := gm_Traffic_greatestRank) (lv' := [(3, .inl 0), (2, .inl 0), (0, .inr (.inr t)), (1, .inl a1)]) dq_Traffic_greatestRank_3 rfl (by decide) rfl 4 rfl ?_
  refine gr_sub (M := gm_Traffic_greatestRank) (lv' := [(0, .inr (.inr t)), (1, .inl a1), (2, .inl 0), (3, .inl 0)]) [2, 3, 1, 0] rfl ?_
  refine w_Traffic_greatestRank_L4 hL hn hF ht  (fun v5 h6 => ?_) 50000 _ _ _
  refine gr_iload_n (M := gm_Traffic_greatestRank) dq_Traffic_greatestRank_47 rfl 0 rfl 48 rfl ?_
  exact gr_ireturn (M := gm_Traffic_greatestRank) dq_Traffic_greatestRank_48 hF

-- Traffic_wayByLaw
theorem dq_Traffic_wayByLaw_0 : decode gc_Traffic_wayByLaw 0 = .ok (.aload_n 0, 1) := by decide +kernel
theorem dq_Traffic_wayByLaw_1 : decode gc_Traffic_wayByLaw 1 = .ok (.getfield 23, 3) := by decide +kernel
theorem dq_Traffic_wayByLaw_4 : decode gc_Traffic_wayByLaw 4 = .ok (.iconst 2, 1) := by decide +kernel
theorem dq_Traffic_wayByLaw_5 : decode gc_Traffic_wayByLaw 5 = .ok (.iload_n 1, 1) := by decide +kernel
theorem dq_Traffic_wayByLaw_6 : decode gc_Traffic_wayByLaw 6 = .ok (.imul, 1) := by decide +kernel
theorem dq_Traffic_wayByLaw_7 : decode gc_Traffic_wayByLaw 7 = .ok (.iaload, 1) := by decide +kernel
theorem dq_Traffic_wayByLaw_8 : decode gc_Traffic_wayByLaw 8 = .ok (.istore_n 2, 1) := by decide +kernel
theorem dq_Traffic_wayByLaw_9 : decode gc_Traffic_wayByLaw 9 = .ok (.aload_n 0, 1) := by decide +kernel
theorem dq_Traffic_wayByLaw_10 : decode gc_Traffic_wayByLaw 10 = .ok (.getfield 23, 3) := by decide +kernel
theorem dq_Traffic_wayByLaw_13 : decode gc_Traffic_wayByLaw 13 = .ok (.iconst 2, 1) := by decide +kernel
theorem dq_Traffic_wayByLaw_14 : decode gc_Traffic_wayByLaw 14 = .ok (.iload_n 1, 1) := by decide +kernel
theorem dq_Traffic_wayByLaw_15 : decode gc_Traffic_wayByLaw 15 = .ok (.imul, 1) := by decide +kernel
theorem dq_Traffic_wayByLaw_16 : decode gc_Traffic_wayByLaw 16 = .ok (.iconst 1, 1) := by decide +kernel
theorem dq_Traffic_wayByLaw_17 : decode gc_Traffic_wayByLaw 17 = .ok (.iadd, 1) := by decide +kernel
theorem dq_Traffic_wayByLaw_18 : decode gc_Traffic_wayByLaw 18 = .ok (.iaload, 1) := by decide +kernel
theorem dq_Traffic_wayByLaw_19 : decode gc_Traffic_wayByLaw 19 = .ok (.istore_n 3, 1) := by decide +kernel
theorem dq_Traffic_wayByLaw_20 : decode gc_Traffic_wayByLaw 20 = .ok (.aload_n 0, 1) := by decide +kernel
theorem dq_Traffic_wayByLaw_21 : decode gc_Traffic_wayByLaw 21 = .ok (.getfield 11, 3) := by decide +kernel
theorem dq_Traffic_wayByLaw_24 : decode gc_Traffic_wayByLaw 24 = .ok (.iload_n 1, 1) := by decide +kernel
theorem dq_Traffic_wayByLaw_25 : decode gc_Traffic_wayByLaw 25 = .ok (.iaload, 1) := by decide +kernel
theorem dq_Traffic_wayByLaw_26 : decode gc_Traffic_wayByLaw 26 = .ok (.tableswitch 110 0 3 #[30, 38, 72, 90], 30) := by decide +kernel
theorem dq_Traffic_wayByLaw_56 : decode gc_Traffic_wayByLaw 56 = .ok (.aload_n 0, 1) := by decide +kernel
theorem dq_Traffic_wayByLaw_57 : decode gc_Traffic_wayByLaw 57 = .ok (.iload_n 1, 1) := by decide +kernel
theorem dq_Traffic_wayByLaw_58 : decode gc_Traffic_wayByLaw 58 = .ok (.iload_n 2, 1) := by decide +kernel
theorem dq_Traffic_wayByLaw_59 : decode gc_Traffic_wayByLaw 59 = .ok (.iload_n 3, 1) := by decide +kernel
theorem dq_Traffic_wayByLaw_60 : decode gc_Traffic_wayByLaw 60 = .ok (.invokevirtual 159, 3) := by decide +kernel
theorem dq_Traffic_wayByLaw_63 : decode gc_Traffic_wayByLaw 63 = .ok (.ireturn, 1) := by decide +kernel
theorem dq_Traffic_wayByLaw_64 : decode gc_Traffic_wayByLaw 64 = .ok (.aload_n 0, 1) := by decide +kernel
theorem dq_Traffic_wayByLaw_65 : decode gc_Traffic_wayByLaw 65 = .ok (.getfield 45, 3) := by decide +kernel
theorem dq_Traffic_wayByLaw_68 : decode gc_Traffic_wayByLaw 68 = .ok (.getfield 163, 3) := by decide +kernel
theorem dq_Traffic_wayByLaw_71 : decode gc_Traffic_wayByLaw 71 = .ok (.ifCond .le 20, 3) := by decide +kernel
theorem dq_Traffic_wayByLaw_74 : decode gc_Traffic_wayByLaw 74 = .ok (.aload_n 0, 1) := by decide +kernel
theorem dq_Traffic_wayByLaw_75 : decode gc_Traffic_wayByLaw 75 = .ok (.getfield 49, 3) := by decide +kernel
theorem dq_Traffic_wayByLaw_78 : decode gc_Traffic_wayByLaw 78 = .ok (.aload_n 0, 1) := by decide +kernel
theorem dq_Traffic_wayByLaw_79 : decode gc_Traffic_wayByLaw 79 = .ok (.getfield 45, 3) := by decide +kernel
theorem dq_Traffic_wayByLaw_82 : decode gc_Traffic_wayByLaw 82 = .ok (.getfield 163, 3) := by decide +kernel
theorem dq_Traffic_wayByLaw_85 : decode gc_Traffic_wayByLaw 85 = .ok (.idiv, 1) := by decide +kernel
theorem dq_Traffic_wayByLaw_86 : decode gc_Traffic_wayByLaw 86 = .ok (.iconst 2, 1) := by decide +kernel
theorem dq_Traffic_wayByLaw_87 : decode gc_Traffic_wayByLaw 87 = .ok (.irem, 1) := by decide +kernel
theorem dq_Traffic_wayByLaw_88 : decode gc_Traffic_wayByLaw 88 = .ok (.goto 9, 3) := by decide +kernel
theorem dq_Traffic_wayByLaw_91 : decode gc_Traffic_wayByLaw 91 = .ok (.aload_n 0, 1) := by decide +kernel
theorem dq_Traffic_wayByLaw_92 : decode gc_Traffic_wayByLaw 92 = .ok (.getfield 17, 3) := by decide +kernel
theorem dq_Traffic_wayByLaw_95 : decode gc_Traffic_wayByLaw 95 = .ok (.iload_n 1, 1) := by decide +kernel
theorem dq_Traffic_wayByLaw_96 : decode gc_Traffic_wayByLaw 96 = .ok (.iaload, 1) := by decide +kernel
theorem dq_Traffic_wayByLaw_97 : decode gc_Traffic_wayByLaw 97 = .ok (.ireturn, 1) := by decide +kernel
theorem dq_Traffic_wayByLaw_98 : decode gc_Traffic_wayByLaw 98 = .ok (.aload_n 0, 1) := by decide +kernel
theorem dq_Traffic_wayByLaw_99 : decode gc_Traffic_wayByLaw 99 = .ok (.getfield 17, 3) := by decide +kernel
theorem dq_Traffic_wayByLaw_102 : decode gc_Traffic_wayByLaw 102 = .ok (.iload_n 1, 1) := by decide +kernel
theorem dq_Traffic_wayByLaw_103 : decode gc_Traffic_wayByLaw 103 = .ok (.iaload, 1) := by decide +kernel
theorem dq_Traffic_wayByLaw_104 : decode gc_Traffic_wayByLaw 104 = .ok (.iload_n 2, 1) := by decide +kernel
theorem dq_Traffic_wayByLaw_105 : decode gc_Traffic_wayByLaw 105 = .ok (.invokestatic 81, 3) := by decide +kernel
theorem dq_Traffic_wayByLaw_108 : decode gc_Traffic_wayByLaw 108 = .ok (.iload_n 3, 1) := by decide +kernel
theorem dq_Traffic_wayByLaw_109 : decode gc_Traffic_wayByLaw 109 = .ok (.invokestatic 81, 3) := by decide +kernel
theorem dq_Traffic_wayByLaw_112 : decode gc_Traffic_wayByLaw 112 = .ok (.invokestatic 166, 3) := by decide +kernel
theorem dq_Traffic_wayByLaw_115 : decode gc_Traffic_wayByLaw 115 = .ok (.ireturn, 1) := by decide +kernel
theorem dq_Traffic_wayByLaw_116 : decode gc_Traffic_wayByLaw 116 = .ok (.aload_n 0, 1) := by decide +kernel
theorem dq_Traffic_wayByLaw_117 : decode gc_Traffic_wayByLaw 117 = .ok (.getfield 17, 3) := by decide +kernel
theorem dq_Traffic_wayByLaw_120 : decode gc_Traffic_wayByLaw 120 = .ok (.iload_n 1, 1) := by decide +kernel
theorem dq_Traffic_wayByLaw_121 : decode gc_Traffic_wayByLaw 121 = .ok (.iaload, 1) := by decide +kernel
theorem dq_Traffic_wayByLaw_122 : decode gc_Traffic_wayByLaw 122 = .ok (.aload_n 0, 1) := by decide +kernel
theorem dq_Traffic_wayByLaw_123 : decode gc_Traffic_wayByLaw 123 = .ok (.iload_n 2, 1) := by decide +kernel
theorem dq_Traffic_wayByLaw_124 : decode gc_Traffic_wayByLaw 124 = .ok (.invokevirtual 169, 3) := by decide +kernel
theorem dq_Traffic_wayByLaw_127 : decode gc_Traffic_wayByLaw 127 = .ok (.aload_n 0, 1) := by decide +kernel
theorem dq_Traffic_wayByLaw_128 : decode gc_Traffic_wayByLaw 128 = .ok (.iload_n 3, 1) := by decide +kernel
theorem dq_Traffic_wayByLaw_129 : decode gc_Traffic_wayByLaw 129 = .ok (.invokevirtual 169, 3) := by decide +kernel
theorem dq_Traffic_wayByLaw_132 : decode gc_Traffic_wayByLaw 132 = .ok (.invokestatic 166, 3) := by decide +kernel
theorem dq_Traffic_wayByLaw_135 : decode gc_Traffic_wayByLaw 135 = .ok (.ireturn, 1) := by decide +kernel
theorem dq_Traffic_wayByLaw_136 : decode gc_Traffic_wayByLaw 136 = .ok (.iconst 0, 1) := by decide +kernel
theorem dq_Traffic_wayByLaw_137 : decode gc_Traffic_wayByLaw 137 = .ok (.ireturn, 1) := by decide +kernel
abbrev gm_Traffic_wayByLaw : gM := (gc_Traffic_wayByLaw, gR_4, 2, 46, 4)
set_option maxRecDepth 20000 in
theorem gcy_Traffic_159 : gCy gR_4 159 gy_Traffic_wayOfLongest gc_Traffic_wayOfLongest 4 (some .int) 3 := ⟨(gtab_at 525 (by decide +kernel) rfl), (gtab_at 4 (by decide +kernel) rfl), (gtab_at 528 rfl rfl), by decide, by decide, by decide +kernel⟩
theorem gim_Traffic_wayOfLongest : Cond.instanceMethod gy_Traffic_wayOfLongest ∈ gtbl := (gtab_at 527 (by decide +kernel) rfl)
theorem gse_Traffic_wayOfLongest : Cond.selects gy_Traffic_wayOfLongest.cls gy_Traffic_wayOfLongest gy_Traffic_wayOfLongest ∈ gtbl := (by decide +kernel)
theorem gfl_Traffic_163 : gFl gR_4 163 0 1 := ⟨_, _, _, rfl, by decide, (gtab_at 33 (by decide +kernel) rfl), gin_0⟩
set_option maxRecDepth 20000 in
theorem gcy_Traffic_166 : gCy gR_4 166 gy_Traffic_wayOfMore gc_Traffic_wayOfMore 3 (some .int) 3 := ⟨(gtab_at 534 (by decide +kernel) rfl), (gtab_at 4 (by decide +kernel) rfl), (gtab_at 536 rfl rfl), by decide, by decide, by decide +kernel⟩
theorem gst_Traffic_wayOfMore : Cond.static gy_Traffic_wayOfMore ∈ gtbl := (gtab_at 535 (by decide +kernel) rfl)
set_option maxRecDepth 20000 in
theorem gcy_Traffic_169 : gCy gR_4 169 gy_Traffic_greatestRank gc_Traffic_greatestRank 4 (some .int) 1 := ⟨(gtab_at 537 (by decide +kernel) rfl), (gtab_at 4 (by decide +kernel) rfl), (gtab_at 540 rfl rfl), by decide, by decide, by decide +kernel⟩
theorem gim_Traffic_greatestRank : Cond.instanceMethod gy_Traffic_greatestRank ∈ gtbl := (gtab_at 539 (by decide +kernel) rfl)
theorem gse_Traffic_greatestRank : Cond.selects gy_Traffic_greatestRank.cls gy_Traffic_greatestRank gy_Traffic_greatestRank ∈ gtbl := (by decide +kernel)
def f_Traffic_wayByLaw (t : Nat) (a1 : Int) (h : gH) : Option gO := gd (gix 18 (gmul 2 a1)) (gd (gix 18 (gadd (gmul 2 a1) 1)) (gd (gix 9 a1) (if (h (t + 1) a1.toNat) = 0 then (gb (f_Traffic_wayOfLongest t a1 (h (t + 4) (gmul 2 a1).toNat) (h (t + 4) (gadd (gmul 2 a1) 1).toNat) h) (fun h2 r3 => some (h2, r3))) else (if (h (t + 1) a1.toNat) = 1 then (gd (gcl ((h t 0).toNat) 0) (if (h (h t 0).toNat 1) ≤ 0 then (gd (gix 9 a1) (some (h, (h (t + 2) a1.toNat)))) else (gd (gcl ((h t 0).toNat) 0) (gd (gnz (h (h t 0).toNat 1)) (gd (gnz 2) (some (h, (grem (gdiv (h t 1) (h (h t 0).toNat 1)) 2)))))))) else (if (h (t + 1) a1.toNat) = 2 then (gd (gix 9 a1) (gb (f_JI_bitCount (h (t + 4) (gmul 2 a1).toNat) h) (fun h9 r10 => gb (f_JI_bitCount (h (t + 4) (gadd (gmul 2 a1) 1).toNat) h9) (fun h11 r12 => gb (f_Traffic_wayOfMore (h (t + 2) a1.toNat) r10 r12 h11) (fun h13 r14 => some (h13, r14)))))) else (if (h (t + 1) a1.toNat) = 3 then (gd (gix 9 a1) (gb (f_Traffic_greatestRank t (h (t + 4) (gmul 2 a1).toNat) h) (fun h16 r17 => gb (f_Traffic_greatestRank t (h (t + 4) (gadd (gmul 2 a1) 1).toNat) h16) (fun h18 r19 => gb (f_Traffic_wayOfMore (h (t + 2) a1.toNat) r17 r19 h18) (fun h20 r21 => some (h20, r21)))))) else (some (h, 0))))))))
theorem c_Traffic_wayByLaw {Z : gZ} (hL : gLive Z) (hn : (zL Z).Nodup) {t : Nat} {a1 : Int} (ht : gsh t = .inr 4) {h : gH} {o : gO} (hg : gRg h) (ha : gRl [.inr (.inr t), .inl a1]) (hx : f_Traffic_wayByLaw t a1 h = some o) : gC Z gy_Traffic_wayByLaw gc_Traffic_wayByLaw 4 (some .int) 2 46 [.inr (.inr t), .inl a1] h o := by
  unfold f_Traffic_wayByLaw at hx
  refine gC_of (lv := [(0, .inr (.inr t)), (1, .inl a1)]) (own := gR_4) (by decide +kernel) rfl (Nat.le_of_ble_eq_true rfl) rfl rfl hn hg ha hx (fun X hZ hF => ?_)
  subst hZ
  show gr _ o gm_Traffic_wayByLaw X h 0 _ _
  refine gr_aload_n (M := gm_Traffic_wayByLaw) dq_Traffic_wayByLaw_0 rfl 0 rfl 1 rfl ?_
  refine gr_getr (M := gm_Traffic_wayByLaw) dq_Traffic_wayByLaw_1 4 rfl gfl_Traffic_23 ht rfl (gli hL ht) (t + 4) rfl ?_
  refine gr_iconst (M := gm_Traffic_wayByLaw) (v := 2) dq_Traffic_wayByLaw_4 rfl ⟨by decide, by decide⟩ 5 rfl ?_
  refine gr_iload_n (M := gm_Traffic_wayByLaw) dq_Traffic_wayByLaw_5 rfl 1 rfl 6 rfl ?_
  refine gr_imul (M := gm_Traffic_wayByLaw) dq_Traffic_wayByLaw_6 7 rfl ?_
  refine gr_iald (M := gm_Traffic_wayByLaw) dq_Traffic_wayByLaw_7 8 rfl (gsT_4 ht) (glj hL (gsT_4 ht) (by decide)) ?_
  refine gr_istore_n (M := gm_Traffic_wayByLaw) (lv' := [(2, .inl (h (t + 4) (gmul 2 a1).toNat)), (0, .inr (.inr t)), (1, .inl a1)]) dq_Traffic_wayByLaw_8 rfl (by decide) rfl 9 rfl ?_
  refine gr_aload_n (M := gm_Traffic_wayByLaw) dq_Traffic_wayByLaw_9 rfl 1 rfl 10 rfl ?_
  refine gr_getr (M := gm_Traffic_wayByLaw) dq_Traffic_wayByLaw_10 13 rfl gfl_Traffic_23 ht rfl (gli hL ht) (t + 4) rfl ?_
  refine gr_iconst (M := gm_Traffic_wayByLaw) (v := 2) dq_Traffic_wayByLaw_13 rfl ⟨by decide, by decide⟩ 14 rfl ?_
  refine gr_iload_n (M := gm_Traffic_wayByLaw) dq_Traffic_wayByLaw_14 rfl 2 rfl 15 rfl ?_
  refine gr_imul (M := gm_Traffic_wayByLaw) dq_Traffic_wayByLaw_15 16 rfl ?_
  refine gr_iconst (M := gm_Traffic_wayByLaw) (v := 1) dq_Traffic_wayByLaw_16 rfl ⟨by decide, by decide⟩ 17 rfl ?_
  refine gr_iadd (M := gm_Traffic_wayByLaw) dq_Traffic_wayByLaw_17 18 rfl ?_
  refine gr_iald (M := gm_Traffic_wayByLaw) dq_Traffic_wayByLaw_18 19 rfl (gsT_4 ht) (glj hL (gsT_4 ht) (by decide)) ?_
  refine gr_istore_n (M := gm_Traffic_wayByLaw) (lv' := [(3, .inl (h (t + 4) (gadd (gmul 2 a1) 1).toNat)), (2, .inl (h (t + 4) (gmul 2 a1).toNat)), (0, .inr (.inr t)), (1, .inl a1)]) dq_Traffic_wayByLaw_19 rfl (by decide) rfl 20 rfl ?_
  refine gr_aload_n (M := gm_Traffic_wayByLaw) dq_Traffic_wayByLaw_20 rfl 2 rfl 21 rfl ?_
  refine gr_getr (M := gm_Traffic_wayByLaw) dq_Traffic_wayByLaw_21 24 rfl gfl_Traffic_11 ht rfl (gli hL ht) (t + 1) rfl ?_
  refine gr_iload_n (M := gm_Traffic_wayByLaw) dq_Traffic_wayByLaw_24 rfl 3 rfl 25 rfl ?_
  refine gr_iald (M := gm_Traffic_wayByLaw) dq_Traffic_wayByLaw_25 26 rfl (gsT_1 ht) (glj hL (gsT_1 ht) (by decide)) ?_
  refine gr_ite (M := gm_Traffic_wayByLaw) (fun c1 => ?_) (fun c1 => ?_)
  · refine gr_tswIn (M := gm_Traffic_wayByLaw) dq_Traffic_wayByLaw_26 0 c1 (by decide) (by decide) rfl 56 rfl ?_
    refine gr_aload_n (M := gm_Traffic_wayByLaw) dq_Traffic_wayByLaw_56 rfl 2 rfl 57 rfl ?_
    refine gr_iload_n (M := gm_Traffic_wayByLaw) dq_Traffic_wayByLaw_57 rfl 3 rfl 58 rfl ?_
    refine gr_iload_n (M := gm_Traffic_wayByLaw) dq_Traffic_wayByLaw_58 rfl 1 rfl 59 rfl ?_
    refine gr_iload_n (M := gm_Traffic_wayByLaw) dq_Traffic_wayByLaw_59 rfl 0 rfl 60 rfl ?_
    refine gr_callVi (M := gm_Traffic_wayByLaw) (as := [.inl a1, .inl (h (t + 4) (gmul 2 a1).toNat), .inl (h (t + 4) (gadd (gmul 2 a1) 1).toNat)]) dq_Traffic_wayByLaw_60 63 rfl rfl gcy_Traffic_159 gim_Traffic_wayOfLongest gse_Traffic_wayOfLongest ⟨by decide, by decide⟩ (Nat.le_of_ble_eq_true rfl) ht rfl (gli hL ht) (fun o1 hg ha hx => c_Traffic_wayOfLongest hL hn ht hg ha hx) (fun h2 r3 _ => ?_)
    exact gr_ireturn (M := gm_Traffic_wayByLaw) dq_Traffic_wayByLaw_63 hF
  refine gr_ite (M := gm_Traffic_wayByLaw) (fun c4 => ?_) (fun c4 => ?_)
  · refine gr_tswIn (M := gm_Traffic_wayByLaw) dq_Traffic_wayByLaw_26 1 c4 (by decide) (by decide) rfl 64 rfl ?_
    refine gr_aload_n (M := gm_Traffic_wayByLaw) dq_Traffic_wayByLaw_64 rfl 2 rfl 65 rfl ?_
    refine gr_getd (M := gm_Traffic_wayByLaw) dq_Traffic_wayByLaw_65 68 rfl gfl_Traffic_45 ht rfl (gli hL ht) (fun hc5 => ?_)
    refine gr_geti (M := gm_Traffic_wayByLaw) dq_Traffic_wayByLaw_68 71 rfl gfl_Traffic_163 (gclE hc5) rfl (gli hL (gclE hc5)) ?_
    refine gr_if_le (M := gm_Traffic_wayByLaw) dq_Traffic_wayByLaw_71 91 74 rfl rfl (fun c6 => ?_) (fun c6 => ?_)
    · refine gr_aload_n (M := gm_Traffic_wayByLaw) dq_Traffic_wayByLaw_91 rfl 2 rfl 92 rfl ?_
      refine gr_getr (M := gm_Traffic_wayByLaw) dq_Traffic_wayByLaw_92 95 rfl gfl_Traffic_17 ht rfl (gli hL ht) (t + 2) rfl ?_
      refine gr_iload_n (M := gm_Traffic_wayByLaw) dq_Traffic_wayByLaw_95 rfl 3 rfl 96 rfl ?_
      refine gr_iald (M := gm_Traffic_wayByLaw) dq_Traffic_wayByLaw_96 97 rfl (gsT_2 ht) (glj hL (gsT_2 ht) (by decide)) ?_
      exact gr_ireturn (M := gm_Traffic_wayByLaw) dq_Traffic_wayByLaw_97 hF
    refine gr_aload_n (M := gm_Traffic_wayByLaw) dq_Traffic_wayByLaw_74 rfl 2 rfl 75 rfl ?_
    refine gr_geti (M := gm_Traffic_wayByLaw) dq_Traffic_wayByLaw_75 78 rfl gfl_Traffic_49 ht rfl (gli hL ht) ?_
    refine gr_aload_n (M := gm_Traffic_wayByLaw) dq_Traffic_wayByLaw_78 rfl 2 rfl 79 rfl ?_
    refine gr_getd (M := gm_Traffic_wayByLaw) dq_Traffic_wayByLaw_79 82 rfl gfl_Traffic_45 ht rfl (gli hL ht) (fun hc7 => ?_)
    refine gr_geti (M := gm_Traffic_wayByLaw) dq_Traffic_wayByLaw_82 85 rfl gfl_Traffic_163 (gclE hc7) rfl (gli hL (gclE hc7)) ?_
    refine gr_idiv (M := gm_Traffic_wayByLaw) dq_Traffic_wayByLaw_85 86 rfl ?_
    refine gr_iconst (M := gm_Traffic_wayByLaw) (v := 2) dq_Traffic_wayByLaw_86 rfl ⟨by decide, by decide⟩ 87 rfl ?_
    refine gr_irem (M := gm_Traffic_wayByLaw) dq_Traffic_wayByLaw_87 88 rfl ?_
    refine gr_goto (M := gm_Traffic_wayByLaw) dq_Traffic_wayByLaw_88 97 rfl ?_
    exact gr_ireturn (M := gm_Traffic_wayByLaw) dq_Traffic_wayByLaw_97 hF
  refine gr_ite (M := gm_Traffic_wayByLaw) (fun c8 => ?_) (fun c8 => ?_)
  · refine gr_tswIn (M := gm_Traffic_wayByLaw) dq_Traffic_wayByLaw_26 2 c8 (by decide) (by decide) rfl 98 rfl ?_
    refine gr_aload_n (M := gm_Traffic_wayByLaw) dq_Traffic_wayByLaw_98 rfl 2 rfl 99 rfl ?_
    refine gr_getr (M := gm_Traffic_wayByLaw) dq_Traffic_wayByLaw_99 102 rfl gfl_Traffic_17 ht rfl (gli hL ht) (t + 2) rfl ?_
    refine gr_iload_n (M := gm_Traffic_wayByLaw) dq_Traffic_wayByLaw_102 rfl 3 rfl 103 rfl ?_
    refine gr_iald (M := gm_Traffic_wayByLaw) dq_Traffic_wayByLaw_103 104 rfl (gsT_2 ht) (glj hL (gsT_2 ht) (by decide)) ?_
    refine gr_iload_n (M := gm_Traffic_wayByLaw) dq_Traffic_wayByLaw_104 rfl 1 rfl 105 rfl ?_
    refine gr_callSi (M := gm_Traffic_wayByLaw) (as := [.inl (h (t + 4) (gmul 2 a1).toNat)]) dq_Traffic_wayByLaw_105 108 rfl rfl gcy_Traffic_81 gst_JI_bitCount ⟨by decide, by decide⟩ (Nat.le_of_ble_eq_true rfl) (fun o1 hg ha hx => c_JI_bitCount hL hn  hg ha hx) (fun h9 r10 _ => ?_)
    refine gr_iload_n (M := gm_Traffic_wayByLaw) dq_Traffic_wayByLaw_108 rfl 0 rfl 109 rfl ?_
    refine gr_callSi (M := gm_Traffic_wayByLaw) (as := [.inl (h (t + 4) (gadd (gmul 2 a1) 1).toNat)]) dq_Traffic_wayByLaw_109 112 rfl rfl gcy_Traffic_81 gst_JI_bitCount ⟨by decide, by decide⟩ (Nat.le_of_ble_eq_true rfl) (fun o1 hg ha hx => c_JI_bitCount hL hn  hg ha hx) (fun h11 r12 _ => ?_)
    refine gr_callSi (M := gm_Traffic_wayByLaw) (as := [.inl (h (t + 2) a1.toNat), .inl r10, .inl r12]) dq_Traffic_wayByLaw_112 115 rfl rfl gcy_Traffic_166 gst_Traffic_wayOfMore ⟨by decide, by decide⟩ (Nat.le_of_ble_eq_true rfl) (fun o1 hg ha hx => c_Traffic_wayOfMore hL hn  hg ha hx) (fun h13 r14 _ => ?_)
    exact gr_ireturn (M := gm_Traffic_wayByLaw) dq_Traffic_wayByLaw_115 hF
  refine gr_ite (M := gm_Traffic_wayByLaw) (fun c15 => ?_) (fun c15 => ?_)
  · refine gr_tswIn (M := gm_Traffic_wayByLaw) dq_Traffic_wayByLaw_26 3 c15 (by decide) (by decide) rfl 116 rfl ?_
    refine gr_aload_n (M := gm_Traffic_wayByLaw) dq_Traffic_wayByLaw_116 rfl 2 rfl 117 rfl ?_
    refine gr_getr (M := gm_Traffic_wayByLaw) dq_Traffic_wayByLaw_117 120 rfl gfl_Traffic_17 ht rfl (gli hL ht) (t + 2) rfl ?_
    refine gr_iload_n (M := gm_Traffic_wayByLaw) dq_Traffic_wayByLaw_120 rfl 3 rfl 121 rfl ?_
    refine gr_iald (M := gm_Traffic_wayByLaw) dq_Traffic_wayByLaw_121 122 rfl (gsT_2 ht) (glj hL (gsT_2 ht) (by decide)) ?_
    refine gr_aload_n (M := gm_Traffic_wayByLaw) dq_Traffic_wayByLaw_122 rfl 2 rfl 123 rfl ?_
    refine gr_iload_n (M := gm_Traffic_wayByLaw) dq_Traffic_wayByLaw_123 rfl 1 rfl 124 rfl ?_
    refine gr_callVi (M := gm_Traffic_wayByLaw) (as := [.inl (h (t + 4) (gmul 2 a1).toNat)]) dq_Traffic_wayByLaw_124 127 rfl rfl gcy_Traffic_169 gim_Traffic_greatestRank gse_Traffic_greatestRank ⟨by decide, by decide⟩ (Nat.le_of_ble_eq_true rfl) ht rfl (gli hL ht) (fun o1 hg ha hx => c_Traffic_greatestRank hL hn ht hg ha hx) (fun h16 r17 _ => ?_)
    refine gr_aload_n (M := gm_Traffic_wayByLaw) dq_Traffic_wayByLaw_127 rfl 2 rfl 128 rfl ?_
    refine gr_iload_n (M := gm_Traffic_wayByLaw) dq_Traffic_wayByLaw_128 rfl 0 rfl 129 rfl ?_
    refine gr_callVi (M := gm_Traffic_wayByLaw) (as := [.inl (h (t + 4) (gadd (gmul 2 a1) 1).toNat)]) dq_Traffic_wayByLaw_129 132 rfl rfl gcy_Traffic_169 gim_Traffic_greatestRank gse_Traffic_greatestRank ⟨by decide, by decide⟩ (Nat.le_of_ble_eq_true rfl) ht rfl (gli hL ht) (fun o1 hg ha hx => c_Traffic_greatestRank hL hn ht hg ha hx) (fun h18 r19 _ => ?_)
    refine gr_callSi (M := gm_Traffic_wayByLaw) (as := [.inl (h (t + 2) a1.toNat), .inl r17, .inl r19]) dq_Traffic_wayByLaw_132 135 rfl rfl gcy_Traffic_166 gst_Traffic_wayOfMore ⟨by decide, by decide⟩ (Nat.le_of_ble_eq_true rfl) (fun o1 hg ha hx => c_Traffic_wayOfMore hL hn  hg ha hx) (fun h20 r21 _ => ?_)
    exact gr_ireturn (M := gm_Traffic_wayByLaw) dq_Traffic_wayByLaw_135 hF
  refine gr_tswOut (M := gm_Traffic_wayByLaw) dq_Traffic_wayByLaw_26 (by omega) 136 rfl ?_
  refine gr_iconst (M := gm_Traffic_wayByLaw) (v := 0) dq_Traffic_wayByLaw_136 rfl ⟨by decide, by decide⟩ 137 rfl ?_
  exact gr_ireturn (M := gm_Traffic_wayByLaw) dq_Traffic_wayByLaw_137 hF

-- Traffic_isAheadOf
theorem dq_Traffic_isAheadOf_0 : decode gc_Traffic_isAheadOf 0 = .ok (.aload_n 0, 1) := by decide +kernel
theorem dq_Traffic_isAheadOf_1 : decode gc_Traffic_isAheadOf 1 = .ok (.getfield 26, 3) := by decide +kernel
theorem dq_Traffic_isAheadOf_4 : decode gc_Traffic_isAheadOf 4 = .ok (.iload_n 1, 1) := by decide +kernel
theorem dq_Traffic_isAheadOf_5 : decode gc_Traffic_isAheadOf 5 = .ok (.iaload, 1) := by decide +kernel
theorem dq_Traffic_isAheadOf_6 : decode gc_Traffic_isAheadOf 6 = .ok (.aload_n 0, 1) := by decide +kernel
theorem dq_Traffic_isAheadOf_7 : decode gc_Traffic_isAheadOf 7 = .ok (.getfield 26, 3) := by decide +kernel
theorem dq_Traffic_isAheadOf_10 : decode gc_Traffic_isAheadOf 10 = .ok (.iload_n 2, 1) := by decide +kernel
theorem dq_Traffic_isAheadOf_11 : decode gc_Traffic_isAheadOf 11 = .ok (.iaload, 1) := by decide +kernel
theorem dq_Traffic_isAheadOf_12 : decode gc_Traffic_isAheadOf 12 = .ok (.if_icmp .eq 24, 3) := by decide +kernel
theorem dq_Traffic_isAheadOf_15 : decode gc_Traffic_isAheadOf 15 = .ok (.aload_n 0, 1) := by decide +kernel
theorem dq_Traffic_isAheadOf_16 : decode gc_Traffic_isAheadOf 16 = .ok (.getfield 26, 3) := by decide +kernel
theorem dq_Traffic_isAheadOf_19 : decode gc_Traffic_isAheadOf 19 = .ok (.iload_n 1, 1) := by decide +kernel
theorem dq_Traffic_isAheadOf_20 : decode gc_Traffic_isAheadOf 20 = .ok (.iaload, 1) := by decide +kernel
theorem dq_Traffic_isAheadOf_21 : decode gc_Traffic_isAheadOf 21 = .ok (.aload_n 0, 1) := by decide +kernel
theorem dq_Traffic_isAheadOf_22 : decode gc_Traffic_isAheadOf 22 = .ok (.getfield 26, 3) := by decide +kernel
theorem dq_Traffic_isAheadOf_25 : decode gc_Traffic_isAheadOf 25 = .ok (.iload_n 2, 1) := by decide +kernel
theorem dq_Traffic_isAheadOf_26 : decode gc_Traffic_isAheadOf 26 = .ok (.iaload, 1) := by decide +kernel
theorem dq_Traffic_isAheadOf_27 : decode gc_Traffic_isAheadOf 27 = .ok (.if_icmp .le 7, 3) := by decide +kernel
theorem dq_Traffic_isAheadOf_30 : decode gc_Traffic_isAheadOf 30 = .ok (.iconst 1, 1) := by decide +kernel
theorem dq_Traffic_isAheadOf_31 : decode gc_Traffic_isAheadOf 31 = .ok (.goto 4, 3) := by decide +kernel
theorem dq_Traffic_isAheadOf_34 : decode gc_Traffic_isAheadOf 34 = .ok (.iconst 0, 1) := by decide +kernel
theorem dq_Traffic_isAheadOf_35 : decode gc_Traffic_isAheadOf 35 = .ok (.ireturn, 1) := by decide +kernel
theorem dq_Traffic_isAheadOf_36 : decode gc_Traffic_isAheadOf 36 = .ok (.aload_n 0, 1) := by decide +kernel
theorem dq_Traffic_isAheadOf_37 : decode gc_Traffic_isAheadOf 37 = .ok (.getfield 35, 3) := by decide +kernel
theorem dq_Traffic_isAheadOf_40 : decode gc_Traffic_isAheadOf 40 = .ok (.iload_n 1, 1) := by decide +kernel
theorem dq_Traffic_isAheadOf_41 : decode gc_Traffic_isAheadOf 41 = .ok (.iaload, 1) := by decide +kernel
theorem dq_Traffic_isAheadOf_42 : decode gc_Traffic_isAheadOf 42 = .ok (.aload_n 0, 1) := by decide +kernel
theorem dq_Traffic_isAheadOf_43 : decode gc_Traffic_isAheadOf 43 = .ok (.getfield 35, 3) := by decide +kernel
theorem dq_Traffic_isAheadOf_46 : decode gc_Traffic_isAheadOf 46 = .ok (.iload_n 2, 1) := by decide +kernel
theorem dq_Traffic_isAheadOf_47 : decode gc_Traffic_isAheadOf 47 = .ok (.iaload, 1) := by decide +kernel
theorem dq_Traffic_isAheadOf_48 : decode gc_Traffic_isAheadOf 48 = .ok (.if_icmp .ge 7, 3) := by decide +kernel
theorem dq_Traffic_isAheadOf_51 : decode gc_Traffic_isAheadOf 51 = .ok (.iconst 1, 1) := by decide +kernel
theorem dq_Traffic_isAheadOf_52 : decode gc_Traffic_isAheadOf 52 = .ok (.goto 4, 3) := by decide +kernel
theorem dq_Traffic_isAheadOf_55 : decode gc_Traffic_isAheadOf 55 = .ok (.iconst 0, 1) := by decide +kernel
theorem dq_Traffic_isAheadOf_56 : decode gc_Traffic_isAheadOf 56 = .ok (.ireturn, 1) := by decide +kernel
abbrev gm_Traffic_isAheadOf : gM := (gc_Traffic_isAheadOf, gR_4, 0, 0, 3)
def f_Traffic_isAheadOf (t : Nat) (a1 : Int) (a2 : Int) (h : gH) : Option gO := gd (gix 6 a1) (gd (gix 6 a2) (if (h (t + 5) a1.toNat) = (h (t + 5) a2.toNat) then (gd (gix 6 a1) (gd (gix 6 a2) (if (h (t + 8) a2.toNat) ≤ (h (t + 8) a1.toNat) then (gd (gz 0) (some (h, 0))) else (gd (gz 1) (some (h, 1)))))) else (gd (gix 6 a1) (gd (gix 6 a2) (if (h (t + 5) a1.toNat) ≤ (h (t + 5) a2.toNat) then (gd (gz 0) (some (h, 0))) else (gd (gz 1) (some (h, 1))))))))
theorem c_Traffic_isAheadOf {Z : gZ} (hL : gLive Z) (hn : (zL Z).Nodup) {t : Nat} {a1 : Int} {a2 : Int} (ht : gsh t = .inr 4) {h : gH} {o : gO} (hg : gRg h) (ha : gRl [.inr (.inr t), .inl a1, .inl a2]) (hx : f_Traffic_isAheadOf t a1 a2 h = some o) : gC Z gy_Traffic_isAheadOf gc_Traffic_isAheadOf 3 (some .boolean) 0 0 [.inr (.inr t), .inl a1, .inl a2] h o := by
  unfold f_Traffic_isAheadOf at hx
  refine gC_of (lv := [(0, .inr (.inr t)), (1, .inl a1), (2, .inl a2)]) (own := gR_4) (by decide +kernel) rfl (Nat.le_of_ble_eq_true rfl) rfl rfl hn hg ha hx (fun X hZ hF => ?_)
  subst hZ
  show gr _ o gm_Traffic_isAheadOf X h 0 _ _
  refine gr_aload_n (M := gm_Traffic_isAheadOf) dq_Traffic_isAheadOf_0 rfl 0 rfl 1 rfl ?_
  refine gr_getr (M := gm_Traffic_isAheadOf) dq_Traffic_isAheadOf_1 4 rfl gfl_Traffic_26 ht rfl (gli hL ht) (t + 5) rfl ?_
  refine gr_iload_n (M := gm_Traffic_isAheadOf) dq_Traffic_isAheadOf_4 rfl 1 rfl 5 rfl ?_
  refine gr_iald (M := gm_Traffic_isAheadOf) dq_Traffic_isAheadOf_5 6 rfl (gsT_5 ht) (glj hL (gsT_5 ht) (by decide)) ?_
  refine gr_aload_n (M := gm_Traffic_isAheadOf) dq_Traffic_isAheadOf_6 rfl 0 rfl 7 rfl ?_
  refine gr_getr (M := gm_Traffic_isAheadOf) dq_Traffic_isAheadOf_7 10 rfl gfl_Traffic_26 ht rfl (gli hL ht) (t + 5) rfl ?_
  refine gr_iload_n (M := gm_Traffic_isAheadOf) dq_Traffic_isAheadOf_10 rfl 2 rfl 11 rfl ?_
  refine gr_iald (M := gm_Traffic_isAheadOf) dq_Traffic_isAheadOf_11 12 rfl (gsT_5 ht) (glj hL (gsT_5 ht) (by decide)) ?_
  refine gr_icmp_eq (M := gm_Traffic_isAheadOf) dq_Traffic_isAheadOf_12 36 15 rfl rfl (fun c1 => ?_) (fun c1 => ?_)
  · refine gr_aload_n (M := gm_Traffic_isAheadOf) dq_Traffic_isAheadOf_36 rfl 0 rfl 37 rfl ?_
    refine gr_getr (M := gm_Traffic_isAheadOf) dq_Traffic_isAheadOf_37 40 rfl gfl_Traffic_35 ht rfl (gli hL ht) (t + 8) rfl ?_
    refine gr_iload_n (M := gm_Traffic_isAheadOf) dq_Traffic_isAheadOf_40 rfl 1 rfl 41 rfl ?_
    refine gr_iald (M := gm_Traffic_isAheadOf) dq_Traffic_isAheadOf_41 42 rfl (gsT_8 ht) (glj hL (gsT_8 ht) (by decide)) ?_
    refine gr_aload_n (M := gm_Traffic_isAheadOf) dq_Traffic_isAheadOf_42 rfl 0 rfl 43 rfl ?_
    refine gr_getr (M := gm_Traffic_isAheadOf) dq_Traffic_isAheadOf_43 46 rfl gfl_Traffic_35 ht rfl (gli hL ht) (t + 8) rfl ?_
    refine gr_iload_n (M := gm_Traffic_isAheadOf) dq_Traffic_isAheadOf_46 rfl 2 rfl 47 rfl ?_
    refine gr_iald (M := gm_Traffic_isAheadOf) dq_Traffic_isAheadOf_47 48 rfl (gsT_8 ht) (glj hL (gsT_8 ht) (by decide)) ?_
    refine gr_icmp_ge (M := gm_Traffic_isAheadOf) dq_Traffic_isAheadOf_48 55 51 rfl rfl (fun c2 => ?_) (fun c2 => ?_)
    · refine gr_iconst (M := gm_Traffic_isAheadOf) (v := 0) dq_Traffic_isAheadOf_55 rfl ⟨by decide, by decide⟩ 56 rfl ?_
      exact gr_zreturn (M := gm_Traffic_isAheadOf) dq_Traffic_isAheadOf_56 hF
    refine gr_iconst (M := gm_Traffic_isAheadOf) (v := 1) dq_Traffic_isAheadOf_51 rfl ⟨by decide, by decide⟩ 52 rfl ?_
    refine gr_goto (M := gm_Traffic_isAheadOf) dq_Traffic_isAheadOf_52 56 rfl ?_
    exact gr_zreturn (M := gm_Traffic_isAheadOf) dq_Traffic_isAheadOf_56 hF
  refine gr_aload_n (M := gm_Traffic_isAheadOf) dq_Traffic_isAheadOf_15 rfl 0 rfl 16 rfl ?_
  refine gr_getr (M := gm_Traffic_isAheadOf) dq_Traffic_isAheadOf_16 19 rfl gfl_Traffic_26 ht rfl (gli hL ht) (t + 5) rfl ?_
  refine gr_iload_n (M := gm_Traffic_isAheadOf) dq_Traffic_isAheadOf_19 rfl 1 rfl 20 rfl ?_
  refine gr_iald (M := gm_Traffic_isAheadOf) dq_Traffic_isAheadOf_20 21 rfl (gsT_5 ht) (glj hL (gsT_5 ht) (by decide)) ?_
  refine gr_aload_n (M := gm_Traffic_isAheadOf) dq_Traffic_isAheadOf_21 rfl 0 rfl 22 rfl ?_
  refine gr_getr (M := gm_Traffic_isAheadOf) dq_Traffic_isAheadOf_22 25 rfl gfl_Traffic_26 ht rfl (gli hL ht) (t + 5) rfl ?_
  refine gr_iload_n (M := gm_Traffic_isAheadOf) dq_Traffic_isAheadOf_25 rfl 2 rfl 26 rfl ?_
  refine gr_iald (M := gm_Traffic_isAheadOf) dq_Traffic_isAheadOf_26 27 rfl (gsT_5 ht) (glj hL (gsT_5 ht) (by decide)) ?_
  refine gr_icmp_le (M := gm_Traffic_isAheadOf) dq_Traffic_isAheadOf_27 34 30 rfl rfl (fun c3 => ?_) (fun c3 => ?_)
  · refine gr_iconst (M := gm_Traffic_isAheadOf) (v := 0) dq_Traffic_isAheadOf_34 rfl ⟨by decide, by decide⟩ 35 rfl ?_
    exact gr_zreturn (M := gm_Traffic_isAheadOf) dq_Traffic_isAheadOf_35 hF
  refine gr_iconst (M := gm_Traffic_isAheadOf) (v := 1) dq_Traffic_isAheadOf_30 rfl ⟨by decide, by decide⟩ 31 rfl ?_
  refine gr_goto (M := gm_Traffic_isAheadOf) dq_Traffic_isAheadOf_31 35 rfl ?_
  exact gr_zreturn (M := gm_Traffic_isAheadOf) dq_Traffic_isAheadOf_35 hF

-- Traffic_firstOf
theorem dq_Traffic_firstOf_0 : decode gc_Traffic_firstOf 0 = .ok (.iconst (-1), 1) := by decide +kernel
theorem dq_Traffic_firstOf_1 : decode gc_Traffic_firstOf 1 = .ok (.istore_n 2, 1) := by decide +kernel
theorem dq_Traffic_firstOf_2 : decode gc_Traffic_firstOf 2 = .ok (.iconst 0, 1) := by decide +kernel
theorem dq_Traffic_firstOf_3 : decode gc_Traffic_firstOf 3 = .ok (.istore_n 3, 1) := by decide +kernel
theorem dq_Traffic_firstOf_4 : decode gc_Traffic_firstOf 4 = .ok (.iload_n 3, 1) := by decide +kernel
theorem dq_Traffic_firstOf_5 : decode gc_Traffic_firstOf 5 = .ok (.aload_n 0, 1) := by decide +kernel
theorem dq_Traffic_firstOf_6 : decode gc_Traffic_firstOf 6 = .ok (.getfield 45, 3) := by decide +kernel
theorem dq_Traffic_firstOf_9 : decode gc_Traffic_firstOf 9 = .ok (.getfield 74, 3) := by decide +kernel
theorem dq_Traffic_firstOf_12 : decode gc_Traffic_firstOf 12 = .ok (.if_icmp .ge 40, 3) := by decide +kernel
theorem dq_Traffic_firstOf_15 : decode gc_Traffic_firstOf 15 = .ok (.iload_n 1, 1) := by decide +kernel
theorem dq_Traffic_firstOf_16 : decode gc_Traffic_firstOf 16 = .ok (.iload_n 3, 1) := by decide +kernel
theorem dq_Traffic_firstOf_17 : decode gc_Traffic_firstOf 17 = .ok (.ishr, 1) := by decide +kernel
theorem dq_Traffic_firstOf_18 : decode gc_Traffic_firstOf 18 = .ok (.ifCond .eq 34, 3) := by decide +kernel
theorem dq_Traffic_firstOf_21 : decode gc_Traffic_firstOf 21 = .ok (.iload_n 1, 1) := by decide +kernel
theorem dq_Traffic_firstOf_22 : decode gc_Traffic_firstOf 22 = .ok (.iload_n 3, 1) := by decide +kernel
theorem dq_Traffic_firstOf_23 : decode gc_Traffic_firstOf 23 = .ok (.ishr, 1) := by decide +kernel
theorem dq_Traffic_firstOf_24 : decode gc_Traffic_firstOf 24 = .ok (.iconst 1, 1) := by decide +kernel
theorem dq_Traffic_firstOf_25 : decode gc_Traffic_firstOf 25 = .ok (.iand, 1) := by decide +kernel
theorem dq_Traffic_firstOf_26 : decode gc_Traffic_firstOf 26 = .ok (.iconst 1, 1) := by decide +kernel
theorem dq_Traffic_firstOf_27 : decode gc_Traffic_firstOf 27 = .ok (.if_icmp .ne 19, 3) := by decide +kernel
theorem dq_Traffic_firstOf_30 : decode gc_Traffic_firstOf 30 = .ok (.iload_n 2, 1) := by decide +kernel
theorem dq_Traffic_firstOf_31 : decode gc_Traffic_firstOf 31 = .ok (.iconst (-1), 1) := by decide +kernel
theorem dq_Traffic_firstOf_32 : decode gc_Traffic_firstOf 32 = .ok (.if_icmp .eq 12, 3) := by decide +kernel
theorem dq_Traffic_firstOf_35 : decode gc_Traffic_firstOf 35 = .ok (.aload_n 0, 1) := by decide +kernel
theorem dq_Traffic_firstOf_36 : decode gc_Traffic_firstOf 36 = .ok (.iload_n 3, 1) := by decide +kernel
theorem dq_Traffic_firstOf_37 : decode gc_Traffic_firstOf 37 = .ok (.iload_n 2, 1) := by decide +kernel
theorem dq_Traffic_firstOf_38 : decode gc_Traffic_firstOf 38 = .ok (.invokevirtual 176, 3) := by decide +kernel
theorem dq_Traffic_firstOf_41 : decode gc_Traffic_firstOf 41 = .ok (.ifCond .eq 5, 3) := by decide +kernel
theorem dq_Traffic_firstOf_44 : decode gc_Traffic_firstOf 44 = .ok (.iload_n 3, 1) := by decide +kernel
theorem dq_Traffic_firstOf_45 : decode gc_Traffic_firstOf 45 = .ok (.istore_n 2, 1) := by decide +kernel
theorem dq_Traffic_firstOf_46 : decode gc_Traffic_firstOf 46 = .ok (.iinc 3 1, 3) := by decide +kernel
theorem dq_Traffic_firstOf_49 : decode gc_Traffic_firstOf 49 = .ok (.goto (-45), 3) := by decide +kernel
theorem dq_Traffic_firstOf_52 : decode gc_Traffic_firstOf 52 = .ok (.iload_n 2, 1) := by decide +kernel
theorem dq_Traffic_firstOf_53 : decode gc_Traffic_firstOf 53 = .ok (.ireturn, 1) := by decide +kernel
abbrev gm_Traffic_firstOf : gM := (gc_Traffic_firstOf, gR_4, 1, 22, 4)
set_option maxRecDepth 20000 in
theorem gcy_Traffic_176 : gCy gR_4 176 gy_Traffic_isAheadOf gc_Traffic_isAheadOf 3 (some .boolean) 2 := ⟨(gtab_at 461 (by decide +kernel) rfl), (gtab_at 4 (by decide +kernel) rfl), (gtab_at 464 rfl rfl), by decide, by decide, by decide +kernel⟩
theorem gim_Traffic_isAheadOf : Cond.instanceMethod gy_Traffic_isAheadOf ∈ gtbl := (gtab_at 463 (by decide +kernel) rfl)
theorem gse_Traffic_isAheadOf : Cond.selects gy_Traffic_isAheadOf.cls gy_Traffic_isAheadOf gy_Traffic_isAheadOf ∈ gtbl := (by decide +kernel)
def f_Traffic_firstOf_J46 (t : Nat) (k4 : Int → Int → gH → Option gO) (v1 : Int) (v2 : Int) (v3 : Int) (h : gH) : Option gO := k4 v2 (gadd v3 1) h
theorem w_Traffic_firstOf_J46 {o : gO} {X : gX} (hL : gLive (xZ X)) (hn : (zL (xZ X)).Nodup) (hF : gFin X (some .int) o) {t : Nat} (ht : gsh t = .inr 4)  {k4 : Int → Int → gH → Option gO} {v1 : Int} {v2 : Int} {v3 : Int} {h : gH} (hk4 : ∀ (v2 : Int) (v3 : Int) (h : gH), gr (k4 v2 v3 h) o gm_Traffic_firstOf X h 4 [(0, .inr (.inr t)), (1, .inl v1), (2, .inl v2), (3, .inl v3)] []) : gr (f_Traffic_firstOf_J46 t k4 v1 v2 v3 h) o gm_Traffic_firstOf X h 46 [(0, .inr (.inr t)), (1, .inl v1), (2, .inl v2), (3, .inl v3)] [] := by
  unfold f_Traffic_firstOf_J46
  refine gr_iinc (M := gm_Traffic_firstOf) (lv' := [(3, .inl (gadd v3 1)), (0, .inr (.inr t)), (1, .inl v1), (2, .inl v2)]) dq_Traffic_firstOf_46 3 rfl rfl (by decide) rfl 49 rfl ?_
  refine gr_goto (M := gm_Traffic_firstOf) dq_Traffic_firstOf_49 4 rfl ?_
  refine gr_sub (M := gm_Traffic_firstOf) (lv' := [(0, .inr (.inr t)), (1, .inl v1), (2, .inl v2), (3, .inl (gadd v3 1))]) [1, 2, 3, 0] rfl ?_
  exact hk4 _ _ _

def f_Traffic_firstOf_J44 (t : Nat) (k4 : Int → Int → gH → Option gO) (v1 : Int) (v3 : Int) (h : gH) : Option gO := f_Traffic_firstOf_J46 t (k4) v1 v3 v3 h
theorem w_Traffic_firstOf_J44 {o : gO} {X : gX} (hL : gLive (xZ X)) (hn : (zL (xZ X)).Nodup) (hF : gFin X (some .int) o) {t : Nat} (ht : gsh t = .inr 4)  {k4 : Int → Int → gH → Option gO} {v1 : Int} {v3 : Int} {h : gH} (hk4 : ∀ (v2 : Int) (v3 : Int) (h : gH), gr (k4 v2 v3 h) o gm_Traffic_firstOf X h 4 [(0, .inr (.inr t)), (1, .inl v1), (2, .inl v2), (3, .inl v3)] []) : gr (f_Traffic_firstOf_J44 t k4 v1 v3 h) o gm_Traffic_firstOf X h 44 [(0, .inr (.inr t)), (1, .inl v1), (3, .inl v3)] [] := by
  unfold f_Traffic_firstOf_J44
  refine gr_iload_n (M := gm_Traffic_firstOf) dq_Traffic_firstOf_44 rfl 2 rfl 45 rfl ?_
  refine gr_istore_n (M := gm_Traffic_firstOf) (lv' := [(2, .inl v3), (0, .inr (.inr t)), (1, .inl v1), (3, .inl v3)]) dq_Traffic_firstOf_45 rfl (by decide) rfl 46 rfl ?_
  refine gr_sub (M := gm_Traffic_firstOf) (lv' := [(0, .inr (.inr t)), (1, .inl v1), (2, .inl v3), (3, .inl v3)]) [1, 2, 0, 3] rfl ?_
  exact w_Traffic_firstOf_J46 hL hn hF ht  hk4

def f_Traffic_firstOf_L4 (t : Nat) (v1 : Int) (k52 : Int → gH → Option gO) : Nat → Int → Int → gH → Option gO
  | 0, _, _, _ => none
  | n + 1, v2, v3, h => gd (gcl ((h t 0).toNat) 0) (if (h (h t 0).toNat 3) ≤ v3 then (k52 v2 h) else (if (gshr v1 v3) = 0 then (k52 v2 h) else (if (gand (gshr v1 v3) 1) = 1 then (if v2 = (-1) then (f_Traffic_firstOf_J44 t (f_Traffic_firstOf_L4 t v1 k52 n) v1 v3 h) else (gb (f_Traffic_isAheadOf t v3 v2 h) (fun h6 r7 => if r7 = 0 then (f_Traffic_firstOf_J46 t (f_Traffic_firstOf_L4 t v1 k52 n) v1 v2 v3 h6) else (f_Traffic_firstOf_J44 t (f_Traffic_firstOf_L4 t v1 k52 n) v1 v3 h6)))) else (f_Traffic_firstOf_J46 t (f_Traffic_firstOf_L4 t v1 k52 n) v1 v2 v3 h))))
theorem w_Traffic_firstOf_L4 {o : gO} {X : gX} (hL : gLive (xZ X)) (hn : (zL (xZ X)).Nodup) (hF : gFin X (some .int) o) {t : Nat} {v1 : Int} (ht : gsh t = .inr 4)  {k52 : Int → gH → Option gO} (hk52 : ∀ (v2 : Int) (h : gH), gr (k52 v2 h) o gm_Traffic_firstOf X h 52 [(2, .inl v2)] []) : ∀ (n : Nat) (v2 : Int) (v3 : Int) (h : gH), gr (f_Traffic_firstOf_L4 t v1 k52 n v2 v3 h) o gm_Traffic_firstOf X h 4 [(0, .inr (.inr t)), (1, .inl v1), (2, .inl v2), (3, .inl v3)] [] := by
  intro n
  induction n with
  | zero => intros; exact gr_none
  | succ n ih =>
    intro v2 v3 h
    unfold f_Traffic_firstOf_L4
    refine gr_iload_n (M := gm_Traffic_firstOf) dq_Traffic_firstOf_4 rfl 3 rfl 5 rfl ?_
    refine gr_aload_n (M := gm_Traffic_firstOf) dq_Traffic_firstOf_5 rfl 0 rfl 6 rfl ?_
    refine gr_getd (M := gm_Traffic_firstOf) dq_Traffic_firstOf_6 9 rfl gfl_Traffic_45 ht rfl (gli hL ht) (fun hc1 => ?_)
    refine gr_geti (M := gm_Traffic_firstOf) dq_Traffic_firstOf_9 12 rfl gfl_Traffic_74 (gclE hc1) rfl (gli hL (gclE hc1)) ?_
    refine gr_icmp_ge (M := gm_Traffic_firstOf) dq_Traffic_firstOf_12 52 15 rfl rfl (fun c2 => ?_) (fun c2 => ?_)
    · refine gr_sub (M := gm_Traffic_firstOf) (lv' := [(2, .inl v2)]) [2] rfl ?_
      exact hk52 _ _
    refine gr_iload_n (M := gm_Traffic_firstOf) dq_Traffic_firstOf_15 rfl 1 rfl 16 rfl ?_
    refine gr_iload_n (M := gm_Traffic_firstOf) dq_Traffic_firstOf_16 rfl 3 rfl 17 rfl ?_
    refine gr_ishr (M := gm_Traffic_firstOf) dq_Traffic_firstOf_17 18 rfl ?_
    refine gr_if_eq (M := gm_Traffic_firstOf) dq_Traffic_firstOf_18 52 21 rfl rfl (fun c3 => ?_) (fun c3 => ?_)
    · refine gr_sub (M := gm_Traffic_firstOf) (lv' := [(2, .inl v2)]) [2] rfl ?_
      exact hk52 _ _
    refine gr_iload_n (M := gm_Traffic_firstOf) dq_Traffic_firstOf_21 rfl 1 rfl 22 rfl ?_
    refine gr_iload_n (M := gm_Traffic_firstOf) dq_Traffic_firstOf_22 rfl 3 rfl 23 rfl ?_
    refine gr_ishr (M := gm_Traffic_firstOf) dq_Traffic_firstOf_23 24 rfl ?_
    refine gr_iconst (M := gm_Traffic_firstOf) (v := 1) dq_Traffic_firstOf_24 rfl ⟨by decide, by decide⟩ 25 rfl ?_
    refine gr_iand (M := gm_Traffic_firstOf) dq_Traffic_firstOf_25 26 rfl ?_
    refine gr_iconst (M := gm_Traffic_firstOf) (v := 1) dq_Traffic_firstOf_26 rfl ⟨by decide, by decide⟩ 27 rfl ?_
    refine gr_icmp_ne (M := gm_Traffic_firstOf) dq_Traffic_firstOf_27 46 30 rfl rfl (fun c4 => ?_) (fun c4 => ?_)
    · exact w_Traffic_firstOf_J46 hL hn hF ht  ih
    refine gr_iload_n (M := gm_Traffic_firstOf) dq_Traffic_firstOf_30 rfl 2 rfl 31 rfl ?_
    refine gr_iconst (M := gm_Traffic_firstOf) (v := (-1)) dq_Traffic_firstOf_31 rfl ⟨by decide, by decide⟩ 32 rfl ?_
    refine gr_icmp_eq (M := gm_Traffic_firstOf) dq_Traffic_firstOf_32 44 35 rfl rfl (fun c5 => ?_) (fun c5 => ?_)
    · refine gr_sub (M := gm_Traffic_firstOf) (lv' := [(0, .inr (.inr t)), (1, .inl v1), (3, .inl v3)]) [0, 1, 3] rfl ?_
      exact w_Traffic_firstOf_J44 hL hn hF ht  ih
    refine gr_aload_n (M := gm_Traffic_firstOf) dq_Traffic_firstOf_35 rfl 0 rfl 36 rfl ?_
    refine gr_iload_n (M := gm_Traffic_firstOf) dq_Traffic_firstOf_36 rfl 3 rfl 37 rfl ?_
    refine gr_iload_n (M := gm_Traffic_firstOf) dq_Traffic_firstOf_37 rfl 2 rfl 38 rfl ?_
    refine gr_callVi (M := gm_Traffic_firstOf) (as := [.inl v3, .inl v2]) dq_Traffic_firstOf_38 41 rfl rfl gcy_Traffic_176 gim_Traffic_isAheadOf gse_Traffic_isAheadOf ⟨by decide, by decide⟩ (Nat.le_of_ble_eq_true rfl) ht rfl (gli hL ht) (fun o1 hg ha hx => c_Traffic_isAheadOf hL hn ht hg ha hx) (fun h6 r7 _ => ?_)
    refine gr_if_eq (M := gm_Traffic_firstOf) dq_Traffic_firstOf_41 46 44 rfl rfl (fun c8 => ?_) (fun c8 => ?_)
    · exact w_Traffic_firstOf_J46 hL hn hF ht  ih
    refine gr_sub (M := gm_Traffic_firstOf) (lv' := [(0, .inr (.inr t)), (1, .inl v1), (3, .inl v3)]) [0, 1, 3] rfl ?_
    exact w_Traffic_firstOf_J44 hL hn hF ht  ih

def f_Traffic_firstOf (t : Nat) (a1 : Int) (h : gH) : Option gO := f_Traffic_firstOf_L4 t a1 (fun v9 h10 => some (h10, v9)) 50000 (-1) 0 h
theorem c_Traffic_firstOf {Z : gZ} (hL : gLive Z) (hn : (zL Z).Nodup) {t : Nat} {a1 : Int} (ht : gsh t = .inr 4) {h : gH} {o : gO} (hg : gRg h) (ha : gRl [.inr (.inr t), .inl a1]) (hx : f_Traffic_firstOf t a1 h = some o) : gC Z gy_Traffic_firstOf gc_Traffic_firstOf 4 (some .int) 1 22 [.inr (.inr t), .inl a1] h o := by
  unfold f_Traffic_firstOf at hx
  refine gC_of (lv := [(0, .inr (.inr t)), (1, .inl a1)]) (own := gR_4) (by decide +kernel) rfl (Nat.le_of_ble_eq_true rfl) rfl rfl hn hg ha hx (fun X hZ hF => ?_)
  subst hZ
  show gr _ o gm_Traffic_firstOf X h 0 _ _
  refine gr_iconst (M := gm_Traffic_firstOf) (v := (-1)) dq_Traffic_firstOf_0 rfl ⟨by decide, by decide⟩ 1 rfl ?_
  refine gr_istore_n (M := gm_Traffic_firstOf) (lv' := [(2, .inl (-1)), (0, .inr (.inr t)), (1, .inl a1)]) dq_Traffic_firstOf_1 rfl (by decide) rfl 2 rfl ?_
  refine gr_iconst (M := gm_Traffic_firstOf) (v := 0) dq_Traffic_firstOf_2 rfl ⟨by decide, by decide⟩ 3 rfl ?_
  refine gr_istore_n (M := gm_Traffic_firstOf) (lv' := [(3, .inl 0), (2, .inl (-1)), (0, .inr (.inr t)), (1, .inl a1)]) dq_Traffic_firstOf_3 rfl (by decide) rfl 4 rfl ?_
  refine gr_sub (M := gm_Traffic_firstOf) (lv' := [(0, .inr (.inr t)), (1, .inl a1), (2, .inl (-1)), (3, .inl 0)]) [2, 3, 1, 0] rfl ?_
  refine w_Traffic_firstOf_L4 hL hn hF ht  (fun v9 h10 => ?_) 50000 _ _ _
  refine gr_iload_n (M := gm_Traffic_firstOf) dq_Traffic_firstOf_52 rfl 0 rfl 53 rfl ?_
  exact gr_ireturn (M := gm_Traffic_firstOf) dq_Traffic_firstOf_53 hF

