-- Mo_bestLaw
theorem dq_Mo_bestLaw_0 : decode gc_Mo_bestLaw 0 = .ok (.iload_n 2, 1) := by decide +kernel
theorem dq_Mo_bestLaw_1 : decode gc_Mo_bestLaw 1 = .ok (.iconst (-1), 1) := by decide +kernel
theorem dq_Mo_bestLaw_2 : decode gc_Mo_bestLaw 2 = .ok (.if_icmp .eq 14, 3) := by decide +kernel
theorem dq_Mo_bestLaw_5 : decode gc_Mo_bestLaw 5 = .ok (.aload_n 0, 1) := by decide +kernel
theorem dq_Mo_bestLaw_6 : decode gc_Mo_bestLaw 6 = .ok (.iload_n 2, 1) := by decide +kernel
theorem dq_Mo_bestLaw_7 : decode gc_Mo_bestLaw 7 = .ok (.invokevirtual 209, 3) := by decide +kernel
theorem dq_Mo_bestLaw_10 : decode gc_Mo_bestLaw 10 = .ok (.ifCond .ne 6, 3) := by decide +kernel
theorem dq_Mo_bestLaw_13 : decode gc_Mo_bestLaw 13 = .ok (.ldc 208, 2) := by decide +kernel
theorem dq_Mo_bestLaw_15 : decode gc_Mo_bestLaw 15 = .ok (.ireturn, 1) := by decide +kernel
theorem dq_Mo_bestLaw_16 : decode gc_Mo_bestLaw 16 = .ok (.iload_n 1, 1) := by decide +kernel
theorem dq_Mo_bestLaw_17 : decode gc_Mo_bestLaw 17 = .ok (.i2l, 1) := by decide +kernel
theorem dq_Mo_bestLaw_18 : decode gc_Mo_bestLaw 18 = .ok (.lconst 1, 1) := by decide +kernel
theorem dq_Mo_bestLaw_19 : decode gc_Mo_bestLaw 19 = .ok (.ldc2_w 267, 3) := by decide +kernel
theorem dq_Mo_bestLaw_22 : decode gc_Mo_bestLaw 22 = .ok (.invokestatic 117, 3) := by decide +kernel
theorem dq_Mo_bestLaw_25 : decode gc_Mo_bestLaw 25 = .ok (.ifCond .ne 6, 3) := by decide +kernel
theorem dq_Mo_bestLaw_28 : decode gc_Mo_bestLaw 28 = .ok (.ldc 129, 2) := by decide +kernel
theorem dq_Mo_bestLaw_30 : decode gc_Mo_bestLaw 30 = .ok (.ireturn, 1) := by decide +kernel
theorem dq_Mo_bestLaw_31 : decode gc_Mo_bestLaw 31 = .ok (.aload_n 0, 1) := by decide +kernel
theorem dq_Mo_bestLaw_32 : decode gc_Mo_bestLaw 32 = .ok (.invokevirtual 300, 3) := by decide +kernel
theorem dq_Mo_bestLaw_35 : decode gc_Mo_bestLaw 35 = .ok (.iconst 0, 1) := by decide +kernel
theorem dq_Mo_bestLaw_36 : decode gc_Mo_bestLaw 36 = .ok (.istore_n 3, 1) := by decide +kernel
theorem dq_Mo_bestLaw_37 : decode gc_Mo_bestLaw 37 = .ok (.iconst (-1), 1) := by decide +kernel
theorem dq_Mo_bestLaw_38 : decode gc_Mo_bestLaw 38 = .ok (.istore 4, 2) := by decide +kernel
theorem dq_Mo_bestLaw_40 : decode gc_Mo_bestLaw 40 = .ok (.iconst 0, 1) := by decide +kernel
theorem dq_Mo_bestLaw_41 : decode gc_Mo_bestLaw 41 = .ok (.istore 5, 2) := by decide +kernel
theorem dq_Mo_bestLaw_43 : decode gc_Mo_bestLaw 43 = .ok (.iload 5, 2) := by decide +kernel
theorem dq_Mo_bestLaw_45 : decode gc_Mo_bestLaw 45 = .ok (.iconst 5, 1) := by decide +kernel
theorem dq_Mo_bestLaw_46 : decode gc_Mo_bestLaw 46 = .ok (.if_icmp .ge 117, 3) := by decide +kernel
theorem dq_Mo_bestLaw_49 : decode gc_Mo_bestLaw 49 = .ok (.iconst 0, 1) := by decide +kernel
theorem dq_Mo_bestLaw_50 : decode gc_Mo_bestLaw 50 = .ok (.istore 6, 2) := by decide +kernel
theorem dq_Mo_bestLaw_52 : decode gc_Mo_bestLaw 52 = .ok (.iload 6, 2) := by decide +kernel
theorem dq_Mo_bestLaw_54 : decode gc_Mo_bestLaw 54 = .ok (.aload_n 0, 1) := by decide +kernel
theorem dq_Mo_bestLaw_55 : decode gc_Mo_bestLaw 55 = .ok (.getfield 121, 3) := by decide +kernel
theorem dq_Mo_bestLaw_58 : decode gc_Mo_bestLaw 58 = .ok (.if_icmp .ge 43, 3) := by decide +kernel
theorem dq_Mo_bestLaw_61 : decode gc_Mo_bestLaw 61 = .ok (.aload_n 0, 1) := by decide +kernel
theorem dq_Mo_bestLaw_62 : decode gc_Mo_bestLaw 62 = .ok (.getfield 34, 3) := by decide +kernel
theorem dq_Mo_bestLaw_65 : decode gc_Mo_bestLaw 65 = .ok (.iconst 2, 1) := by decide +kernel
theorem dq_Mo_bestLaw_66 : decode gc_Mo_bestLaw 66 = .ok (.iload 6, 2) := by decide +kernel
theorem dq_Mo_bestLaw_68 : decode gc_Mo_bestLaw 68 = .ok (.iadd, 1) := by decide +kernel
theorem dq_Mo_bestLaw_69 : decode gc_Mo_bestLaw 69 = .ok (.iload_n 2, 1) := by decide +kernel
theorem dq_Mo_bestLaw_70 : decode gc_Mo_bestLaw 70 = .ok (.iconst (-1), 1) := by decide +kernel
theorem dq_Mo_bestLaw_71 : decode gc_Mo_bestLaw 71 = .ok (.if_icmp .eq 9, 3) := by decide +kernel
theorem dq_Mo_bestLaw_74 : decode gc_Mo_bestLaw 74 = .ok (.iload_n 2, 1) := by decide +kernel
theorem dq_Mo_bestLaw_75 : decode gc_Mo_bestLaw 75 = .ok (.iload 6, 2) := by decide +kernel
theorem dq_Mo_bestLaw_77 : decode gc_Mo_bestLaw 77 = .ok (.if_icmp .ne 8, 3) := by decide +kernel
theorem dq_Mo_bestLaw_80 : decode gc_Mo_bestLaw 80 = .ok (.iload 5, 2) := by decide +kernel
theorem dq_Mo_bestLaw_82 : decode gc_Mo_bestLaw 82 = .ok (.goto 12, 3) := by decide +kernel
theorem dq_Mo_bestLaw_85 : decode gc_Mo_bestLaw 85 = .ok (.aload_n 0, 1) := by decide +kernel
theorem dq_Mo_bestLaw_86 : decode gc_Mo_bestLaw 86 = .ok (.getfield 34, 3) := by decide +kernel
theorem dq_Mo_bestLaw_89 : decode gc_Mo_bestLaw 89 = .ok (.iconst 2, 1) := by decide +kernel
theorem dq_Mo_bestLaw_90 : decode gc_Mo_bestLaw 90 = .ok (.iload 6, 2) := by decide +kernel
theorem dq_Mo_bestLaw_92 : decode gc_Mo_bestLaw 92 = .ok (.iadd, 1) := by decide +kernel
theorem dq_Mo_bestLaw_93 : decode gc_Mo_bestLaw 93 = .ok (.iaload, 1) := by decide +kernel
theorem dq_Mo_bestLaw_94 : decode gc_Mo_bestLaw 94 = .ok (.iastore, 1) := by decide +kernel
theorem dq_Mo_bestLaw_95 : decode gc_Mo_bestLaw 95 = .ok (.iinc 6 1, 3) := by decide +kernel
theorem dq_Mo_bestLaw_98 : decode gc_Mo_bestLaw 98 = .ok (.goto (-46), 3) := by decide +kernel
theorem dq_Mo_bestLaw_101 : decode gc_Mo_bestLaw 101 = .ok (.aload_n 0, 1) := by decide +kernel
theorem dq_Mo_bestLaw_102 : decode gc_Mo_bestLaw 102 = .ok (.iload_n 1, 1) := by decide +kernel
theorem dq_Mo_bestLaw_103 : decode gc_Mo_bestLaw 103 = .ok (.invokevirtual 303, 3) := by decide +kernel
theorem dq_Mo_bestLaw_106 : decode gc_Mo_bestLaw 106 = .ok (.aload_n 0, 1) := by decide +kernel
theorem dq_Mo_bestLaw_107 : decode gc_Mo_bestLaw 107 = .ok (.iconst (-1), 1) := by decide +kernel
theorem dq_Mo_bestLaw_108 : decode gc_Mo_bestLaw 108 = .ok (.invokevirtual 306, 3) := by decide +kernel
theorem dq_Mo_bestLaw_111 : decode gc_Mo_bestLaw 111 = .ok (.istore 6, 2) := by decide +kernel
theorem dq_Mo_bestLaw_113 : decode gc_Mo_bestLaw 113 = .ok (.aload_n 0, 1) := by decide +kernel
theorem dq_Mo_bestLaw_114 : decode gc_Mo_bestLaw 114 = .ok (.invokevirtual 309, 3) := by decide +kernel
theorem dq_Mo_bestLaw_117 : decode gc_Mo_bestLaw 117 = .ok (.iload 4, 2) := by decide +kernel
theorem dq_Mo_bestLaw_119 : decode gc_Mo_bestLaw 119 = .ok (.ifCond .lt 10, 3) := by decide +kernel
theorem dq_Mo_bestLaw_122 : decode gc_Mo_bestLaw 122 = .ok (.iload 6, 2) := by decide +kernel
theorem dq_Mo_bestLaw_124 : decode gc_Mo_bestLaw 124 = .ok (.iload 4, 2) := by decide +kernel
theorem dq_Mo_bestLaw_126 : decode gc_Mo_bestLaw 126 = .ok (.if_icmp .ge 8, 3) := by decide +kernel
theorem dq_Mo_bestLaw_129 : decode gc_Mo_bestLaw 129 = .ok (.iload 5, 2) := by decide +kernel
theorem dq_Mo_bestLaw_131 : decode gc_Mo_bestLaw 131 = .ok (.goto 4, 3) := by decide +kernel
theorem dq_Mo_bestLaw_134 : decode gc_Mo_bestLaw 134 = .ok (.iload_n 3, 1) := by decide +kernel
theorem dq_Mo_bestLaw_135 : decode gc_Mo_bestLaw 135 = .ok (.istore_n 3, 1) := by decide +kernel
theorem dq_Mo_bestLaw_136 : decode gc_Mo_bestLaw 136 = .ok (.iload 4, 2) := by decide +kernel
theorem dq_Mo_bestLaw_138 : decode gc_Mo_bestLaw 138 = .ok (.ifCond .lt 10, 3) := by decide +kernel
theorem dq_Mo_bestLaw_141 : decode gc_Mo_bestLaw 141 = .ok (.iload 6, 2) := by decide +kernel
theorem dq_Mo_bestLaw_143 : decode gc_Mo_bestLaw 143 = .ok (.iload 4, 2) := by decide +kernel
theorem dq_Mo_bestLaw_145 : decode gc_Mo_bestLaw 145 = .ok (.if_icmp .ge 8, 3) := by decide +kernel
theorem dq_Mo_bestLaw_148 : decode gc_Mo_bestLaw 148 = .ok (.iload 6, 2) := by decide +kernel
theorem dq_Mo_bestLaw_150 : decode gc_Mo_bestLaw 150 = .ok (.goto 5, 3) := by decide +kernel
theorem dq_Mo_bestLaw_153 : decode gc_Mo_bestLaw 153 = .ok (.iload 4, 2) := by decide +kernel
theorem dq_Mo_bestLaw_155 : decode gc_Mo_bestLaw 155 = .ok (.istore 4, 2) := by decide +kernel
theorem dq_Mo_bestLaw_157 : decode gc_Mo_bestLaw 157 = .ok (.iinc 5 1, 3) := by decide +kernel
theorem dq_Mo_bestLaw_160 : decode gc_Mo_bestLaw 160 = .ok (.goto (-117), 3) := by decide +kernel
theorem dq_Mo_bestLaw_163 : decode gc_Mo_bestLaw 163 = .ok (.iload_n 3, 1) := by decide +kernel
theorem dq_Mo_bestLaw_164 : decode gc_Mo_bestLaw 164 = .ok (.ireturn, 1) := by decide +kernel
abbrev gm_Mo_bestLaw : gM := (gc_Mo_bestLaw, gR_7, 9, 206, 7)
def f_Mo_bestLaw_J94  (k52 : Int → gH → Option gO) (v1 : Int) (v2 : Int) (v3 : Int) (v4 : Int) (v5 : Int) (v6 : Int) (s2 : Int) (s1 : Int) (h : gH) : Option gO := gd (gix 50 s1) (gs (gup h 92 s1.toNat s2) (fun h10 => k52 (gadd v6 1) h10))
theorem w_Mo_bestLaw_J94 {o : gO} {X : gX} (hL : gLive (xZ X)) (hn : (zL (xZ X)).Nodup) (hF : gFin X (some .int) o)    {k52 : Int → gH → Option gO} {v1 : Int} {v2 : Int} {v3 : Int} {v4 : Int} {v5 : Int} {v6 : Int} {s2 : Int} {s1 : Int} {h : gH} (hk52 : ∀ (v6 : Int) (h : gH), gr (k52 v6 h) o gm_Mo_bestLaw X h 52 [(0, .inr (.inr 83)), (1, .inl v1), (2, .inl v2), (3, .inl v3), (4, .inl v4), (5, .inl v5), (6, .inl v6)] []) : gr (f_Mo_bestLaw_J94  k52 v1 v2 v3 v4 v5 v6 s2 s1 h) o gm_Mo_bestLaw X h 94 [(0, .inr (.inr 83)), (1, .inl v1), (2, .inl v2), (3, .inl v3), (4, .inl v4), (5, .inl v5), (6, .inl v6)] [.inl s2, .inl s1, .inr (.inr 92)] := by
  unfold f_Mo_bestLaw_J94
  refine gr_iast (M := gm_Mo_bestLaw) dq_Mo_bestLaw_94 95 rfl gsh_92 (glj hL gsh_92 (by decide)) (fun h10 _ => ?_)
  refine gr_iinc (M := gm_Mo_bestLaw) (lv' := [(6, .inl (gadd v6 1)), (0, .inr (.inr 83)), (1, .inl v1), (2, .inl v2), (3, .inl v3), (4, .inl v4), (5, .inl v5)]) dq_Mo_bestLaw_95 6 rfl rfl (by decide) rfl 98 rfl ?_
  refine gr_goto (M := gm_Mo_bestLaw) dq_Mo_bestLaw_98 52 rfl ?_
  refine gr_sub (M := gm_Mo_bestLaw) (lv' := [(0, .inr (.inr 83)), (1, .inl v1), (2, .inl v2), (3, .inl v3), (4, .inl v4), (5, .inl v5), (6, .inl (gadd v6 1))]) [1, 2, 3, 4, 5, 6, 0] rfl ?_
  exact hk52 _ _

def f_Mo_bestLaw_J80  (k52 : Int → gH → Option gO) (v1 : Int) (v2 : Int) (v3 : Int) (v4 : Int) (v5 : Int) (v6 : Int) (s1 : Int) (h : gH) : Option gO := f_Mo_bestLaw_J94  (k52) v1 v2 v3 v4 v5 v6 v5 s1 h
theorem w_Mo_bestLaw_J80 {o : gO} {X : gX} (hL : gLive (xZ X)) (hn : (zL (xZ X)).Nodup) (hF : gFin X (some .int) o)    {k52 : Int → gH → Option gO} {v1 : Int} {v2 : Int} {v3 : Int} {v4 : Int} {v5 : Int} {v6 : Int} {s1 : Int} {h : gH} (hk52 : ∀ (v6 : Int) (h : gH), gr (k52 v6 h) o gm_Mo_bestLaw X h 52 [(0, .inr (.inr 83)), (1, .inl v1), (2, .inl v2), (3, .inl v3), (4, .inl v4), (5, .inl v5), (6, .inl v6)] []) : gr (f_Mo_bestLaw_J80  k52 v1 v2 v3 v4 v5 v6 s1 h) o gm_Mo_bestLaw X h 80 [(0, .inr (.inr 83)), (1, .inl v1), (2, .inl v2), (3, .inl v3), (4, .inl v4), (5, .inl v5), (6, .inl v6)] [.inl s1, .inr (.inr 92)] := by
  unfold f_Mo_bestLaw_J80
  refine gr_iload (M := gm_Mo_bestLaw) dq_Mo_bestLaw_80 5 rfl 82 rfl ?_
  refine gr_goto (M := gm_Mo_bestLaw) dq_Mo_bestLaw_82 94 rfl ?_
  exact w_Mo_bestLaw_J94 hL hn hF   hk52

def f_Mo_bestLaw_L52 (v1 : Int) (v2 : Int) (v3 : Int) (v4 : Int) (v5 : Int) (k101 : gH → Option gO) : Nat → Int → gH → Option gO
  | 0, _, _ => none
  | n + 1, v6, h => if (h 83 2) ≤ v6 then (k101  h) else (if v2 = (-1) then (f_Mo_bestLaw_J80  (f_Mo_bestLaw_L52 v1 v2 v3 v4 v5 k101 n) v1 v2 v3 v4 v5 v6 (gadd 2 v6) h) else (if v2 = v6 then (f_Mo_bestLaw_J80  (f_Mo_bestLaw_L52 v1 v2 v3 v4 v5 k101 n) v1 v2 v3 v4 v5 v6 (gadd 2 v6) h) else (gd (gix 50 (gadd 2 v6)) (f_Mo_bestLaw_J94  (f_Mo_bestLaw_L52 v1 v2 v3 v4 v5 k101 n) v1 v2 v3 v4 v5 v6 (h 92 (gadd 2 v6).toNat) (gadd 2 v6) h))))
theorem w_Mo_bestLaw_L52 {o : gO} {X : gX} (hL : gLive (xZ X)) (hn : (zL (xZ X)).Nodup) (hF : gFin X (some .int) o) {v1 : Int} {v2 : Int} {v3 : Int} {v4 : Int} {v5 : Int}   {k101 : gH → Option gO} (hk101 : ∀ (h : gH), gr (k101 h) o gm_Mo_bestLaw X h 101 [(0, .inr (.inr 83)), (1, .inl v1), (2, .inl v2), (3, .inl v3), (4, .inl v4), (5, .inl v5)] []) : ∀ (n : Nat) (v6 : Int) (h : gH), gr (f_Mo_bestLaw_L52 v1 v2 v3 v4 v5 k101 n v6 h) o gm_Mo_bestLaw X h 52 [(0, .inr (.inr 83)), (1, .inl v1), (2, .inl v2), (3, .inl v3), (4, .inl v4), (5, .inl v5), (6, .inl v6)] [] := by
  intro n
  induction n with
  | zero => intros; exact gr_none
  | succ n ih =>
    intro v6 h
    unfold f_Mo_bestLaw_L52
    refine gr_iload (M := gm_Mo_bestLaw) dq_Mo_bestLaw_52 6 rfl 54 rfl ?_
    refine gr_aload_n (M := gm_Mo_bestLaw) dq_Mo_bestLaw_54 rfl 0 rfl 55 rfl ?_
    refine gr_geti (M := gm_Mo_bestLaw) dq_Mo_bestLaw_55 58 rfl gfl_Mo_121 gsh_83 rfl (gli hL gsh_83) ?_
    refine gr_icmp_ge (M := gm_Mo_bestLaw) dq_Mo_bestLaw_58 101 61 rfl rfl (fun c8 => ?_) (fun c8 => ?_)
    · refine gr_sub (M := gm_Mo_bestLaw) (lv' := [(0, .inr (.inr 83)), (1, .inl v1), (2, .inl v2), (3, .inl v3), (4, .inl v4), (5, .inl v5)]) [0, 1, 2, 3, 4, 5] rfl ?_
      exact hk101  _
    refine gr_aload_n (M := gm_Mo_bestLaw) dq_Mo_bestLaw_61 rfl 0 rfl 62 rfl ?_
    refine gr_getr (M := gm_Mo_bestLaw) dq_Mo_bestLaw_62 65 rfl gfl_Mo_34 gsh_83 rfl (gli hL gsh_83) 92 rfl ?_
    refine gr_iconst (M := gm_Mo_bestLaw) (v := 2) dq_Mo_bestLaw_65 rfl ⟨by decide, by decide⟩ 66 rfl ?_
    refine gr_iload (M := gm_Mo_bestLaw) dq_Mo_bestLaw_66 6 rfl 68 rfl ?_
    refine gr_iadd (M := gm_Mo_bestLaw) dq_Mo_bestLaw_68 69 rfl ?_
    refine gr_iload_n (M := gm_Mo_bestLaw) dq_Mo_bestLaw_69 rfl 2 rfl 70 rfl ?_
    refine gr_iconst (M := gm_Mo_bestLaw) (v := (-1)) dq_Mo_bestLaw_70 rfl ⟨by decide, by decide⟩ 71 rfl ?_
    refine gr_icmp_eq (M := gm_Mo_bestLaw) dq_Mo_bestLaw_71 80 74 rfl rfl (fun c9 => ?_) (fun c9 => ?_)
    · exact w_Mo_bestLaw_J80 hL hn hF   ih
    refine gr_iload_n (M := gm_Mo_bestLaw) dq_Mo_bestLaw_74 rfl 2 rfl 75 rfl ?_
    refine gr_iload (M := gm_Mo_bestLaw) dq_Mo_bestLaw_75 6 rfl 77 rfl ?_
    refine gr_icmp_ne (M := gm_Mo_bestLaw) dq_Mo_bestLaw_77 85 80 rfl rfl (fun c11 => ?_) (fun c11 => ?_)
    · refine gr_aload_n (M := gm_Mo_bestLaw) dq_Mo_bestLaw_85 rfl 0 rfl 86 rfl ?_
      refine gr_getr (M := gm_Mo_bestLaw) dq_Mo_bestLaw_86 89 rfl gfl_Mo_34 gsh_83 rfl (gli hL gsh_83) 92 rfl ?_
      refine gr_iconst (M := gm_Mo_bestLaw) (v := 2) dq_Mo_bestLaw_89 rfl ⟨by decide, by decide⟩ 90 rfl ?_
      refine gr_iload (M := gm_Mo_bestLaw) dq_Mo_bestLaw_90 6 rfl 92 rfl ?_
      refine gr_iadd (M := gm_Mo_bestLaw) dq_Mo_bestLaw_92 93 rfl ?_
      refine gr_iald (M := gm_Mo_bestLaw) dq_Mo_bestLaw_93 94 rfl gsh_92 (glj hL gsh_92 (by decide)) ?_
      exact w_Mo_bestLaw_J94 hL hn hF   ih
    exact w_Mo_bestLaw_J80 hL hn hF   ih

def f_Mo_bestLaw_J155  (k43 : Int → Int → Int → gH → Option gO) (v1 : Int) (v2 : Int) (v3 : Int) (v5 : Int) (s0 : Int) (h : gH) : Option gO := k43 v3 s0 (gadd v5 1) h
theorem w_Mo_bestLaw_J155 {o : gO} {X : gX} (hL : gLive (xZ X)) (hn : (zL (xZ X)).Nodup) (hF : gFin X (some .int) o)    {k43 : Int → Int → Int → gH → Option gO} {v1 : Int} {v2 : Int} {v3 : Int} {v5 : Int} {s0 : Int} {h : gH} (hk43 : ∀ (v3 : Int) (v4 : Int) (v5 : Int) (h : gH), gr (k43 v3 v4 v5 h) o gm_Mo_bestLaw X h 43 [(0, .inr (.inr 83)), (1, .inl v1), (2, .inl v2), (3, .inl v3), (4, .inl v4), (5, .inl v5)] []) : gr (f_Mo_bestLaw_J155  k43 v1 v2 v3 v5 s0 h) o gm_Mo_bestLaw X h 155 [(0, .inr (.inr 83)), (1, .inl v1), (2, .inl v2), (3, .inl v3), (5, .inl v5)] [.inl s0] := by
  unfold f_Mo_bestLaw_J155
  refine gr_istore (M := gm_Mo_bestLaw) (kk := 0) (lv' := [(4, .inl s0), (0, .inr (.inr 83)), (1, .inl v1), (2, .inl v2), (3, .inl v3), (5, .inl v5)]) dq_Mo_bestLaw_155 (by decide) rfl 157 rfl ?_
  refine gr_iinc (M := gm_Mo_bestLaw) (lv' := [(5, .inl (gadd v5 1)), (4, .inl s0), (0, .inr (.inr 83)), (1, .inl v1), (2, .inl v2), (3, .inl v3)]) dq_Mo_bestLaw_157 5 rfl rfl (by decide) rfl 160 rfl ?_
  refine gr_goto (M := gm_Mo_bestLaw) dq_Mo_bestLaw_160 43 rfl ?_
  refine gr_sub (M := gm_Mo_bestLaw) (lv' := [(0, .inr (.inr 83)), (1, .inl v1), (2, .inl v2), (3, .inl v3), (4, .inl s0), (5, .inl (gadd v5 1))]) [2, 3, 4, 5, 1, 0] rfl ?_
  exact hk43 _ _ _ _

def f_Mo_bestLaw_J148  (k43 : Int → Int → Int → gH → Option gO) (v1 : Int) (v2 : Int) (v3 : Int) (v5 : Int) (v6 : Int) (h : gH) : Option gO := f_Mo_bestLaw_J155  (k43) v1 v2 v3 v5 v6 h
theorem w_Mo_bestLaw_J148 {o : gO} {X : gX} (hL : gLive (xZ X)) (hn : (zL (xZ X)).Nodup) (hF : gFin X (some .int) o)    {k43 : Int → Int → Int → gH → Option gO} {v1 : Int} {v2 : Int} {v3 : Int} {v5 : Int} {v6 : Int} {h : gH} (hk43 : ∀ (v3 : Int) (v4 : Int) (v5 : Int) (h : gH), gr (k43 v3 v4 v5 h) o gm_Mo_bestLaw X h 43 [(0, .inr (.inr 83)), (1, .inl v1), (2, .inl v2), (3, .inl v3), (4, .inl v4), (5, .inl v5)] []) : gr (f_Mo_bestLaw_J148  k43 v1 v2 v3 v5 v6 h) o gm_Mo_bestLaw X h 148 [(0, .inr (.inr 83)), (1, .inl v1), (2, .inl v2), (3, .inl v3), (5, .inl v5), (6, .inl v6)] [] := by
  unfold f_Mo_bestLaw_J148
  refine gr_iload (M := gm_Mo_bestLaw) dq_Mo_bestLaw_148 5 rfl 150 rfl ?_
  refine gr_goto (M := gm_Mo_bestLaw) dq_Mo_bestLaw_150 155 rfl ?_
  refine gr_sub (M := gm_Mo_bestLaw) (lv' := [(0, .inr (.inr 83)), (1, .inl v1), (2, .inl v2), (3, .inl v3), (5, .inl v5)]) [0, 1, 2, 3, 4] rfl ?_
  exact w_Mo_bestLaw_J155 hL hn hF   hk43

def f_Mo_bestLaw_J135  (k43 : Int → Int → Int → gH → Option gO) (v1 : Int) (v2 : Int) (v4 : Int) (v5 : Int) (v6 : Int) (s0 : Int) (h : gH) : Option gO := if v4 < 0 then (f_Mo_bestLaw_J148  (k43) v1 v2 s0 v5 v6 h) else (if v4 ≤ v6 then (f_Mo_bestLaw_J155  (k43) v1 v2 s0 v5 v4 h) else (f_Mo_bestLaw_J148  (k43) v1 v2 s0 v5 v6 h))
theorem w_Mo_bestLaw_J135 {o : gO} {X : gX} (hL : gLive (xZ X)) (hn : (zL (xZ X)).Nodup) (hF : gFin X (some .int) o)    {k43 : Int → Int → Int → gH → Option gO} {v1 : Int} {v2 : Int} {v4 : Int} {v5 : Int} {v6 : Int} {s0 : Int} {h : gH} (hk43 : ∀ (v3 : Int) (v4 : Int) (v5 : Int) (h : gH), gr (k43 v3 v4 v5 h) o gm_Mo_bestLaw X h 43 [(0, .inr (.inr 83)), (1, .inl v1), (2, .inl v2), (3, .inl v3), (4, .inl v4), (5, .inl v5)] []) : gr (f_Mo_bestLaw_J135  k43 v1 v2 v4 v5 v6 s0 h) o gm_Mo_bestLaw X h 135 [(0, .inr (.inr 83)), (1, .inl v1), (2, .inl v2), (4, .inl v4), (5, .inl v5), (6, .inl v6)] [.inl s0] := by
  unfold f_Mo_bestLaw_J135
  refine gr_istore_n (M := gm_Mo_bestLaw) (lv' := [(3, .inl s0), (0, .inr (.inr 83)), (1, .inl v1), (2, .inl v2), (4, .inl v4), (5, .inl v5), (6, .inl v6)]) dq_Mo_bestLaw_135 rfl (by decide) rfl 136 rfl ?_
  refine gr_iload (M := gm_Mo_bestLaw) dq_Mo_bestLaw_136 4 rfl 138 rfl ?_
  refine gr_if_lt (M := gm_Mo_bestLaw) dq_Mo_bestLaw_138 148 141 rfl rfl (fun c20 => ?_) (fun c20 => ?_)
  · refine gr_sub (M := gm_Mo_bestLaw) (lv' := [(0, .inr (.inr 83)), (1, .inl v1), (2, .inl v2), (3, .inl s0), (5, .inl v5), (6, .inl v6)]) [1, 2, 3, 0, 5, 6] rfl ?_
    exact w_Mo_bestLaw_J148 hL hn hF   hk43
  refine gr_iload (M := gm_Mo_bestLaw) dq_Mo_bestLaw_141 6 rfl 143 rfl ?_
  refine gr_iload (M := gm_Mo_bestLaw) dq_Mo_bestLaw_143 4 rfl 145 rfl ?_
  refine gr_icmp_ge (M := gm_Mo_bestLaw) dq_Mo_bestLaw_145 153 148 rfl rfl (fun c21 => ?_) (fun c21 => ?_)
  · refine gr_iload (M := gm_Mo_bestLaw) dq_Mo_bestLaw_153 4 rfl 155 rfl ?_
    refine gr_sub (M := gm_Mo_bestLaw) (lv' := [(0, .inr (.inr 83)), (1, .inl v1), (2, .inl v2), (3, .inl s0), (5, .inl v5)]) [1, 2, 3, 0, 5] rfl ?_
    exact w_Mo_bestLaw_J155 hL hn hF   hk43
  refine gr_sub (M := gm_Mo_bestLaw) (lv' := [(0, .inr (.inr 83)), (1, .inl v1), (2, .inl v2), (3, .inl s0), (5, .inl v5), (6, .inl v6)]) [1, 2, 3, 0, 5, 6] rfl ?_
  exact w_Mo_bestLaw_J148 hL hn hF   hk43

def f_Mo_bestLaw_J129  (k43 : Int → Int → Int → gH → Option gO) (v1 : Int) (v2 : Int) (v4 : Int) (v5 : Int) (v6 : Int) (h : gH) : Option gO := f_Mo_bestLaw_J135  (k43) v1 v2 v4 v5 v6 v5 h
theorem w_Mo_bestLaw_J129 {o : gO} {X : gX} (hL : gLive (xZ X)) (hn : (zL (xZ X)).Nodup) (hF : gFin X (some .int) o)    {k43 : Int → Int → Int → gH → Option gO} {v1 : Int} {v2 : Int} {v4 : Int} {v5 : Int} {v6 : Int} {h : gH} (hk43 : ∀ (v3 : Int) (v4 : Int) (v5 : Int) (h : gH), gr (k43 v3 v4 v5 h) o gm_Mo_bestLaw X h 43 [(0, .inr (.inr 83)), (1, .inl v1), (2, .inl v2), (3, .inl v3), (4, .inl v4), (5, .inl v5)] []) : gr (f_Mo_bestLaw_J129  k43 v1 v2 v4 v5 v6 h) o gm_Mo_bestLaw X h 129 [(0, .inr (.inr 83)), (1, .inl v1), (2, .inl v2), (4, .inl v4), (5, .inl v5), (6, .inl v6)] [] := by
  unfold f_Mo_bestLaw_J129
  refine gr_iload (M := gm_Mo_bestLaw) dq_Mo_bestLaw_129 4 rfl 131 rfl ?_
  refine gr_goto (M := gm_Mo_bestLaw) dq_Mo_bestLaw_131 135 rfl ?_
  exact w_Mo_bestLaw_J135 hL hn hF   hk43

def f_Mo_bestLaw_L43 (v1 : Int) (v2 : Int) (k163 : Int → gH → Option gO) : Nat → Int → Int → Int → gH → Option gO
  | 0, _, _, _, _ => none
  | n + 1, v3, v4, v5, h => if 5 ≤ v5 then (k163 v3 h) else (f_Mo_bestLaw_L52 v1 v2 v3 v4 v5 (fun  h12 => gb (f_Mo_go v1 h12) (fun h13 r14 => gb (f_Mo_minutes (-1) h13) (fun h15 r16 => gb (f_Mo_putBack  h15) (fun h17 r18 => if v4 < 0 then (f_Mo_bestLaw_J129  (f_Mo_bestLaw_L43 v1 v2 k163 n) v1 v2 v4 v5 r16 h17) else (if v4 ≤ r16 then (f_Mo_bestLaw_J135  (f_Mo_bestLaw_L43 v1 v2 k163 n) v1 v2 v4 v5 r16 v3 h17) else (f_Mo_bestLaw_J129  (f_Mo_bestLaw_L43 v1 v2 k163 n) v1 v2 v4 v5 r16 h17)))))) 50000 0 h)
theorem w_Mo_bestLaw_L43 {o : gO} {X : gX} (hL : gLive (xZ X)) (hn : (zL (xZ X)).Nodup) (hF : gFin X (some .int) o) {v1 : Int} {v2 : Int}   {k163 : Int → gH → Option gO} (hk163 : ∀ (v3 : Int) (h : gH), gr (k163 v3 h) o gm_Mo_bestLaw X h 163 [(3, .inl v3)] []) : ∀ (n : Nat) (v3 : Int) (v4 : Int) (v5 : Int) (h : gH), gr (f_Mo_bestLaw_L43 v1 v2 k163 n v3 v4 v5 h) o gm_Mo_bestLaw X h 43 [(0, .inr (.inr 83)), (1, .inl v1), (2, .inl v2), (3, .inl v3), (4, .inl v4), (5, .inl v5)] [] := by
  intro n
  induction n with
  | zero => intros; exact gr_none
  | succ n ih =>
    intro v3 v4 v5 h
    unfold f_Mo_bestLaw_L43
    refine gr_iload (M := gm_Mo_bestLaw) dq_Mo_bestLaw_43 5 rfl 45 rfl ?_
    refine gr_iconst (M := gm_Mo_bestLaw) (v := 5) dq_Mo_bestLaw_45 rfl ⟨by decide, by decide⟩ 46 rfl ?_
    refine gr_icmp_ge (M := gm_Mo_bestLaw) dq_Mo_bestLaw_46 163 49 rfl rfl (fun c7 => ?_) (fun c7 => ?_)
    · refine gr_sub (M := gm_Mo_bestLaw) (lv' := [(3, .inl v3)]) [3] rfl ?_
      exact hk163 _ _
    refine gr_iconst (M := gm_Mo_bestLaw) (v := 0) dq_Mo_bestLaw_49 rfl ⟨by decide, by decide⟩ 50 rfl ?_
    refine gr_istore (M := gm_Mo_bestLaw) (kk := 0) (lv' := [(6, .inl 0), (0, .inr (.inr 83)), (1, .inl v1), (2, .inl v2), (3, .inl v3), (4, .inl v4), (5, .inl v5)]) dq_Mo_bestLaw_50 (by decide) rfl 52 rfl ?_
    refine gr_sub (M := gm_Mo_bestLaw) (lv' := [(0, .inr (.inr 83)), (1, .inl v1), (2, .inl v2), (3, .inl v3), (4, .inl v4), (5, .inl v5), (6, .inl 0)]) [1, 2, 3, 4, 5, 6, 0] rfl ?_
    refine w_Mo_bestLaw_L52 hL hn hF   (fun h12 => ?_) 50000 _ _
    refine gr_aload_n (M := gm_Mo_bestLaw) dq_Mo_bestLaw_101 rfl 0 rfl 102 rfl ?_
    refine gr_iload_n (M := gm_Mo_bestLaw) dq_Mo_bestLaw_102 rfl 1 rfl 103 rfl ?_
    refine gr_callVv (M := gm_Mo_bestLaw) (as := [.inl v1]) dq_Mo_bestLaw_103 106 rfl rfl gcy_Mo_303 gim_Mo_go gse_Mo_go ⟨by decide, by decide⟩ (Nat.le_of_ble_eq_true rfl) gsh_83 rfl (gli hL gsh_83) (fun o1 hg ha hx => c_Mo_go hL hn  hg ha hx) (fun h13 r14 _ => ?_)
    refine gr_aload_n (M := gm_Mo_bestLaw) dq_Mo_bestLaw_106 rfl 0 rfl 107 rfl ?_
    refine gr_iconst (M := gm_Mo_bestLaw) (v := (-1)) dq_Mo_bestLaw_107 rfl ⟨by decide, by decide⟩ 108 rfl ?_
    refine gr_callVi (M := gm_Mo_bestLaw) (as := [.inl (-1)]) dq_Mo_bestLaw_108 111 rfl rfl gcy_Mo_306 gim_Mo_minutes gse_Mo_minutes ⟨by decide, by decide⟩ (Nat.le_of_ble_eq_true rfl) gsh_83 rfl (gli hL gsh_83) (fun o1 hg ha hx => c_Mo_minutes hL hn  hg ha hx) (fun h15 r16 _ => ?_)
    refine gr_istore (M := gm_Mo_bestLaw) (kk := 0) (lv' := [(6, .inl r16), (0, .inr (.inr 83)), (1, .inl v1), (2, .inl v2), (3, .inl v3), (4, .inl v4), (5, .inl v5)]) dq_Mo_bestLaw_111 (by decide) rfl 113 rfl ?_
    refine gr_aload_n (M := gm_Mo_bestLaw) dq_Mo_bestLaw_113 rfl 1 rfl 114 rfl ?_
    refine gr_callVv (M := gm_Mo_bestLaw) (as := []) dq_Mo_bestLaw_114 117 rfl rfl gcy_Mo_309 gim_Mo_putBack gse_Mo_putBack ⟨by decide, by decide⟩ (Nat.le_of_ble_eq_true rfl) gsh_83 rfl (gli hL gsh_83) (fun o1 hg ha hx => c_Mo_putBack hL hn  hg ha hx) (fun h17 r18 _ => ?_)
    refine gr_iload (M := gm_Mo_bestLaw) dq_Mo_bestLaw_117 5 rfl 119 rfl ?_
    refine gr_if_lt (M := gm_Mo_bestLaw) dq_Mo_bestLaw_119 129 122 rfl rfl (fun c19 => ?_) (fun c19 => ?_)
    · refine gr_sub (M := gm_Mo_bestLaw) (lv' := [(0, .inr (.inr 83)), (1, .inl v1), (2, .inl v2), (4, .inl v4), (5, .inl v5), (6, .inl r16)]) [1, 2, 3, 5, 6, 0] rfl ?_
      exact w_Mo_bestLaw_J129 hL hn hF   ih
    refine gr_iload (M := gm_Mo_bestLaw) dq_Mo_bestLaw_122 0 rfl 124 rfl ?_
    refine gr_iload (M := gm_Mo_bestLaw) dq_Mo_bestLaw_124 5 rfl 126 rfl ?_
    refine gr_icmp_ge (M := gm_Mo_bestLaw) dq_Mo_bestLaw_126 134 129 rfl rfl (fun c22 => ?_) (fun c22 => ?_)
    · refine gr_iload_n (M := gm_Mo_bestLaw) dq_Mo_bestLaw_134 rfl 4 rfl 135 rfl ?_
      refine gr_sub (M := gm_Mo_bestLaw) (lv' := [(0, .inr (.inr 83)), (1, .inl v1), (2, .inl v2), (4, .inl v4), (5, .inl v5), (6, .inl r16)]) [1, 2, 3, 5, 6, 0] rfl ?_
      exact w_Mo_bestLaw_J135 hL hn hF   ih
    refine gr_sub (M := gm_Mo_bestLaw) (lv' := [(0, .inr (.inr 83)), (1, .inl v1), (2, .inl v2), (4, .inl v4), (5, .inl v5), (6, .inl r16)]) [1, 2, 3, 5, 6, 0] rfl ?_
    exact w_Mo_bestLaw_J129 hL hn hF   ih

def f_Mo_bestLaw_J16   (v1 : Int) (v2 : Int) (h : gH) : Option gO := gb (f_Mo_in v1 1 300 h) (fun h2 r3 => if r3 = 0 then (some (h2, (-1000000002))) else (gb (f_Mo_save  h2) (fun h5 r6 => f_Mo_bestLaw_L43 v1 v2 (fun v23 h24 => some (h24, v23)) 50000 0 (-1) 0 h5)))
theorem w_Mo_bestLaw_J16 {o : gO} {X : gX} (hL : gLive (xZ X)) (hn : (zL (xZ X)).Nodup) (hF : gFin X (some .int) o)     {v1 : Int} {v2 : Int} {h : gH}  : gr (f_Mo_bestLaw_J16   v1 v2 h) o gm_Mo_bestLaw X h 16 [(0, .inr (.inr 83)), (1, .inl v1), (2, .inl v2)] [] := by
  unfold f_Mo_bestLaw_J16
  refine gr_iload_n (M := gm_Mo_bestLaw) dq_Mo_bestLaw_16 rfl 1 rfl 17 rfl ?_
  refine gr_i2l (M := gm_Mo_bestLaw) dq_Mo_bestLaw_17 18 rfl ?_
  refine gr_lconst (M := gm_Mo_bestLaw) (v := 1) dq_Mo_bestLaw_18 (by decide) ⟨by decide, by decide⟩ 19 rfl ?_
  refine gr_ldc2_w (M := gm_Mo_bestLaw) (v := 300) dq_Mo_bestLaw_19 gk_Mo_267 ⟨by decide, by decide⟩ 22 rfl ?_
  refine gr_callSi (M := gm_Mo_bestLaw) (as := [.inr (.inl v1), .inr (.inl 1), .inr (.inl 300)]) dq_Mo_bestLaw_22 25 rfl rfl gcy_Mo_117 gst_Mo_in ⟨by decide, by decide⟩ (Nat.le_of_ble_eq_true rfl) (fun o1 hg ha hx => c_Mo_in hL hn  hg ha hx) (fun h2 r3 _ => ?_)
  refine gr_if_ne (M := gm_Mo_bestLaw) dq_Mo_bestLaw_25 31 28 rfl rfl (fun c4 => ?_) (fun c4 => ?_)
  · refine gr_aload_n (M := gm_Mo_bestLaw) dq_Mo_bestLaw_31 rfl 0 rfl 32 rfl ?_
    refine gr_callVv (M := gm_Mo_bestLaw) (as := []) dq_Mo_bestLaw_32 35 rfl rfl gcy_Mo_300 gim_Mo_save gse_Mo_save ⟨by decide, by decide⟩ (Nat.le_of_ble_eq_true rfl) gsh_83 rfl (gli hL gsh_83) (fun o1 hg ha hx => c_Mo_save hL hn  hg ha hx) (fun h5 r6 _ => ?_)
    refine gr_iconst (M := gm_Mo_bestLaw) (v := 0) dq_Mo_bestLaw_35 rfl ⟨by decide, by decide⟩ 36 rfl ?_
    refine gr_istore_n (M := gm_Mo_bestLaw) (lv' := [(3, .inl 0), (0, .inr (.inr 83)), (1, .inl v1), (2, .inl v2)]) dq_Mo_bestLaw_36 rfl (by decide) rfl 37 rfl ?_
    refine gr_iconst (M := gm_Mo_bestLaw) (v := (-1)) dq_Mo_bestLaw_37 rfl ⟨by decide, by decide⟩ 38 rfl ?_
    refine gr_istore (M := gm_Mo_bestLaw) (kk := 0) (lv' := [(4, .inl (-1)), (3, .inl 0), (0, .inr (.inr 83)), (1, .inl v1), (2, .inl v2)]) dq_Mo_bestLaw_38 (by decide) rfl 40 rfl ?_
    refine gr_iconst (M := gm_Mo_bestLaw) (v := 0) dq_Mo_bestLaw_40 rfl ⟨by decide, by decide⟩ 41 rfl ?_
    refine gr_istore (M := gm_Mo_bestLaw) (kk := 0) (lv' := [(5, .inl 0), (4, .inl (-1)), (3, .inl 0), (0, .inr (.inr 83)), (1, .inl v1), (2, .inl v2)]) dq_Mo_bestLaw_41 (by decide) rfl 43 rfl ?_
    refine gr_sub (M := gm_Mo_bestLaw) (lv' := [(0, .inr (.inr 83)), (1, .inl v1), (2, .inl v2), (3, .inl 0), (4, .inl (-1)), (5, .inl 0)]) [3, 4, 5, 2, 1, 0] rfl ?_
    refine w_Mo_bestLaw_L43 hL hn hF   (fun v23 h24 => ?_) 50000 _ _ _ _
    refine gr_iload_n (M := gm_Mo_bestLaw) dq_Mo_bestLaw_163 rfl 0 rfl 164 rfl ?_
    exact gr_ireturn (M := gm_Mo_bestLaw) dq_Mo_bestLaw_164 hF
  refine gr_ldc (M := gm_Mo_bestLaw) (v := (-1000000002)) dq_Mo_bestLaw_28 gk_Mo_129 ⟨by decide, by decide⟩ 30 rfl ?_
  exact gr_ireturn (M := gm_Mo_bestLaw) dq_Mo_bestLaw_30 hF

def f_Mo_bestLaw (a1 : Int) (a2 : Int) (h : gH) : Option gO := if a2 = (-1) then (f_Mo_bestLaw_J16   a1 a2 h) else (gb (f_Mo_isStreet a2 h) (fun h25 r26 => if r26 = 0 then (some (h25, (-1000000001))) else (f_Mo_bestLaw_J16   a1 a2 h25)))
theorem c_Mo_bestLaw {Z : gZ} (hL : gLive Z) (hn : (zL Z).Nodup) {a1 : Int} {a2 : Int}  {h : gH} {o : gO} (hg : gRg h) (ha : gRl [.inr (.inr 83), .inl a1, .inl a2]) (hx : f_Mo_bestLaw a1 a2 h = some o) : gC Z gy_Mo_bestLaw gc_Mo_bestLaw 7 (some .int) 9 206 [.inr (.inr 83), .inl a1, .inl a2] h o := by
  unfold f_Mo_bestLaw at hx
  refine gC_of (lv := [(0, .inr (.inr 83)), (1, .inl a1), (2, .inl a2)]) (own := gR_7) (by decide +kernel) rfl (Nat.le_of_ble_eq_true rfl) rfl rfl hn hg ha hx (fun X hZ hF => ?_)
  subst hZ
  show gr _ o gm_Mo_bestLaw X h 0 _ _
  refine gr_iload_n (M := gm_Mo_bestLaw) dq_Mo_bestLaw_0 rfl 2 rfl 1 rfl ?_
  refine gr_iconst (M := gm_Mo_bestLaw) (v := (-1)) dq_Mo_bestLaw_1 rfl ⟨by decide, by decide⟩ 2 rfl ?_
  refine gr_icmp_eq (M := gm_Mo_bestLaw) dq_Mo_bestLaw_2 16 5 rfl rfl (fun c1 => ?_) (fun c1 => ?_)
  · exact w_Mo_bestLaw_J16 hL hn hF   
  refine gr_aload_n (M := gm_Mo_bestLaw) dq_Mo_bestLaw_5 rfl 0 rfl 6 rfl ?_
  refine gr_iload_n (M := gm_Mo_bestLaw) dq_Mo_bestLaw_6 rfl 2 rfl 7 rfl ?_
  refine gr_callVi (M := gm_Mo_bestLaw) (as := [.inl a2]) dq_Mo_bestLaw_7 10 rfl rfl gcy_Mo_209 gim_Mo_isStreet gse_Mo_isStreet ⟨by decide, by decide⟩ (Nat.le_of_ble_eq_true rfl) gsh_83 rfl (gli hL gsh_83) (fun o1 hg ha hx => c_Mo_isStreet hL hn  hg ha hx) (fun h25 r26 _ => ?_)
  refine gr_if_ne (M := gm_Mo_bestLaw) dq_Mo_bestLaw_10 16 13 rfl rfl (fun c27 => ?_) (fun c27 => ?_)
  · exact w_Mo_bestLaw_J16 hL hn hF   
  refine gr_ldc (M := gm_Mo_bestLaw) (v := (-1000000001)) dq_Mo_bestLaw_13 gk_Mo_208 ⟨by decide, by decide⟩ 15 rfl ?_
  exact gr_ireturn (M := gm_Mo_bestLaw) dq_Mo_bestLaw_15 hF

-- Mo_lost
theorem dq_Mo_lost_0 : decode gc_Mo_lost 0 = .ok (.aload_n 0, 1) := by decide +kernel
theorem dq_Mo_lost_1 : decode gc_Mo_lost 1 = .ok (.invokevirtual 300, 3) := by decide +kernel
theorem dq_Mo_lost_4 : decode gc_Mo_lost 4 = .ok (.aload_n 0, 1) := by decide +kernel
theorem dq_Mo_lost_5 : decode gc_Mo_lost 5 = .ok (.aload_n 0, 1) := by decide +kernel
theorem dq_Mo_lost_6 : decode gc_Mo_lost 6 = .ok (.getfield 114, 3) := by decide +kernel
theorem dq_Mo_lost_9 : decode gc_Mo_lost 9 = .ok (.ifCond .ne 7, 3) := by decide +kernel
theorem dq_Mo_lost_12 : decode gc_Mo_lost 12 = .ok (.iconst 0, 1) := by decide +kernel
theorem dq_Mo_lost_13 : decode gc_Mo_lost 13 = .ok (.goto 6, 3) := by decide +kernel
theorem dq_Mo_lost_16 : decode gc_Mo_lost 16 = .ok (.sipush 300, 3) := by decide +kernel
theorem dq_Mo_lost_19 : decode gc_Mo_lost 19 = .ok (.invokevirtual 303, 3) := by decide +kernel
theorem dq_Mo_lost_22 : decode gc_Mo_lost 22 = .ok (.aload_n 0, 1) := by decide +kernel
theorem dq_Mo_lost_23 : decode gc_Mo_lost 23 = .ok (.iconst 0, 1) := by decide +kernel
theorem dq_Mo_lost_24 : decode gc_Mo_lost 24 = .ok (.invokevirtual 200, 3) := by decide +kernel
theorem dq_Mo_lost_27 : decode gc_Mo_lost 27 = .ok (.aload_n 0, 1) := by decide +kernel
theorem dq_Mo_lost_28 : decode gc_Mo_lost 28 = .ok (.iconst 1, 1) := by decide +kernel
theorem dq_Mo_lost_29 : decode gc_Mo_lost 29 = .ok (.invokevirtual 200, 3) := by decide +kernel
theorem dq_Mo_lost_32 : decode gc_Mo_lost 32 = .ok (.ior, 1) := by decide +kernel
theorem dq_Mo_lost_33 : decode gc_Mo_lost 33 = .ok (.aload_n 0, 1) := by decide +kernel
theorem dq_Mo_lost_34 : decode gc_Mo_lost 34 = .ok (.iconst 2, 1) := by decide +kernel
theorem dq_Mo_lost_35 : decode gc_Mo_lost 35 = .ok (.invokevirtual 200, 3) := by decide +kernel
theorem dq_Mo_lost_38 : decode gc_Mo_lost 38 = .ok (.ior, 1) := by decide +kernel
theorem dq_Mo_lost_39 : decode gc_Mo_lost 39 = .ok (.istore_n 1, 1) := by decide +kernel
theorem dq_Mo_lost_40 : decode gc_Mo_lost 40 = .ok (.aload_n 0, 1) := by decide +kernel
theorem dq_Mo_lost_41 : decode gc_Mo_lost 41 = .ok (.invokevirtual 309, 3) := by decide +kernel
theorem dq_Mo_lost_44 : decode gc_Mo_lost 44 = .ok (.iload_n 1, 1) := by decide +kernel
theorem dq_Mo_lost_45 : decode gc_Mo_lost 45 = .ok (.ireturn, 1) := by decide +kernel
abbrev gm_Mo_lost : gM := (gc_Mo_lost, gR_7, 9, 206, 2)
def f_Mo_lost_J19   (s1 : Int) (h : gH) : Option gO := gb (f_Mo_go s1 h) (fun h4 r5 => gb (f_Mo_cartsThat 0 h4) (fun h6 r7 => gb (f_Mo_cartsThat 1 h6) (fun h8 r9 => gb (f_Mo_cartsThat 2 h8) (fun h10 r11 => gb (f_Mo_putBack  h10) (fun h12 r13 => some (h12, (gor (gor r7 r9) r11)))))))
theorem w_Mo_lost_J19 {o : gO} {X : gX} (hL : gLive (xZ X)) (hn : (zL (xZ X)).Nodup) (hF : gFin X (some .int) o)     {s1 : Int} {h : gH}  : gr (f_Mo_lost_J19   s1 h) o gm_Mo_lost X h 19 [(0, .inr (.inr 83))] [.inl s1, .inr (.inr 83)] := by
  unfold f_Mo_lost_J19
  refine gr_callVv (M := gm_Mo_lost) (as := [.inl s1]) dq_Mo_lost_19 22 rfl rfl gcy_Mo_303 gim_Mo_go gse_Mo_go ⟨by decide, by decide⟩ (Nat.le_of_ble_eq_true rfl) gsh_83 rfl (gli hL gsh_83) (fun o1 hg ha hx => c_Mo_go hL hn  hg ha hx) (fun h4 r5 _ => ?_)
  refine gr_aload_n (M := gm_Mo_lost) dq_Mo_lost_22 rfl 0 rfl 23 rfl ?_
  refine gr_iconst (M := gm_Mo_lost) (v := 0) dq_Mo_lost_23 rfl ⟨by decide, by decide⟩ 24 rfl ?_
  refine gr_callVi (M := gm_Mo_lost) (as := [.inl 0]) dq_Mo_lost_24 27 rfl rfl gcy_Mo_200 gim_Mo_cartsThat gse_Mo_cartsThat ⟨by decide, by decide⟩ (Nat.le_of_ble_eq_true rfl) gsh_83 rfl (gli hL gsh_83) (fun o1 hg ha hx => c_Mo_cartsThat hL hn  hg ha hx) (fun h6 r7 _ => ?_)
  refine gr_aload_n (M := gm_Mo_lost) dq_Mo_lost_27 rfl 0 rfl 28 rfl ?_
  refine gr_iconst (M := gm_Mo_lost) (v := 1) dq_Mo_lost_28 rfl ⟨by decide, by decide⟩ 29 rfl ?_
  refine gr_callVi (M := gm_Mo_lost) (as := [.inl 1]) dq_Mo_lost_29 32 rfl rfl gcy_Mo_200 gim_Mo_cartsThat gse_Mo_cartsThat ⟨by decide, by decide⟩ (Nat.le_of_ble_eq_true rfl) gsh_83 rfl (gli hL gsh_83) (fun o1 hg ha hx => c_Mo_cartsThat hL hn  hg ha hx) (fun h8 r9 _ => ?_)
  refine gr_ior (M := gm_Mo_lost) dq_Mo_lost_32 33 rfl ?_
  refine gr_aload_n (M := gm_Mo_lost) dq_Mo_lost_33 rfl 0 rfl 34 rfl ?_
  refine gr_iconst (M := gm_Mo_lost) (v := 2) dq_Mo_lost_34 rfl ⟨by decide, by decide⟩ 35 rfl ?_
  refine gr_callVi (M := gm_Mo_lost) (as := [.inl 2]) dq_Mo_lost_35 38 rfl rfl gcy_Mo_200 gim_Mo_cartsThat gse_Mo_cartsThat ⟨by decide, by decide⟩ (Nat.le_of_ble_eq_true rfl) gsh_83 rfl (gli hL gsh_83) (fun o1 hg ha hx => c_Mo_cartsThat hL hn  hg ha hx) (fun h10 r11 _ => ?_)
  refine gr_ior (M := gm_Mo_lost) dq_Mo_lost_38 39 rfl ?_
  refine gr_istore_n (M := gm_Mo_lost) (lv' := [(1, .inl (gor (gor r7 r9) r11)), (0, .inr (.inr 83))]) dq_Mo_lost_39 rfl (by decide) rfl 40 rfl ?_
  refine gr_aload_n (M := gm_Mo_lost) dq_Mo_lost_40 rfl 1 rfl 41 rfl ?_
  refine gr_callVv (M := gm_Mo_lost) (as := []) dq_Mo_lost_41 44 rfl rfl gcy_Mo_309 gim_Mo_putBack gse_Mo_putBack ⟨by decide, by decide⟩ (Nat.le_of_ble_eq_true rfl) gsh_83 rfl (gli hL gsh_83) (fun o1 hg ha hx => c_Mo_putBack hL hn  hg ha hx) (fun h12 r13 _ => ?_)
  refine gr_iload_n (M := gm_Mo_lost) dq_Mo_lost_44 rfl 0 rfl 45 rfl ?_
  exact gr_ireturn (M := gm_Mo_lost) dq_Mo_lost_45 hF

def f_Mo_lost  (h : gH) : Option gO := gb (f_Mo_save  h) (fun h1 r2 => if (h1 83 0) = 0 then (f_Mo_lost_J19   0 h1) else (f_Mo_lost_J19   300 h1))
theorem c_Mo_lost {Z : gZ} (hL : gLive Z) (hn : (zL Z).Nodup)   {h : gH} {o : gO} (hg : gRg h) (ha : gRl [.inr (.inr 83)]) (hx : f_Mo_lost  h = some o) : gC Z gy_Mo_lost gc_Mo_lost 2 (some .int) 9 206 [.inr (.inr 83)] h o := by
  unfold f_Mo_lost at hx
  refine gC_of (lv := [(0, .inr (.inr 83))]) (own := gR_7) (by decide +kernel) rfl (Nat.le_of_ble_eq_true rfl) rfl rfl hn hg ha hx (fun X hZ hF => ?_)
  subst hZ
  show gr _ o gm_Mo_lost X h 0 _ _
  refine gr_aload_n (M := gm_Mo_lost) dq_Mo_lost_0 rfl 0 rfl 1 rfl ?_
  refine gr_callVv (M := gm_Mo_lost) (as := []) dq_Mo_lost_1 4 rfl rfl gcy_Mo_300 gim_Mo_save gse_Mo_save ⟨by decide, by decide⟩ (Nat.le_of_ble_eq_true rfl) gsh_83 rfl (gli hL gsh_83) (fun o1 hg ha hx => c_Mo_save hL hn  hg ha hx) (fun h1 r2 _ => ?_)
  refine gr_aload_n (M := gm_Mo_lost) dq_Mo_lost_4 rfl 0 rfl 5 rfl ?_
  refine gr_aload_n (M := gm_Mo_lost) dq_Mo_lost_5 rfl 0 rfl 6 rfl ?_
  refine gr_geti (M := gm_Mo_lost) dq_Mo_lost_6 9 rfl gfl_Mo_114 gsh_83 rfl (gli hL gsh_83) ?_
  refine gr_if_ne (M := gm_Mo_lost) dq_Mo_lost_9 16 12 rfl rfl (fun c3 => ?_) (fun c3 => ?_)
  · refine gr_sipush (M := gm_Mo_lost) (v := 300) dq_Mo_lost_16 (by decide) ⟨by decide, by decide⟩ 19 rfl ?_
    exact w_Mo_lost_J19 hL hn hF   
  refine gr_iconst (M := gm_Mo_lost) (v := 0) dq_Mo_lost_12 rfl ⟨by decide, by decide⟩ 13 rfl ?_
  refine gr_goto (M := gm_Mo_lost) dq_Mo_lost_13 19 rfl ?_
  exact w_Mo_lost_J19 hL hn hF   

-- Mo_costs
theorem dq_Mo_costs_0 : decode gc_Mo_costs 0 = .ok (.aload_n 0, 1) := by decide +kernel
theorem dq_Mo_costs_1 : decode gc_Mo_costs 1 = .ok (.iload_n 1, 1) := by decide +kernel
theorem dq_Mo_costs_2 : decode gc_Mo_costs 2 = .ok (.invokevirtual 215, 3) := by decide +kernel
theorem dq_Mo_costs_5 : decode gc_Mo_costs 5 = .ok (.ifCond .ne 6, 3) := by decide +kernel
theorem dq_Mo_costs_8 : decode gc_Mo_costs 8 = .ok (.ldc 208, 2) := by decide +kernel
theorem dq_Mo_costs_10 : decode gc_Mo_costs 10 = .ok (.ireturn, 1) := by decide +kernel
theorem dq_Mo_costs_11 : decode gc_Mo_costs 11 = .ok (.iload_n 2, 1) := by decide +kernel
theorem dq_Mo_costs_12 : decode gc_Mo_costs 12 = .ok (.i2l, 1) := by decide +kernel
theorem dq_Mo_costs_13 : decode gc_Mo_costs 13 = .ok (.lconst 1, 1) := by decide +kernel
theorem dq_Mo_costs_14 : decode gc_Mo_costs 14 = .ok (.ldc2_w 267, 3) := by decide +kernel
theorem dq_Mo_costs_17 : decode gc_Mo_costs 17 = .ok (.invokestatic 117, 3) := by decide +kernel
theorem dq_Mo_costs_20 : decode gc_Mo_costs 20 = .ok (.ifCond .ne 6, 3) := by decide +kernel
theorem dq_Mo_costs_23 : decode gc_Mo_costs 23 = .ok (.ldc 129, 2) := by decide +kernel
theorem dq_Mo_costs_25 : decode gc_Mo_costs 25 = .ok (.ireturn, 1) := by decide +kernel
theorem dq_Mo_costs_26 : decode gc_Mo_costs 26 = .ok (.aload_n 0, 1) := by decide +kernel
theorem dq_Mo_costs_27 : decode gc_Mo_costs 27 = .ok (.getfield 34, 3) := by decide +kernel
theorem dq_Mo_costs_30 : decode gc_Mo_costs 30 = .ok (.bipush 26, 2) := by decide +kernel
theorem dq_Mo_costs_32 : decode gc_Mo_costs 32 = .ok (.iload_n 1, 1) := by decide +kernel
theorem dq_Mo_costs_33 : decode gc_Mo_costs 33 = .ok (.iadd, 1) := by decide +kernel
theorem dq_Mo_costs_34 : decode gc_Mo_costs 34 = .ok (.iaload, 1) := by decide +kernel
theorem dq_Mo_costs_35 : decode gc_Mo_costs 35 = .ok (.ifCond .eq 7, 3) := by decide +kernel
theorem dq_Mo_costs_38 : decode gc_Mo_costs 38 = .ok (.ldc_w 269, 3) := by decide +kernel
theorem dq_Mo_costs_41 : decode gc_Mo_costs 41 = .ok (.ireturn, 1) := by decide +kernel
theorem dq_Mo_costs_42 : decode gc_Mo_costs 42 = .ok (.aload_n 0, 1) := by decide +kernel
theorem dq_Mo_costs_43 : decode gc_Mo_costs 43 = .ok (.invokevirtual 300, 3) := by decide +kernel
theorem dq_Mo_costs_46 : decode gc_Mo_costs 46 = .ok (.aload_n 0, 1) := by decide +kernel
theorem dq_Mo_costs_47 : decode gc_Mo_costs 47 = .ok (.iload_n 2, 1) := by decide +kernel
theorem dq_Mo_costs_48 : decode gc_Mo_costs 48 = .ok (.invokevirtual 303, 3) := by decide +kernel
theorem dq_Mo_costs_51 : decode gc_Mo_costs 51 = .ok (.aload_n 0, 1) := by decide +kernel
theorem dq_Mo_costs_52 : decode gc_Mo_costs 52 = .ok (.iload_n 1, 1) := by decide +kernel
theorem dq_Mo_costs_53 : decode gc_Mo_costs 53 = .ok (.invokevirtual 306, 3) := by decide +kernel
theorem dq_Mo_costs_56 : decode gc_Mo_costs 56 = .ok (.istore_n 3, 1) := by decide +kernel
theorem dq_Mo_costs_57 : decode gc_Mo_costs 57 = .ok (.aload_n 0, 1) := by decide +kernel
theorem dq_Mo_costs_58 : decode gc_Mo_costs 58 = .ok (.invokevirtual 309, 3) := by decide +kernel
theorem dq_Mo_costs_61 : decode gc_Mo_costs 61 = .ok (.aload_n 0, 1) := by decide +kernel
theorem dq_Mo_costs_62 : decode gc_Mo_costs 62 = .ok (.iload_n 1, 1) := by decide +kernel
theorem dq_Mo_costs_63 : decode gc_Mo_costs 63 = .ok (.putfield 74, 3) := by decide +kernel
theorem dq_Mo_costs_66 : decode gc_Mo_costs 66 = .ok (.aload_n 0, 1) := by decide +kernel
theorem dq_Mo_costs_67 : decode gc_Mo_costs 67 = .ok (.iload_n 2, 1) := by decide +kernel
theorem dq_Mo_costs_68 : decode gc_Mo_costs 68 = .ok (.invokevirtual 303, 3) := by decide +kernel
theorem dq_Mo_costs_71 : decode gc_Mo_costs 71 = .ok (.aload_n 0, 1) := by decide +kernel
theorem dq_Mo_costs_72 : decode gc_Mo_costs 72 = .ok (.iload_n 1, 1) := by decide +kernel
theorem dq_Mo_costs_73 : decode gc_Mo_costs 73 = .ok (.invokevirtual 306, 3) := by decide +kernel
theorem dq_Mo_costs_76 : decode gc_Mo_costs 76 = .ok (.istore 4, 2) := by decide +kernel
theorem dq_Mo_costs_78 : decode gc_Mo_costs 78 = .ok (.aload_n 0, 1) := by decide +kernel
theorem dq_Mo_costs_79 : decode gc_Mo_costs 79 = .ok (.invokevirtual 309, 3) := by decide +kernel
theorem dq_Mo_costs_82 : decode gc_Mo_costs 82 = .ok (.aload_n 0, 1) := by decide +kernel
theorem dq_Mo_costs_83 : decode gc_Mo_costs 83 = .ok (.iconst (-1), 1) := by decide +kernel
theorem dq_Mo_costs_84 : decode gc_Mo_costs 84 = .ok (.putfield 74, 3) := by decide +kernel
theorem dq_Mo_costs_87 : decode gc_Mo_costs 87 = .ok (.iload_n 3, 1) := by decide +kernel
theorem dq_Mo_costs_88 : decode gc_Mo_costs 88 = .ok (.iload 4, 2) := by decide +kernel
theorem dq_Mo_costs_90 : decode gc_Mo_costs 90 = .ok (.isub, 1) := by decide +kernel
theorem dq_Mo_costs_91 : decode gc_Mo_costs 91 = .ok (.ireturn, 1) := by decide +kernel
abbrev gm_Mo_costs : gM := (gc_Mo_costs, gR_7, 9, 206, 5)
theorem gfp_Mo_74 : gFp gR_7 74 7 32 .int := ⟨_, _, _, gt_7, rfl, by decide, (gtab_at 766 (by decide +kernel) rfl), gin_7, gto_7, gnm_7, rfl, by decide +kernel⟩
def f_Mo_costs (a1 : Int) (a2 : Int) (h : gH) : Option gO := gb (f_Mo_isCart a1 h) (fun h1 r2 => if r2 = 0 then (some (h1, (-1000000001))) else (gb (f_Mo_in a2 1 300 h1) (fun h4 r5 => if r5 = 0 then (some (h4, (-1000000002))) else (gd (gix 50 (gadd 26 a1)) (if (h4 92 (gadd 26 a1).toNat) = 0 then (gb (f_Mo_save  h4) (fun h8 r9 => gb (f_Mo_go a2 h8) (fun h10 r11 => gb (f_Mo_minutes a1 h10) (fun h12 r13 => gb (f_Mo_putBack  h12) (fun h14 r15 => gs (gup h14 83 32 a1) (fun h16 => gb (f_Mo_go a2 h16) (fun h17 r18 => gb (f_Mo_minutes a1 h17) (fun h19 r20 => gb (f_Mo_putBack  h19) (fun h21 r22 => gs (gup h21 83 32 (-1)) (fun h23 => some (h23, (gsub r13 r20)))))))))))) else (some (h4, (-1000000003))))))))
theorem c_Mo_costs {Z : gZ} (hL : gLive Z) (hn : (zL Z).Nodup) {a1 : Int} {a2 : Int}  {h : gH} {o : gO} (hg : gRg h) (ha : gRl [.inr (.inr 83), .inl a1, .inl a2]) (hx : f_Mo_costs a1 a2 h = some o) : gC Z gy_Mo_costs gc_Mo_costs 5 (some .int) 9 206 [.inr (.inr 83), .inl a1, .inl a2] h o := by
  unfold f_Mo_costs at hx
  refine gC_of (lv := [(0, .inr (.inr 83)), (1, .inl a1), (2, .inl a2)]) (own := gR_7) (by decide +kernel) rfl (Nat.le_of_ble_eq_true rfl) rfl rfl hn hg ha hx (fun X hZ hF => ?_)
  subst hZ
  show gr _ o gm_Mo_costs X h 0 _ _
  refine gr_aload_n (M := gm_Mo_costs) dq_Mo_costs_0 rfl 0 rfl 1 rfl ?_
  refine gr_iload_n (M := gm_Mo_costs) dq_Mo_costs_1 rfl 1 rfl 2 rfl ?_
  refine gr_callVi (M := gm_Mo_costs) (as := [.inl a1]) dq_Mo_costs_2 5 rfl rfl gcy_Mo_215 gim_Mo_isCart gse_Mo_isCart ⟨by decide, by decide⟩ (Nat.le_of_ble_eq_true rfl) gsh_83 rfl (gli hL gsh_83) (fun o1 hg ha hx => c_Mo_isCart hL hn  hg ha hx) (fun h1 r2 _ => ?_)
  refine gr_if_ne (M := gm_Mo_costs) dq_Mo_costs_5 11 8 rfl rfl (fun c3 => ?_) (fun c3 => ?_)
  · refine gr_iload_n (M := gm_Mo_costs) dq_Mo_costs_11 rfl 2 rfl 12 rfl ?_
    refine gr_i2l (M := gm_Mo_costs) dq_Mo_costs_12 13 rfl ?_
    refine gr_lconst (M := gm_Mo_costs) (v := 1) dq_Mo_costs_13 (by decide) ⟨by decide, by decide⟩ 14 rfl ?_
    refine gr_ldc2_w (M := gm_Mo_costs) (v := 300) dq_Mo_costs_14 gk_Mo_267 ⟨by decide, by decide⟩ 17 rfl ?_
    refine gr_callSi (M := gm_Mo_costs) (as := [.inr (.inl a2), .inr (.inl 1), .inr (.inl 300)]) dq_Mo_costs_17 20 rfl rfl gcy_Mo_117 gst_Mo_in ⟨by decide, by decide⟩ (Nat.le_of_ble_eq_true rfl) (fun o1 hg ha hx => c_Mo_in hL hn  hg ha hx) (fun h4 r5 _ => ?_)
    refine gr_if_ne (M := gm_Mo_costs) dq_Mo_costs_20 26 23 rfl rfl (fun c6 => ?_) (fun c6 => ?_)
    · refine gr_aload_n (M := gm_Mo_costs) dq_Mo_costs_26 rfl 0 rfl 27 rfl ?_
      refine gr_getr (M := gm_Mo_costs) dq_Mo_costs_27 30 rfl gfl_Mo_34 gsh_83 rfl (gli hL gsh_83) 92 rfl ?_
      refine gr_bipush (M := gm_Mo_costs) (v := 26) dq_Mo_costs_30 (by decide) ⟨by decide, by decide⟩ 32 rfl ?_
      refine gr_iload_n (M := gm_Mo_costs) dq_Mo_costs_32 rfl 1 rfl 33 rfl ?_
      refine gr_iadd (M := gm_Mo_costs) dq_Mo_costs_33 34 rfl ?_
      refine gr_iald (M := gm_Mo_costs) dq_Mo_costs_34 35 rfl gsh_92 (glj hL gsh_92 (by decide)) ?_
      refine gr_if_eq (M := gm_Mo_costs) dq_Mo_costs_35 42 38 rfl rfl (fun c7 => ?_) (fun c7 => ?_)
      · refine gr_aload_n (M := gm_Mo_costs) dq_Mo_costs_42 rfl 0 rfl 43 rfl ?_
        refine gr_callVv (M := gm_Mo_costs) (as := []) dq_Mo_costs_43 46 rfl rfl gcy_Mo_300 gim_Mo_save gse_Mo_save ⟨by decide, by decide⟩ (Nat.le_of_ble_eq_true rfl) gsh_83 rfl (gli hL gsh_83) (fun o1 hg ha hx => c_Mo_save hL hn  hg ha hx) (fun h8 r9 _ => ?_)
        refine gr_aload_n (M := gm_Mo_costs) dq_Mo_costs_46 rfl 0 rfl 47 rfl ?_
        refine gr_iload_n (M := gm_Mo_costs) dq_Mo_costs_47 rfl 2 rfl 48 rfl ?_
        refine gr_callVv (M := gm_Mo_costs) (as := [.inl a2]) dq_Mo_costs_48 51 rfl rfl gcy_Mo_303 gim_Mo_go gse_Mo_go ⟨by decide, by decide⟩ (Nat.le_of_ble_eq_true rfl) gsh_83 rfl (gli hL gsh_83) (fun o1 hg ha hx => c_Mo_go hL hn  hg ha hx) (fun h10 r11 _ => ?_)
        refine gr_aload_n (M := gm_Mo_costs) dq_Mo_costs_51 rfl 0 rfl 52 rfl ?_
        refine gr_iload_n (M := gm_Mo_costs) dq_Mo_costs_52 rfl 1 rfl 53 rfl ?_
        refine gr_callVi (M := gm_Mo_costs) (as := [.inl a1]) dq_Mo_costs_53 56 rfl rfl gcy_Mo_306 gim_Mo_minutes gse_Mo_minutes ⟨by decide, by decide⟩ (Nat.le_of_ble_eq_true rfl) gsh_83 rfl (gli hL gsh_83) (fun o1 hg ha hx => c_Mo_minutes hL hn  hg ha hx) (fun h12 r13 _ => ?_)
        refine gr_istore_n (M := gm_Mo_costs) (lv' := [(3, .inl r13), (0, .inr (.inr 83)), (1, .inl a1), (2, .inl a2)]) dq_Mo_costs_56 rfl (by decide) rfl 57 rfl ?_
        refine gr_aload_n (M := gm_Mo_costs) dq_Mo_costs_57 rfl 1 rfl 58 rfl ?_
        refine gr_callVv (M := gm_Mo_costs) (as := []) dq_Mo_costs_58 61 rfl rfl gcy_Mo_309 gim_Mo_putBack gse_Mo_putBack ⟨by decide, by decide⟩ (Nat.le_of_ble_eq_true rfl) gsh_83 rfl (gli hL gsh_83) (fun o1 hg ha hx => c_Mo_putBack hL hn  hg ha hx) (fun h14 r15 _ => ?_)
        refine gr_aload_n (M := gm_Mo_costs) dq_Mo_costs_61 rfl 1 rfl 62 rfl ?_
        refine gr_iload_n (M := gm_Mo_costs) dq_Mo_costs_62 rfl 2 rfl 63 rfl ?_
        refine gr_puti (M := gm_Mo_costs) dq_Mo_costs_63 66 rfl gfp_Mo_74 gsh_83 rfl (gli hL gsh_83) (fun h16 _ => ?_)
        refine gr_aload_n (M := gm_Mo_costs) dq_Mo_costs_66 rfl 1 rfl 67 rfl ?_
        refine gr_iload_n (M := gm_Mo_costs) dq_Mo_costs_67 rfl 3 rfl 68 rfl ?_
        refine gr_callVv (M := gm_Mo_costs) (as := [.inl a2]) dq_Mo_costs_68 71 rfl rfl gcy_Mo_303 gim_Mo_go gse_Mo_go ⟨by decide, by decide⟩ (Nat.le_of_ble_eq_true rfl) gsh_83 rfl (gli hL gsh_83) (fun o1 hg ha hx => c_Mo_go hL hn  hg ha hx) (fun h17 r18 _ => ?_)
        refine gr_aload_n (M := gm_Mo_costs) dq_Mo_costs_71 rfl 1 rfl 72 rfl ?_
        refine gr_iload_n (M := gm_Mo_costs) dq_Mo_costs_72 rfl 2 rfl 73 rfl ?_
        refine gr_callVi (M := gm_Mo_costs) (as := [.inl a1]) dq_Mo_costs_73 76 rfl rfl gcy_Mo_306 gim_Mo_minutes gse_Mo_minutes ⟨by decide, by decide⟩ (Nat.le_of_ble_eq_true rfl) gsh_83 rfl (gli hL gsh_83) (fun o1 hg ha hx => c_Mo_minutes hL hn  hg ha hx) (fun h19 r20 _ => ?_)
        refine gr_istore (M := gm_Mo_costs) (kk := 0) (lv' := [(4, .inl r20), (3, .inl r13), (0, .inr (.inr 83)), (1, .inl a1), (2, .inl a2)]) dq_Mo_costs_76 (by decide) rfl 78 rfl ?_
        refine gr_aload_n (M := gm_Mo_costs) dq_Mo_costs_78 rfl 2 rfl 79 rfl ?_
        refine gr_callVv (M := gm_Mo_costs) (as := []) dq_Mo_costs_79 82 rfl rfl gcy_Mo_309 gim_Mo_putBack gse_Mo_putBack ⟨by decide, by decide⟩ (Nat.le_of_ble_eq_true rfl) gsh_83 rfl (gli hL gsh_83) (fun o1 hg ha hx => c_Mo_putBack hL hn  hg ha hx) (fun h21 r22 _ => ?_)
        refine gr_aload_n (M := gm_Mo_costs) dq_Mo_costs_82 rfl 2 rfl 83 rfl ?_
        refine gr_iconst (M := gm_Mo_costs) (v := (-1)) dq_Mo_costs_83 rfl ⟨by decide, by decide⟩ 84 rfl ?_
        refine gr_puti (M := gm_Mo_costs) dq_Mo_costs_84 87 rfl gfp_Mo_74 gsh_83 rfl (gli hL gsh_83) (fun h23 _ => ?_)
        refine gr_iload_n (M := gm_Mo_costs) dq_Mo_costs_87 rfl 1 rfl 88 rfl ?_
        refine gr_iload (M := gm_Mo_costs) dq_Mo_costs_88 0 rfl 90 rfl ?_
        refine gr_isub (M := gm_Mo_costs) dq_Mo_costs_90 91 rfl ?_
        exact gr_ireturn (M := gm_Mo_costs) dq_Mo_costs_91 hF
      refine gr_ldc_w (M := gm_Mo_costs) (v := (-1000000003)) dq_Mo_costs_38 gk_Mo_269 ⟨by decide, by decide⟩ 41 rfl ?_
      exact gr_ireturn (M := gm_Mo_costs) dq_Mo_costs_41 hF
    refine gr_ldc (M := gm_Mo_costs) (v := (-1000000002)) dq_Mo_costs_23 gk_Mo_129 ⟨by decide, by decide⟩ 25 rfl ?_
    exact gr_ireturn (M := gm_Mo_costs) dq_Mo_costs_25 hF
  refine gr_ldc (M := gm_Mo_costs) (v := (-1000000001)) dq_Mo_costs_8 gk_Mo_208 ⟨by decide, by decide⟩ 10 rfl ?_
  exact gr_ireturn (M := gm_Mo_costs) dq_Mo_costs_10 hF

-- Mo_decree
theorem dq_Mo_decree_0 : decode gc_Mo_decree 0 = .ok (.iload_n 1, 1) := by decide +kernel
theorem dq_Mo_decree_1 : decode gc_Mo_decree 1 = .ok (.i2l, 1) := by decide +kernel
theorem dq_Mo_decree_2 : decode gc_Mo_decree 2 = .ok (.lconst 1, 1) := by decide +kernel
theorem dq_Mo_decree_3 : decode gc_Mo_decree 3 = .ok (.ldc2_w 267, 3) := by decide +kernel
theorem dq_Mo_decree_6 : decode gc_Mo_decree 6 = .ok (.invokestatic 117, 3) := by decide +kernel
theorem dq_Mo_decree_9 : decode gc_Mo_decree 9 = .ok (.ifCond .ne 6, 3) := by decide +kernel
theorem dq_Mo_decree_12 : decode gc_Mo_decree 12 = .ok (.ldc 129, 2) := by decide +kernel
theorem dq_Mo_decree_14 : decode gc_Mo_decree 14 = .ok (.ireturn, 1) := by decide +kernel
theorem dq_Mo_decree_15 : decode gc_Mo_decree 15 = .ok (.aload_n 0, 1) := by decide +kernel
theorem dq_Mo_decree_16 : decode gc_Mo_decree 16 = .ok (.invokevirtual 300, 3) := by decide +kernel
theorem dq_Mo_decree_19 : decode gc_Mo_decree 19 = .ok (.aload_n 0, 1) := by decide +kernel
theorem dq_Mo_decree_20 : decode gc_Mo_decree 20 = .ok (.iload_n 1, 1) := by decide +kernel
theorem dq_Mo_decree_21 : decode gc_Mo_decree 21 = .ok (.invokevirtual 303, 3) := by decide +kernel
theorem dq_Mo_decree_24 : decode gc_Mo_decree 24 = .ok (.aload_n 0, 1) := by decide +kernel
theorem dq_Mo_decree_25 : decode gc_Mo_decree 25 = .ok (.iconst (-1), 1) := by decide +kernel
theorem dq_Mo_decree_26 : decode gc_Mo_decree 26 = .ok (.invokevirtual 306, 3) := by decide +kernel
theorem dq_Mo_decree_29 : decode gc_Mo_decree 29 = .ok (.istore_n 2, 1) := by decide +kernel
theorem dq_Mo_decree_30 : decode gc_Mo_decree 30 = .ok (.aload_n 0, 1) := by decide +kernel
theorem dq_Mo_decree_31 : decode gc_Mo_decree 31 = .ok (.invokevirtual 309, 3) := by decide +kernel
theorem dq_Mo_decree_34 : decode gc_Mo_decree 34 = .ok (.iconst (-1), 1) := by decide +kernel
theorem dq_Mo_decree_35 : decode gc_Mo_decree 35 = .ok (.istore_n 3, 1) := by decide +kernel
theorem dq_Mo_decree_36 : decode gc_Mo_decree 36 = .ok (.iconst 0, 1) := by decide +kernel
theorem dq_Mo_decree_37 : decode gc_Mo_decree 37 = .ok (.istore 4, 2) := by decide +kernel
theorem dq_Mo_decree_39 : decode gc_Mo_decree 39 = .ok (.iload 4, 2) := by decide +kernel
theorem dq_Mo_decree_41 : decode gc_Mo_decree 41 = .ok (.aload_n 0, 1) := by decide +kernel
theorem dq_Mo_decree_42 : decode gc_Mo_decree 42 = .ok (.getfield 121, 3) := by decide +kernel
theorem dq_Mo_decree_45 : decode gc_Mo_decree 45 = .ok (.if_icmp .ge 66, 3) := by decide +kernel
theorem dq_Mo_decree_48 : decode gc_Mo_decree 48 = .ok (.aload_n 0, 1) := by decide +kernel
theorem dq_Mo_decree_49 : decode gc_Mo_decree 49 = .ok (.iload 4, 2) := by decide +kernel
theorem dq_Mo_decree_51 : decode gc_Mo_decree 51 = .ok (.invokevirtual 212, 3) := by decide +kernel
theorem dq_Mo_decree_54 : decode gc_Mo_decree 54 = .ok (.ifCond .ne 51, 3) := by decide +kernel
theorem dq_Mo_decree_57 : decode gc_Mo_decree 57 = .ok (.aload_n 0, 1) := by decide +kernel
theorem dq_Mo_decree_58 : decode gc_Mo_decree 58 = .ok (.iload 4, 2) := by decide +kernel
theorem dq_Mo_decree_60 : decode gc_Mo_decree 60 = .ok (.invokevirtual 293, 3) := by decide +kernel
theorem dq_Mo_decree_63 : decode gc_Mo_decree 63 = .ok (.aload_n 0, 1) := by decide +kernel
theorem dq_Mo_decree_64 : decode gc_Mo_decree 64 = .ok (.iload_n 1, 1) := by decide +kernel
theorem dq_Mo_decree_65 : decode gc_Mo_decree 65 = .ok (.invokevirtual 303, 3) := by decide +kernel
theorem dq_Mo_decree_68 : decode gc_Mo_decree 68 = .ok (.aload_n 0, 1) := by decide +kernel
theorem dq_Mo_decree_69 : decode gc_Mo_decree 69 = .ok (.iconst (-1), 1) := by decide +kernel
theorem dq_Mo_decree_70 : decode gc_Mo_decree 70 = .ok (.invokevirtual 306, 3) := by decide +kernel
theorem dq_Mo_decree_73 : decode gc_Mo_decree 73 = .ok (.istore 5, 2) := by decide +kernel
theorem dq_Mo_decree_75 : decode gc_Mo_decree 75 = .ok (.aload_n 0, 1) := by decide +kernel
theorem dq_Mo_decree_76 : decode gc_Mo_decree 76 = .ok (.invokevirtual 309, 3) := by decide +kernel
theorem dq_Mo_decree_79 : decode gc_Mo_decree 79 = .ok (.iload 5, 2) := by decide +kernel
theorem dq_Mo_decree_81 : decode gc_Mo_decree 81 = .ok (.iload_n 2, 1) := by decide +kernel
theorem dq_Mo_decree_82 : decode gc_Mo_decree 82 = .ok (.if_icmp .ge 8, 3) := by decide +kernel
theorem dq_Mo_decree_85 : decode gc_Mo_decree 85 = .ok (.iload 4, 2) := by decide +kernel
theorem dq_Mo_decree_87 : decode gc_Mo_decree 87 = .ok (.goto 4, 3) := by decide +kernel
theorem dq_Mo_decree_90 : decode gc_Mo_decree 90 = .ok (.iload_n 3, 1) := by decide +kernel
theorem dq_Mo_decree_91 : decode gc_Mo_decree 91 = .ok (.istore_n 3, 1) := by decide +kernel
theorem dq_Mo_decree_92 : decode gc_Mo_decree 92 = .ok (.iload 5, 2) := by decide +kernel
theorem dq_Mo_decree_94 : decode gc_Mo_decree 94 = .ok (.iload_n 2, 1) := by decide +kernel
theorem dq_Mo_decree_95 : decode gc_Mo_decree 95 = .ok (.if_icmp .ge 8, 3) := by decide +kernel
theorem dq_Mo_decree_98 : decode gc_Mo_decree 98 = .ok (.iload 5, 2) := by decide +kernel
theorem dq_Mo_decree_100 : decode gc_Mo_decree 100 = .ok (.goto 4, 3) := by decide +kernel
theorem dq_Mo_decree_103 : decode gc_Mo_decree 103 = .ok (.iload_n 2, 1) := by decide +kernel
theorem dq_Mo_decree_104 : decode gc_Mo_decree 104 = .ok (.istore_n 2, 1) := by decide +kernel
theorem dq_Mo_decree_105 : decode gc_Mo_decree 105 = .ok (.iinc 4 1, 3) := by decide +kernel
theorem dq_Mo_decree_108 : decode gc_Mo_decree 108 = .ok (.goto (-69), 3) := by decide +kernel
theorem dq_Mo_decree_111 : decode gc_Mo_decree 111 = .ok (.iload_n 3, 1) := by decide +kernel
theorem dq_Mo_decree_112 : decode gc_Mo_decree 112 = .ok (.ireturn, 1) := by decide +kernel
abbrev gm_Mo_decree : gM := (gc_Mo_decree, gR_7, 9, 206, 6)
def f_Mo_decree_J105  (k39 : Int → Int → Int → gH → Option gO) (v1 : Int) (v2 : Int) (v3 : Int) (v4 : Int) (h : gH) : Option gO := k39 v2 v3 (gadd v4 1) h
theorem w_Mo_decree_J105 {o : gO} {X : gX} (hL : gLive (xZ X)) (hn : (zL (xZ X)).Nodup) (hF : gFin X (some .int) o)    {k39 : Int → Int → Int → gH → Option gO} {v1 : Int} {v2 : Int} {v3 : Int} {v4 : Int} {h : gH} (hk39 : ∀ (v2 : Int) (v3 : Int) (v4 : Int) (h : gH), gr (k39 v2 v3 v4 h) o gm_Mo_decree X h 39 [(0, .inr (.inr 83)), (1, .inl v1), (2, .inl v2), (3, .inl v3), (4, .inl v4)] []) : gr (f_Mo_decree_J105  k39 v1 v2 v3 v4 h) o gm_Mo_decree X h 105 [(0, .inr (.inr 83)), (1, .inl v1), (2, .inl v2), (3, .inl v3), (4, .inl v4)] [] := by
  unfold f_Mo_decree_J105
  refine gr_iinc (M := gm_Mo_decree) (lv' := [(4, .inl (gadd v4 1)), (0, .inr (.inr 83)), (1, .inl v1), (2, .inl v2), (3, .inl v3)]) dq_Mo_decree_105 4 rfl rfl (by decide) rfl 108 rfl ?_
  refine gr_goto (M := gm_Mo_decree) dq_Mo_decree_108 39 rfl ?_
  refine gr_sub (M := gm_Mo_decree) (lv' := [(0, .inr (.inr 83)), (1, .inl v1), (2, .inl v2), (3, .inl v3), (4, .inl (gadd v4 1))]) [1, 2, 3, 4, 0] rfl ?_
  exact hk39 _ _ _ _

def f_Mo_decree_J104  (k39 : Int → Int → Int → gH → Option gO) (v1 : Int) (v3 : Int) (v4 : Int) (s0 : Int) (h : gH) : Option gO := f_Mo_decree_J105  (k39) v1 s0 v3 v4 h
theorem w_Mo_decree_J104 {o : gO} {X : gX} (hL : gLive (xZ X)) (hn : (zL (xZ X)).Nodup) (hF : gFin X (some .int) o)    {k39 : Int → Int → Int → gH → Option gO} {v1 : Int} {v3 : Int} {v4 : Int} {s0 : Int} {h : gH} (hk39 : ∀ (v2 : Int) (v3 : Int) (v4 : Int) (h : gH), gr (k39 v2 v3 v4 h) o gm_Mo_decree X h 39 [(0, .inr (.inr 83)), (1, .inl v1), (2, .inl v2), (3, .inl v3), (4, .inl v4)] []) : gr (f_Mo_decree_J104  k39 v1 v3 v4 s0 h) o gm_Mo_decree X h 104 [(0, .inr (.inr 83)), (1, .inl v1), (3, .inl v3), (4, .inl v4)] [.inl s0] := by
  unfold f_Mo_decree_J104
  refine gr_istore_n (M := gm_Mo_decree) (lv' := [(2, .inl s0), (0, .inr (.inr 83)), (1, .inl v1), (3, .inl v3), (4, .inl v4)]) dq_Mo_decree_104 rfl (by decide) rfl 105 rfl ?_
  refine gr_sub (M := gm_Mo_decree) (lv' := [(0, .inr (.inr 83)), (1, .inl v1), (2, .inl s0), (3, .inl v3), (4, .inl v4)]) [1, 2, 0, 3, 4] rfl ?_
  exact w_Mo_decree_J105 hL hn hF   hk39

def f_Mo_decree_J91  (k39 : Int → Int → Int → gH → Option gO) (v1 : Int) (v2 : Int) (v4 : Int) (v5 : Int) (s0 : Int) (h : gH) : Option gO := if v2 ≤ v5 then (f_Mo_decree_J104  (k39) v1 s0 v4 v2 h) else (f_Mo_decree_J104  (k39) v1 s0 v4 v5 h)
theorem w_Mo_decree_J91 {o : gO} {X : gX} (hL : gLive (xZ X)) (hn : (zL (xZ X)).Nodup) (hF : gFin X (some .int) o)    {k39 : Int → Int → Int → gH → Option gO} {v1 : Int} {v2 : Int} {v4 : Int} {v5 : Int} {s0 : Int} {h : gH} (hk39 : ∀ (v2 : Int) (v3 : Int) (v4 : Int) (h : gH), gr (k39 v2 v3 v4 h) o gm_Mo_decree X h 39 [(0, .inr (.inr 83)), (1, .inl v1), (2, .inl v2), (3, .inl v3), (4, .inl v4)] []) : gr (f_Mo_decree_J91  k39 v1 v2 v4 v5 s0 h) o gm_Mo_decree X h 91 [(0, .inr (.inr 83)), (1, .inl v1), (2, .inl v2), (4, .inl v4), (5, .inl v5)] [.inl s0] := by
  unfold f_Mo_decree_J91
  refine gr_istore_n (M := gm_Mo_decree) (lv' := [(3, .inl s0), (0, .inr (.inr 83)), (1, .inl v1), (2, .inl v2), (4, .inl v4), (5, .inl v5)]) dq_Mo_decree_91 rfl (by decide) rfl 92 rfl ?_
  refine gr_iload (M := gm_Mo_decree) dq_Mo_decree_92 5 rfl 94 rfl ?_
  refine gr_iload_n (M := gm_Mo_decree) dq_Mo_decree_94 rfl 3 rfl 95 rfl ?_
  refine gr_icmp_ge (M := gm_Mo_decree) dq_Mo_decree_95 103 98 rfl rfl (fun c25 => ?_) (fun c25 => ?_)
  · refine gr_iload_n (M := gm_Mo_decree) dq_Mo_decree_103 rfl 3 rfl 104 rfl ?_
    refine gr_sub (M := gm_Mo_decree) (lv' := [(0, .inr (.inr 83)), (1, .inl v1), (3, .inl s0), (4, .inl v4)]) [1, 2, 0, 4] rfl ?_
    exact w_Mo_decree_J104 hL hn hF   hk39
  refine gr_iload (M := gm_Mo_decree) dq_Mo_decree_98 5 rfl 100 rfl ?_
  refine gr_goto (M := gm_Mo_decree) dq_Mo_decree_100 104 rfl ?_
  refine gr_sub (M := gm_Mo_decree) (lv' := [(0, .inr (.inr 83)), (1, .inl v1), (3, .inl s0), (4, .inl v4)]) [1, 2, 0, 4] rfl ?_
  exact w_Mo_decree_J104 hL hn hF   hk39

def f_Mo_decree_L39 (v1 : Int) (k111 : Int → gH → Option gO) : Nat → Int → Int → Int → gH → Option gO
  | 0, _, _, _, _ => none
  | n + 1, v2, v3, v4, h => if (h 83 2) ≤ v4 then (k111 v3 h) else (gb (f_Mo_onStreet v4 h) (fun h13 r14 => if r14 = 0 then (gb (f_Mo_turnNow v4 h13) (fun h16 r17 => gb (f_Mo_go v1 h16) (fun h18 r19 => gb (f_Mo_minutes (-1) h18) (fun h20 r21 => gb (f_Mo_putBack  h20) (fun h22 r23 => if v2 ≤ r21 then (f_Mo_decree_J91  (f_Mo_decree_L39 v1 k111 n) v1 v2 v4 r21 v3 h22) else (f_Mo_decree_J91  (f_Mo_decree_L39 v1 k111 n) v1 v2 v4 r21 v4 h22)))))) else (f_Mo_decree_J105  (f_Mo_decree_L39 v1 k111 n) v1 v2 v3 v4 h13)))
theorem w_Mo_decree_L39 {o : gO} {X : gX} (hL : gLive (xZ X)) (hn : (zL (xZ X)).Nodup) (hF : gFin X (some .int) o) {v1 : Int}   {k111 : Int → gH → Option gO} (hk111 : ∀ (v3 : Int) (h : gH), gr (k111 v3 h) o gm_Mo_decree X h 111 [(3, .inl v3)] []) : ∀ (n : Nat) (v2 : Int) (v3 : Int) (v4 : Int) (h : gH), gr (f_Mo_decree_L39 v1 k111 n v2 v3 v4 h) o gm_Mo_decree X h 39 [(0, .inr (.inr 83)), (1, .inl v1), (2, .inl v2), (3, .inl v3), (4, .inl v4)] [] := by
  intro n
  induction n with
  | zero => intros; exact gr_none
  | succ n ih =>
    intro v2 v3 v4 h
    unfold f_Mo_decree_L39
    refine gr_iload (M := gm_Mo_decree) dq_Mo_decree_39 4 rfl 41 rfl ?_
    refine gr_aload_n (M := gm_Mo_decree) dq_Mo_decree_41 rfl 0 rfl 42 rfl ?_
    refine gr_geti (M := gm_Mo_decree) dq_Mo_decree_42 45 rfl gfl_Mo_121 gsh_83 rfl (gli hL gsh_83) ?_
    refine gr_icmp_ge (M := gm_Mo_decree) dq_Mo_decree_45 111 48 rfl rfl (fun c12 => ?_) (fun c12 => ?_)
    · refine gr_sub (M := gm_Mo_decree) (lv' := [(3, .inl v3)]) [3] rfl ?_
      exact hk111 _ _
    refine gr_aload_n (M := gm_Mo_decree) dq_Mo_decree_48 rfl 0 rfl 49 rfl ?_
    refine gr_iload (M := gm_Mo_decree) dq_Mo_decree_49 4 rfl 51 rfl ?_
    refine gr_callVi (M := gm_Mo_decree) (as := [.inl v4]) dq_Mo_decree_51 54 rfl rfl gcy_Mo_212 gim_Mo_onStreet gse_Mo_onStreet ⟨by decide, by decide⟩ (Nat.le_of_ble_eq_true rfl) gsh_83 rfl (gli hL gsh_83) (fun o1 hg ha hx => c_Mo_onStreet hL hn  hg ha hx) (fun h13 r14 _ => ?_)
    refine gr_if_ne (M := gm_Mo_decree) dq_Mo_decree_54 105 57 rfl rfl (fun c15 => ?_) (fun c15 => ?_)
    · exact w_Mo_decree_J105 hL hn hF   ih
    refine gr_aload_n (M := gm_Mo_decree) dq_Mo_decree_57 rfl 0 rfl 58 rfl ?_
    refine gr_iload (M := gm_Mo_decree) dq_Mo_decree_58 4 rfl 60 rfl ?_
    refine gr_callVv (M := gm_Mo_decree) (as := [.inl v4]) dq_Mo_decree_60 63 rfl rfl gcy_Mo_293 gim_Mo_turnNow gse_Mo_turnNow ⟨by decide, by decide⟩ (Nat.le_of_ble_eq_true rfl) gsh_83 rfl (gli hL gsh_83) (fun o1 hg ha hx => c_Mo_turnNow hL hn  hg ha hx) (fun h16 r17 _ => ?_)
    refine gr_aload_n (M := gm_Mo_decree) dq_Mo_decree_63 rfl 0 rfl 64 rfl ?_
    refine gr_iload_n (M := gm_Mo_decree) dq_Mo_decree_64 rfl 1 rfl 65 rfl ?_
    refine gr_callVv (M := gm_Mo_decree) (as := [.inl v1]) dq_Mo_decree_65 68 rfl rfl gcy_Mo_303 gim_Mo_go gse_Mo_go ⟨by decide, by decide⟩ (Nat.le_of_ble_eq_true rfl) gsh_83 rfl (gli hL gsh_83) (fun o1 hg ha hx => c_Mo_go hL hn  hg ha hx) (fun h18 r19 _ => ?_)
    refine gr_aload_n (M := gm_Mo_decree) dq_Mo_decree_68 rfl 0 rfl 69 rfl ?_
    refine gr_iconst (M := gm_Mo_decree) (v := (-1)) dq_Mo_decree_69 rfl ⟨by decide, by decide⟩ 70 rfl ?_
    refine gr_callVi (M := gm_Mo_decree) (as := [.inl (-1)]) dq_Mo_decree_70 73 rfl rfl gcy_Mo_306 gim_Mo_minutes gse_Mo_minutes ⟨by decide, by decide⟩ (Nat.le_of_ble_eq_true rfl) gsh_83 rfl (gli hL gsh_83) (fun o1 hg ha hx => c_Mo_minutes hL hn  hg ha hx) (fun h20 r21 _ => ?_)
    refine gr_istore (M := gm_Mo_decree) (kk := 0) (lv' := [(5, .inl r21), (0, .inr (.inr 83)), (1, .inl v1), (2, .inl v2), (3, .inl v3), (4, .inl v4)]) dq_Mo_decree_73 (by decide) rfl 75 rfl ?_
    refine gr_aload_n (M := gm_Mo_decree) dq_Mo_decree_75 rfl 1 rfl 76 rfl ?_
    refine gr_callVv (M := gm_Mo_decree) (as := []) dq_Mo_decree_76 79 rfl rfl gcy_Mo_309 gim_Mo_putBack gse_Mo_putBack ⟨by decide, by decide⟩ (Nat.le_of_ble_eq_true rfl) gsh_83 rfl (gli hL gsh_83) (fun o1 hg ha hx => c_Mo_putBack hL hn  hg ha hx) (fun h22 r23 _ => ?_)
    refine gr_iload (M := gm_Mo_decree) dq_Mo_decree_79 0 rfl 81 rfl ?_
    refine gr_iload_n (M := gm_Mo_decree) dq_Mo_decree_81 rfl 3 rfl 82 rfl ?_
    refine gr_icmp_ge (M := gm_Mo_decree) dq_Mo_decree_82 90 85 rfl rfl (fun c24 => ?_) (fun c24 => ?_)
    · refine gr_iload_n (M := gm_Mo_decree) dq_Mo_decree_90 rfl 4 rfl 91 rfl ?_
      refine gr_sub (M := gm_Mo_decree) (lv' := [(0, .inr (.inr 83)), (1, .inl v1), (2, .inl v2), (4, .inl v4), (5, .inl r21)]) [1, 2, 3, 5, 0] rfl ?_
      exact w_Mo_decree_J91 hL hn hF   ih
    refine gr_iload (M := gm_Mo_decree) dq_Mo_decree_85 5 rfl 87 rfl ?_
    refine gr_goto (M := gm_Mo_decree) dq_Mo_decree_87 91 rfl ?_
    refine gr_sub (M := gm_Mo_decree) (lv' := [(0, .inr (.inr 83)), (1, .inl v1), (2, .inl v2), (4, .inl v4), (5, .inl r21)]) [1, 2, 3, 5, 0] rfl ?_
    exact w_Mo_decree_J91 hL hn hF   ih

def f_Mo_decree (a1 : Int) (h : gH) : Option gO := gb (f_Mo_in a1 1 300 h) (fun h1 r2 => if r2 = 0 then (some (h1, (-1000000002))) else (gb (f_Mo_save  h1) (fun h4 r5 => gb (f_Mo_go a1 h4) (fun h6 r7 => gb (f_Mo_minutes (-1) h6) (fun h8 r9 => gb (f_Mo_putBack  h8) (fun h10 r11 => f_Mo_decree_L39 a1 (fun v26 h27 => some (h27, v26)) 50000 r9 (-1) 0 h10))))))
theorem c_Mo_decree {Z : gZ} (hL : gLive Z) (hn : (zL Z).Nodup) {a1 : Int}  {h : gH} {o : gO} (hg : gRg h) (ha : gRl [.inr (.inr 83), .inl a1]) (hx : f_Mo_decree a1 h = some o) : gC Z gy_Mo_decree gc_Mo_decree 6 (some .int) 9 206 [.inr (.inr 83), .inl a1] h o := by
  unfold f_Mo_decree at hx
  refine gC_of (lv := [(0, .inr (.inr 83)), (1, .inl a1)]) (own := gR_7) (by decide +kernel) rfl (Nat.le_of_ble_eq_true rfl) rfl rfl hn hg ha hx (fun X hZ hF => ?_)
  subst hZ
  show gr _ o gm_Mo_decree X h 0 _ _
  refine gr_iload_n (M := gm_Mo_decree) dq_Mo_decree_0 rfl 1 rfl 1 rfl ?_
  refine gr_i2l (M := gm_Mo_decree) dq_Mo_decree_1 2 rfl ?_
  refine gr_lconst (M := gm_Mo_decree) (v := 1) dq_Mo_decree_2 (by decide) ⟨by decide, by decide⟩ 3 rfl ?_
  refine gr_ldc2_w (M := gm_Mo_decree) (v := 300) dq_Mo_decree_3 gk_Mo_267 ⟨by decide, by decide⟩ 6 rfl ?_
  refine gr_callSi (M := gm_Mo_decree) (as := [.inr (.inl a1), .inr (.inl 1), .inr (.inl 300)]) dq_Mo_decree_6 9 rfl rfl gcy_Mo_117 gst_Mo_in ⟨by decide, by decide⟩ (Nat.le_of_ble_eq_true rfl) (fun o1 hg ha hx => c_Mo_in hL hn  hg ha hx) (fun h1 r2 _ => ?_)
  refine gr_if_ne (M := gm_Mo_decree) dq_Mo_decree_9 15 12 rfl rfl (fun c3 => ?_) (fun c3 => ?_)
  · refine gr_aload_n (M := gm_Mo_decree) dq_Mo_decree_15 rfl 0 rfl 16 rfl ?_
    refine gr_callVv (M := gm_Mo_decree) (as := []) dq_Mo_decree_16 19 rfl rfl gcy_Mo_300 gim_Mo_save gse_Mo_save ⟨by decide, by decide⟩ (Nat.le_of_ble_eq_true rfl) gsh_83 rfl (gli hL gsh_83) (fun o1 hg ha hx => c_Mo_save hL hn  hg ha hx) (fun h4 r5 _ => ?_)
    refine gr_aload_n (M := gm_Mo_decree) dq_Mo_decree_19 rfl 0 rfl 20 rfl ?_
    refine gr_iload_n (M := gm_Mo_decree) dq_Mo_decree_20 rfl 1 rfl 21 rfl ?_
    refine gr_callVv (M := gm_Mo_decree) (as := [.inl a1]) dq_Mo_decree_21 24 rfl rfl gcy_Mo_303 gim_Mo_go gse_Mo_go ⟨by decide, by decide⟩ (Nat.le_of_ble_eq_true rfl) gsh_83 rfl (gli hL gsh_83) (fun o1 hg ha hx => c_Mo_go hL hn  hg ha hx) (fun h6 r7 _ => ?_)
    refine gr_aload_n (M := gm_Mo_decree) dq_Mo_decree_24 rfl 0 rfl 25 rfl ?_
    refine gr_iconst (M := gm_Mo_decree) (v := (-1)) dq_Mo_decree_25 rfl ⟨by decide, by decide⟩ 26 rfl ?_
    refine gr_callVi (M := gm_Mo_decree) (as := [.inl (-1)]) dq_Mo_decree_26 29 rfl rfl gcy_Mo_306 gim_Mo_minutes gse_Mo_minutes ⟨by decide, by decide⟩ (Nat.le_of_ble_eq_true rfl) gsh_83 rfl (gli hL gsh_83) (fun o1 hg ha hx => c_Mo_minutes hL hn  hg ha hx) (fun h8 r9 _ => ?_)
    refine gr_istore_n (M := gm_Mo_decree) (lv' := [(2, .inl r9), (0, .inr (.inr 83)), (1, .inl a1)]) dq_Mo_decree_29 rfl (by decide) rfl 30 rfl ?_
    refine gr_aload_n (M := gm_Mo_decree) dq_Mo_decree_30 rfl 1 rfl 31 rfl ?_
    refine gr_callVv (M := gm_Mo_decree) (as := []) dq_Mo_decree_31 34 rfl rfl gcy_Mo_309 gim_Mo_putBack gse_Mo_putBack ⟨by decide, by decide⟩ (Nat.le_of_ble_eq_true rfl) gsh_83 rfl (gli hL gsh_83) (fun o1 hg ha hx => c_Mo_putBack hL hn  hg ha hx) (fun h10 r11 _ => ?_)
    refine gr_iconst (M := gm_Mo_decree) (v := (-1)) dq_Mo_decree_34 rfl ⟨by decide, by decide⟩ 35 rfl ?_
    refine gr_istore_n (M := gm_Mo_decree) (lv' := [(3, .inl (-1)), (2, .inl r9), (0, .inr (.inr 83)), (1, .inl a1)]) dq_Mo_decree_35 rfl (by decide) rfl 36 rfl ?_
    refine gr_iconst (M := gm_Mo_decree) (v := 0) dq_Mo_decree_36 rfl ⟨by decide, by decide⟩ 37 rfl ?_
    refine gr_istore (M := gm_Mo_decree) (kk := 0) (lv' := [(4, .inl 0), (3, .inl (-1)), (2, .inl r9), (0, .inr (.inr 83)), (1, .inl a1)]) dq_Mo_decree_37 (by decide) rfl 39 rfl ?_
    refine gr_sub (M := gm_Mo_decree) (lv' := [(0, .inr (.inr 83)), (1, .inl a1), (2, .inl r9), (3, .inl (-1)), (4, .inl 0)]) [3, 4, 2, 1, 0] rfl ?_
    refine w_Mo_decree_L39 hL hn hF   (fun v26 h27 => ?_) 50000 _ _ _ _
    refine gr_iload_n (M := gm_Mo_decree) dq_Mo_decree_111 rfl 0 rfl 112 rfl ?_
    exact gr_ireturn (M := gm_Mo_decree) dq_Mo_decree_112 hF
  refine gr_ldc (M := gm_Mo_decree) (v := (-1000000002)) dq_Mo_decree_12 gk_Mo_129 ⟨by decide, by decide⟩ 14 rfl ?_
  exact gr_ireturn (M := gm_Mo_decree) dq_Mo_decree_14 hF

-- Mo_rut
theorem dq_Mo_rut_0 : decode gc_Mo_rut 0 = .ok (.aload_n 0, 1) := by decide +kernel
theorem dq_Mo_rut_1 : decode gc_Mo_rut 1 = .ok (.iload_n 1, 1) := by decide +kernel
theorem dq_Mo_rut_2 : decode gc_Mo_rut 2 = .ok (.invokevirtual 209, 3) := by decide +kernel
theorem dq_Mo_rut_5 : decode gc_Mo_rut 5 = .ok (.ifCond .ne 6, 3) := by decide +kernel
theorem dq_Mo_rut_8 : decode gc_Mo_rut 8 = .ok (.ldc 208, 2) := by decide +kernel
theorem dq_Mo_rut_10 : decode gc_Mo_rut 10 = .ok (.ireturn, 1) := by decide +kernel
theorem dq_Mo_rut_11 : decode gc_Mo_rut 11 = .ok (.iload_n 2, 1) := by decide +kernel
theorem dq_Mo_rut_12 : decode gc_Mo_rut 12 = .ok (.i2l, 1) := by decide +kernel
theorem dq_Mo_rut_13 : decode gc_Mo_rut 13 = .ok (.lconst 0, 1) := by decide +kernel
theorem dq_Mo_rut_14 : decode gc_Mo_rut 14 = .ok (.ldc2_w 332, 3) := by decide +kernel
theorem dq_Mo_rut_17 : decode gc_Mo_rut 17 = .ok (.invokestatic 117, 3) := by decide +kernel
theorem dq_Mo_rut_20 : decode gc_Mo_rut 20 = .ok (.ifCond .eq 13, 3) := by decide +kernel
theorem dq_Mo_rut_23 : decode gc_Mo_rut 23 = .ok (.iload_n 3, 1) := by decide +kernel
theorem dq_Mo_rut_24 : decode gc_Mo_rut 24 = .ok (.i2l, 1) := by decide +kernel
theorem dq_Mo_rut_25 : decode gc_Mo_rut 25 = .ok (.lconst 0, 1) := by decide +kernel
theorem dq_Mo_rut_26 : decode gc_Mo_rut 26 = .ok (.lconst 1, 1) := by decide +kernel
theorem dq_Mo_rut_27 : decode gc_Mo_rut 27 = .ok (.invokestatic 117, 3) := by decide +kernel
theorem dq_Mo_rut_30 : decode gc_Mo_rut 30 = .ok (.ifCond .ne 6, 3) := by decide +kernel
theorem dq_Mo_rut_33 : decode gc_Mo_rut 33 = .ok (.ldc 129, 2) := by decide +kernel
theorem dq_Mo_rut_35 : decode gc_Mo_rut 35 = .ok (.ireturn, 1) := by decide +kernel
theorem dq_Mo_rut_36 : decode gc_Mo_rut 36 = .ok (.aload_n 0, 1) := by decide +kernel
theorem dq_Mo_rut_37 : decode gc_Mo_rut 37 = .ok (.getfield 194, 3) := by decide +kernel
theorem dq_Mo_rut_40 : decode gc_Mo_rut 40 = .ok (.bipush 8, 2) := by decide +kernel
theorem dq_Mo_rut_42 : decode gc_Mo_rut 42 = .ok (.if_icmp .ne 6, 3) := by decide +kernel
theorem dq_Mo_rut_45 : decode gc_Mo_rut 45 = .ok (.ldc 133, 2) := by decide +kernel
theorem dq_Mo_rut_47 : decode gc_Mo_rut 47 = .ok (.ireturn, 1) := by decide +kernel
theorem dq_Mo_rut_48 : decode gc_Mo_rut 48 = .ok (.aload_n 0, 1) := by decide +kernel
theorem dq_Mo_rut_49 : decode gc_Mo_rut 49 = .ok (.getfield 92, 3) := by decide +kernel
theorem dq_Mo_rut_52 : decode gc_Mo_rut 52 = .ok (.aload_n 0, 1) := by decide +kernel
theorem dq_Mo_rut_53 : decode gc_Mo_rut 53 = .ok (.getfield 194, 3) := by decide +kernel
theorem dq_Mo_rut_56 : decode gc_Mo_rut 56 = .ok (.iload_n 1, 1) := by decide +kernel
theorem dq_Mo_rut_57 : decode gc_Mo_rut 57 = .ok (.iastore, 1) := by decide +kernel
theorem dq_Mo_rut_58 : decode gc_Mo_rut 58 = .ok (.aload_n 0, 1) := by decide +kernel
theorem dq_Mo_rut_59 : decode gc_Mo_rut 59 = .ok (.getfield 95, 3) := by decide +kernel
theorem dq_Mo_rut_62 : decode gc_Mo_rut 62 = .ok (.aload_n 0, 1) := by decide +kernel
theorem dq_Mo_rut_63 : decode gc_Mo_rut 63 = .ok (.getfield 194, 3) := by decide +kernel
theorem dq_Mo_rut_66 : decode gc_Mo_rut 66 = .ok (.iload_n 2, 1) := by decide +kernel
theorem dq_Mo_rut_67 : decode gc_Mo_rut 67 = .ok (.iastore, 1) := by decide +kernel
theorem dq_Mo_rut_68 : decode gc_Mo_rut 68 = .ok (.aload_n 0, 1) := by decide +kernel
theorem dq_Mo_rut_69 : decode gc_Mo_rut 69 = .ok (.getfield 98, 3) := by decide +kernel
theorem dq_Mo_rut_72 : decode gc_Mo_rut 72 = .ok (.aload_n 0, 1) := by decide +kernel
theorem dq_Mo_rut_73 : decode gc_Mo_rut 73 = .ok (.getfield 194, 3) := by decide +kernel
theorem dq_Mo_rut_76 : decode gc_Mo_rut 76 = .ok (.iload_n 3, 1) := by decide +kernel
theorem dq_Mo_rut_77 : decode gc_Mo_rut 77 = .ok (.iastore, 1) := by decide +kernel
theorem dq_Mo_rut_78 : decode gc_Mo_rut 78 = .ok (.aload_n 0, 1) := by decide +kernel
theorem dq_Mo_rut_79 : decode gc_Mo_rut 79 = .ok (.dup, 1) := by decide +kernel
theorem dq_Mo_rut_80 : decode gc_Mo_rut 80 = .ok (.getfield 194, 3) := by decide +kernel
theorem dq_Mo_rut_83 : decode gc_Mo_rut 83 = .ok (.iconst 1, 1) := by decide +kernel
theorem dq_Mo_rut_84 : decode gc_Mo_rut 84 = .ok (.iadd, 1) := by decide +kernel
theorem dq_Mo_rut_85 : decode gc_Mo_rut 85 = .ok (.putfield 194, 3) := by decide +kernel
theorem dq_Mo_rut_88 : decode gc_Mo_rut 88 = .ok (.aload_n 0, 1) := by decide +kernel
theorem dq_Mo_rut_89 : decode gc_Mo_rut 89 = .ok (.getfield 194, 3) := by decide +kernel
theorem dq_Mo_rut_92 : decode gc_Mo_rut 92 = .ok (.ireturn, 1) := by decide +kernel
abbrev gm_Mo_rut : gM := (gc_Mo_rut, gR_7, 2, 46, 4)
theorem gk_Mo_332 : Cond.constantLong gR_7 332 (Int64.ofInt 99) ∈ gtbl := (gtab_at 1167 (by decide +kernel) rfl)
theorem gfl_Mo_92 : gFl gR_7 92 7 39 := ⟨_, _, _, rfl, by decide, (gtab_at 773 (by decide +kernel) rfl), gin_7⟩
theorem gfl_Mo_95 : gFl gR_7 95 7 40 := ⟨_, _, _, rfl, by decide, (gtab_at 774 (by decide +kernel) rfl), gin_7⟩
theorem gfl_Mo_98 : gFl gR_7 98 7 41 := ⟨_, _, _, rfl, by decide, (gtab_at 775 (by decide +kernel) rfl), gin_7⟩
def f_Mo_rut (a1 : Int) (a2 : Int) (a3 : Int) (h : gH) : Option gO := gb (f_Mo_isStreet a1 h) (fun h1 r2 => if r2 = 0 then (some (h1, (-1000000001))) else (gb (f_Mo_in a2 0 99 h1) (fun h4 r5 => if r5 = 0 then (some (h4, (-1000000002))) else (gb (f_Mo_in a3 0 1 h4) (fun h7 r8 => if r8 = 0 then (some (h7, (-1000000002))) else (if (h7 83 38) = 8 then (some (h7, (-1000000004))) else (gd (gix 8 (h7 83 38)) (gs (gup h7 109 (h7 83 38).toNat a1) (fun h11 => gd (gix 8 (h11 83 38)) (gs (gup h11 110 (h11 83 38).toNat a2) (fun h12 => gd (gix 8 (h12 83 38)) (gs (gup h12 111 (h12 83 38).toNat a3) (fun h13 => gs (gup h13 83 38 (gadd (h13 83 38) 1)) (fun h14 => some (h14, (h14 83 38))))))))))))))))
theorem c_Mo_rut {Z : gZ} (hL : gLive Z) (hn : (zL Z).Nodup) {a1 : Int} {a2 : Int} {a3 : Int}  {h : gH} {o : gO} (hg : gRg h) (ha : gRl [.inr (.inr 83), .inl a1, .inl a2, .inl a3]) (hx : f_Mo_rut a1 a2 a3 h = some o) : gC Z gy_Mo_rut gc_Mo_rut 4 (some .int) 2 46 [.inr (.inr 83), .inl a1, .inl a2, .inl a3] h o := by
  unfold f_Mo_rut at hx
  refine gC_of (lv := [(0, .inr (.inr 83)), (1, .inl a1), (2, .inl a2), (3, .inl a3)]) (own := gR_7) (by decide +kernel) rfl (Nat.le_of_ble_eq_true rfl) rfl rfl hn hg ha hx (fun X hZ hF => ?_)
  subst hZ
  show gr _ o gm_Mo_rut X h 0 _ _
  refine gr_aload_n (M := gm_Mo_rut) dq_Mo_rut_0 rfl 0 rfl 1 rfl ?_
  refine gr_iload_n (M := gm_Mo_rut) dq_Mo_rut_1 rfl 1 rfl 2 rfl ?_
  refine gr_callVi (M := gm_Mo_rut) (as := [.inl a1]) dq_Mo_rut_2 5 rfl rfl gcy_Mo_209 gim_Mo_isStreet gse_Mo_isStreet ⟨by decide, by decide⟩ (Nat.le_of_ble_eq_true rfl) gsh_83 rfl (gli hL gsh_83) (fun o1 hg ha hx => c_Mo_isStreet hL hn  hg ha hx) (fun h1 r2 _ => ?_)
  refine gr_if_ne (M := gm_Mo_rut) dq_Mo_rut_5 11 8 rfl rfl (fun c3 => ?_) (fun c3 => ?_)
  · refine gr_iload_n (M := gm_Mo_rut) dq_Mo_rut_11 rfl 2 rfl 12 rfl ?_
    refine gr_i2l (M := gm_Mo_rut) dq_Mo_rut_12 13 rfl ?_
    refine gr_lconst (M := gm_Mo_rut) (v := 0) dq_Mo_rut_13 (by decide) ⟨by decide, by decide⟩ 14 rfl ?_
    refine gr_ldc2_w (M := gm_Mo_rut) (v := 99) dq_Mo_rut_14 gk_Mo_332 ⟨by decide, by decide⟩ 17 rfl ?_
    refine gr_callSi (M := gm_Mo_rut) (as := [.inr (.inl a2), .inr (.inl 0), .inr (.inl 99)]) dq_Mo_rut_17 20 rfl rfl gcy_Mo_117 gst_Mo_in ⟨by decide, by decide⟩ (Nat.le_of_ble_eq_true rfl) (fun o1 hg ha hx => c_Mo_in hL hn  hg ha hx) (fun h4 r5 _ => ?_)
    refine gr_if_eq (M := gm_Mo_rut) dq_Mo_rut_20 33 23 rfl rfl (fun c6 => ?_) (fun c6 => ?_)
    · refine gr_ldc (M := gm_Mo_rut) (v := (-1000000002)) dq_Mo_rut_33 gk_Mo_129 ⟨by decide, by decide⟩ 35 rfl ?_
      exact gr_ireturn (M := gm_Mo_rut) dq_Mo_rut_35 hF
    refine gr_iload_n (M := gm_Mo_rut) dq_Mo_rut_23 rfl 3 rfl 24 rfl ?_
    refine gr_i2l (M := gm_Mo_rut) dq_Mo_rut_24 25 rfl ?_
    refine gr_lconst (M := gm_Mo_rut) (v := 0) dq_Mo_rut_25 (by decide) ⟨by decide, by decide⟩ 26 rfl ?_
    refine gr_lconst (M := gm_Mo_rut) (v := 1) dq_Mo_rut_26 (by decide) ⟨by decide, by decide⟩ 27 rfl ?_
    refine gr_callSi (M := gm_Mo_rut) (as := [.inr (.inl a3), .inr (.inl 0), .inr (.inl 1)]) dq_Mo_rut_27 30 rfl rfl gcy_Mo_117 gst_Mo_in ⟨by decide, by decide⟩ (Nat.le_of_ble_eq_true rfl) (fun o1 hg ha hx => c_Mo_in hL hn  hg ha hx) (fun h7 r8 _ => ?_)
    refine gr_if_ne (M := gm_Mo_rut) dq_Mo_rut_30 36 33 rfl rfl (fun c9 => ?_) (fun c9 => ?_)
    · refine gr_aload_n (M := gm_Mo_rut) dq_Mo_rut_36 rfl 0 rfl 37 rfl ?_
      refine gr_geti (M := gm_Mo_rut) dq_Mo_rut_37 40 rfl gfl_Mo_194 gsh_83 rfl (gli hL gsh_83) ?_
      refine gr_bipush (M := gm_Mo_rut) (v := 8) dq_Mo_rut_40 (by decide) ⟨by decide, by decide⟩ 42 rfl ?_
      refine gr_icmp_ne (M := gm_Mo_rut) dq_Mo_rut_42 48 45 rfl rfl (fun c10 => ?_) (fun c10 => ?_)
      · refine gr_aload_n (M := gm_Mo_rut) dq_Mo_rut_48 rfl 0 rfl 49 rfl ?_
        refine gr_getr (M := gm_Mo_rut) dq_Mo_rut_49 52 rfl gfl_Mo_92 gsh_83 rfl (gli hL gsh_83) 109 rfl ?_
        refine gr_aload_n (M := gm_Mo_rut) dq_Mo_rut_52 rfl 0 rfl 53 rfl ?_
        refine gr_geti (M := gm_Mo_rut) dq_Mo_rut_53 56 rfl gfl_Mo_194 gsh_83 rfl (gli hL gsh_83) ?_
        refine gr_iload_n (M := gm_Mo_rut) dq_Mo_rut_56 rfl 1 rfl 57 rfl ?_
        refine gr_iast (M := gm_Mo_rut) dq_Mo_rut_57 58 rfl gsh_109 (glj hL gsh_109 (by decide)) (fun h11 _ => ?_)
        refine gr_aload_n (M := gm_Mo_rut) dq_Mo_rut_58 rfl 0 rfl 59 rfl ?_
        refine gr_getr (M := gm_Mo_rut) dq_Mo_rut_59 62 rfl gfl_Mo_95 gsh_83 rfl (gli hL gsh_83) 110 rfl ?_
        refine gr_aload_n (M := gm_Mo_rut) dq_Mo_rut_62 rfl 0 rfl 63 rfl ?_
        refine gr_geti (M := gm_Mo_rut) dq_Mo_rut_63 66 rfl gfl_Mo_194 gsh_83 rfl (gli hL gsh_83) ?_
        refine gr_iload_n (M := gm_Mo_rut) dq_Mo_rut_66 rfl 2 rfl 67 rfl ?_
        refine gr_iast (M := gm_Mo_rut) dq_Mo_rut_67 68 rfl gsh_110 (glj hL gsh_110 (by decide)) (fun h12 _ => ?_)
        refine gr_aload_n (M := gm_Mo_rut) dq_Mo_rut_68 rfl 0 rfl 69 rfl ?_
        refine gr_getr (M := gm_Mo_rut) dq_Mo_rut_69 72 rfl gfl_Mo_98 gsh_83 rfl (gli hL gsh_83) 111 rfl ?_
        refine gr_aload_n (M := gm_Mo_rut) dq_Mo_rut_72 rfl 0 rfl 73 rfl ?_
        refine gr_geti (M := gm_Mo_rut) dq_Mo_rut_73 76 rfl gfl_Mo_194 gsh_83 rfl (gli hL gsh_83) ?_
        refine gr_iload_n (M := gm_Mo_rut) dq_Mo_rut_76 rfl 3 rfl 77 rfl ?_
        refine gr_iast (M := gm_Mo_rut) dq_Mo_rut_77 78 rfl gsh_111 (glj hL gsh_111 (by decide)) (fun h13 _ => ?_)
        refine gr_aload_n (M := gm_Mo_rut) dq_Mo_rut_78 rfl 0 rfl 79 rfl ?_
        refine gr_dup (M := gm_Mo_rut) dq_Mo_rut_79 (fun _ q => by cases q) 80 rfl ?_
        refine gr_geti (M := gm_Mo_rut) dq_Mo_rut_80 83 rfl gfl_Mo_194 gsh_83 rfl (gli hL gsh_83) ?_
        refine gr_iconst (M := gm_Mo_rut) (v := 1) dq_Mo_rut_83 rfl ⟨by decide, by decide⟩ 84 rfl ?_
        refine gr_iadd (M := gm_Mo_rut) dq_Mo_rut_84 85 rfl ?_
        refine gr_puti (M := gm_Mo_rut) dq_Mo_rut_85 88 rfl gfp_Mo_194 gsh_83 rfl (gli hL gsh_83) (fun h14 _ => ?_)
        refine gr_aload_n (M := gm_Mo_rut) dq_Mo_rut_88 rfl 0 rfl 89 rfl ?_
        refine gr_geti (M := gm_Mo_rut) dq_Mo_rut_89 92 rfl gfl_Mo_194 gsh_83 rfl (gli hL gsh_83) ?_
        exact gr_ireturn (M := gm_Mo_rut) dq_Mo_rut_92 hF
      refine gr_ldc (M := gm_Mo_rut) (v := (-1000000004)) dq_Mo_rut_45 gk_Mo_133 ⟨by decide, by decide⟩ 47 rfl ?_
      exact gr_ireturn (M := gm_Mo_rut) dq_Mo_rut_47 hF
    refine gr_ldc (M := gm_Mo_rut) (v := (-1000000002)) dq_Mo_rut_33 gk_Mo_129 ⟨by decide, by decide⟩ 35 rfl ?_
    exact gr_ireturn (M := gm_Mo_rut) dq_Mo_rut_35 hF
  refine gr_ldc (M := gm_Mo_rut) (v := (-1000000001)) dq_Mo_rut_8 gk_Mo_208 ⟨by decide, by decide⟩ 10 rfl ?_
  exact gr_ireturn (M := gm_Mo_rut) dq_Mo_rut_10 hF

-- Mo_isRut
theorem dq_Mo_isRut_0 : decode gc_Mo_isRut 0 = .ok (.iconst 1, 1) := by decide +kernel
theorem dq_Mo_isRut_1 : decode gc_Mo_isRut 1 = .ok (.istore_n 3, 1) := by decide +kernel
theorem dq_Mo_isRut_2 : decode gc_Mo_isRut 2 = .ok (.iconst 0, 1) := by decide +kernel
theorem dq_Mo_isRut_3 : decode gc_Mo_isRut 3 = .ok (.istore 4, 2) := by decide +kernel
theorem dq_Mo_isRut_5 : decode gc_Mo_isRut 5 = .ok (.iload 4, 2) := by decide +kernel
theorem dq_Mo_isRut_7 : decode gc_Mo_isRut 7 = .ok (.aload_n 0, 1) := by decide +kernel
theorem dq_Mo_isRut_8 : decode gc_Mo_isRut 8 = .ok (.getfield 194, 3) := by decide +kernel
theorem dq_Mo_isRut_11 : decode gc_Mo_isRut 11 = .ok (.if_icmp .ge 60, 3) := by decide +kernel
theorem dq_Mo_isRut_14 : decode gc_Mo_isRut 14 = .ok (.iload_n 3, 1) := by decide +kernel
theorem dq_Mo_isRut_15 : decode gc_Mo_isRut 15 = .ok (.ifCond .eq 48, 3) := by decide +kernel
theorem dq_Mo_isRut_18 : decode gc_Mo_isRut 18 = .ok (.aload_n 0, 1) := by decide +kernel
theorem dq_Mo_isRut_19 : decode gc_Mo_isRut 19 = .ok (.getfield 92, 3) := by decide +kernel
theorem dq_Mo_isRut_22 : decode gc_Mo_isRut 22 = .ok (.iload 4, 2) := by decide +kernel
theorem dq_Mo_isRut_24 : decode gc_Mo_isRut 24 = .ok (.iaload, 1) := by decide +kernel
theorem dq_Mo_isRut_25 : decode gc_Mo_isRut 25 = .ok (.iload_n 1, 1) := by decide +kernel
theorem dq_Mo_isRut_26 : decode gc_Mo_isRut 26 = .ok (.if_icmp .ne 33, 3) := by decide +kernel
theorem dq_Mo_isRut_29 : decode gc_Mo_isRut 29 = .ok (.aload_n 0, 1) := by decide +kernel
theorem dq_Mo_isRut_30 : decode gc_Mo_isRut 30 = .ok (.getfield 95, 3) := by decide +kernel
theorem dq_Mo_isRut_33 : decode gc_Mo_isRut 33 = .ok (.iload 4, 2) := by decide +kernel
theorem dq_Mo_isRut_35 : decode gc_Mo_isRut 35 = .ok (.iaload, 1) := by decide +kernel
theorem dq_Mo_isRut_36 : decode gc_Mo_isRut 36 = .ok (.iload_n 2, 1) := by decide +kernel
theorem dq_Mo_isRut_37 : decode gc_Mo_isRut 37 = .ok (.if_icmp .ne 22, 3) := by decide +kernel
theorem dq_Mo_isRut_40 : decode gc_Mo_isRut 40 = .ok (.aload_n 0, 1) := by decide +kernel
theorem dq_Mo_isRut_41 : decode gc_Mo_isRut 41 = .ok (.getfield 98, 3) := by decide +kernel
theorem dq_Mo_isRut_44 : decode gc_Mo_isRut 44 = .ok (.iload 4, 2) := by decide +kernel
theorem dq_Mo_isRut_46 : decode gc_Mo_isRut 46 = .ok (.iaload, 1) := by decide +kernel
theorem dq_Mo_isRut_47 : decode gc_Mo_isRut 47 = .ok (.aload_n 0, 1) := by decide +kernel
theorem dq_Mo_isRut_48 : decode gc_Mo_isRut 48 = .ok (.getfield 34, 3) := by decide +kernel
theorem dq_Mo_isRut_51 : decode gc_Mo_isRut 51 = .ok (.bipush 11, 2) := by decide +kernel
theorem dq_Mo_isRut_53 : decode gc_Mo_isRut 53 = .ok (.iload_n 1, 1) := by decide +kernel
theorem dq_Mo_isRut_54 : decode gc_Mo_isRut 54 = .ok (.iadd, 1) := by decide +kernel
theorem dq_Mo_isRut_55 : decode gc_Mo_isRut 55 = .ok (.iaload, 1) := by decide +kernel
theorem dq_Mo_isRut_56 : decode gc_Mo_isRut 56 = .ok (.if_icmp .ne 7, 3) := by decide +kernel
theorem dq_Mo_isRut_59 : decode gc_Mo_isRut 59 = .ok (.iconst 1, 1) := by decide +kernel
theorem dq_Mo_isRut_60 : decode gc_Mo_isRut 60 = .ok (.goto 4, 3) := by decide +kernel
theorem dq_Mo_isRut_63 : decode gc_Mo_isRut 63 = .ok (.iconst 0, 1) := by decide +kernel
theorem dq_Mo_isRut_64 : decode gc_Mo_isRut 64 = .ok (.istore_n 3, 1) := by decide +kernel
theorem dq_Mo_isRut_65 : decode gc_Mo_isRut 65 = .ok (.iinc 4 1, 3) := by decide +kernel
theorem dq_Mo_isRut_68 : decode gc_Mo_isRut 68 = .ok (.goto (-63), 3) := by decide +kernel
theorem dq_Mo_isRut_71 : decode gc_Mo_isRut 71 = .ok (.iload_n 3, 1) := by decide +kernel
theorem dq_Mo_isRut_72 : decode gc_Mo_isRut 72 = .ok (.ireturn, 1) := by decide +kernel
abbrev gm_Mo_isRut : gM := (gc_Mo_isRut, gR_7, 0, 0, 5)
def f_Mo_isRut_J64  (k5 : Int → Int → gH → Option gO) (v1 : Int) (v2 : Int) (v4 : Int) (s0 : Int) (h : gH) : Option gO := k5 s0 (gadd v4 1) h
theorem w_Mo_isRut_J64 {o : gO} {X : gX} (hL : gLive (xZ X)) (hn : (zL (xZ X)).Nodup) (hF : gFin X (some .boolean) o)    {k5 : Int → Int → gH → Option gO} {v1 : Int} {v2 : Int} {v4 : Int} {s0 : Int} {h : gH} (hk5 : ∀ (v3 : Int) (v4 : Int) (h : gH), gr (k5 v3 v4 h) o gm_Mo_isRut X h 5 [(0, .inr (.inr 83)), (1, .inl v1), (2, .inl v2), (3, .inl v3), (4, .inl v4)] []) : gr (f_Mo_isRut_J64  k5 v1 v2 v4 s0 h) o gm_Mo_isRut X h 64 [(0, .inr (.inr 83)), (1, .inl v1), (2, .inl v2), (4, .inl v4)] [.inl s0] := by
  unfold f_Mo_isRut_J64
  refine gr_istore_n (M := gm_Mo_isRut) (lv' := [(3, .inl s0), (0, .inr (.inr 83)), (1, .inl v1), (2, .inl v2), (4, .inl v4)]) dq_Mo_isRut_64 rfl (by decide) rfl 65 rfl ?_
  refine gr_iinc (M := gm_Mo_isRut) (lv' := [(4, .inl (gadd v4 1)), (3, .inl s0), (0, .inr (.inr 83)), (1, .inl v1), (2, .inl v2)]) dq_Mo_isRut_65 4 rfl rfl (by decide) rfl 68 rfl ?_
  refine gr_goto (M := gm_Mo_isRut) dq_Mo_isRut_68 5 rfl ?_
  refine gr_sub (M := gm_Mo_isRut) (lv' := [(0, .inr (.inr 83)), (1, .inl v1), (2, .inl v2), (3, .inl s0), (4, .inl (gadd v4 1))]) [2, 3, 4, 1, 0] rfl ?_
  exact hk5 _ _ _

def f_Mo_isRut_J63  (k5 : Int → Int → gH → Option gO) (v1 : Int) (v2 : Int) (v4 : Int) (h : gH) : Option gO := f_Mo_isRut_J64  (k5) v1 v2 v4 0 h
theorem w_Mo_isRut_J63 {o : gO} {X : gX} (hL : gLive (xZ X)) (hn : (zL (xZ X)).Nodup) (hF : gFin X (some .boolean) o)    {k5 : Int → Int → gH → Option gO} {v1 : Int} {v2 : Int} {v4 : Int} {h : gH} (hk5 : ∀ (v3 : Int) (v4 : Int) (h : gH), gr (k5 v3 v4 h) o gm_Mo_isRut X h 5 [(0, .inr (.inr 83)), (1, .inl v1), (2, .inl v2), (3, .inl v3), (4, .inl v4)] []) : gr (f_Mo_isRut_J63  k5 v1 v2 v4 h) o gm_Mo_isRut X h 63 [(0, .inr (.inr 83)), (1, .inl v1), (2, .inl v2), (4, .inl v4)] [] := by
  unfold f_Mo_isRut_J63
  refine gr_iconst (M := gm_Mo_isRut) (v := 0) dq_Mo_isRut_63 rfl ⟨by decide, by decide⟩ 64 rfl ?_
  exact w_Mo_isRut_J64 hL hn hF   hk5

def f_Mo_isRut_J59  (k5 : Int → Int → gH → Option gO) (v1 : Int) (v2 : Int) (v4 : Int) (h : gH) : Option gO := f_Mo_isRut_J64  (k5) v1 v2 v4 1 h
theorem w_Mo_isRut_J59 {o : gO} {X : gX} (hL : gLive (xZ X)) (hn : (zL (xZ X)).Nodup) (hF : gFin X (some .boolean) o)    {k5 : Int → Int → gH → Option gO} {v1 : Int} {v2 : Int} {v4 : Int} {h : gH} (hk5 : ∀ (v3 : Int) (v4 : Int) (h : gH), gr (k5 v3 v4 h) o gm_Mo_isRut X h 5 [(0, .inr (.inr 83)), (1, .inl v1), (2, .inl v2), (3, .inl v3), (4, .inl v4)] []) : gr (f_Mo_isRut_J59  k5 v1 v2 v4 h) o gm_Mo_isRut X h 59 [(0, .inr (.inr 83)), (1, .inl v1), (2, .inl v2), (4, .inl v4)] [] := by
  unfold f_Mo_isRut_J59
  refine gr_iconst (M := gm_Mo_isRut) (v := 1) dq_Mo_isRut_59 rfl ⟨by decide, by decide⟩ 60 rfl ?_
  refine gr_goto (M := gm_Mo_isRut) dq_Mo_isRut_60 64 rfl ?_
  exact w_Mo_isRut_J64 hL hn hF   hk5

def f_Mo_isRut_L5 (v1 : Int) (v2 : Int) (k71 : Int → gH → Option gO) : Nat → Int → Int → gH → Option gO
  | 0, _, _, _ => none
  | n + 1, v3, v4, h => if (h 83 38) ≤ v4 then (k71 v3 h) else (if v3 = 0 then (f_Mo_isRut_J63  (f_Mo_isRut_L5 v1 v2 k71 n) v1 v2 v4 h) else (gd (gix 8 v4) (if (h 109 v4.toNat) = v1 then (gd (gix 8 v4) (if (h 110 v4.toNat) = v2 then (gd (gix 8 v4) (gd (gix 50 (gadd 11 v1)) (if (h 111 v4.toNat) = (h 92 (gadd 11 v1).toNat) then (f_Mo_isRut_J59  (f_Mo_isRut_L5 v1 v2 k71 n) v1 v2 v4 h) else (f_Mo_isRut_J63  (f_Mo_isRut_L5 v1 v2 k71 n) v1 v2 v4 h)))) else (f_Mo_isRut_J59  (f_Mo_isRut_L5 v1 v2 k71 n) v1 v2 v4 h))) else (f_Mo_isRut_J59  (f_Mo_isRut_L5 v1 v2 k71 n) v1 v2 v4 h))))
theorem w_Mo_isRut_L5 {o : gO} {X : gX} (hL : gLive (xZ X)) (hn : (zL (xZ X)).Nodup) (hF : gFin X (some .boolean) o) {v1 : Int} {v2 : Int}   {k71 : Int → gH → Option gO} (hk71 : ∀ (v3 : Int) (h : gH), gr (k71 v3 h) o gm_Mo_isRut X h 71 [(3, .inl v3)] []) : ∀ (n : Nat) (v3 : Int) (v4 : Int) (h : gH), gr (f_Mo_isRut_L5 v1 v2 k71 n v3 v4 h) o gm_Mo_isRut X h 5 [(0, .inr (.inr 83)), (1, .inl v1), (2, .inl v2), (3, .inl v3), (4, .inl v4)] [] := by
  intro n
  induction n with
  | zero => intros; exact gr_none
  | succ n ih =>
    intro v3 v4 h
    unfold f_Mo_isRut_L5
    refine gr_iload (M := gm_Mo_isRut) dq_Mo_isRut_5 4 rfl 7 rfl ?_
    refine gr_aload_n (M := gm_Mo_isRut) dq_Mo_isRut_7 rfl 0 rfl 8 rfl ?_
    refine gr_geti (M := gm_Mo_isRut) dq_Mo_isRut_8 11 rfl gfl_Mo_194 gsh_83 rfl (gli hL gsh_83) ?_
    refine gr_icmp_ge (M := gm_Mo_isRut) dq_Mo_isRut_11 71 14 rfl rfl (fun c1 => ?_) (fun c1 => ?_)
    · refine gr_sub (M := gm_Mo_isRut) (lv' := [(3, .inl v3)]) [3] rfl ?_
      exact hk71 _ _
    refine gr_iload_n (M := gm_Mo_isRut) dq_Mo_isRut_14 rfl 3 rfl 15 rfl ?_
    refine gr_if_eq (M := gm_Mo_isRut) dq_Mo_isRut_15 63 18 rfl rfl (fun c2 => ?_) (fun c2 => ?_)
    · refine gr_sub (M := gm_Mo_isRut) (lv' := [(0, .inr (.inr 83)), (1, .inl v1), (2, .inl v2), (4, .inl v4)]) [0, 1, 2, 4] rfl ?_
      exact w_Mo_isRut_J63 hL hn hF   ih
    refine gr_aload_n (M := gm_Mo_isRut) dq_Mo_isRut_18 rfl 0 rfl 19 rfl ?_
    refine gr_getr (M := gm_Mo_isRut) dq_Mo_isRut_19 22 rfl gfl_Mo_92 gsh_83 rfl (gli hL gsh_83) 109 rfl ?_
    refine gr_iload (M := gm_Mo_isRut) dq_Mo_isRut_22 4 rfl 24 rfl ?_
    refine gr_iald (M := gm_Mo_isRut) dq_Mo_isRut_24 25 rfl gsh_109 (glj hL gsh_109 (by decide)) ?_
    refine gr_iload_n (M := gm_Mo_isRut) dq_Mo_isRut_25 rfl 1 rfl 26 rfl ?_
    refine gr_icmp_ne (M := gm_Mo_isRut) dq_Mo_isRut_26 59 29 rfl rfl (fun c3 => ?_) (fun c3 => ?_)
    · refine gr_sub (M := gm_Mo_isRut) (lv' := [(0, .inr (.inr 83)), (1, .inl v1), (2, .inl v2), (4, .inl v4)]) [0, 1, 2, 4] rfl ?_
      exact w_Mo_isRut_J59 hL hn hF   ih
    refine gr_aload_n (M := gm_Mo_isRut) dq_Mo_isRut_29 rfl 0 rfl 30 rfl ?_
    refine gr_getr (M := gm_Mo_isRut) dq_Mo_isRut_30 33 rfl gfl_Mo_95 gsh_83 rfl (gli hL gsh_83) 110 rfl ?_
    refine gr_iload (M := gm_Mo_isRut) dq_Mo_isRut_33 4 rfl 35 rfl ?_
    refine gr_iald (M := gm_Mo_isRut) dq_Mo_isRut_35 36 rfl gsh_110 (glj hL gsh_110 (by decide)) ?_
    refine gr_iload_n (M := gm_Mo_isRut) dq_Mo_isRut_36 rfl 2 rfl 37 rfl ?_
    refine gr_icmp_ne (M := gm_Mo_isRut) dq_Mo_isRut_37 59 40 rfl rfl (fun c4 => ?_) (fun c4 => ?_)
    · refine gr_sub (M := gm_Mo_isRut) (lv' := [(0, .inr (.inr 83)), (1, .inl v1), (2, .inl v2), (4, .inl v4)]) [0, 1, 2, 4] rfl ?_
      exact w_Mo_isRut_J59 hL hn hF   ih
    refine gr_aload_n (M := gm_Mo_isRut) dq_Mo_isRut_40 rfl 0 rfl 41 rfl ?_
    refine gr_getr (M := gm_Mo_isRut) dq_Mo_isRut_41 44 rfl gfl_Mo_98 gsh_83 rfl (gli hL gsh_83) 111 rfl ?_
    refine gr_iload (M := gm_Mo_isRut) dq_Mo_isRut_44 4 rfl 46 rfl ?_
    refine gr_iald (M := gm_Mo_isRut) dq_Mo_isRut_46 47 rfl gsh_111 (glj hL gsh_111 (by decide)) ?_
    refine gr_aload_n (M := gm_Mo_isRut) dq_Mo_isRut_47 rfl 0 rfl 48 rfl ?_
    refine gr_getr (M := gm_Mo_isRut) dq_Mo_isRut_48 51 rfl gfl_Mo_34 gsh_83 rfl (gli hL gsh_83) 92 rfl ?_
    refine gr_bipush (M := gm_Mo_isRut) (v := 11) dq_Mo_isRut_51 (by decide) ⟨by decide, by decide⟩ 53 rfl ?_
    refine gr_iload_n (M := gm_Mo_isRut) dq_Mo_isRut_53 rfl 1 rfl 54 rfl ?_
    refine gr_iadd (M := gm_Mo_isRut) dq_Mo_isRut_54 55 rfl ?_
    refine gr_iald (M := gm_Mo_isRut) dq_Mo_isRut_55 56 rfl gsh_92 (glj hL gsh_92 (by decide)) ?_
    refine gr_icmp_ne (M := gm_Mo_isRut) dq_Mo_isRut_56 63 59 rfl rfl (fun c5 => ?_) (fun c5 => ?_)
    · refine gr_sub (M := gm_Mo_isRut) (lv' := [(0, .inr (.inr 83)), (1, .inl v1), (2, .inl v2), (4, .inl v4)]) [0, 1, 2, 4] rfl ?_
      exact w_Mo_isRut_J63 hL hn hF   ih
    refine gr_sub (M := gm_Mo_isRut) (lv' := [(0, .inr (.inr 83)), (1, .inl v1), (2, .inl v2), (4, .inl v4)]) [0, 1, 2, 4] rfl ?_
    exact w_Mo_isRut_J59 hL hn hF   ih

def f_Mo_isRut (a1 : Int) (a2 : Int) (h : gH) : Option gO := f_Mo_isRut_L5 a1 a2 (fun v6 h7 => gd (gz v6) (some (h7, v6))) 50000 1 0 h
theorem c_Mo_isRut {Z : gZ} (hL : gLive Z) (hn : (zL Z).Nodup) {a1 : Int} {a2 : Int}  {h : gH} {o : gO} (hg : gRg h) (ha : gRl [.inr (.inr 83), .inl a1, .inl a2]) (hx : f_Mo_isRut a1 a2 h = some o) : gC Z gy_Mo_isRut gc_Mo_isRut 5 (some .boolean) 0 0 [.inr (.inr 83), .inl a1, .inl a2] h o := by
  unfold f_Mo_isRut at hx
  refine gC_of (lv := [(0, .inr (.inr 83)), (1, .inl a1), (2, .inl a2)]) (own := gR_7) (by decide +kernel) rfl (Nat.le_of_ble_eq_true rfl) rfl rfl hn hg ha hx (fun X hZ hF => ?_)
  subst hZ
  show gr _ o gm_Mo_isRut X h 0 _ _
  refine gr_iconst (M := gm_Mo_isRut) (v := 1) dq_Mo_isRut_0 rfl ⟨by decide, by decide⟩ 1 rfl ?_
  refine gr_istore_n (M := gm_Mo_isRut) (lv' := [(3, .inl 1), (0, .inr (.inr 83)), (1, .inl a1), (2, .inl a2)]) dq_Mo_isRut_1 rfl (by decide) rfl 2 rfl ?_
  refine gr_iconst (M := gm_Mo_isRut) (v := 0) dq_Mo_isRut_2 rfl ⟨by decide, by decide⟩ 3 rfl ?_
  refine gr_istore (M := gm_Mo_isRut) (kk := 0) (lv' := [(4, .inl 0), (3, .inl 1), (0, .inr (.inr 83)), (1, .inl a1), (2, .inl a2)]) dq_Mo_isRut_3 (by decide) rfl 5 rfl ?_
  refine gr_sub (M := gm_Mo_isRut) (lv' := [(0, .inr (.inr 83)), (1, .inl a1), (2, .inl a2), (3, .inl 1), (4, .inl 0)]) [2, 3, 4, 1, 0] rfl ?_
  refine w_Mo_isRut_L5 hL hn hF   (fun v6 h7 => ?_) 50000 _ _ _
  refine gr_iload_n (M := gm_Mo_isRut) dq_Mo_isRut_71 rfl 0 rfl 72 rfl ?_
  exact gr_zreturn (M := gm_Mo_isRut) dq_Mo_isRut_72 hF

-- Mo_laws
theorem dq_Mo_laws_0 : decode gc_Mo_laws 0 = .ok (.aload_n 0, 1) := by decide +kernel
theorem dq_Mo_laws_1 : decode gc_Mo_laws 1 = .ok (.iload_n 1, 1) := by decide +kernel
theorem dq_Mo_laws_2 : decode gc_Mo_laws 2 = .ok (.invokevirtual 209, 3) := by decide +kernel
theorem dq_Mo_laws_5 : decode gc_Mo_laws 5 = .ok (.ifCond .ne 6, 3) := by decide +kernel
theorem dq_Mo_laws_8 : decode gc_Mo_laws 8 = .ok (.ldc 208, 2) := by decide +kernel
theorem dq_Mo_laws_10 : decode gc_Mo_laws 10 = .ok (.ireturn, 1) := by decide +kernel
theorem dq_Mo_laws_11 : decode gc_Mo_laws 11 = .ok (.aload_n 0, 1) := by decide +kernel
theorem dq_Mo_laws_12 : decode gc_Mo_laws 12 = .ok (.invokevirtual 300, 3) := by decide +kernel
theorem dq_Mo_laws_15 : decode gc_Mo_laws 15 = .ok (.iconst 0, 1) := by decide +kernel
theorem dq_Mo_laws_16 : decode gc_Mo_laws 16 = .ok (.istore_n 2, 1) := by decide +kernel
theorem dq_Mo_laws_17 : decode gc_Mo_laws 17 = .ok (.iconst 0, 1) := by decide +kernel
theorem dq_Mo_laws_18 : decode gc_Mo_laws 18 = .ok (.istore_n 3, 1) := by decide +kernel
theorem dq_Mo_laws_19 : decode gc_Mo_laws 19 = .ok (.iload_n 3, 1) := by decide +kernel
theorem dq_Mo_laws_20 : decode gc_Mo_laws 20 = .ok (.iconst 5, 1) := by decide +kernel
theorem dq_Mo_laws_21 : decode gc_Mo_laws 21 = .ok (.if_icmp .ge 82, 3) := by decide +kernel
theorem dq_Mo_laws_24 : decode gc_Mo_laws 24 = .ok (.aload_n 0, 1) := by decide +kernel
theorem dq_Mo_laws_25 : decode gc_Mo_laws 25 = .ok (.getfield 34, 3) := by decide +kernel
theorem dq_Mo_laws_28 : decode gc_Mo_laws 28 = .ok (.iconst 2, 1) := by decide +kernel
theorem dq_Mo_laws_29 : decode gc_Mo_laws 29 = .ok (.iload_n 1, 1) := by decide +kernel
theorem dq_Mo_laws_30 : decode gc_Mo_laws 30 = .ok (.iadd, 1) := by decide +kernel
theorem dq_Mo_laws_31 : decode gc_Mo_laws 31 = .ok (.iload_n 3, 1) := by decide +kernel
theorem dq_Mo_laws_32 : decode gc_Mo_laws 32 = .ok (.iastore, 1) := by decide +kernel
theorem dq_Mo_laws_33 : decode gc_Mo_laws 33 = .ok (.iconst 1, 1) := by decide +kernel
theorem dq_Mo_laws_34 : decode gc_Mo_laws 34 = .ok (.istore 4, 2) := by decide +kernel
theorem dq_Mo_laws_36 : decode gc_Mo_laws 36 = .ok (.iconst 0, 1) := by decide +kernel
theorem dq_Mo_laws_37 : decode gc_Mo_laws 37 = .ok (.istore 5, 2) := by decide +kernel
theorem dq_Mo_laws_39 : decode gc_Mo_laws 39 = .ok (.iload 5, 2) := by decide +kernel
theorem dq_Mo_laws_41 : decode gc_Mo_laws 41 = .ok (.bipush 100, 2) := by decide +kernel
theorem dq_Mo_laws_43 : decode gc_Mo_laws 43 = .ok (.if_icmp .ge 35, 3) := by decide +kernel
theorem dq_Mo_laws_46 : decode gc_Mo_laws 46 = .ok (.aload_n 0, 1) := by decide +kernel
theorem dq_Mo_laws_47 : decode gc_Mo_laws 47 = .ok (.invokevirtual 277, 3) := by decide +kernel
theorem dq_Mo_laws_50 : decode gc_Mo_laws 50 = .ok (.iload 4, 2) := by decide +kernel
theorem dq_Mo_laws_52 : decode gc_Mo_laws 52 = .ok (.ifCond .eq 17, 3) := by decide +kernel
theorem dq_Mo_laws_55 : decode gc_Mo_laws 55 = .ok (.aload_n 0, 1) := by decide +kernel
theorem dq_Mo_laws_56 : decode gc_Mo_laws 56 = .ok (.iload_n 1, 1) := by decide +kernel
theorem dq_Mo_laws_57 : decode gc_Mo_laws 57 = .ok (.iload 5, 2) := by decide +kernel
theorem dq_Mo_laws_59 : decode gc_Mo_laws 59 = .ok (.invokevirtual 334, 3) := by decide +kernel
theorem dq_Mo_laws_62 : decode gc_Mo_laws 62 = .ok (.ifCond .eq 7, 3) := by decide +kernel
theorem dq_Mo_laws_65 : decode gc_Mo_laws 65 = .ok (.iconst 1, 1) := by decide +kernel
theorem dq_Mo_laws_66 : decode gc_Mo_laws 66 = .ok (.goto 4, 3) := by decide +kernel
theorem dq_Mo_laws_69 : decode gc_Mo_laws 69 = .ok (.iconst 0, 1) := by decide +kernel
theorem dq_Mo_laws_70 : decode gc_Mo_laws 70 = .ok (.istore 4, 2) := by decide +kernel
theorem dq_Mo_laws_72 : decode gc_Mo_laws 72 = .ok (.iinc 5 1, 3) := by decide +kernel
theorem dq_Mo_laws_75 : decode gc_Mo_laws 75 = .ok (.goto (-36), 3) := by decide +kernel
theorem dq_Mo_laws_78 : decode gc_Mo_laws 78 = .ok (.aload_n 0, 1) := by decide +kernel
theorem dq_Mo_laws_79 : decode gc_Mo_laws 79 = .ok (.invokevirtual 309, 3) := by decide +kernel
theorem dq_Mo_laws_82 : decode gc_Mo_laws 82 = .ok (.iload_n 2, 1) := by decide +kernel
theorem dq_Mo_laws_83 : decode gc_Mo_laws 83 = .ok (.iload 4, 2) := by decide +kernel
theorem dq_Mo_laws_85 : decode gc_Mo_laws 85 = .ok (.ifCond .eq 9, 3) := by decide +kernel
theorem dq_Mo_laws_88 : decode gc_Mo_laws 88 = .ok (.iconst 1, 1) := by decide +kernel
theorem dq_Mo_laws_89 : decode gc_Mo_laws 89 = .ok (.iload_n 3, 1) := by decide +kernel
theorem dq_Mo_laws_90 : decode gc_Mo_laws 90 = .ok (.ishl, 1) := by decide +kernel
theorem dq_Mo_laws_91 : decode gc_Mo_laws 91 = .ok (.goto 4, 3) := by decide +kernel
theorem dq_Mo_laws_94 : decode gc_Mo_laws 94 = .ok (.iconst 0, 1) := by decide +kernel
theorem dq_Mo_laws_95 : decode gc_Mo_laws 95 = .ok (.ior, 1) := by decide +kernel
theorem dq_Mo_laws_96 : decode gc_Mo_laws 96 = .ok (.istore_n 2, 1) := by decide +kernel
theorem dq_Mo_laws_97 : decode gc_Mo_laws 97 = .ok (.iinc 3 1, 3) := by decide +kernel
theorem dq_Mo_laws_100 : decode gc_Mo_laws 100 = .ok (.goto (-81), 3) := by decide +kernel
theorem dq_Mo_laws_103 : decode gc_Mo_laws 103 = .ok (.iload_n 2, 1) := by decide +kernel
theorem dq_Mo_laws_104 : decode gc_Mo_laws 104 = .ok (.ireturn, 1) := by decide +kernel
abbrev gm_Mo_laws : gM := (gc_Mo_laws, gR_7, 8, 184, 6)
set_option maxRecDepth 20000 in
theorem gcy_Mo_334 : gCy gR_7 334 gy_Mo_isRut gc_Mo_isRut 5 (some .boolean) 2 := ⟨(gtab_at 1172 (by decide +kernel) rfl), (gtab_at 8 (by decide +kernel) rfl), (gtab_at 1175 rfl rfl), by decide, by decide, by decide +kernel⟩
theorem gim_Mo_isRut : Cond.instanceMethod gy_Mo_isRut ∈ gtbl := (gtab_at 1174 (by decide +kernel) rfl)
theorem gse_Mo_isRut : Cond.selects gy_Mo_isRut.cls gy_Mo_isRut gy_Mo_isRut ∈ gtbl := (by decide +kernel)
def f_Mo_laws_J70  (k39 : Int → Int → gH → Option gO) (v1 : Int) (v2 : Int) (v3 : Int) (v5 : Int) (s0 : Int) (h : gH) : Option gO := k39 s0 (gadd v5 1) h
theorem w_Mo_laws_J70 {o : gO} {X : gX} (hL : gLive (xZ X)) (hn : (zL (xZ X)).Nodup) (hF : gFin X (some .int) o)    {k39 : Int → Int → gH → Option gO} {v1 : Int} {v2 : Int} {v3 : Int} {v5 : Int} {s0 : Int} {h : gH} (hk39 : ∀ (v4 : Int) (v5 : Int) (h : gH), gr (k39 v4 v5 h) o gm_Mo_laws X h 39 [(0, .inr (.inr 83)), (1, .inl v1), (2, .inl v2), (3, .inl v3), (4, .inl v4), (5, .inl v5)] []) : gr (f_Mo_laws_J70  k39 v1 v2 v3 v5 s0 h) o gm_Mo_laws X h 70 [(0, .inr (.inr 83)), (1, .inl v1), (2, .inl v2), (3, .inl v3), (5, .inl v5)] [.inl s0] := by
  unfold f_Mo_laws_J70
  refine gr_istore (M := gm_Mo_laws) (kk := 0) (lv' := [(4, .inl s0), (0, .inr (.inr 83)), (1, .inl v1), (2, .inl v2), (3, .inl v3), (5, .inl v5)]) dq_Mo_laws_70 (by decide) rfl 72 rfl ?_
  refine gr_iinc (M := gm_Mo_laws) (lv' := [(5, .inl (gadd v5 1)), (4, .inl s0), (0, .inr (.inr 83)), (1, .inl v1), (2, .inl v2), (3, .inl v3)]) dq_Mo_laws_72 5 rfl rfl (by decide) rfl 75 rfl ?_
  refine gr_goto (M := gm_Mo_laws) dq_Mo_laws_75 39 rfl ?_
  refine gr_sub (M := gm_Mo_laws) (lv' := [(0, .inr (.inr 83)), (1, .inl v1), (2, .inl v2), (3, .inl v3), (4, .inl s0), (5, .inl (gadd v5 1))]) [2, 3, 4, 5, 1, 0] rfl ?_
  exact hk39 _ _ _

def f_Mo_laws_J69  (k39 : Int → Int → gH → Option gO) (v1 : Int) (v2 : Int) (v3 : Int) (v5 : Int) (h : gH) : Option gO := f_Mo_laws_J70  (k39) v1 v2 v3 v5 0 h
theorem w_Mo_laws_J69 {o : gO} {X : gX} (hL : gLive (xZ X)) (hn : (zL (xZ X)).Nodup) (hF : gFin X (some .int) o)    {k39 : Int → Int → gH → Option gO} {v1 : Int} {v2 : Int} {v3 : Int} {v5 : Int} {h : gH} (hk39 : ∀ (v4 : Int) (v5 : Int) (h : gH), gr (k39 v4 v5 h) o gm_Mo_laws X h 39 [(0, .inr (.inr 83)), (1, .inl v1), (2, .inl v2), (3, .inl v3), (4, .inl v4), (5, .inl v5)] []) : gr (f_Mo_laws_J69  k39 v1 v2 v3 v5 h) o gm_Mo_laws X h 69 [(0, .inr (.inr 83)), (1, .inl v1), (2, .inl v2), (3, .inl v3), (5, .inl v5)] [] := by
  unfold f_Mo_laws_J69
  refine gr_iconst (M := gm_Mo_laws) (v := 0) dq_Mo_laws_69 rfl ⟨by decide, by decide⟩ 70 rfl ?_
  exact w_Mo_laws_J70 hL hn hF   hk39

def f_Mo_laws_L39 (v1 : Int) (v2 : Int) (v3 : Int) (k78 : Int → gH → Option gO) : Nat → Int → Int → gH → Option gO
  | 0, _, _, _ => none
  | n + 1, v4, v5, h => if 100 ≤ v5 then (k78 v4 h) else (gb (f_Mo_pass  h) (fun h9 r10 => if v4 = 0 then (f_Mo_laws_J69  (f_Mo_laws_L39 v1 v2 v3 k78 n) v1 v2 v3 v5 h9) else (gb (f_Mo_isRut v1 v5 h9) (fun h12 r13 => if r13 = 0 then (f_Mo_laws_J69  (f_Mo_laws_L39 v1 v2 v3 k78 n) v1 v2 v3 v5 h12) else (f_Mo_laws_J70  (f_Mo_laws_L39 v1 v2 v3 k78 n) v1 v2 v3 v5 1 h12)))))
theorem w_Mo_laws_L39 {o : gO} {X : gX} (hL : gLive (xZ X)) (hn : (zL (xZ X)).Nodup) (hF : gFin X (some .int) o) {v1 : Int} {v2 : Int} {v3 : Int}   {k78 : Int → gH → Option gO} (hk78 : ∀ (v4 : Int) (h : gH), gr (k78 v4 h) o gm_Mo_laws X h 78 [(0, .inr (.inr 83)), (1, .inl v1), (2, .inl v2), (3, .inl v3), (4, .inl v4)] []) : ∀ (n : Nat) (v4 : Int) (v5 : Int) (h : gH), gr (f_Mo_laws_L39 v1 v2 v3 k78 n v4 v5 h) o gm_Mo_laws X h 39 [(0, .inr (.inr 83)), (1, .inl v1), (2, .inl v2), (3, .inl v3), (4, .inl v4), (5, .inl v5)] [] := by
  intro n
  induction n with
  | zero => intros; exact gr_none
  | succ n ih =>
    intro v4 v5 h
    unfold f_Mo_laws_L39
    refine gr_iload (M := gm_Mo_laws) dq_Mo_laws_39 5 rfl 41 rfl ?_
    refine gr_bipush (M := gm_Mo_laws) (v := 100) dq_Mo_laws_41 (by decide) ⟨by decide, by decide⟩ 43 rfl ?_
    refine gr_icmp_ge (M := gm_Mo_laws) dq_Mo_laws_43 78 46 rfl rfl (fun c8 => ?_) (fun c8 => ?_)
    · refine gr_sub (M := gm_Mo_laws) (lv' := [(0, .inr (.inr 83)), (1, .inl v1), (2, .inl v2), (3, .inl v3), (4, .inl v4)]) [0, 1, 2, 3, 4] rfl ?_
      exact hk78 _ _
    refine gr_aload_n (M := gm_Mo_laws) dq_Mo_laws_46 rfl 0 rfl 47 rfl ?_
    refine gr_callVv (M := gm_Mo_laws) (as := []) dq_Mo_laws_47 50 rfl rfl gcy_Mo_277 gim_Mo_pass gse_Mo_pass ⟨by decide, by decide⟩ (Nat.le_of_ble_eq_true rfl) gsh_83 rfl (gli hL gsh_83) (fun o1 hg ha hx => c_Mo_pass hL hn  hg ha hx) (fun h9 r10 _ => ?_)
    refine gr_iload (M := gm_Mo_laws) dq_Mo_laws_50 4 rfl 52 rfl ?_
    refine gr_if_eq (M := gm_Mo_laws) dq_Mo_laws_52 69 55 rfl rfl (fun c11 => ?_) (fun c11 => ?_)
    · refine gr_sub (M := gm_Mo_laws) (lv' := [(0, .inr (.inr 83)), (1, .inl v1), (2, .inl v2), (3, .inl v3), (5, .inl v5)]) [0, 1, 2, 3, 5] rfl ?_
      exact w_Mo_laws_J69 hL hn hF   ih
    refine gr_aload_n (M := gm_Mo_laws) dq_Mo_laws_55 rfl 0 rfl 56 rfl ?_
    refine gr_iload_n (M := gm_Mo_laws) dq_Mo_laws_56 rfl 1 rfl 57 rfl ?_
    refine gr_iload (M := gm_Mo_laws) dq_Mo_laws_57 5 rfl 59 rfl ?_
    refine gr_callVi (M := gm_Mo_laws) (as := [.inl v1, .inl v5]) dq_Mo_laws_59 62 rfl rfl gcy_Mo_334 gim_Mo_isRut gse_Mo_isRut ⟨by decide, by decide⟩ (Nat.le_of_ble_eq_true rfl) gsh_83 rfl (gli hL gsh_83) (fun o1 hg ha hx => c_Mo_isRut hL hn  hg ha hx) (fun h12 r13 _ => ?_)
    refine gr_if_eq (M := gm_Mo_laws) dq_Mo_laws_62 69 65 rfl rfl (fun c14 => ?_) (fun c14 => ?_)
    · refine gr_sub (M := gm_Mo_laws) (lv' := [(0, .inr (.inr 83)), (1, .inl v1), (2, .inl v2), (3, .inl v3), (5, .inl v5)]) [0, 1, 2, 3, 5] rfl ?_
      exact w_Mo_laws_J69 hL hn hF   ih
    refine gr_iconst (M := gm_Mo_laws) (v := 1) dq_Mo_laws_65 rfl ⟨by decide, by decide⟩ 66 rfl ?_
    refine gr_goto (M := gm_Mo_laws) dq_Mo_laws_66 70 rfl ?_
    refine gr_sub (M := gm_Mo_laws) (lv' := [(0, .inr (.inr 83)), (1, .inl v1), (2, .inl v2), (3, .inl v3), (5, .inl v5)]) [0, 1, 2, 3, 5] rfl ?_
    exact w_Mo_laws_J70 hL hn hF   ih

def f_Mo_laws_J95  (k19 : Int → Int → gH → Option gO) (v1 : Int) (v3 : Int) (s1 : Int) (s0 : Int) (h : gH) : Option gO := k19 (gor s0 s1) (gadd v3 1) h
theorem w_Mo_laws_J95 {o : gO} {X : gX} (hL : gLive (xZ X)) (hn : (zL (xZ X)).Nodup) (hF : gFin X (some .int) o)    {k19 : Int → Int → gH → Option gO} {v1 : Int} {v3 : Int} {s1 : Int} {s0 : Int} {h : gH} (hk19 : ∀ (v2 : Int) (v3 : Int) (h : gH), gr (k19 v2 v3 h) o gm_Mo_laws X h 19 [(0, .inr (.inr 83)), (1, .inl v1), (2, .inl v2), (3, .inl v3)] []) : gr (f_Mo_laws_J95  k19 v1 v3 s1 s0 h) o gm_Mo_laws X h 95 [(0, .inr (.inr 83)), (1, .inl v1), (3, .inl v3)] [.inl s1, .inl s0] := by
  unfold f_Mo_laws_J95
  refine gr_ior (M := gm_Mo_laws) dq_Mo_laws_95 96 rfl ?_
  refine gr_istore_n (M := gm_Mo_laws) (lv' := [(2, .inl (gor s0 s1)), (0, .inr (.inr 83)), (1, .inl v1), (3, .inl v3)]) dq_Mo_laws_96 rfl (by decide) rfl 97 rfl ?_
  refine gr_iinc (M := gm_Mo_laws) (lv' := [(3, .inl (gadd v3 1)), (2, .inl (gor s0 s1)), (0, .inr (.inr 83)), (1, .inl v1)]) dq_Mo_laws_97 3 rfl rfl (by decide) rfl 100 rfl ?_
  refine gr_goto (M := gm_Mo_laws) dq_Mo_laws_100 19 rfl ?_
  refine gr_sub (M := gm_Mo_laws) (lv' := [(0, .inr (.inr 83)), (1, .inl v1), (2, .inl (gor s0 s1)), (3, .inl (gadd v3 1))]) [2, 3, 1, 0] rfl ?_
  exact hk19 _ _ _

def f_Mo_laws_L19 (v1 : Int) (k103 : Int → gH → Option gO) : Nat → Int → Int → gH → Option gO
  | 0, _, _, _ => none
  | n + 1, v2, v3, h => if 5 ≤ v3 then (k103 v2 h) else (gd (gix 50 (gadd 2 v1)) (gs (gup h 92 (gadd 2 v1).toNat v3) (fun h7 => f_Mo_laws_L39 v1 v2 v3 (fun v15 h16 => gb (f_Mo_putBack  h16) (fun h17 r18 => if v15 = 0 then (f_Mo_laws_J95  (f_Mo_laws_L19 v1 k103 n) v1 v3 0 v2 h17) else (f_Mo_laws_J95  (f_Mo_laws_L19 v1 k103 n) v1 v3 (gshl 1 v3) v2 h17))) 50000 1 0 h7)))
theorem w_Mo_laws_L19 {o : gO} {X : gX} (hL : gLive (xZ X)) (hn : (zL (xZ X)).Nodup) (hF : gFin X (some .int) o) {v1 : Int}   {k103 : Int → gH → Option gO} (hk103 : ∀ (v2 : Int) (h : gH), gr (k103 v2 h) o gm_Mo_laws X h 103 [(2, .inl v2)] []) : ∀ (n : Nat) (v2 : Int) (v3 : Int) (h : gH), gr (f_Mo_laws_L19 v1 k103 n v2 v3 h) o gm_Mo_laws X h 19 [(0, .inr (.inr 83)), (1, .inl v1), (2, .inl v2), (3, .inl v3)] [] := by
  intro n
  induction n with
  | zero => intros; exact gr_none
  | succ n ih =>
    intro v2 v3 h
    unfold f_Mo_laws_L19
    refine gr_iload_n (M := gm_Mo_laws) dq_Mo_laws_19 rfl 3 rfl 20 rfl ?_
    refine gr_iconst (M := gm_Mo_laws) (v := 5) dq_Mo_laws_20 rfl ⟨by decide, by decide⟩ 21 rfl ?_
    refine gr_icmp_ge (M := gm_Mo_laws) dq_Mo_laws_21 103 24 rfl rfl (fun c6 => ?_) (fun c6 => ?_)
    · refine gr_sub (M := gm_Mo_laws) (lv' := [(2, .inl v2)]) [2] rfl ?_
      exact hk103 _ _
    refine gr_aload_n (M := gm_Mo_laws) dq_Mo_laws_24 rfl 0 rfl 25 rfl ?_
    refine gr_getr (M := gm_Mo_laws) dq_Mo_laws_25 28 rfl gfl_Mo_34 gsh_83 rfl (gli hL gsh_83) 92 rfl ?_
    refine gr_iconst (M := gm_Mo_laws) (v := 2) dq_Mo_laws_28 rfl ⟨by decide, by decide⟩ 29 rfl ?_
    refine gr_iload_n (M := gm_Mo_laws) dq_Mo_laws_29 rfl 1 rfl 30 rfl ?_
    refine gr_iadd (M := gm_Mo_laws) dq_Mo_laws_30 31 rfl ?_
    refine gr_iload_n (M := gm_Mo_laws) dq_Mo_laws_31 rfl 3 rfl 32 rfl ?_
    refine gr_iast (M := gm_Mo_laws) dq_Mo_laws_32 33 rfl gsh_92 (glj hL gsh_92 (by decide)) (fun h7 _ => ?_)
    refine gr_iconst (M := gm_Mo_laws) (v := 1) dq_Mo_laws_33 rfl ⟨by decide, by decide⟩ 34 rfl ?_
    refine gr_istore (M := gm_Mo_laws) (kk := 0) (lv' := [(4, .inl 1), (0, .inr (.inr 83)), (1, .inl v1), (2, .inl v2), (3, .inl v3)]) dq_Mo_laws_34 (by decide) rfl 36 rfl ?_
    refine gr_iconst (M := gm_Mo_laws) (v := 0) dq_Mo_laws_36 rfl ⟨by decide, by decide⟩ 37 rfl ?_
    refine gr_istore (M := gm_Mo_laws) (kk := 0) (lv' := [(5, .inl 0), (4, .inl 1), (0, .inr (.inr 83)), (1, .inl v1), (2, .inl v2), (3, .inl v3)]) dq_Mo_laws_37 (by decide) rfl 39 rfl ?_
    refine gr_sub (M := gm_Mo_laws) (lv' := [(0, .inr (.inr 83)), (1, .inl v1), (2, .inl v2), (3, .inl v3), (4, .inl 1), (5, .inl 0)]) [2, 3, 4, 5, 1, 0] rfl ?_
    refine w_Mo_laws_L39 hL hn hF   (fun v15 h16 => ?_) 50000 _ _ _
    refine gr_aload_n (M := gm_Mo_laws) dq_Mo_laws_78 rfl 0 rfl 79 rfl ?_
    refine gr_callVv (M := gm_Mo_laws) (as := []) dq_Mo_laws_79 82 rfl rfl gcy_Mo_309 gim_Mo_putBack gse_Mo_putBack ⟨by decide, by decide⟩ (Nat.le_of_ble_eq_true rfl) gsh_83 rfl (gli hL gsh_83) (fun o1 hg ha hx => c_Mo_putBack hL hn  hg ha hx) (fun h17 r18 _ => ?_)
    refine gr_iload_n (M := gm_Mo_laws) dq_Mo_laws_82 rfl 2 rfl 83 rfl ?_
    refine gr_iload (M := gm_Mo_laws) dq_Mo_laws_83 4 rfl 85 rfl ?_
    refine gr_if_eq (M := gm_Mo_laws) dq_Mo_laws_85 94 88 rfl rfl (fun c19 => ?_) (fun c19 => ?_)
    · refine gr_iconst (M := gm_Mo_laws) (v := 0) dq_Mo_laws_94 rfl ⟨by decide, by decide⟩ 95 rfl ?_
      refine gr_sub (M := gm_Mo_laws) (lv' := [(0, .inr (.inr 83)), (1, .inl v1), (3, .inl v3)]) [0, 1, 3] rfl ?_
      exact w_Mo_laws_J95 hL hn hF   ih
    refine gr_iconst (M := gm_Mo_laws) (v := 1) dq_Mo_laws_88 rfl ⟨by decide, by decide⟩ 89 rfl ?_
    refine gr_iload_n (M := gm_Mo_laws) dq_Mo_laws_89 rfl 3 rfl 90 rfl ?_
    refine gr_ishl (M := gm_Mo_laws) dq_Mo_laws_90 91 rfl ?_
    refine gr_goto (M := gm_Mo_laws) dq_Mo_laws_91 95 rfl ?_
    refine gr_sub (M := gm_Mo_laws) (lv' := [(0, .inr (.inr 83)), (1, .inl v1), (3, .inl v3)]) [0, 1, 3] rfl ?_
    exact w_Mo_laws_J95 hL hn hF   ih

def f_Mo_laws (a1 : Int) (h : gH) : Option gO := gb (f_Mo_isStreet a1 h) (fun h1 r2 => if r2 = 0 then (some (h1, (-1000000001))) else (gb (f_Mo_save  h1) (fun h4 r5 => f_Mo_laws_L19 a1 (fun v20 h21 => some (h21, v20)) 50000 0 0 h4)))
theorem c_Mo_laws {Z : gZ} (hL : gLive Z) (hn : (zL Z).Nodup) {a1 : Int}  {h : gH} {o : gO} (hg : gRg h) (ha : gRl [.inr (.inr 83), .inl a1]) (hx : f_Mo_laws a1 h = some o) : gC Z gy_Mo_laws gc_Mo_laws 6 (some .int) 8 184 [.inr (.inr 83), .inl a1] h o := by
  unfold f_Mo_laws at hx
  refine gC_of (lv := [(0, .inr (.inr 83)), (1, .inl a1)]) (own := gR_7) (by decide +kernel) rfl (Nat.le_of_ble_eq_true rfl) rfl rfl hn hg ha hx (fun X hZ hF => ?_)
  subst hZ
  show gr _ o gm_Mo_laws X h 0 _ _
  refine gr_aload_n (M := gm_Mo_laws) dq_Mo_laws_0 rfl 0 rfl 1 rfl ?_
  refine gr_iload_n (M := gm_Mo_laws) dq_Mo_laws_1 rfl 1 rfl 2 rfl ?_
  refine gr_callVi (M := gm_Mo_laws) (as := [.inl a1]) dq_Mo_laws_2 5 rfl rfl gcy_Mo_209 gim_Mo_isStreet gse_Mo_isStreet ⟨by decide, by decide⟩ (Nat.le_of_ble_eq_true rfl) gsh_83 rfl (gli hL gsh_83) (fun o1 hg ha hx => c_Mo_isStreet hL hn  hg ha hx) (fun h1 r2 _ => ?_)
  refine gr_if_ne (M := gm_Mo_laws) dq_Mo_laws_5 11 8 rfl rfl (fun c3 => ?_) (fun c3 => ?_)
  · refine gr_aload_n (M := gm_Mo_laws) dq_Mo_laws_11 rfl 0 rfl 12 rfl ?_
    refine gr_callVv (M := gm_Mo_laws) (as := []) dq_Mo_laws_12 15 rfl rfl gcy_Mo_300 gim_Mo_save gse_Mo_save ⟨by decide, by decide⟩ (Nat.le_of_ble_eq_true rfl) gsh_83 rfl (gli hL gsh_83) (fun o1 hg ha hx => c_Mo_save hL hn  hg ha hx) (fun h4 r5 _ => ?_)
    refine gr_iconst (M := gm_Mo_laws) (v := 0) dq_Mo_laws_15 rfl ⟨by decide, by decide⟩ 16 rfl ?_
    refine gr_istore_n (M := gm_Mo_laws) (lv' := [(2, .inl 0), (0, .inr (.inr 83)), (1, .inl a1)]) dq_Mo_laws_16 rfl (by decide) rfl 17 rfl ?_
    refine gr_iconst (M := gm_Mo_laws) (v := 0) dq_Mo_laws_17 rfl ⟨by decide, by decide⟩ 18 rfl ?_
    refine gr_istore_n (M := gm_Mo_laws) (lv' := [(3, .inl 0), (2, .inl 0), (0, .inr (.inr 83)), (1, .inl a1)]) dq_Mo_laws_18 rfl (by decide) rfl 19 rfl ?_
    refine gr_sub (M := gm_Mo_laws) (lv' := [(0, .inr (.inr 83)), (1, .inl a1), (2, .inl 0), (3, .inl 0)]) [2, 3, 1, 0] rfl ?_
    refine w_Mo_laws_L19 hL hn hF   (fun v20 h21 => ?_) 50000 _ _ _
    refine gr_iload_n (M := gm_Mo_laws) dq_Mo_laws_103 rfl 0 rfl 104 rfl ?_
    exact gr_ireturn (M := gm_Mo_laws) dq_Mo_laws_104 hF
  refine gr_ldc (M := gm_Mo_laws) (v := (-1000000001)) dq_Mo_laws_8 gk_Mo_208 ⟨by decide, by decide⟩ 10 rfl ?_
  exact gr_ireturn (M := gm_Mo_laws) dq_Mo_laws_10 hF

-- Mo_write
theorem dq_Mo_write_0 : decode gc_Mo_write 0 = .ok (.aload_n 0, 1) := by decide +kernel
theorem dq_Mo_write_1 : decode gc_Mo_write 1 = .ok (.iload_n 1, 1) := by decide +kernel
theorem dq_Mo_write_2 : decode gc_Mo_write 2 = .ok (.invokevirtual 215, 3) := by decide +kernel
theorem dq_Mo_write_5 : decode gc_Mo_write 5 = .ok (.ifCond .ne 6, 3) := by decide +kernel
theorem dq_Mo_write_8 : decode gc_Mo_write 8 = .ok (.ldc 208, 2) := by decide +kernel
theorem dq_Mo_write_10 : decode gc_Mo_write 10 = .ok (.ireturn, 1) := by decide +kernel
theorem dq_Mo_write_11 : decode gc_Mo_write 11 = .ok (.iload_n 2, 1) := by decide +kernel
theorem dq_Mo_write_12 : decode gc_Mo_write 12 = .ok (.i2l, 1) := by decide +kernel
theorem dq_Mo_write_13 : decode gc_Mo_write 13 = .ok (.lconst 0, 1) := by decide +kernel
theorem dq_Mo_write_14 : decode gc_Mo_write 14 = .ok (.ldc2_w 337, 3) := by decide +kernel
theorem dq_Mo_write_17 : decode gc_Mo_write 17 = .ok (.invokestatic 117, 3) := by decide +kernel
theorem dq_Mo_write_20 : decode gc_Mo_write 20 = .ok (.ifCond .ne 6, 3) := by decide +kernel
theorem dq_Mo_write_23 : decode gc_Mo_write 23 = .ok (.ldc 129, 2) := by decide +kernel
theorem dq_Mo_write_25 : decode gc_Mo_write 25 = .ok (.ireturn, 1) := by decide +kernel
theorem dq_Mo_write_26 : decode gc_Mo_write 26 = .ok (.aload_n 0, 1) := by decide +kernel
theorem dq_Mo_write_27 : decode gc_Mo_write 27 = .ok (.getfield 197, 3) := by decide +kernel
theorem dq_Mo_write_30 : decode gc_Mo_write 30 = .ok (.bipush 15, 2) := by decide +kernel
theorem dq_Mo_write_32 : decode gc_Mo_write 32 = .ok (.if_icmp .ne 6, 3) := by decide +kernel
theorem dq_Mo_write_35 : decode gc_Mo_write 35 = .ok (.ldc 133, 2) := by decide +kernel
theorem dq_Mo_write_37 : decode gc_Mo_write 37 = .ok (.ireturn, 1) := by decide +kernel
theorem dq_Mo_write_38 : decode gc_Mo_write 38 = .ok (.aload_n 0, 1) := by decide +kernel
theorem dq_Mo_write_39 : decode gc_Mo_write 39 = .ok (.getfield 101, 3) := by decide +kernel
theorem dq_Mo_write_42 : decode gc_Mo_write 42 = .ok (.aload_n 0, 1) := by decide +kernel
theorem dq_Mo_write_43 : decode gc_Mo_write 43 = .ok (.getfield 197, 3) := by decide +kernel
theorem dq_Mo_write_46 : decode gc_Mo_write 46 = .ok (.iload_n 1, 1) := by decide +kernel
theorem dq_Mo_write_47 : decode gc_Mo_write 47 = .ok (.iastore, 1) := by decide +kernel
theorem dq_Mo_write_48 : decode gc_Mo_write 48 = .ok (.aload_n 0, 1) := by decide +kernel
theorem dq_Mo_write_49 : decode gc_Mo_write 49 = .ok (.getfield 104, 3) := by decide +kernel
theorem dq_Mo_write_52 : decode gc_Mo_write 52 = .ok (.aload_n 0, 1) := by decide +kernel
theorem dq_Mo_write_53 : decode gc_Mo_write 53 = .ok (.getfield 197, 3) := by decide +kernel
theorem dq_Mo_write_56 : decode gc_Mo_write 56 = .ok (.iload_n 2, 1) := by decide +kernel
theorem dq_Mo_write_57 : decode gc_Mo_write 57 = .ok (.iastore, 1) := by decide +kernel
theorem dq_Mo_write_58 : decode gc_Mo_write 58 = .ok (.aload_n 0, 1) := by decide +kernel
theorem dq_Mo_write_59 : decode gc_Mo_write 59 = .ok (.dup, 1) := by decide +kernel
theorem dq_Mo_write_60 : decode gc_Mo_write 60 = .ok (.getfield 197, 3) := by decide +kernel
theorem dq_Mo_write_63 : decode gc_Mo_write 63 = .ok (.iconst 1, 1) := by decide +kernel
theorem dq_Mo_write_64 : decode gc_Mo_write 64 = .ok (.iadd, 1) := by decide +kernel
theorem dq_Mo_write_65 : decode gc_Mo_write 65 = .ok (.putfield 197, 3) := by decide +kernel
theorem dq_Mo_write_68 : decode gc_Mo_write 68 = .ok (.aload_n 0, 1) := by decide +kernel
theorem dq_Mo_write_69 : decode gc_Mo_write 69 = .ok (.getfield 197, 3) := by decide +kernel
theorem dq_Mo_write_72 : decode gc_Mo_write 72 = .ok (.ireturn, 1) := by decide +kernel
abbrev gm_Mo_write : gM := (gc_Mo_write, gR_7, 2, 46, 3)
theorem gk_Mo_337 : Cond.constantLong gR_7 337 (Int64.ofInt 99999) ∈ gtbl := (gtab_at 1180 (by decide +kernel) rfl)
theorem gfl_Mo_101 : gFl gR_7 101 7 43 := ⟨_, _, _, rfl, by decide, (gtab_at 777 (by decide +kernel) rfl), gin_7⟩
theorem gfl_Mo_104 : gFl gR_7 104 7 44 := ⟨_, _, _, rfl, by decide, (gtab_at 778 (by decide +kernel) rfl), gin_7⟩
def f_Mo_write (a1 : Int) (a2 : Int) (h : gH) : Option gO := gb (f_Mo_isCart a1 h) (fun h1 r2 => if r2 = 0 then (some (h1, (-1000000001))) else (gb (f_Mo_in a2 0 99999 h1) (fun h4 r5 => if r5 = 0 then (some (h4, (-1000000002))) else (if (h4 83 42) = 15 then (some (h4, (-1000000004))) else (gd (gix 15 (h4 83 42)) (gs (gup h4 112 (h4 83 42).toNat a1) (fun h8 => gd (gix 15 (h8 83 42)) (gs (gup h8 113 (h8 83 42).toNat a2) (fun h9 => gs (gup h9 83 42 (gadd (h9 83 42) 1)) (fun h10 => some (h10, (h10 83 42))))))))))))
theorem c_Mo_write {Z : gZ} (hL : gLive Z) (hn : (zL Z).Nodup) {a1 : Int} {a2 : Int}  {h : gH} {o : gO} (hg : gRg h) (ha : gRl [.inr (.inr 83), .inl a1, .inl a2]) (hx : f_Mo_write a1 a2 h = some o) : gC Z gy_Mo_write gc_Mo_write 3 (some .int) 2 46 [.inr (.inr 83), .inl a1, .inl a2] h o := by
  unfold f_Mo_write at hx
  refine gC_of (lv := [(0, .inr (.inr 83)), (1, .inl a1), (2, .inl a2)]) (own := gR_7) (by decide +kernel) rfl (Nat.le_of_ble_eq_true rfl) rfl rfl hn hg ha hx (fun X hZ hF => ?_)
  subst hZ
  show gr _ o gm_Mo_write X h 0 _ _
  refine gr_aload_n (M := gm_Mo_write) dq_Mo_write_0 rfl 0 rfl 1 rfl ?_
  refine gr_iload_n (M := gm_Mo_write) dq_Mo_write_1 rfl 1 rfl 2 rfl ?_
  refine gr_callVi (M := gm_Mo_write) (as := [.inl a1]) dq_Mo_write_2 5 rfl rfl gcy_Mo_215 gim_Mo_isCart gse_Mo_isCart ⟨by decide, by decide⟩ (Nat.le_of_ble_eq_true rfl) gsh_83 rfl (gli hL gsh_83) (fun o1 hg ha hx => c_Mo_isCart hL hn  hg ha hx) (fun h1 r2 _ => ?_)
  refine gr_if_ne (M := gm_Mo_write) dq_Mo_write_5 11 8 rfl rfl (fun c3 => ?_) (fun c3 => ?_)
  · refine gr_iload_n (M := gm_Mo_write) dq_Mo_write_11 rfl 2 rfl 12 rfl ?_
    refine gr_i2l (M := gm_Mo_write) dq_Mo_write_12 13 rfl ?_
    refine gr_lconst (M := gm_Mo_write) (v := 0) dq_Mo_write_13 (by decide) ⟨by decide, by decide⟩ 14 rfl ?_
    refine gr_ldc2_w (M := gm_Mo_write) (v := 99999) dq_Mo_write_14 gk_Mo_337 ⟨by decide, by decide⟩ 17 rfl ?_
    refine gr_callSi (M := gm_Mo_write) (as := [.inr (.inl a2), .inr (.inl 0), .inr (.inl 99999)]) dq_Mo_write_17 20 rfl rfl gcy_Mo_117 gst_Mo_in ⟨by decide, by decide⟩ (Nat.le_of_ble_eq_true rfl) (fun o1 hg ha hx => c_Mo_in hL hn  hg ha hx) (fun h4 r5 _ => ?_)
    refine gr_if_ne (M := gm_Mo_write) dq_Mo_write_20 26 23 rfl rfl (fun c6 => ?_) (fun c6 => ?_)
    · refine gr_aload_n (M := gm_Mo_write) dq_Mo_write_26 rfl 0 rfl 27 rfl ?_
      refine gr_geti (M := gm_Mo_write) dq_Mo_write_27 30 rfl gfl_Mo_197 gsh_83 rfl (gli hL gsh_83) ?_
      refine gr_bipush (M := gm_Mo_write) (v := 15) dq_Mo_write_30 (by decide) ⟨by decide, by decide⟩ 32 rfl ?_
      refine gr_icmp_ne (M := gm_Mo_write) dq_Mo_write_32 38 35 rfl rfl (fun c7 => ?_) (fun c7 => ?_)
      · refine gr_aload_n (M := gm_Mo_write) dq_Mo_write_38 rfl 0 rfl 39 rfl ?_
        refine gr_getr (M := gm_Mo_write) dq_Mo_write_39 42 rfl gfl_Mo_101 gsh_83 rfl (gli hL gsh_83) 112 rfl ?_
        refine gr_aload_n (M := gm_Mo_write) dq_Mo_write_42 rfl 0 rfl 43 rfl ?_
        refine gr_geti (M := gm_Mo_write) dq_Mo_write_43 46 rfl gfl_Mo_197 gsh_83 rfl (gli hL gsh_83) ?_
        refine gr_iload_n (M := gm_Mo_write) dq_Mo_write_46 rfl 1 rfl 47 rfl ?_
        refine gr_iast (M := gm_Mo_write) dq_Mo_write_47 48 rfl gsh_112 (glj hL gsh_112 (by decide)) (fun h8 _ => ?_)
        refine gr_aload_n (M := gm_Mo_write) dq_Mo_write_48 rfl 0 rfl 49 rfl ?_
        refine gr_getr (M := gm_Mo_write) dq_Mo_write_49 52 rfl gfl_Mo_104 gsh_83 rfl (gli hL gsh_83) 113 rfl ?_
        refine gr_aload_n (M := gm_Mo_write) dq_Mo_write_52 rfl 0 rfl 53 rfl ?_
        refine gr_geti (M := gm_Mo_write) dq_Mo_write_53 56 rfl gfl_Mo_197 gsh_83 rfl (gli hL gsh_83) ?_
        refine gr_iload_n (M := gm_Mo_write) dq_Mo_write_56 rfl 2 rfl 57 rfl ?_
        refine gr_iast (M := gm_Mo_write) dq_Mo_write_57 58 rfl gsh_113 (glj hL gsh_113 (by decide)) (fun h9 _ => ?_)
        refine gr_aload_n (M := gm_Mo_write) dq_Mo_write_58 rfl 0 rfl 59 rfl ?_
        refine gr_dup (M := gm_Mo_write) dq_Mo_write_59 (fun _ q => by cases q) 60 rfl ?_
        refine gr_geti (M := gm_Mo_write) dq_Mo_write_60 63 rfl gfl_Mo_197 gsh_83 rfl (gli hL gsh_83) ?_
        refine gr_iconst (M := gm_Mo_write) (v := 1) dq_Mo_write_63 rfl ⟨by decide, by decide⟩ 64 rfl ?_
        refine gr_iadd (M := gm_Mo_write) dq_Mo_write_64 65 rfl ?_
        refine gr_puti (M := gm_Mo_write) dq_Mo_write_65 68 rfl gfp_Mo_197 gsh_83 rfl (gli hL gsh_83) (fun h10 _ => ?_)
        refine gr_aload_n (M := gm_Mo_write) dq_Mo_write_68 rfl 0 rfl 69 rfl ?_
        refine gr_geti (M := gm_Mo_write) dq_Mo_write_69 72 rfl gfl_Mo_197 gsh_83 rfl (gli hL gsh_83) ?_
        exact gr_ireturn (M := gm_Mo_write) dq_Mo_write_72 hF
      refine gr_ldc (M := gm_Mo_write) (v := (-1000000004)) dq_Mo_write_35 gk_Mo_133 ⟨by decide, by decide⟩ 37 rfl ?_
      exact gr_ireturn (M := gm_Mo_write) dq_Mo_write_37 hF
    refine gr_ldc (M := gm_Mo_write) (v := (-1000000002)) dq_Mo_write_23 gk_Mo_129 ⟨by decide, by decide⟩ 25 rfl ?_
    exact gr_ireturn (M := gm_Mo_write) dq_Mo_write_25 hF
  refine gr_ldc (M := gm_Mo_write) (v := (-1000000001)) dq_Mo_write_8 gk_Mo_208 ⟨by decide, by decide⟩ 10 rfl ?_
  exact gr_ireturn (M := gm_Mo_write) dq_Mo_write_10 hF

-- Mo_tear
theorem dq_Mo_tear_0 : decode gc_Mo_tear 0 = .ok (.aload_n 0, 1) := by decide +kernel
theorem dq_Mo_tear_1 : decode gc_Mo_tear 1 = .ok (.getfield 194, 3) := by decide +kernel
theorem dq_Mo_tear_4 : decode gc_Mo_tear 4 = .ok (.aload_n 0, 1) := by decide +kernel
theorem dq_Mo_tear_5 : decode gc_Mo_tear 5 = .ok (.getfield 197, 3) := by decide +kernel
theorem dq_Mo_tear_8 : decode gc_Mo_tear 8 = .ok (.iadd, 1) := by decide +kernel
theorem dq_Mo_tear_9 : decode gc_Mo_tear 9 = .ok (.istore_n 1, 1) := by decide +kernel
theorem dq_Mo_tear_10 : decode gc_Mo_tear 10 = .ok (.aload_n 0, 1) := by decide +kernel
theorem dq_Mo_tear_11 : decode gc_Mo_tear 11 = .ok (.iconst 0, 1) := by decide +kernel
theorem dq_Mo_tear_12 : decode gc_Mo_tear 12 = .ok (.putfield 194, 3) := by decide +kernel
theorem dq_Mo_tear_15 : decode gc_Mo_tear 15 = .ok (.aload_n 0, 1) := by decide +kernel
theorem dq_Mo_tear_16 : decode gc_Mo_tear 16 = .ok (.iconst 0, 1) := by decide +kernel
theorem dq_Mo_tear_17 : decode gc_Mo_tear 17 = .ok (.putfield 197, 3) := by decide +kernel
theorem dq_Mo_tear_20 : decode gc_Mo_tear 20 = .ok (.iload_n 1, 1) := by decide +kernel
theorem dq_Mo_tear_21 : decode gc_Mo_tear 21 = .ok (.ireturn, 1) := by decide +kernel
abbrev gm_Mo_tear : gM := (gc_Mo_tear, gR_7, 0, 0, 2)
def f_Mo_tear  (h : gH) : Option gO := gs (gup h 83 38 0) (fun h1 => gs (gup h1 83 42 0) (fun h2 => some (h2, (gadd (h 83 38) (h 83 42)))))
theorem c_Mo_tear {Z : gZ} (hL : gLive Z) (hn : (zL Z).Nodup)   {h : gH} {o : gO} (hg : gRg h) (ha : gRl [.inr (.inr 83)]) (hx : f_Mo_tear  h = some o) : gC Z gy_Mo_tear gc_Mo_tear 2 (some .int) 0 0 [.inr (.inr 83)] h o := by
  unfold f_Mo_tear at hx
  refine gC_of (lv := [(0, .inr (.inr 83))]) (own := gR_7) (by decide +kernel) rfl (Nat.le_of_ble_eq_true rfl) rfl rfl hn hg ha hx (fun X hZ hF => ?_)
  subst hZ
  show gr _ o gm_Mo_tear X h 0 _ _
  refine gr_aload_n (M := gm_Mo_tear) dq_Mo_tear_0 rfl 0 rfl 1 rfl ?_
  refine gr_geti (M := gm_Mo_tear) dq_Mo_tear_1 4 rfl gfl_Mo_194 gsh_83 rfl (gli hL gsh_83) ?_
  refine gr_aload_n (M := gm_Mo_tear) dq_Mo_tear_4 rfl 0 rfl 5 rfl ?_
  refine gr_geti (M := gm_Mo_tear) dq_Mo_tear_5 8 rfl gfl_Mo_197 gsh_83 rfl (gli hL gsh_83) ?_
  refine gr_iadd (M := gm_Mo_tear) dq_Mo_tear_8 9 rfl ?_
  refine gr_istore_n (M := gm_Mo_tear) (lv' := [(1, .inl (gadd (h 83 38) (h 83 42))), (0, .inr (.inr 83))]) dq_Mo_tear_9 rfl (by decide) rfl 10 rfl ?_
  refine gr_aload_n (M := gm_Mo_tear) dq_Mo_tear_10 rfl 1 rfl 11 rfl ?_
  refine gr_iconst (M := gm_Mo_tear) (v := 0) dq_Mo_tear_11 rfl ⟨by decide, by decide⟩ 12 rfl ?_
  refine gr_puti (M := gm_Mo_tear) dq_Mo_tear_12 15 rfl gfp_Mo_194 gsh_83 rfl (gli hL gsh_83) (fun h1 _ => ?_)
  refine gr_aload_n (M := gm_Mo_tear) dq_Mo_tear_15 rfl 1 rfl 16 rfl ?_
  refine gr_iconst (M := gm_Mo_tear) (v := 0) dq_Mo_tear_16 rfl ⟨by decide, by decide⟩ 17 rfl ?_
  refine gr_puti (M := gm_Mo_tear) dq_Mo_tear_17 20 rfl gfp_Mo_197 gsh_83 rfl (gli hL gsh_83) (fun h2 _ => ?_)
  refine gr_iload_n (M := gm_Mo_tear) dq_Mo_tear_20 rfl 0 rfl 21 rfl ?_
  exact gr_ireturn (M := gm_Mo_tear) dq_Mo_tear_21 hF

-- Mo_judge
theorem dq_Mo_judge_0 : decode gc_Mo_judge 0 = .ok (.iconst 0, 1) := by decide +kernel
theorem dq_Mo_judge_1 : decode gc_Mo_judge 1 = .ok (.istore_n 1, 1) := by decide +kernel
theorem dq_Mo_judge_2 : decode gc_Mo_judge 2 = .ok (.iload_n 1, 1) := by decide +kernel
theorem dq_Mo_judge_3 : decode gc_Mo_judge 3 = .ok (.aload_n 0, 1) := by decide +kernel
theorem dq_Mo_judge_4 : decode gc_Mo_judge 4 = .ok (.getfield 197, 3) := by decide +kernel
theorem dq_Mo_judge_7 : decode gc_Mo_judge 7 = .ok (.if_icmp .ge 49, 3) := by decide +kernel
theorem dq_Mo_judge_10 : decode gc_Mo_judge 10 = .ok (.aload_n 0, 1) := by decide +kernel
theorem dq_Mo_judge_11 : decode gc_Mo_judge 11 = .ok (.getfield 101, 3) := by decide +kernel
theorem dq_Mo_judge_14 : decode gc_Mo_judge 14 = .ok (.iload_n 1, 1) := by decide +kernel
theorem dq_Mo_judge_15 : decode gc_Mo_judge 15 = .ok (.iaload, 1) := by decide +kernel
theorem dq_Mo_judge_16 : decode gc_Mo_judge 16 = .ok (.istore_n 2, 1) := by decide +kernel
theorem dq_Mo_judge_17 : decode gc_Mo_judge 17 = .ok (.aload_n 0, 1) := by decide +kernel
theorem dq_Mo_judge_18 : decode gc_Mo_judge 18 = .ok (.getfield 34, 3) := by decide +kernel
theorem dq_Mo_judge_21 : decode gc_Mo_judge 21 = .ok (.bipush 26, 2) := by decide +kernel
theorem dq_Mo_judge_23 : decode gc_Mo_judge 23 = .ok (.iload_n 2, 1) := by decide +kernel
theorem dq_Mo_judge_24 : decode gc_Mo_judge 24 = .ok (.iadd, 1) := by decide +kernel
theorem dq_Mo_judge_25 : decode gc_Mo_judge 25 = .ok (.iaload, 1) := by decide +kernel
theorem dq_Mo_judge_26 : decode gc_Mo_judge 26 = .ok (.iconst 3, 1) := by decide +kernel
theorem dq_Mo_judge_27 : decode gc_Mo_judge 27 = .ok (.if_icmp .ne 21, 3) := by decide +kernel
theorem dq_Mo_judge_30 : decode gc_Mo_judge 30 = .ok (.aload_n 0, 1) := by decide +kernel
theorem dq_Mo_judge_31 : decode gc_Mo_judge 31 = .ok (.getfield 34, 3) := by decide +kernel
theorem dq_Mo_judge_34 : decode gc_Mo_judge 34 = .ok (.bipush 38, 2) := by decide +kernel
theorem dq_Mo_judge_36 : decode gc_Mo_judge 36 = .ok (.iload_n 2, 1) := by decide +kernel
theorem dq_Mo_judge_37 : decode gc_Mo_judge 37 = .ok (.iadd, 1) := by decide +kernel
theorem dq_Mo_judge_38 : decode gc_Mo_judge 38 = .ok (.iaload, 1) := by decide +kernel
theorem dq_Mo_judge_39 : decode gc_Mo_judge 39 = .ok (.aload_n 0, 1) := by decide +kernel
theorem dq_Mo_judge_40 : decode gc_Mo_judge 40 = .ok (.getfield 104, 3) := by decide +kernel
theorem dq_Mo_judge_43 : decode gc_Mo_judge 43 = .ok (.iload_n 1, 1) := by decide +kernel
theorem dq_Mo_judge_44 : decode gc_Mo_judge 44 = .ok (.iaload, 1) := by decide +kernel
theorem dq_Mo_judge_45 : decode gc_Mo_judge 45 = .ok (.if_icmp .eq 5, 3) := by decide +kernel
theorem dq_Mo_judge_48 : decode gc_Mo_judge 48 = .ok (.iload_n 1, 1) := by decide +kernel
theorem dq_Mo_judge_49 : decode gc_Mo_judge 49 = .ok (.ireturn, 1) := by decide +kernel
theorem dq_Mo_judge_50 : decode gc_Mo_judge 50 = .ok (.iinc 1 1, 3) := by decide +kernel
theorem dq_Mo_judge_53 : decode gc_Mo_judge 53 = .ok (.goto (-51), 3) := by decide +kernel
theorem dq_Mo_judge_56 : decode gc_Mo_judge 56 = .ok (.iconst (-1), 1) := by decide +kernel
theorem dq_Mo_judge_57 : decode gc_Mo_judge 57 = .ok (.ireturn, 1) := by decide +kernel
abbrev gm_Mo_judge : gM := (gc_Mo_judge, gR_7, 0, 0, 3)
def f_Mo_judge_L2  (k56 : gH → Option gO) : Nat → Int → gH → Option gO
  | 0, _, _ => none
  | n + 1, v1, h => if (h 83 42) ≤ v1 then (k56  h) else (gd (gix 15 v1) (gd (gix 50 (gadd 26 (h 112 v1.toNat))) (if (h 92 (gadd 26 (h 112 v1.toNat)).toNat) = 3 then (gd (gix 50 (gadd 38 (h 112 v1.toNat))) (gd (gix 15 v1) (if (h 92 (gadd 38 (h 112 v1.toNat)).toNat) = (h 113 v1.toNat) then (f_Mo_judge_L2 k56 n (gadd v1 1) h) else (some (h, v1))))) else (some (h, v1)))))
theorem w_Mo_judge_L2 {o : gO} {X : gX} (hL : gLive (xZ X)) (hn : (zL (xZ X)).Nodup) (hF : gFin X (some .int) o)    {k56 : gH → Option gO} (hk56 : ∀ (h : gH), gr (k56 h) o gm_Mo_judge X h 56 [] []) : ∀ (n : Nat) (v1 : Int) (h : gH), gr (f_Mo_judge_L2  k56 n v1 h) o gm_Mo_judge X h 2 [(0, .inr (.inr 83)), (1, .inl v1)] [] := by
  intro n
  induction n with
  | zero => intros; exact gr_none
  | succ n ih =>
    intro v1 h
    unfold f_Mo_judge_L2
    refine gr_iload_n (M := gm_Mo_judge) dq_Mo_judge_2 rfl 1 rfl 3 rfl ?_
    refine gr_aload_n (M := gm_Mo_judge) dq_Mo_judge_3 rfl 0 rfl 4 rfl ?_
    refine gr_geti (M := gm_Mo_judge) dq_Mo_judge_4 7 rfl gfl_Mo_197 gsh_83 rfl (gli hL gsh_83) ?_
    refine gr_icmp_ge (M := gm_Mo_judge) dq_Mo_judge_7 56 10 rfl rfl (fun c1 => ?_) (fun c1 => ?_)
    · refine gr_sub (M := gm_Mo_judge) (lv' := []) [] rfl ?_
      exact hk56  _
    refine gr_aload_n (M := gm_Mo_judge) dq_Mo_judge_10 rfl 0 rfl 11 rfl ?_
    refine gr_getr (M := gm_Mo_judge) dq_Mo_judge_11 14 rfl gfl_Mo_101 gsh_83 rfl (gli hL gsh_83) 112 rfl ?_
    refine gr_iload_n (M := gm_Mo_judge) dq_Mo_judge_14 rfl 1 rfl 15 rfl ?_
    refine gr_iald (M := gm_Mo_judge) dq_Mo_judge_15 16 rfl gsh_112 (glj hL gsh_112 (by decide)) ?_
    refine gr_istore_n (M := gm_Mo_judge) (lv' := [(2, .inl (h 112 v1.toNat)), (0, .inr (.inr 83)), (1, .inl v1)]) dq_Mo_judge_16 rfl (by decide) rfl 17 rfl ?_
    refine gr_aload_n (M := gm_Mo_judge) dq_Mo_judge_17 rfl 1 rfl 18 rfl ?_
    refine gr_getr (M := gm_Mo_judge) dq_Mo_judge_18 21 rfl gfl_Mo_34 gsh_83 rfl (gli hL gsh_83) 92 rfl ?_
    refine gr_bipush (M := gm_Mo_judge) (v := 26) dq_Mo_judge_21 (by decide) ⟨by decide, by decide⟩ 23 rfl ?_
    refine gr_iload_n (M := gm_Mo_judge) dq_Mo_judge_23 rfl 0 rfl 24 rfl ?_
    refine gr_iadd (M := gm_Mo_judge) dq_Mo_judge_24 25 rfl ?_
    refine gr_iald (M := gm_Mo_judge) dq_Mo_judge_25 26 rfl gsh_92 (glj hL gsh_92 (by decide)) ?_
    refine gr_iconst (M := gm_Mo_judge) (v := 3) dq_Mo_judge_26 rfl ⟨by decide, by decide⟩ 27 rfl ?_
    refine gr_icmp_ne (M := gm_Mo_judge) dq_Mo_judge_27 48 30 rfl rfl (fun c2 => ?_) (fun c2 => ?_)
    · refine gr_iload_n (M := gm_Mo_judge) dq_Mo_judge_48 rfl 2 rfl 49 rfl ?_
      exact gr_ireturn (M := gm_Mo_judge) dq_Mo_judge_49 hF
    refine gr_aload_n (M := gm_Mo_judge) dq_Mo_judge_30 rfl 1 rfl 31 rfl ?_
    refine gr_getr (M := gm_Mo_judge) dq_Mo_judge_31 34 rfl gfl_Mo_34 gsh_83 rfl (gli hL gsh_83) 92 rfl ?_
    refine gr_bipush (M := gm_Mo_judge) (v := 38) dq_Mo_judge_34 (by decide) ⟨by decide, by decide⟩ 36 rfl ?_
    refine gr_iload_n (M := gm_Mo_judge) dq_Mo_judge_36 rfl 0 rfl 37 rfl ?_
    refine gr_iadd (M := gm_Mo_judge) dq_Mo_judge_37 38 rfl ?_
    refine gr_iald (M := gm_Mo_judge) dq_Mo_judge_38 39 rfl gsh_92 (glj hL gsh_92 (by decide)) ?_
    refine gr_aload_n (M := gm_Mo_judge) dq_Mo_judge_39 rfl 1 rfl 40 rfl ?_
    refine gr_getr (M := gm_Mo_judge) dq_Mo_judge_40 43 rfl gfl_Mo_104 gsh_83 rfl (gli hL gsh_83) 113 rfl ?_
    refine gr_iload_n (M := gm_Mo_judge) dq_Mo_judge_43 rfl 2 rfl 44 rfl ?_
    refine gr_iald (M := gm_Mo_judge) dq_Mo_judge_44 45 rfl gsh_113 (glj hL gsh_113 (by decide)) ?_
    refine gr_icmp_eq (M := gm_Mo_judge) dq_Mo_judge_45 50 48 rfl rfl (fun c3 => ?_) (fun c3 => ?_)
    · refine gr_iinc (M := gm_Mo_judge) (lv' := [(1, .inl (gadd v1 1)), (2, .inl (h 112 v1.toNat)), (0, .inr (.inr 83))]) dq_Mo_judge_50 2 rfl rfl (by decide) rfl 53 rfl ?_
      refine gr_goto (M := gm_Mo_judge) dq_Mo_judge_53 2 rfl ?_
      refine gr_sub (M := gm_Mo_judge) (lv' := [(0, .inr (.inr 83)), (1, .inl (gadd v1 1))]) [2, 0] rfl ?_
      exact ih _ _
    refine gr_iload_n (M := gm_Mo_judge) dq_Mo_judge_48 rfl 2 rfl 49 rfl ?_
    exact gr_ireturn (M := gm_Mo_judge) dq_Mo_judge_49 hF

def f_Mo_judge  (h : gH) : Option gO := f_Mo_judge_L2  (fun  h4 => some (h4, (-1))) 50000 0 h
theorem c_Mo_judge {Z : gZ} (hL : gLive Z) (hn : (zL Z).Nodup)   {h : gH} {o : gO} (hg : gRg h) (ha : gRl [.inr (.inr 83)]) (hx : f_Mo_judge  h = some o) : gC Z gy_Mo_judge gc_Mo_judge 3 (some .int) 0 0 [.inr (.inr 83)] h o := by
  unfold f_Mo_judge at hx
  refine gC_of (lv := [(0, .inr (.inr 83))]) (own := gR_7) (by decide +kernel) rfl (Nat.le_of_ble_eq_true rfl) rfl rfl hn hg ha hx (fun X hZ hF => ?_)
  subst hZ
  show gr _ o gm_Mo_judge X h 0 _ _
  refine gr_iconst (M := gm_Mo_judge) (v := 0) dq_Mo_judge_0 rfl ⟨by decide, by decide⟩ 1 rfl ?_
  refine gr_istore_n (M := gm_Mo_judge) (lv' := [(1, .inl 0), (0, .inr (.inr 83))]) dq_Mo_judge_1 rfl (by decide) rfl 2 rfl ?_
  refine gr_sub (M := gm_Mo_judge) (lv' := [(0, .inr (.inr 83)), (1, .inl 0)]) [1, 0] rfl ?_
  refine w_Mo_judge_L2 hL hn hF   (fun h4 => ?_) 50000 _ _
  refine gr_iconst (M := gm_Mo_judge) (v := (-1)) dq_Mo_judge_56 rfl ⟨by decide, by decide⟩ 57 rfl ?_
  exact gr_ireturn (M := gm_Mo_judge) dq_Mo_judge_57 hF

-- Mo_seed
theorem dq_Mo_seed_0 : decode gc_Mo_seed 0 = .ok (.iload_n 1, 1) := by decide +kernel
theorem dq_Mo_seed_1 : decode gc_Mo_seed 1 = .ok (.ifCond .ge 6, 3) := by decide +kernel
theorem dq_Mo_seed_4 : decode gc_Mo_seed 4 = .ok (.ldc 129, 2) := by decide +kernel
theorem dq_Mo_seed_6 : decode gc_Mo_seed 6 = .ok (.ireturn, 1) := by decide +kernel
theorem dq_Mo_seed_7 : decode gc_Mo_seed 7 = .ok (.aload_n 0, 1) := by decide +kernel
theorem dq_Mo_seed_8 : decode gc_Mo_seed 8 = .ok (.getfield 280, 3) := by decide +kernel
theorem dq_Mo_seed_11 : decode gc_Mo_seed 11 = .ok (.istore_n 2, 1) := by decide +kernel
theorem dq_Mo_seed_12 : decode gc_Mo_seed 12 = .ok (.aload_n 0, 1) := by decide +kernel
theorem dq_Mo_seed_13 : decode gc_Mo_seed 13 = .ok (.iload_n 1, 1) := by decide +kernel
theorem dq_Mo_seed_14 : decode gc_Mo_seed 14 = .ok (.putfield 280, 3) := by decide +kernel
theorem dq_Mo_seed_17 : decode gc_Mo_seed 17 = .ok (.iload_n 2, 1) := by decide +kernel
theorem dq_Mo_seed_18 : decode gc_Mo_seed 18 = .ok (.ireturn, 1) := by decide +kernel
abbrev gm_Mo_seed : gM := (gc_Mo_seed, gR_7, 0, 0, 3)
def f_Mo_seed (a1 : Int) (h : gH) : Option gO := if 0 ≤ a1 then (gs (gup h 83 13 a1) (fun h2 => some (h2, (h 83 13)))) else (some (h, (-1000000002)))
theorem c_Mo_seed {Z : gZ} (hL : gLive Z) (hn : (zL Z).Nodup) {a1 : Int}  {h : gH} {o : gO} (hg : gRg h) (ha : gRl [.inr (.inr 83), .inl a1]) (hx : f_Mo_seed a1 h = some o) : gC Z gy_Mo_seed gc_Mo_seed 3 (some .int) 0 0 [.inr (.inr 83), .inl a1] h o := by
  unfold f_Mo_seed at hx
  refine gC_of (lv := [(0, .inr (.inr 83)), (1, .inl a1)]) (own := gR_7) (by decide +kernel) rfl (Nat.le_of_ble_eq_true rfl) rfl rfl hn hg ha hx (fun X hZ hF => ?_)
  subst hZ
  show gr _ o gm_Mo_seed X h 0 _ _
  refine gr_iload_n (M := gm_Mo_seed) dq_Mo_seed_0 rfl 1 rfl 1 rfl ?_
  refine gr_if_ge (M := gm_Mo_seed) dq_Mo_seed_1 7 4 rfl rfl (fun c1 => ?_) (fun c1 => ?_)
  · refine gr_aload_n (M := gm_Mo_seed) dq_Mo_seed_7 rfl 0 rfl 8 rfl ?_
    refine gr_geti (M := gm_Mo_seed) dq_Mo_seed_8 11 rfl gfl_Mo_280 gsh_83 rfl (gli hL gsh_83) ?_
    refine gr_istore_n (M := gm_Mo_seed) (lv' := [(2, .inl (h 83 13)), (0, .inr (.inr 83)), (1, .inl a1)]) dq_Mo_seed_11 rfl (by decide) rfl 12 rfl ?_
    refine gr_aload_n (M := gm_Mo_seed) dq_Mo_seed_12 rfl 1 rfl 13 rfl ?_
    refine gr_iload_n (M := gm_Mo_seed) dq_Mo_seed_13 rfl 2 rfl 14 rfl ?_
    refine gr_puti (M := gm_Mo_seed) dq_Mo_seed_14 17 rfl gfp_Mo_280 gsh_83 rfl (gli hL gsh_83) (fun h2 _ => ?_)
    refine gr_iload_n (M := gm_Mo_seed) dq_Mo_seed_17 rfl 0 rfl 18 rfl ?_
    exact gr_ireturn (M := gm_Mo_seed) dq_Mo_seed_18 hF
  refine gr_ldc (M := gm_Mo_seed) (v := (-1000000002)) dq_Mo_seed_4 gk_Mo_129 ⟨by decide, by decide⟩ 6 rfl ?_
  exact gr_ireturn (M := gm_Mo_seed) dq_Mo_seed_6 hF

-- Mo_keep
theorem dq_Mo_keep_0 : decode gc_Mo_keep 0 = .ok (.iload_n 1, 1) := by decide +kernel
theorem dq_Mo_keep_1 : decode gc_Mo_keep 1 = .ok (.i2l, 1) := by decide +kernel
theorem dq_Mo_keep_2 : decode gc_Mo_keep 2 = .ok (.lconst 0, 1) := by decide +kernel
theorem dq_Mo_keep_3 : decode gc_Mo_keep 3 = .ok (.lconst 1, 1) := by decide +kernel
theorem dq_Mo_keep_4 : decode gc_Mo_keep 4 = .ok (.invokestatic 117, 3) := by decide +kernel
theorem dq_Mo_keep_7 : decode gc_Mo_keep 7 = .ok (.ifCond .ne 6, 3) := by decide +kernel
theorem dq_Mo_keep_10 : decode gc_Mo_keep 10 = .ok (.ldc 208, 2) := by decide +kernel
theorem dq_Mo_keep_12 : decode gc_Mo_keep 12 = .ok (.ireturn, 1) := by decide +kernel
theorem dq_Mo_keep_13 : decode gc_Mo_keep 13 = .ok (.iconst 0, 1) := by decide +kernel
theorem dq_Mo_keep_14 : decode gc_Mo_keep 14 = .ok (.istore_n 2, 1) := by decide +kernel
theorem dq_Mo_keep_15 : decode gc_Mo_keep 15 = .ok (.iload_n 2, 1) := by decide +kernel
theorem dq_Mo_keep_16 : decode gc_Mo_keep 16 = .ok (.bipush 50, 2) := by decide +kernel
theorem dq_Mo_keep_18 : decode gc_Mo_keep 18 = .ok (.if_icmp .ge 26, 3) := by decide +kernel
theorem dq_Mo_keep_21 : decode gc_Mo_keep 21 = .ok (.aload_n 0, 1) := by decide +kernel
theorem dq_Mo_keep_22 : decode gc_Mo_keep 22 = .ok (.getfield 107, 3) := by decide +kernel
theorem dq_Mo_keep_25 : decode gc_Mo_keep 25 = .ok (.bipush 51, 2) := by decide +kernel
theorem dq_Mo_keep_27 : decode gc_Mo_keep 27 = .ok (.iload_n 1, 1) := by decide +kernel
theorem dq_Mo_keep_28 : decode gc_Mo_keep 28 = .ok (.imul, 1) := by decide +kernel
theorem dq_Mo_keep_29 : decode gc_Mo_keep 29 = .ok (.iload_n 2, 1) := by decide +kernel
theorem dq_Mo_keep_30 : decode gc_Mo_keep 30 = .ok (.iadd, 1) := by decide +kernel
theorem dq_Mo_keep_31 : decode gc_Mo_keep 31 = .ok (.aload_n 0, 1) := by decide +kernel
theorem dq_Mo_keep_32 : decode gc_Mo_keep 32 = .ok (.getfield 34, 3) := by decide +kernel
theorem dq_Mo_keep_35 : decode gc_Mo_keep 35 = .ok (.iload_n 2, 1) := by decide +kernel
theorem dq_Mo_keep_36 : decode gc_Mo_keep 36 = .ok (.iaload, 1) := by decide +kernel
theorem dq_Mo_keep_37 : decode gc_Mo_keep 37 = .ok (.iastore, 1) := by decide +kernel
theorem dq_Mo_keep_38 : decode gc_Mo_keep 38 = .ok (.iinc 2 1, 3) := by decide +kernel
theorem dq_Mo_keep_41 : decode gc_Mo_keep 41 = .ok (.goto (-26), 3) := by decide +kernel
theorem dq_Mo_keep_44 : decode gc_Mo_keep 44 = .ok (.aload_n 0, 1) := by decide +kernel
theorem dq_Mo_keep_45 : decode gc_Mo_keep 45 = .ok (.getfield 107, 3) := by decide +kernel
theorem dq_Mo_keep_48 : decode gc_Mo_keep 48 = .ok (.bipush 51, 2) := by decide +kernel
theorem dq_Mo_keep_50 : decode gc_Mo_keep 50 = .ok (.iload_n 1, 1) := by decide +kernel
theorem dq_Mo_keep_51 : decode gc_Mo_keep 51 = .ok (.imul, 1) := by decide +kernel
theorem dq_Mo_keep_52 : decode gc_Mo_keep 52 = .ok (.bipush 50, 2) := by decide +kernel
theorem dq_Mo_keep_54 : decode gc_Mo_keep 54 = .ok (.iadd, 1) := by decide +kernel
theorem dq_Mo_keep_55 : decode gc_Mo_keep 55 = .ok (.aload_n 0, 1) := by decide +kernel
theorem dq_Mo_keep_56 : decode gc_Mo_keep 56 = .ok (.getfield 280, 3) := by decide +kernel
theorem dq_Mo_keep_59 : decode gc_Mo_keep 59 = .ok (.iastore, 1) := by decide +kernel
theorem dq_Mo_keep_60 : decode gc_Mo_keep 60 = .ok (.aload_n 0, 1) := by decide +kernel
theorem dq_Mo_keep_61 : decode gc_Mo_keep 61 = .ok (.getfield 110, 3) := by decide +kernel
theorem dq_Mo_keep_64 : decode gc_Mo_keep 64 = .ok (.iload_n 1, 1) := by decide +kernel
theorem dq_Mo_keep_65 : decode gc_Mo_keep 65 = .ok (.iconst 1, 1) := by decide +kernel
theorem dq_Mo_keep_66 : decode gc_Mo_keep 66 = .ok (.bastore, 1) := by decide +kernel
theorem dq_Mo_keep_67 : decode gc_Mo_keep 67 = .ok (.iconst 1, 1) := by decide +kernel
theorem dq_Mo_keep_68 : decode gc_Mo_keep 68 = .ok (.ireturn, 1) := by decide +kernel
abbrev gm_Mo_keep : gM := (gc_Mo_keep, gR_7, 1, 25, 3)
theorem gfl_Mo_107 : gFl gR_7 107 7 45 := ⟨_, _, _, rfl, by decide, (gtab_at 779 (by decide +kernel) rfl), gin_7⟩
def f_Mo_keep_L15 (v1 : Int) (k44 : gH → Option gO) : Nat → Int → gH → Option gO
  | 0, _, _ => none
  | n + 1, v2, h => if 50 ≤ v2 then (k44  h) else (gd (gix 50 v2) (gd (gix 102 (gadd (gmul 51 v1) v2)) (gs (gup h 114 (gadd (gmul 51 v1) v2).toNat (h 92 v2.toNat)) (fun h5 => f_Mo_keep_L15 v1 k44 n (gadd v2 1) h5))))
theorem w_Mo_keep_L15 {o : gO} {X : gX} (hL : gLive (xZ X)) (hn : (zL (xZ X)).Nodup) (hF : gFin X (some .int) o) {v1 : Int}   {k44 : gH → Option gO} (hk44 : ∀ (h : gH), gr (k44 h) o gm_Mo_keep X h 44 [(0, .inr (.inr 83)), (1, .inl v1)] []) : ∀ (n : Nat) (v2 : Int) (h : gH), gr (f_Mo_keep_L15 v1 k44 n v2 h) o gm_Mo_keep X h 15 [(0, .inr (.inr 83)), (1, .inl v1), (2, .inl v2)] [] := by
  intro n
  induction n with
  | zero => intros; exact gr_none
  | succ n ih =>
    intro v2 h
    unfold f_Mo_keep_L15
    refine gr_iload_n (M := gm_Mo_keep) dq_Mo_keep_15 rfl 2 rfl 16 rfl ?_
    refine gr_bipush (M := gm_Mo_keep) (v := 50) dq_Mo_keep_16 (by decide) ⟨by decide, by decide⟩ 18 rfl ?_
    refine gr_icmp_ge (M := gm_Mo_keep) dq_Mo_keep_18 44 21 rfl rfl (fun c4 => ?_) (fun c4 => ?_)
    · refine gr_sub (M := gm_Mo_keep) (lv' := [(0, .inr (.inr 83)), (1, .inl v1)]) [0, 1] rfl ?_
      exact hk44  _
    refine gr_aload_n (M := gm_Mo_keep) dq_Mo_keep_21 rfl 0 rfl 22 rfl ?_
    refine gr_getr (M := gm_Mo_keep) dq_Mo_keep_22 25 rfl gfl_Mo_107 gsh_83 rfl (gli hL gsh_83) 114 rfl ?_
    refine gr_bipush (M := gm_Mo_keep) (v := 51) dq_Mo_keep_25 (by decide) ⟨by decide, by decide⟩ 27 rfl ?_
    refine gr_iload_n (M := gm_Mo_keep) dq_Mo_keep_27 rfl 1 rfl 28 rfl ?_
    refine gr_imul (M := gm_Mo_keep) dq_Mo_keep_28 29 rfl ?_
    refine gr_iload_n (M := gm_Mo_keep) dq_Mo_keep_29 rfl 2 rfl 30 rfl ?_
    refine gr_iadd (M := gm_Mo_keep) dq_Mo_keep_30 31 rfl ?_
    refine gr_aload_n (M := gm_Mo_keep) dq_Mo_keep_31 rfl 0 rfl 32 rfl ?_
    refine gr_getr (M := gm_Mo_keep) dq_Mo_keep_32 35 rfl gfl_Mo_34 gsh_83 rfl (gli hL gsh_83) 92 rfl ?_
    refine gr_iload_n (M := gm_Mo_keep) dq_Mo_keep_35 rfl 2 rfl 36 rfl ?_
    refine gr_iald (M := gm_Mo_keep) dq_Mo_keep_36 37 rfl gsh_92 (glj hL gsh_92 (by decide)) ?_
    refine gr_iast (M := gm_Mo_keep) dq_Mo_keep_37 38 rfl gsh_114 (glj hL gsh_114 (by decide)) (fun h5 _ => ?_)
    refine gr_iinc (M := gm_Mo_keep) (lv' := [(2, .inl (gadd v2 1)), (0, .inr (.inr 83)), (1, .inl v1)]) dq_Mo_keep_38 2 rfl rfl (by decide) rfl 41 rfl ?_
    refine gr_goto (M := gm_Mo_keep) dq_Mo_keep_41 15 rfl ?_
    refine gr_sub (M := gm_Mo_keep) (lv' := [(0, .inr (.inr 83)), (1, .inl v1), (2, .inl (gadd v2 1))]) [1, 2, 0] rfl ?_
    exact ih _ _

def f_Mo_keep (a1 : Int) (h : gH) : Option gO := gb (f_Mo_in a1 0 1 h) (fun h1 r2 => if r2 = 0 then (some (h1, (-1000000001))) else (f_Mo_keep_L15 a1 (fun  h6 => gd (gix 102 (gadd (gmul 51 a1) 50)) (gs (gup h6 114 (gadd (gmul 51 a1) 50).toNat (h6 83 13)) (fun h7 => gd (gix 2 a1) (gs (gup h7 115 a1.toNat 1) (fun h8 => some (h8, 1)))))) 50000 0 h1))
theorem c_Mo_keep {Z : gZ} (hL : gLive Z) (hn : (zL Z).Nodup) {a1 : Int}  {h : gH} {o : gO} (hg : gRg h) (ha : gRl [.inr (.inr 83), .inl a1]) (hx : f_Mo_keep a1 h = some o) : gC Z gy_Mo_keep gc_Mo_keep 3 (some .int) 1 25 [.inr (.inr 83), .inl a1] h o := by
  unfold f_Mo_keep at hx
  refine gC_of (lv := [(0, .inr (.inr 83)), (1, .inl a1)]) (own := gR_7) (by decide +kernel) rfl (Nat.le_of_ble_eq_true rfl) rfl rfl hn hg ha hx (fun X hZ hF => ?_)
  subst hZ
  show gr _ o gm_Mo_keep X h 0 _ _
  refine gr_iload_n (M := gm_Mo_keep) dq_Mo_keep_0 rfl 1 rfl 1 rfl ?_
  refine gr_i2l (M := gm_Mo_keep) dq_Mo_keep_1 2 rfl ?_
  refine gr_lconst (M := gm_Mo_keep) (v := 0) dq_Mo_keep_2 (by decide) ⟨by decide, by decide⟩ 3 rfl ?_
  refine gr_lconst (M := gm_Mo_keep) (v := 1) dq_Mo_keep_3 (by decide) ⟨by decide, by decide⟩ 4 rfl ?_
  refine gr_callSi (M := gm_Mo_keep) (as := [.inr (.inl a1), .inr (.inl 0), .inr (.inl 1)]) dq_Mo_keep_4 7 rfl rfl gcy_Mo_117 gst_Mo_in ⟨by decide, by decide⟩ (Nat.le_of_ble_eq_true rfl) (fun o1 hg ha hx => c_Mo_in hL hn  hg ha hx) (fun h1 r2 _ => ?_)
  refine gr_if_ne (M := gm_Mo_keep) dq_Mo_keep_7 13 10 rfl rfl (fun c3 => ?_) (fun c3 => ?_)
  · refine gr_iconst (M := gm_Mo_keep) (v := 0) dq_Mo_keep_13 rfl ⟨by decide, by decide⟩ 14 rfl ?_
    refine gr_istore_n (M := gm_Mo_keep) (lv' := [(2, .inl 0), (0, .inr (.inr 83)), (1, .inl a1)]) dq_Mo_keep_14 rfl (by decide) rfl 15 rfl ?_
    refine gr_sub (M := gm_Mo_keep) (lv' := [(0, .inr (.inr 83)), (1, .inl a1), (2, .inl 0)]) [1, 2, 0] rfl ?_
    refine w_Mo_keep_L15 hL hn hF   (fun h6 => ?_) 50000 _ _
    refine gr_aload_n (M := gm_Mo_keep) dq_Mo_keep_44 rfl 0 rfl 45 rfl ?_
    refine gr_getr (M := gm_Mo_keep) dq_Mo_keep_45 48 rfl gfl_Mo_107 gsh_83 rfl (gli hL gsh_83) 114 rfl ?_
    refine gr_bipush (M := gm_Mo_keep) (v := 51) dq_Mo_keep_48 (by decide) ⟨by decide, by decide⟩ 50 rfl ?_
    refine gr_iload_n (M := gm_Mo_keep) dq_Mo_keep_50 rfl 1 rfl 51 rfl ?_
    refine gr_imul (M := gm_Mo_keep) dq_Mo_keep_51 52 rfl ?_
    refine gr_bipush (M := gm_Mo_keep) (v := 50) dq_Mo_keep_52 (by decide) ⟨by decide, by decide⟩ 54 rfl ?_
    refine gr_iadd (M := gm_Mo_keep) dq_Mo_keep_54 55 rfl ?_
    refine gr_aload_n (M := gm_Mo_keep) dq_Mo_keep_55 rfl 0 rfl 56 rfl ?_
    refine gr_geti (M := gm_Mo_keep) dq_Mo_keep_56 59 rfl gfl_Mo_280 gsh_83 rfl (gli hL gsh_83) ?_
    refine gr_iast (M := gm_Mo_keep) dq_Mo_keep_59 60 rfl gsh_114 (glj hL gsh_114 (by decide)) (fun h7 _ => ?_)
    refine gr_aload_n (M := gm_Mo_keep) dq_Mo_keep_60 rfl 0 rfl 61 rfl ?_
    refine gr_getr (M := gm_Mo_keep) dq_Mo_keep_61 64 rfl gfl_Mo_110 gsh_83 rfl (gli hL gsh_83) 115 rfl ?_
    refine gr_iload_n (M := gm_Mo_keep) dq_Mo_keep_64 rfl 1 rfl 65 rfl ?_
    refine gr_iconst (M := gm_Mo_keep) (v := 1) dq_Mo_keep_65 rfl ⟨by decide, by decide⟩ 66 rfl ?_
    refine gr_zast (M := gm_Mo_keep) dq_Mo_keep_66 (by decide) 67 rfl gsh_115 (glj hL gsh_115 (by decide)) (fun h8 _ => ?_)
    refine gr_iconst (M := gm_Mo_keep) (v := 1) dq_Mo_keep_67 rfl ⟨by decide, by decide⟩ 68 rfl ?_
    exact gr_ireturn (M := gm_Mo_keep) dq_Mo_keep_68 hF
  refine gr_ldc (M := gm_Mo_keep) (v := (-1000000001)) dq_Mo_keep_10 gk_Mo_208 ⟨by decide, by decide⟩ 12 rfl ?_
  exact gr_ireturn (M := gm_Mo_keep) dq_Mo_keep_12 hF

-- Mo_goBack
theorem dq_Mo_goBack_0 : decode gc_Mo_goBack 0 = .ok (.iload_n 1, 1) := by decide +kernel
theorem dq_Mo_goBack_1 : decode gc_Mo_goBack 1 = .ok (.i2l, 1) := by decide +kernel
theorem dq_Mo_goBack_2 : decode gc_Mo_goBack 2 = .ok (.lconst 0, 1) := by decide +kernel
theorem dq_Mo_goBack_3 : decode gc_Mo_goBack 3 = .ok (.lconst 1, 1) := by decide +kernel
theorem dq_Mo_goBack_4 : decode gc_Mo_goBack 4 = .ok (.invokestatic 117, 3) := by decide +kernel
theorem dq_Mo_goBack_7 : decode gc_Mo_goBack 7 = .ok (.ifCond .ne 6, 3) := by decide +kernel
theorem dq_Mo_goBack_10 : decode gc_Mo_goBack 10 = .ok (.ldc 208, 2) := by decide +kernel
theorem dq_Mo_goBack_12 : decode gc_Mo_goBack 12 = .ok (.ireturn, 1) := by decide +kernel
theorem dq_Mo_goBack_13 : decode gc_Mo_goBack 13 = .ok (.aload_n 0, 1) := by decide +kernel
theorem dq_Mo_goBack_14 : decode gc_Mo_goBack 14 = .ok (.getfield 110, 3) := by decide +kernel
theorem dq_Mo_goBack_17 : decode gc_Mo_goBack 17 = .ok (.iload_n 1, 1) := by decide +kernel
theorem dq_Mo_goBack_18 : decode gc_Mo_goBack 18 = .ok (.baload, 1) := by decide +kernel
theorem dq_Mo_goBack_19 : decode gc_Mo_goBack 19 = .ok (.ifCond .ne 7, 3) := by decide +kernel
theorem dq_Mo_goBack_22 : decode gc_Mo_goBack 22 = .ok (.ldc_w 269, 3) := by decide +kernel
theorem dq_Mo_goBack_25 : decode gc_Mo_goBack 25 = .ok (.ireturn, 1) := by decide +kernel
theorem dq_Mo_goBack_26 : decode gc_Mo_goBack 26 = .ok (.iconst 0, 1) := by decide +kernel
theorem dq_Mo_goBack_27 : decode gc_Mo_goBack 27 = .ok (.istore_n 2, 1) := by decide +kernel
theorem dq_Mo_goBack_28 : decode gc_Mo_goBack 28 = .ok (.iload_n 2, 1) := by decide +kernel
theorem dq_Mo_goBack_29 : decode gc_Mo_goBack 29 = .ok (.bipush 50, 2) := by decide +kernel
theorem dq_Mo_goBack_31 : decode gc_Mo_goBack 31 = .ok (.if_icmp .ge 26, 3) := by decide +kernel
theorem dq_Mo_goBack_34 : decode gc_Mo_goBack 34 = .ok (.aload_n 0, 1) := by decide +kernel
theorem dq_Mo_goBack_35 : decode gc_Mo_goBack 35 = .ok (.getfield 34, 3) := by decide +kernel
theorem dq_Mo_goBack_38 : decode gc_Mo_goBack 38 = .ok (.iload_n 2, 1) := by decide +kernel
theorem dq_Mo_goBack_39 : decode gc_Mo_goBack 39 = .ok (.aload_n 0, 1) := by decide +kernel
theorem dq_Mo_goBack_40 : decode gc_Mo_goBack 40 = .ok (.getfield 107, 3) := by decide +kernel
theorem dq_Mo_goBack_43 : decode gc_Mo_goBack 43 = .ok (.bipush 51, 2) := by decide +kernel
theorem dq_Mo_goBack_45 : decode gc_Mo_goBack 45 = .ok (.iload_n 1, 1) := by decide +kernel
theorem dq_Mo_goBack_46 : decode gc_Mo_goBack 46 = .ok (.imul, 1) := by decide +kernel
theorem dq_Mo_goBack_47 : decode gc_Mo_goBack 47 = .ok (.iload_n 2, 1) := by decide +kernel
theorem dq_Mo_goBack_48 : decode gc_Mo_goBack 48 = .ok (.iadd, 1) := by decide +kernel
theorem dq_Mo_goBack_49 : decode gc_Mo_goBack 49 = .ok (.iaload, 1) := by decide +kernel
theorem dq_Mo_goBack_50 : decode gc_Mo_goBack 50 = .ok (.iastore, 1) := by decide +kernel
theorem dq_Mo_goBack_51 : decode gc_Mo_goBack 51 = .ok (.iinc 2 1, 3) := by decide +kernel
theorem dq_Mo_goBack_54 : decode gc_Mo_goBack 54 = .ok (.goto (-26), 3) := by decide +kernel
theorem dq_Mo_goBack_57 : decode gc_Mo_goBack 57 = .ok (.aload_n 0, 1) := by decide +kernel
theorem dq_Mo_goBack_58 : decode gc_Mo_goBack 58 = .ok (.aload_n 0, 1) := by decide +kernel
theorem dq_Mo_goBack_59 : decode gc_Mo_goBack 59 = .ok (.getfield 107, 3) := by decide +kernel
theorem dq_Mo_goBack_62 : decode gc_Mo_goBack 62 = .ok (.bipush 51, 2) := by decide +kernel
theorem dq_Mo_goBack_64 : decode gc_Mo_goBack 64 = .ok (.iload_n 1, 1) := by decide +kernel
theorem dq_Mo_goBack_65 : decode gc_Mo_goBack 65 = .ok (.imul, 1) := by decide +kernel
theorem dq_Mo_goBack_66 : decode gc_Mo_goBack 66 = .ok (.bipush 50, 2) := by decide +kernel
theorem dq_Mo_goBack_68 : decode gc_Mo_goBack 68 = .ok (.iadd, 1) := by decide +kernel
theorem dq_Mo_goBack_69 : decode gc_Mo_goBack 69 = .ok (.iaload, 1) := by decide +kernel
theorem dq_Mo_goBack_70 : decode gc_Mo_goBack 70 = .ok (.putfield 280, 3) := by decide +kernel
theorem dq_Mo_goBack_73 : decode gc_Mo_goBack 73 = .ok (.iconst 1, 1) := by decide +kernel
theorem dq_Mo_goBack_74 : decode gc_Mo_goBack 74 = .ok (.ireturn, 1) := by decide +kernel
abbrev gm_Mo_goBack : gM := (gc_Mo_goBack, gR_7, 1, 25, 3)
def f_Mo_goBack_L28 (v1 : Int) (k57 : gH → Option gO) : Nat → Int → gH → Option gO
  | 0, _, _ => none
  | n + 1, v2, h => if 50 ≤ v2 then (k57  h) else (gd (gix 102 (gadd (gmul 51 v1) v2)) (gd (gix 50 v2) (gs (gup h 92 v2.toNat (h 114 (gadd (gmul 51 v1) v2).toNat)) (fun h6 => f_Mo_goBack_L28 v1 k57 n (gadd v2 1) h6))))
theorem w_Mo_goBack_L28 {o : gO} {X : gX} (hL : gLive (xZ X)) (hn : (zL (xZ X)).Nodup) (hF : gFin X (some .int) o) {v1 : Int}   {k57 : gH → Option gO} (hk57 : ∀ (h : gH), gr (k57 h) o gm_Mo_goBack X h 57 [(0, .inr (.inr 83)), (1, .inl v1)] []) : ∀ (n : Nat) (v2 : Int) (h : gH), gr (f_Mo_goBack_L28 v1 k57 n v2 h) o gm_Mo_goBack X h 28 [(0, .inr (.inr 83)), (1, .inl v1), (2, .inl v2)] [] := by
  intro n
  induction n with
  | zero => intros; exact gr_none
  | succ n ih =>
    intro v2 h
    unfold f_Mo_goBack_L28
    refine gr_iload_n (M := gm_Mo_goBack) dq_Mo_goBack_28 rfl 2 rfl 29 rfl ?_
    refine gr_bipush (M := gm_Mo_goBack) (v := 50) dq_Mo_goBack_29 (by decide) ⟨by decide, by decide⟩ 31 rfl ?_
    refine gr_icmp_ge (M := gm_Mo_goBack) dq_Mo_goBack_31 57 34 rfl rfl (fun c5 => ?_) (fun c5 => ?_)
    · refine gr_sub (M := gm_Mo_goBack) (lv' := [(0, .inr (.inr 83)), (1, .inl v1)]) [0, 1] rfl ?_
      exact hk57  _
    refine gr_aload_n (M := gm_Mo_goBack) dq_Mo_goBack_34 rfl 0 rfl 35 rfl ?_
    refine gr_getr (M := gm_Mo_goBack) dq_Mo_goBack_35 38 rfl gfl_Mo_34 gsh_83 rfl (gli hL gsh_83) 92 rfl ?_
    refine gr_iload_n (M := gm_Mo_goBack) dq_Mo_goBack_38 rfl 2 rfl 39 rfl ?_
    refine gr_aload_n (M := gm_Mo_goBack) dq_Mo_goBack_39 rfl 0 rfl 40 rfl ?_
    refine gr_getr (M := gm_Mo_goBack) dq_Mo_goBack_40 43 rfl gfl_Mo_107 gsh_83 rfl (gli hL gsh_83) 114 rfl ?_
    refine gr_bipush (M := gm_Mo_goBack) (v := 51) dq_Mo_goBack_43 (by decide) ⟨by decide, by decide⟩ 45 rfl ?_
    refine gr_iload_n (M := gm_Mo_goBack) dq_Mo_goBack_45 rfl 1 rfl 46 rfl ?_
    refine gr_imul (M := gm_Mo_goBack) dq_Mo_goBack_46 47 rfl ?_
    refine gr_iload_n (M := gm_Mo_goBack) dq_Mo_goBack_47 rfl 2 rfl 48 rfl ?_
    refine gr_iadd (M := gm_Mo_goBack) dq_Mo_goBack_48 49 rfl ?_
    refine gr_iald (M := gm_Mo_goBack) dq_Mo_goBack_49 50 rfl gsh_114 (glj hL gsh_114 (by decide)) ?_
    refine gr_iast (M := gm_Mo_goBack) dq_Mo_goBack_50 51 rfl gsh_92 (glj hL gsh_92 (by decide)) (fun h6 _ => ?_)
    refine gr_iinc (M := gm_Mo_goBack) (lv' := [(2, .inl (gadd v2 1)), (0, .inr (.inr 83)), (1, .inl v1)]) dq_Mo_goBack_51 2 rfl rfl (by decide) rfl 54 rfl ?_
    refine gr_goto (M := gm_Mo_goBack) dq_Mo_goBack_54 28 rfl ?_
    refine gr_sub (M := gm_Mo_goBack) (lv' := [(0, .inr (.inr 83)), (1, .inl v1), (2, .inl (gadd v2 1))]) [1, 2, 0] rfl ?_
    exact ih _ _

def f_Mo_goBack (a1 : Int) (h : gH) : Option gO := gb (f_Mo_in a1 0 1 h) (fun h1 r2 => if r2 = 0 then (some (h1, (-1000000001))) else (gd (gix 2 a1) (if (h1 115 a1.toNat) = 0 then (some (h1, (-1000000003))) else (f_Mo_goBack_L28 a1 (fun  h7 => gd (gix 102 (gadd (gmul 51 a1) 50)) (gs (gup h7 83 13 (h7 114 (gadd (gmul 51 a1) 50).toNat)) (fun h8 => some (h8, 1)))) 50000 0 h1))))
theorem c_Mo_goBack {Z : gZ} (hL : gLive Z) (hn : (zL Z).Nodup) {a1 : Int}  {h : gH} {o : gO} (hg : gRg h) (ha : gRl [.inr (.inr 83), .inl a1]) (hx : f_Mo_goBack a1 h = some o) : gC Z gy_Mo_goBack gc_Mo_goBack 3 (some .int) 1 25 [.inr (.inr 83), .inl a1] h o := by
  unfold f_Mo_goBack at hx
  refine gC_of (lv := [(0, .inr (.inr 83)), (1, .inl a1)]) (own := gR_7) (by decide +kernel) rfl (Nat.le_of_ble_eq_true rfl) rfl rfl hn hg ha hx (fun X hZ hF => ?_)
  subst hZ
  show gr _ o gm_Mo_goBack X h 0 _ _
  refine gr_iload_n (M := gm_Mo_goBack) dq_Mo_goBack_0 rfl 1 rfl 1 rfl ?_
  refine gr_i2l (M := gm_Mo_goBack) dq_Mo_goBack_1 2 rfl ?_
  refine gr_lconst (M := gm_Mo_goBack) (v := 0) dq_Mo_goBack_2 (by decide) ⟨by decide, by decide⟩ 3 rfl ?_
  refine gr_lconst (M := gm_Mo_goBack) (v := 1) dq_Mo_goBack_3 (by decide) ⟨by decide, by decide⟩ 4 rfl ?_
  refine gr_callSi (M := gm_Mo_goBack) (as := [.inr (.inl a1), .inr (.inl 0), .inr (.inl 1)]) dq_Mo_goBack_4 7 rfl rfl gcy_Mo_117 gst_Mo_in ⟨by decide, by decide⟩ (Nat.le_of_ble_eq_true rfl) (fun o1 hg ha hx => c_Mo_in hL hn  hg ha hx) (fun h1 r2 _ => ?_)
  refine gr_if_ne (M := gm_Mo_goBack) dq_Mo_goBack_7 13 10 rfl rfl (fun c3 => ?_) (fun c3 => ?_)
  · refine gr_aload_n (M := gm_Mo_goBack) dq_Mo_goBack_13 rfl 0 rfl 14 rfl ?_
    refine gr_getr (M := gm_Mo_goBack) dq_Mo_goBack_14 17 rfl gfl_Mo_110 gsh_83 rfl (gli hL gsh_83) 115 rfl ?_
    refine gr_iload_n (M := gm_Mo_goBack) dq_Mo_goBack_17 rfl 1 rfl 18 rfl ?_
    refine gr_zald (M := gm_Mo_goBack) dq_Mo_goBack_18 19 rfl gsh_115 (glj hL gsh_115 (by decide)) ?_
    refine gr_if_ne (M := gm_Mo_goBack) dq_Mo_goBack_19 26 22 rfl rfl (fun c4 => ?_) (fun c4 => ?_)
    · refine gr_iconst (M := gm_Mo_goBack) (v := 0) dq_Mo_goBack_26 rfl ⟨by decide, by decide⟩ 27 rfl ?_
      refine gr_istore_n (M := gm_Mo_goBack) (lv' := [(2, .inl 0), (0, .inr (.inr 83)), (1, .inl a1)]) dq_Mo_goBack_27 rfl (by decide) rfl 28 rfl ?_
      refine gr_sub (M := gm_Mo_goBack) (lv' := [(0, .inr (.inr 83)), (1, .inl a1), (2, .inl 0)]) [1, 2, 0] rfl ?_
      refine w_Mo_goBack_L28 hL hn hF   (fun h7 => ?_) 50000 _ _
      refine gr_aload_n (M := gm_Mo_goBack) dq_Mo_goBack_57 rfl 0 rfl 58 rfl ?_
      refine gr_aload_n (M := gm_Mo_goBack) dq_Mo_goBack_58 rfl 0 rfl 59 rfl ?_
      refine gr_getr (M := gm_Mo_goBack) dq_Mo_goBack_59 62 rfl gfl_Mo_107 gsh_83 rfl (gli hL gsh_83) 114 rfl ?_
      refine gr_bipush (M := gm_Mo_goBack) (v := 51) dq_Mo_goBack_62 (by decide) ⟨by decide, by decide⟩ 64 rfl ?_
      refine gr_iload_n (M := gm_Mo_goBack) dq_Mo_goBack_64 rfl 1 rfl 65 rfl ?_
      refine gr_imul (M := gm_Mo_goBack) dq_Mo_goBack_65 66 rfl ?_
      refine gr_bipush (M := gm_Mo_goBack) (v := 50) dq_Mo_goBack_66 (by decide) ⟨by decide, by decide⟩ 68 rfl ?_
      refine gr_iadd (M := gm_Mo_goBack) dq_Mo_goBack_68 69 rfl ?_
      refine gr_iald (M := gm_Mo_goBack) dq_Mo_goBack_69 70 rfl gsh_114 (glj hL gsh_114 (by decide)) ?_
      refine gr_puti (M := gm_Mo_goBack) dq_Mo_goBack_70 73 rfl gfp_Mo_280 gsh_83 rfl (gli hL gsh_83) (fun h8 _ => ?_)
      refine gr_iconst (M := gm_Mo_goBack) (v := 1) dq_Mo_goBack_73 rfl ⟨by decide, by decide⟩ 74 rfl ?_
      exact gr_ireturn (M := gm_Mo_goBack) dq_Mo_goBack_74 hF
    refine gr_ldc_w (M := gm_Mo_goBack) (v := (-1000000003)) dq_Mo_goBack_22 gk_Mo_269 ⟨by decide, by decide⟩ 25 rfl ?_
    exact gr_ireturn (M := gm_Mo_goBack) dq_Mo_goBack_25 hF
  refine gr_ldc (M := gm_Mo_goBack) (v := (-1000000001)) dq_Mo_goBack_10 gk_Mo_208 ⟨by decide, by decide⟩ 12 rfl ?_
  exact gr_ireturn (M := gm_Mo_goBack) dq_Mo_goBack_12 hF

