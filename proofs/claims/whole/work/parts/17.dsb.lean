-- DS_bestLaw
theorem dq_DS_bestLaw_0 : decode gc_DS_bestLaw 0 = .ok (.iload_n 2, 1) := by decide +kernel
theorem dq_DS_bestLaw_1 : decode gc_DS_bestLaw 1 = .ok (.iconst (-1), 1) := by decide +kernel
theorem dq_DS_bestLaw_2 : decode gc_DS_bestLaw 2 = .ok (.if_icmp .eq 14, 3) := by decide +kernel
theorem dq_DS_bestLaw_5 : decode gc_DS_bestLaw 5 = .ok (.aload_n 0, 1) := by decide +kernel
theorem dq_DS_bestLaw_6 : decode gc_DS_bestLaw 6 = .ok (.iload_n 2, 1) := by decide +kernel
theorem dq_DS_bestLaw_7 : decode gc_DS_bestLaw 7 = .ok (.invokevirtual 135, 3) := by decide +kernel
theorem dq_DS_bestLaw_10 : decode gc_DS_bestLaw 10 = .ok (.ifCond .eq 6, 3) := by decide +kernel
theorem dq_DS_bestLaw_13 : decode gc_DS_bestLaw 13 = .ok (.ldc 130, 2) := by decide +kernel
theorem dq_DS_bestLaw_15 : decode gc_DS_bestLaw 15 = .ok (.ireturn, 1) := by decide +kernel
theorem dq_DS_bestLaw_16 : decode gc_DS_bestLaw 16 = .ok (.iload_n 1, 1) := by decide +kernel
theorem dq_DS_bestLaw_17 : decode gc_DS_bestLaw 17 = .ok (.iconst 1, 1) := by decide +kernel
theorem dq_DS_bestLaw_18 : decode gc_DS_bestLaw 18 = .ok (.sipush 300, 3) := by decide +kernel
theorem dq_DS_bestLaw_21 : decode gc_DS_bestLaw 21 = .ok (.invokestatic 76, 3) := by decide +kernel
theorem dq_DS_bestLaw_24 : decode gc_DS_bestLaw 24 = .ok (.ifCond .eq 6, 3) := by decide +kernel
theorem dq_DS_bestLaw_27 : decode gc_DS_bestLaw 27 = .ok (.ldc 80, 2) := by decide +kernel
theorem dq_DS_bestLaw_29 : decode gc_DS_bestLaw 29 = .ok (.ireturn, 1) := by decide +kernel
theorem dq_DS_bestLaw_30 : decode gc_DS_bestLaw 30 = .ok (.iconst 0, 1) := by decide +kernel
theorem dq_DS_bestLaw_31 : decode gc_DS_bestLaw 31 = .ok (.istore_n 3, 1) := by decide +kernel
theorem dq_DS_bestLaw_32 : decode gc_DS_bestLaw 32 = .ok (.ldc 237, 2) := by decide +kernel
theorem dq_DS_bestLaw_34 : decode gc_DS_bestLaw 34 = .ok (.istore 4, 2) := by decide +kernel
theorem dq_DS_bestLaw_36 : decode gc_DS_bestLaw 36 = .ok (.iconst 0, 1) := by decide +kernel
theorem dq_DS_bestLaw_37 : decode gc_DS_bestLaw 37 = .ok (.istore 5, 2) := by decide +kernel
theorem dq_DS_bestLaw_39 : decode gc_DS_bestLaw 39 = .ok (.iload 5, 2) := by decide +kernel
theorem dq_DS_bestLaw_41 : decode gc_DS_bestLaw 41 = .ok (.iconst 5, 1) := by decide +kernel
theorem dq_DS_bestLaw_42 : decode gc_DS_bestLaw 42 = .ok (.if_icmp .ge 62, 3) := by decide +kernel
theorem dq_DS_bestLaw_45 : decode gc_DS_bestLaw 45 = .ok (.aload_n 0, 1) := by decide +kernel
theorem dq_DS_bestLaw_46 : decode gc_DS_bestLaw 46 = .ok (.getfield 35, 3) := by decide +kernel
theorem dq_DS_bestLaw_49 : decode gc_DS_bestLaw 49 = .ok (.aload_n 0, 1) := by decide +kernel
theorem dq_DS_bestLaw_50 : decode gc_DS_bestLaw 50 = .ok (.getfield 31, 3) := by decide +kernel
theorem dq_DS_bestLaw_53 : decode gc_DS_bestLaw 53 = .ok (.invokevirtual 209, 3) := by decide +kernel
theorem dq_DS_bestLaw_56 : decode gc_DS_bestLaw 56 = .ok (.aload_n 0, 1) := by decide +kernel
theorem dq_DS_bestLaw_57 : decode gc_DS_bestLaw 57 = .ok (.getfield 35, 3) := by decide +kernel
theorem dq_DS_bestLaw_60 : decode gc_DS_bestLaw 60 = .ok (.iload_n 2, 1) := by decide +kernel
theorem dq_DS_bestLaw_61 : decode gc_DS_bestLaw 61 = .ok (.iload 5, 2) := by decide +kernel
theorem dq_DS_bestLaw_63 : decode gc_DS_bestLaw 63 = .ok (.invokevirtual 238, 3) := by decide +kernel
theorem dq_DS_bestLaw_66 : decode gc_DS_bestLaw 66 = .ok (.aload_n 0, 1) := by decide +kernel
theorem dq_DS_bestLaw_67 : decode gc_DS_bestLaw 67 = .ok (.getfield 35, 3) := by decide +kernel
theorem dq_DS_bestLaw_70 : decode gc_DS_bestLaw 70 = .ok (.iload_n 1, 1) := by decide +kernel
theorem dq_DS_bestLaw_71 : decode gc_DS_bestLaw 71 = .ok (.invokevirtual 202, 3) := by decide +kernel
theorem dq_DS_bestLaw_74 : decode gc_DS_bestLaw 74 = .ok (.aload_n 0, 1) := by decide +kernel
theorem dq_DS_bestLaw_75 : decode gc_DS_bestLaw 75 = .ok (.getfield 35, 3) := by decide +kernel
theorem dq_DS_bestLaw_78 : decode gc_DS_bestLaw 78 = .ok (.iconst (-1), 1) := by decide +kernel
theorem dq_DS_bestLaw_79 : decode gc_DS_bestLaw 79 = .ok (.invokevirtual 212, 3) := by decide +kernel
theorem dq_DS_bestLaw_82 : decode gc_DS_bestLaw 82 = .ok (.istore 6, 2) := by decide +kernel
theorem dq_DS_bestLaw_84 : decode gc_DS_bestLaw 84 = .ok (.iload 6, 2) := by decide +kernel
theorem dq_DS_bestLaw_86 : decode gc_DS_bestLaw 86 = .ok (.iload 4, 2) := by decide +kernel
theorem dq_DS_bestLaw_88 : decode gc_DS_bestLaw 88 = .ok (.if_icmp .ge 10, 3) := by decide +kernel
theorem dq_DS_bestLaw_91 : decode gc_DS_bestLaw 91 = .ok (.iload 6, 2) := by decide +kernel
theorem dq_DS_bestLaw_93 : decode gc_DS_bestLaw 93 = .ok (.istore 4, 2) := by decide +kernel
theorem dq_DS_bestLaw_95 : decode gc_DS_bestLaw 95 = .ok (.iload 5, 2) := by decide +kernel
theorem dq_DS_bestLaw_97 : decode gc_DS_bestLaw 97 = .ok (.istore_n 3, 1) := by decide +kernel
theorem dq_DS_bestLaw_98 : decode gc_DS_bestLaw 98 = .ok (.iinc 5 1, 3) := by decide +kernel
theorem dq_DS_bestLaw_101 : decode gc_DS_bestLaw 101 = .ok (.goto (-62), 3) := by decide +kernel
theorem dq_DS_bestLaw_104 : decode gc_DS_bestLaw 104 = .ok (.iload_n 3, 1) := by decide +kernel
theorem dq_DS_bestLaw_105 : decode gc_DS_bestLaw 105 = .ok (.ireturn, 1) := by decide +kernel
abbrev gm_DS_bestLaw : gM := (gc_DS_bestLaw, gR_6, 5, 113, 7)
theorem gk_DS_237 : Cond.constant gR_6 237 (Int32.ofInt 1000000000) ∈ gtbl := (gtab_at 661 (by decide +kernel) rfl)
set_option maxRecDepth 20000 in
theorem gcy_DS_238 : gCy gR_6 238 gy_Traffic_decreeLaw gc_Traffic_decreeLaw 4 none 2 := ⟨(gtab_at 662 (by decide +kernel) rfl), (gtab_at 4 (by decide +kernel) rfl), (gtab_at 665 rfl rfl), by decide, by decide, by decide +kernel⟩
theorem gim_Traffic_decreeLaw : Cond.instanceMethod gy_Traffic_decreeLaw ∈ gtbl := (gtab_at 663 (by decide +kernel) rfl)
theorem gse_Traffic_decreeLaw : Cond.selects gy_Traffic_decreeLaw.cls gy_Traffic_decreeLaw gy_Traffic_decreeLaw ∈ gtbl := (gtab_at 664 (by decide +kernel) rfl)
def f_DS_bestLaw_J98  (k39 : Int → Int → Int → gH → Option gO) (v1 : Int) (v2 : Int) (v3 : Int) (v4 : Int) (v5 : Int) (h : gH) : Option gO := k39 v3 v4 (gadd v5 1) h
theorem w_DS_bestLaw_J98 {o : gO} {X : gX} (hL : gLive (xZ X)) (hn : (zL (xZ X)).Nodup) (hF : gFin X (some .int) o)    {k39 : Int → Int → Int → gH → Option gO} {v1 : Int} {v2 : Int} {v3 : Int} {v4 : Int} {v5 : Int} {h : gH} (hk39 : ∀ (v3 : Int) (v4 : Int) (v5 : Int) (h : gH), gr (k39 v3 v4 v5 h) o gm_DS_bestLaw X h 39 [(0, .inr (.inr 0)), (1, .inl v1), (2, .inl v2), (3, .inl v3), (4, .inl v4), (5, .inl v5)] []) : gr (f_DS_bestLaw_J98  k39 v1 v2 v3 v4 v5 h) o gm_DS_bestLaw X h 98 [(0, .inr (.inr 0)), (1, .inl v1), (2, .inl v2), (3, .inl v3), (4, .inl v4), (5, .inl v5)] [] := by
  unfold f_DS_bestLaw_J98
  refine gr_iinc (M := gm_DS_bestLaw) (lv' := [(5, .inl (gadd v5 1)), (0, .inr (.inr 0)), (1, .inl v1), (2, .inl v2), (3, .inl v3), (4, .inl v4)]) dq_DS_bestLaw_98 5 rfl rfl (by decide) rfl 101 rfl ?_
  refine gr_goto (M := gm_DS_bestLaw) dq_DS_bestLaw_101 39 rfl ?_
  refine gr_sub (M := gm_DS_bestLaw) (lv' := [(0, .inr (.inr 0)), (1, .inl v1), (2, .inl v2), (3, .inl v3), (4, .inl v4), (5, .inl (gadd v5 1))]) [1, 2, 3, 4, 5, 0] rfl ?_
  exact hk39 _ _ _ _

def f_DS_bestLaw_L39 (v1 : Int) (v2 : Int) (k104 : Int → gH → Option gO) : Nat → Int → Int → Int → gH → Option gO
  | 0, _, _, _, _ => none
  | n + 1, v3, v4, v5, h => if 5 ≤ v5 then (k104 v3 h) else (gb (f_Traffic_copyFrom 37 27 h) (fun h6 r7 => gb (f_Traffic_decreeLaw 37 v2 v5 h6) (fun h8 r9 => gb (f_Traffic_pass 37 v1 h8) (fun h10 r11 => gb (f_Traffic_together 37 (-1) h10) (fun h12 r13 => if v4 ≤ r13 then (f_DS_bestLaw_J98  (f_DS_bestLaw_L39 v1 v2 k104 n) v1 v2 v3 v4 v5 h12) else (f_DS_bestLaw_J98  (f_DS_bestLaw_L39 v1 v2 k104 n) v1 v2 v5 r13 v5 h12))))))
theorem w_DS_bestLaw_L39 {o : gO} {X : gX} (hL : gLive (xZ X)) (hn : (zL (xZ X)).Nodup) (hF : gFin X (some .int) o) {v1 : Int} {v2 : Int}   {k104 : Int → gH → Option gO} (hk104 : ∀ (v3 : Int) (h : gH), gr (k104 v3 h) o gm_DS_bestLaw X h 104 [(3, .inl v3)] []) : ∀ (n : Nat) (v3 : Int) (v4 : Int) (v5 : Int) (h : gH), gr (f_DS_bestLaw_L39 v1 v2 k104 n v3 v4 v5 h) o gm_DS_bestLaw X h 39 [(0, .inr (.inr 0)), (1, .inl v1), (2, .inl v2), (3, .inl v3), (4, .inl v4), (5, .inl v5)] [] := by
  intro n
  induction n with
  | zero => intros; exact gr_none
  | succ n ih =>
    intro v3 v4 v5 h
    unfold f_DS_bestLaw_L39
    refine gr_iload (M := gm_DS_bestLaw) dq_DS_bestLaw_39 5 rfl 41 rfl ?_
    refine gr_iconst (M := gm_DS_bestLaw) (v := 5) dq_DS_bestLaw_41 rfl ⟨by decide, by decide⟩ 42 rfl ?_
    refine gr_icmp_ge (M := gm_DS_bestLaw) dq_DS_bestLaw_42 104 45 rfl rfl (fun c5 => ?_) (fun c5 => ?_)
    · refine gr_sub (M := gm_DS_bestLaw) (lv' := [(3, .inl v3)]) [3] rfl ?_
      exact hk104 _ _
    refine gr_aload_n (M := gm_DS_bestLaw) dq_DS_bestLaw_45 rfl 0 rfl 46 rfl ?_
    refine gr_geta (M := gm_DS_bestLaw) dq_DS_bestLaw_46 49 rfl gfl_DS_35 gsh_0 rfl (gli hL gsh_0) ?_
    refine gr_aload_n (M := gm_DS_bestLaw) dq_DS_bestLaw_49 rfl 0 rfl 50 rfl ?_
    refine gr_geta (M := gm_DS_bestLaw) dq_DS_bestLaw_50 53 rfl gfl_DS_31 gsh_0 rfl (gli hL gsh_0) ?_
    refine gr_callVv (M := gm_DS_bestLaw) (as := [.inr (.inr 27)]) dq_DS_bestLaw_53 56 rfl rfl gcy_DS_209 gim_Traffic_copyFrom gse_Traffic_copyFrom ⟨by decide, by decide⟩ (Nat.le_of_ble_eq_true rfl) gsh_37 rfl (gli hL gsh_37) (fun o1 hg ha hx => c_Traffic_copyFrom hL hn gsh_37 gsh_27 hg ha hx) (fun h6 r7 _ => ?_)
    refine gr_aload_n (M := gm_DS_bestLaw) dq_DS_bestLaw_56 rfl 0 rfl 57 rfl ?_
    refine gr_geta (M := gm_DS_bestLaw) dq_DS_bestLaw_57 60 rfl gfl_DS_35 gsh_0 rfl (gli hL gsh_0) ?_
    refine gr_iload_n (M := gm_DS_bestLaw) dq_DS_bestLaw_60 rfl 2 rfl 61 rfl ?_
    refine gr_iload (M := gm_DS_bestLaw) dq_DS_bestLaw_61 5 rfl 63 rfl ?_
    refine gr_callVv (M := gm_DS_bestLaw) (as := [.inl v2, .inl v5]) dq_DS_bestLaw_63 66 rfl rfl gcy_DS_238 gim_Traffic_decreeLaw gse_Traffic_decreeLaw ⟨by decide, by decide⟩ (Nat.le_of_ble_eq_true rfl) gsh_37 rfl (gli hL gsh_37) (fun o1 hg ha hx => c_Traffic_decreeLaw hL hn gsh_37 hg ha hx) (fun h8 r9 _ => ?_)
    refine gr_aload_n (M := gm_DS_bestLaw) dq_DS_bestLaw_66 rfl 0 rfl 67 rfl ?_
    refine gr_geta (M := gm_DS_bestLaw) dq_DS_bestLaw_67 70 rfl gfl_DS_35 gsh_0 rfl (gli hL gsh_0) ?_
    refine gr_iload_n (M := gm_DS_bestLaw) dq_DS_bestLaw_70 rfl 1 rfl 71 rfl ?_
    refine gr_callVv (M := gm_DS_bestLaw) (as := [.inl v1]) dq_DS_bestLaw_71 74 rfl rfl gcy_DS_202 gim_Traffic_pass gse_Traffic_pass ⟨by decide, by decide⟩ (Nat.le_of_ble_eq_true rfl) gsh_37 rfl (gli hL gsh_37) (fun o1 hg ha hx => c_Traffic_pass hL hn gsh_37 hg ha hx) (fun h10 r11 _ => ?_)
    refine gr_aload_n (M := gm_DS_bestLaw) dq_DS_bestLaw_74 rfl 0 rfl 75 rfl ?_
    refine gr_geta (M := gm_DS_bestLaw) dq_DS_bestLaw_75 78 rfl gfl_DS_35 gsh_0 rfl (gli hL gsh_0) ?_
    refine gr_iconst (M := gm_DS_bestLaw) (v := (-1)) dq_DS_bestLaw_78 rfl ⟨by decide, by decide⟩ 79 rfl ?_
    refine gr_callVi (M := gm_DS_bestLaw) (as := [.inl (-1)]) dq_DS_bestLaw_79 82 rfl rfl gcy_DS_212 gim_Traffic_together gse_Traffic_together ⟨by decide, by decide⟩ (Nat.le_of_ble_eq_true rfl) gsh_37 rfl (gli hL gsh_37) (fun o1 hg ha hx => c_Traffic_together hL hn gsh_37 hg ha hx) (fun h12 r13 _ => ?_)
    refine gr_istore (M := gm_DS_bestLaw) (kk := 0) (lv' := [(6, .inl r13), (0, .inr (.inr 0)), (1, .inl v1), (2, .inl v2), (3, .inl v3), (4, .inl v4), (5, .inl v5)]) dq_DS_bestLaw_82 (by decide) rfl 84 rfl ?_
    refine gr_iload (M := gm_DS_bestLaw) dq_DS_bestLaw_84 0 rfl 86 rfl ?_
    refine gr_iload (M := gm_DS_bestLaw) dq_DS_bestLaw_86 5 rfl 88 rfl ?_
    refine gr_icmp_ge (M := gm_DS_bestLaw) dq_DS_bestLaw_88 98 91 rfl rfl (fun c14 => ?_) (fun c14 => ?_)
    · refine gr_sub (M := gm_DS_bestLaw) (lv' := [(0, .inr (.inr 0)), (1, .inl v1), (2, .inl v2), (3, .inl v3), (4, .inl v4), (5, .inl v5)]) [1, 2, 3, 4, 5, 6] rfl ?_
      exact w_DS_bestLaw_J98 hL hn hF   ih
    refine gr_iload (M := gm_DS_bestLaw) dq_DS_bestLaw_91 0 rfl 93 rfl ?_
    refine gr_istore (M := gm_DS_bestLaw) (kk := 0) (lv' := [(4, .inl r13), (6, .inl r13), (0, .inr (.inr 0)), (1, .inl v1), (2, .inl v2), (3, .inl v3), (5, .inl v5)]) dq_DS_bestLaw_93 (by decide) rfl 95 rfl ?_
    refine gr_iload (M := gm_DS_bestLaw) dq_DS_bestLaw_95 6 rfl 97 rfl ?_
    refine gr_istore_n (M := gm_DS_bestLaw) (lv' := [(3, .inl v5), (4, .inl r13), (6, .inl r13), (0, .inr (.inr 0)), (1, .inl v1), (2, .inl v2), (5, .inl v5)]) dq_DS_bestLaw_97 rfl (by decide) rfl 98 rfl ?_
    refine gr_sub (M := gm_DS_bestLaw) (lv' := [(0, .inr (.inr 0)), (1, .inl v1), (2, .inl v2), (3, .inl v5), (4, .inl r13), (5, .inl v5)]) [3, 4, 5, 0, 1, 6] rfl ?_
    exact w_DS_bestLaw_J98 hL hn hF   ih

def f_DS_bestLaw_J16   (v1 : Int) (v2 : Int) (h : gH) : Option gO := gb (f_DS_isOutside v1 1 300 h) (fun h2 r3 => if r3 = 0 then (f_DS_bestLaw_L39 v1 v2 (fun v15 h16 => some (h16, v15)) 50000 0 1000000000 0 h2) else (some (h2, (-1000000002))))
theorem w_DS_bestLaw_J16 {o : gO} {X : gX} (hL : gLive (xZ X)) (hn : (zL (xZ X)).Nodup) (hF : gFin X (some .int) o)     {v1 : Int} {v2 : Int} {h : gH}  : gr (f_DS_bestLaw_J16   v1 v2 h) o gm_DS_bestLaw X h 16 [(0, .inr (.inr 0)), (1, .inl v1), (2, .inl v2)] [] := by
  unfold f_DS_bestLaw_J16
  refine gr_iload_n (M := gm_DS_bestLaw) dq_DS_bestLaw_16 rfl 1 rfl 17 rfl ?_
  refine gr_iconst (M := gm_DS_bestLaw) (v := 1) dq_DS_bestLaw_17 rfl ⟨by decide, by decide⟩ 18 rfl ?_
  refine gr_sipush (M := gm_DS_bestLaw) (v := 300) dq_DS_bestLaw_18 (by decide) ⟨by decide, by decide⟩ 21 rfl ?_
  refine gr_callSi (M := gm_DS_bestLaw) (as := [.inl v1, .inl 1, .inl 300]) dq_DS_bestLaw_21 24 rfl rfl gcy_DS_76 gst_DS_isOutside ⟨by decide, by decide⟩ (Nat.le_of_ble_eq_true rfl) (fun o1 hg ha hx => c_DS_isOutside hL hn  hg ha hx) (fun h2 r3 _ => ?_)
  refine gr_if_eq (M := gm_DS_bestLaw) dq_DS_bestLaw_24 30 27 rfl rfl (fun c4 => ?_) (fun c4 => ?_)
  · refine gr_iconst (M := gm_DS_bestLaw) (v := 0) dq_DS_bestLaw_30 rfl ⟨by decide, by decide⟩ 31 rfl ?_
    refine gr_istore_n (M := gm_DS_bestLaw) (lv' := [(3, .inl 0), (0, .inr (.inr 0)), (1, .inl v1), (2, .inl v2)]) dq_DS_bestLaw_31 rfl (by decide) rfl 32 rfl ?_
    refine gr_ldc (M := gm_DS_bestLaw) (v := 1000000000) dq_DS_bestLaw_32 gk_DS_237 ⟨by decide, by decide⟩ 34 rfl ?_
    refine gr_istore (M := gm_DS_bestLaw) (kk := 0) (lv' := [(4, .inl 1000000000), (3, .inl 0), (0, .inr (.inr 0)), (1, .inl v1), (2, .inl v2)]) dq_DS_bestLaw_34 (by decide) rfl 36 rfl ?_
    refine gr_iconst (M := gm_DS_bestLaw) (v := 0) dq_DS_bestLaw_36 rfl ⟨by decide, by decide⟩ 37 rfl ?_
    refine gr_istore (M := gm_DS_bestLaw) (kk := 0) (lv' := [(5, .inl 0), (4, .inl 1000000000), (3, .inl 0), (0, .inr (.inr 0)), (1, .inl v1), (2, .inl v2)]) dq_DS_bestLaw_37 (by decide) rfl 39 rfl ?_
    refine gr_sub (M := gm_DS_bestLaw) (lv' := [(0, .inr (.inr 0)), (1, .inl v1), (2, .inl v2), (3, .inl 0), (4, .inl 1000000000), (5, .inl 0)]) [3, 4, 5, 2, 1, 0] rfl ?_
    refine w_DS_bestLaw_L39 hL hn hF   (fun v15 h16 => ?_) 50000 _ _ _ _
    refine gr_iload_n (M := gm_DS_bestLaw) dq_DS_bestLaw_104 rfl 0 rfl 105 rfl ?_
    exact gr_ireturn (M := gm_DS_bestLaw) dq_DS_bestLaw_105 hF
  refine gr_ldc (M := gm_DS_bestLaw) (v := (-1000000002)) dq_DS_bestLaw_27 gk_DS_80 ⟨by decide, by decide⟩ 29 rfl ?_
  exact gr_ireturn (M := gm_DS_bestLaw) dq_DS_bestLaw_29 hF

def f_DS_bestLaw (a1 : Int) (a2 : Int) (h : gH) : Option gO := if a2 = (-1) then (f_DS_bestLaw_J16   a1 a2 h) else (gb (f_DS_isNoStreet a2 h) (fun h17 r18 => if r18 = 0 then (f_DS_bestLaw_J16   a1 a2 h17) else (some (h17, (-1000000001)))))
theorem c_DS_bestLaw {Z : gZ} (hL : gLive Z) (hn : (zL Z).Nodup) {a1 : Int} {a2 : Int}  {h : gH} {o : gO} (hg : gRg h) (ha : gRl [.inr (.inr 0), .inl a1, .inl a2]) (hx : f_DS_bestLaw a1 a2 h = some o) : gC Z gy_DS_bestLaw gc_DS_bestLaw 7 (some .int) 5 113 [.inr (.inr 0), .inl a1, .inl a2] h o := by
  unfold f_DS_bestLaw at hx
  refine gC_of (lv := [(0, .inr (.inr 0)), (1, .inl a1), (2, .inl a2)]) (own := gR_6) (by decide +kernel) rfl (Nat.le_of_ble_eq_true rfl) rfl rfl hn hg ha hx (fun X hZ hF => ?_)
  subst hZ
  show gr _ o gm_DS_bestLaw X h 0 _ _
  refine gr_iload_n (M := gm_DS_bestLaw) dq_DS_bestLaw_0 rfl 2 rfl 1 rfl ?_
  refine gr_iconst (M := gm_DS_bestLaw) (v := (-1)) dq_DS_bestLaw_1 rfl ⟨by decide, by decide⟩ 2 rfl ?_
  refine gr_icmp_eq (M := gm_DS_bestLaw) dq_DS_bestLaw_2 16 5 rfl rfl (fun c1 => ?_) (fun c1 => ?_)
  · exact w_DS_bestLaw_J16 hL hn hF   
  refine gr_aload_n (M := gm_DS_bestLaw) dq_DS_bestLaw_5 rfl 0 rfl 6 rfl ?_
  refine gr_iload_n (M := gm_DS_bestLaw) dq_DS_bestLaw_6 rfl 2 rfl 7 rfl ?_
  refine gr_callVi (M := gm_DS_bestLaw) (as := [.inl a2]) dq_DS_bestLaw_7 10 rfl rfl gcy_DS_135 gim_DS_isNoStreet gse_DS_isNoStreet ⟨by decide, by decide⟩ (Nat.le_of_ble_eq_true rfl) gsh_0 rfl (gli hL gsh_0) (fun o1 hg ha hx => c_DS_isNoStreet hL hn  hg ha hx) (fun h17 r18 _ => ?_)
  refine gr_if_eq (M := gm_DS_bestLaw) dq_DS_bestLaw_10 16 13 rfl rfl (fun c19 => ?_) (fun c19 => ?_)
  · exact w_DS_bestLaw_J16 hL hn hF   
  refine gr_ldc (M := gm_DS_bestLaw) (v := (-1000000001)) dq_DS_bestLaw_13 gk_DS_130 ⟨by decide, by decide⟩ 15 rfl ?_
  exact gr_ireturn (M := gm_DS_bestLaw) dq_DS_bestLaw_15 hF

-- DS_lost
theorem dq_DS_lost_0 : decode gc_DS_lost 0 = .ok (.aload_n 0, 1) := by decide +kernel
theorem dq_DS_lost_1 : decode gc_DS_lost 1 = .ok (.getfield 35, 3) := by decide +kernel
theorem dq_DS_lost_4 : decode gc_DS_lost 4 = .ok (.aload_n 0, 1) := by decide +kernel
theorem dq_DS_lost_5 : decode gc_DS_lost 5 = .ok (.getfield 31, 3) := by decide +kernel
theorem dq_DS_lost_8 : decode gc_DS_lost 8 = .ok (.invokevirtual 209, 3) := by decide +kernel
theorem dq_DS_lost_11 : decode gc_DS_lost 11 = .ok (.aload_n 0, 1) := by decide +kernel
theorem dq_DS_lost_12 : decode gc_DS_lost 12 = .ok (.getfield 35, 3) := by decide +kernel
theorem dq_DS_lost_15 : decode gc_DS_lost 15 = .ok (.sipush 300, 3) := by decide +kernel
theorem dq_DS_lost_18 : decode gc_DS_lost 18 = .ok (.invokevirtual 202, 3) := by decide +kernel
theorem dq_DS_lost_21 : decode gc_DS_lost 21 = .ok (.iconst 1, 1) := by decide +kernel
theorem dq_DS_lost_22 : decode gc_DS_lost 22 = .ok (.aload_n 0, 1) := by decide +kernel
theorem dq_DS_lost_23 : decode gc_DS_lost 23 = .ok (.getfield 10, 3) := by decide +kernel
theorem dq_DS_lost_26 : decode gc_DS_lost 26 = .ok (.getfield 110, 3) := by decide +kernel
theorem dq_DS_lost_29 : decode gc_DS_lost 29 = .ok (.ishl, 1) := by decide +kernel
theorem dq_DS_lost_30 : decode gc_DS_lost 30 = .ok (.iconst 1, 1) := by decide +kernel
theorem dq_DS_lost_31 : decode gc_DS_lost 31 = .ok (.isub, 1) := by decide +kernel
theorem dq_DS_lost_32 : decode gc_DS_lost 32 = .ok (.istore_n 1, 1) := by decide +kernel
theorem dq_DS_lost_33 : decode gc_DS_lost 33 = .ok (.iload_n 1, 1) := by decide +kernel
theorem dq_DS_lost_34 : decode gc_DS_lost 34 = .ok (.aload_n 0, 1) := by decide +kernel
theorem dq_DS_lost_35 : decode gc_DS_lost 35 = .ok (.getfield 35, 3) := by decide +kernel
theorem dq_DS_lost_38 : decode gc_DS_lost 38 = .ok (.iconst 3, 1) := by decide +kernel
theorem dq_DS_lost_39 : decode gc_DS_lost 39 = .ok (.invokevirtual 119, 3) := by decide +kernel
theorem dq_DS_lost_42 : decode gc_DS_lost 42 = .ok (.iconst (-1), 1) := by decide +kernel
theorem dq_DS_lost_43 : decode gc_DS_lost 43 = .ok (.ixor, 1) := by decide +kernel
theorem dq_DS_lost_44 : decode gc_DS_lost 44 = .ok (.iand, 1) := by decide +kernel
theorem dq_DS_lost_45 : decode gc_DS_lost 45 = .ok (.aload_n 0, 1) := by decide +kernel
theorem dq_DS_lost_46 : decode gc_DS_lost 46 = .ok (.getfield 35, 3) := by decide +kernel
theorem dq_DS_lost_49 : decode gc_DS_lost 49 = .ok (.iconst 4, 1) := by decide +kernel
theorem dq_DS_lost_50 : decode gc_DS_lost 50 = .ok (.invokevirtual 119, 3) := by decide +kernel
theorem dq_DS_lost_53 : decode gc_DS_lost 53 = .ok (.iconst (-1), 1) := by decide +kernel
theorem dq_DS_lost_54 : decode gc_DS_lost 54 = .ok (.ixor, 1) := by decide +kernel
theorem dq_DS_lost_55 : decode gc_DS_lost 55 = .ok (.iand, 1) := by decide +kernel
theorem dq_DS_lost_56 : decode gc_DS_lost 56 = .ok (.ireturn, 1) := by decide +kernel
abbrev gm_DS_lost : gM := (gc_DS_lost, gR_6, 5, 113, 2)
def f_DS_lost  (h : gH) : Option gO := gb (f_Traffic_copyFrom 37 27 h) (fun h1 r2 => gb (f_Traffic_pass 37 300 h1) (fun h3 r4 => gd (gcl ((h3 0 0).toNat) 0) (gb (f_Traffic_those 37 3 h3) (fun h6 r7 => gb (f_Traffic_those 37 4 h6) (fun h8 r9 => some (h8, (gand (gand (gsub (gshl 1 (h3 (h3 0 0).toNat 3)) 1) (gxor r7 (-1))) (gxor r9 (-1)))))))))
theorem c_DS_lost {Z : gZ} (hL : gLive Z) (hn : (zL Z).Nodup)   {h : gH} {o : gO} (hg : gRg h) (ha : gRl [.inr (.inr 0)]) (hx : f_DS_lost  h = some o) : gC Z gy_DS_lost gc_DS_lost 2 (some .int) 5 113 [.inr (.inr 0)] h o := by
  unfold f_DS_lost at hx
  refine gC_of (lv := [(0, .inr (.inr 0))]) (own := gR_6) (by decide +kernel) rfl (Nat.le_of_ble_eq_true rfl) rfl rfl hn hg ha hx (fun X hZ hF => ?_)
  subst hZ
  show gr _ o gm_DS_lost X h 0 _ _
  refine gr_aload_n (M := gm_DS_lost) dq_DS_lost_0 rfl 0 rfl 1 rfl ?_
  refine gr_geta (M := gm_DS_lost) dq_DS_lost_1 4 rfl gfl_DS_35 gsh_0 rfl (gli hL gsh_0) ?_
  refine gr_aload_n (M := gm_DS_lost) dq_DS_lost_4 rfl 0 rfl 5 rfl ?_
  refine gr_geta (M := gm_DS_lost) dq_DS_lost_5 8 rfl gfl_DS_31 gsh_0 rfl (gli hL gsh_0) ?_
  refine gr_callVv (M := gm_DS_lost) (as := [.inr (.inr 27)]) dq_DS_lost_8 11 rfl rfl gcy_DS_209 gim_Traffic_copyFrom gse_Traffic_copyFrom ⟨by decide, by decide⟩ (Nat.le_of_ble_eq_true rfl) gsh_37 rfl (gli hL gsh_37) (fun o1 hg ha hx => c_Traffic_copyFrom hL hn gsh_37 gsh_27 hg ha hx) (fun h1 r2 _ => ?_)
  refine gr_aload_n (M := gm_DS_lost) dq_DS_lost_11 rfl 0 rfl 12 rfl ?_
  refine gr_geta (M := gm_DS_lost) dq_DS_lost_12 15 rfl gfl_DS_35 gsh_0 rfl (gli hL gsh_0) ?_
  refine gr_sipush (M := gm_DS_lost) (v := 300) dq_DS_lost_15 (by decide) ⟨by decide, by decide⟩ 18 rfl ?_
  refine gr_callVv (M := gm_DS_lost) (as := [.inl 300]) dq_DS_lost_18 21 rfl rfl gcy_DS_202 gim_Traffic_pass gse_Traffic_pass ⟨by decide, by decide⟩ (Nat.le_of_ble_eq_true rfl) gsh_37 rfl (gli hL gsh_37) (fun o1 hg ha hx => c_Traffic_pass hL hn gsh_37 hg ha hx) (fun h3 r4 _ => ?_)
  refine gr_iconst (M := gm_DS_lost) (v := 1) dq_DS_lost_21 rfl ⟨by decide, by decide⟩ 22 rfl ?_
  refine gr_aload_n (M := gm_DS_lost) dq_DS_lost_22 rfl 0 rfl 23 rfl ?_
  refine gr_getd (M := gm_DS_lost) dq_DS_lost_23 26 rfl gfl_DS_10 gsh_0 rfl (gli hL gsh_0) (fun hc5 => ?_)
  refine gr_geti (M := gm_DS_lost) dq_DS_lost_26 29 rfl gfl_DS_110 (gclE hc5) rfl (gli hL (gclE hc5)) ?_
  refine gr_ishl (M := gm_DS_lost) dq_DS_lost_29 30 rfl ?_
  refine gr_iconst (M := gm_DS_lost) (v := 1) dq_DS_lost_30 rfl ⟨by decide, by decide⟩ 31 rfl ?_
  refine gr_isub (M := gm_DS_lost) dq_DS_lost_31 32 rfl ?_
  refine gr_istore_n (M := gm_DS_lost) (lv' := [(1, .inl (gsub (gshl 1 (h3 (h3 0 0).toNat 3)) 1)), (0, .inr (.inr 0))]) dq_DS_lost_32 rfl (by decide) rfl 33 rfl ?_
  refine gr_iload_n (M := gm_DS_lost) dq_DS_lost_33 rfl 0 rfl 34 rfl ?_
  refine gr_aload_n (M := gm_DS_lost) dq_DS_lost_34 rfl 1 rfl 35 rfl ?_
  refine gr_geta (M := gm_DS_lost) dq_DS_lost_35 38 rfl gfl_DS_35 gsh_0 rfl (gli hL gsh_0) ?_
  refine gr_iconst (M := gm_DS_lost) (v := 3) dq_DS_lost_38 rfl ⟨by decide, by decide⟩ 39 rfl ?_
  refine gr_callVi (M := gm_DS_lost) (as := [.inl 3]) dq_DS_lost_39 42 rfl rfl gcy_DS_119 gim_Traffic_those gse_Traffic_those ⟨by decide, by decide⟩ (Nat.le_of_ble_eq_true rfl) gsh_37 rfl (gli hL gsh_37) (fun o1 hg ha hx => c_Traffic_those hL hn gsh_37 hg ha hx) (fun h6 r7 _ => ?_)
  refine gr_iconst (M := gm_DS_lost) (v := (-1)) dq_DS_lost_42 rfl ⟨by decide, by decide⟩ 43 rfl ?_
  refine gr_ixor (M := gm_DS_lost) dq_DS_lost_43 44 rfl ?_
  refine gr_iand (M := gm_DS_lost) dq_DS_lost_44 45 rfl ?_
  refine gr_aload_n (M := gm_DS_lost) dq_DS_lost_45 rfl 1 rfl 46 rfl ?_
  refine gr_geta (M := gm_DS_lost) dq_DS_lost_46 49 rfl gfl_DS_35 gsh_0 rfl (gli hL gsh_0) ?_
  refine gr_iconst (M := gm_DS_lost) (v := 4) dq_DS_lost_49 rfl ⟨by decide, by decide⟩ 50 rfl ?_
  refine gr_callVi (M := gm_DS_lost) (as := [.inl 4]) dq_DS_lost_50 53 rfl rfl gcy_DS_119 gim_Traffic_those gse_Traffic_those ⟨by decide, by decide⟩ (Nat.le_of_ble_eq_true rfl) gsh_37 rfl (gli hL gsh_37) (fun o1 hg ha hx => c_Traffic_those hL hn gsh_37 hg ha hx) (fun h8 r9 _ => ?_)
  refine gr_iconst (M := gm_DS_lost) (v := (-1)) dq_DS_lost_53 rfl ⟨by decide, by decide⟩ 54 rfl ?_
  refine gr_ixor (M := gm_DS_lost) dq_DS_lost_54 55 rfl ?_
  refine gr_iand (M := gm_DS_lost) dq_DS_lost_55 56 rfl ?_
  exact gr_ireturn (M := gm_DS_lost) dq_DS_lost_56 hF

-- DS_costs
theorem dq_DS_costs_0 : decode gc_DS_costs 0 = .ok (.aload_n 0, 1) := by decide +kernel
theorem dq_DS_costs_1 : decode gc_DS_costs 1 = .ok (.iload_n 1, 1) := by decide +kernel
theorem dq_DS_costs_2 : decode gc_DS_costs 2 = .ok (.invokevirtual 157, 3) := by decide +kernel
theorem dq_DS_costs_5 : decode gc_DS_costs 5 = .ok (.ifCond .eq 6, 3) := by decide +kernel
theorem dq_DS_costs_8 : decode gc_DS_costs 8 = .ok (.ldc 130, 2) := by decide +kernel
theorem dq_DS_costs_10 : decode gc_DS_costs 10 = .ok (.ireturn, 1) := by decide +kernel
theorem dq_DS_costs_11 : decode gc_DS_costs 11 = .ok (.iload_n 2, 1) := by decide +kernel
theorem dq_DS_costs_12 : decode gc_DS_costs 12 = .ok (.iconst 1, 1) := by decide +kernel
theorem dq_DS_costs_13 : decode gc_DS_costs 13 = .ok (.sipush 300, 3) := by decide +kernel
theorem dq_DS_costs_16 : decode gc_DS_costs 16 = .ok (.invokestatic 76, 3) := by decide +kernel
theorem dq_DS_costs_19 : decode gc_DS_costs 19 = .ok (.ifCond .eq 6, 3) := by decide +kernel
theorem dq_DS_costs_22 : decode gc_DS_costs 22 = .ok (.ldc 80, 2) := by decide +kernel
theorem dq_DS_costs_24 : decode gc_DS_costs 24 = .ok (.ireturn, 1) := by decide +kernel
theorem dq_DS_costs_25 : decode gc_DS_costs 25 = .ok (.aload_n 0, 1) := by decide +kernel
theorem dq_DS_costs_26 : decode gc_DS_costs 26 = .ok (.getfield 31, 3) := by decide +kernel
theorem dq_DS_costs_29 : decode gc_DS_costs 29 = .ok (.getfield 175, 3) := by decide +kernel
theorem dq_DS_costs_32 : decode gc_DS_costs 32 = .ok (.iload_n 1, 1) := by decide +kernel
theorem dq_DS_costs_33 : decode gc_DS_costs 33 = .ok (.iaload, 1) := by decide +kernel
theorem dq_DS_costs_34 : decode gc_DS_costs 34 = .ok (.ifCond .eq 6, 3) := by decide +kernel
theorem dq_DS_costs_37 : decode gc_DS_costs 37 = .ok (.ldc 208, 2) := by decide +kernel
theorem dq_DS_costs_39 : decode gc_DS_costs 39 = .ok (.ireturn, 1) := by decide +kernel
theorem dq_DS_costs_40 : decode gc_DS_costs 40 = .ok (.aload_n 0, 1) := by decide +kernel
theorem dq_DS_costs_41 : decode gc_DS_costs 41 = .ok (.getfield 35, 3) := by decide +kernel
theorem dq_DS_costs_44 : decode gc_DS_costs 44 = .ok (.aload_n 0, 1) := by decide +kernel
theorem dq_DS_costs_45 : decode gc_DS_costs 45 = .ok (.getfield 31, 3) := by decide +kernel
theorem dq_DS_costs_48 : decode gc_DS_costs 48 = .ok (.invokevirtual 209, 3) := by decide +kernel
theorem dq_DS_costs_51 : decode gc_DS_costs 51 = .ok (.aload_n 0, 1) := by decide +kernel
theorem dq_DS_costs_52 : decode gc_DS_costs 52 = .ok (.getfield 35, 3) := by decide +kernel
theorem dq_DS_costs_55 : decode gc_DS_costs 55 = .ok (.iload_n 2, 1) := by decide +kernel
theorem dq_DS_costs_56 : decode gc_DS_costs 56 = .ok (.invokevirtual 202, 3) := by decide +kernel
theorem dq_DS_costs_59 : decode gc_DS_costs 59 = .ok (.aload_n 0, 1) := by decide +kernel
theorem dq_DS_costs_60 : decode gc_DS_costs 60 = .ok (.getfield 35, 3) := by decide +kernel
theorem dq_DS_costs_63 : decode gc_DS_costs 63 = .ok (.iload_n 1, 1) := by decide +kernel
theorem dq_DS_costs_64 : decode gc_DS_costs 64 = .ok (.invokevirtual 212, 3) := by decide +kernel
theorem dq_DS_costs_67 : decode gc_DS_costs 67 = .ok (.istore_n 3, 1) := by decide +kernel
theorem dq_DS_costs_68 : decode gc_DS_costs 68 = .ok (.aload_n 0, 1) := by decide +kernel
theorem dq_DS_costs_69 : decode gc_DS_costs 69 = .ok (.getfield 35, 3) := by decide +kernel
theorem dq_DS_costs_72 : decode gc_DS_costs 72 = .ok (.aload_n 0, 1) := by decide +kernel
theorem dq_DS_costs_73 : decode gc_DS_costs 73 = .ok (.getfield 31, 3) := by decide +kernel
theorem dq_DS_costs_76 : decode gc_DS_costs 76 = .ok (.invokevirtual 209, 3) := by decide +kernel
theorem dq_DS_costs_79 : decode gc_DS_costs 79 = .ok (.aload_n 0, 1) := by decide +kernel
theorem dq_DS_costs_80 : decode gc_DS_costs 80 = .ok (.getfield 35, 3) := by decide +kernel
theorem dq_DS_costs_83 : decode gc_DS_costs 83 = .ok (.getfield 175, 3) := by decide +kernel
theorem dq_DS_costs_86 : decode gc_DS_costs 86 = .ok (.iload_n 1, 1) := by decide +kernel
theorem dq_DS_costs_87 : decode gc_DS_costs 87 = .ok (.iconst 4, 1) := by decide +kernel
theorem dq_DS_costs_88 : decode gc_DS_costs 88 = .ok (.iastore, 1) := by decide +kernel
theorem dq_DS_costs_89 : decode gc_DS_costs 89 = .ok (.aload_n 0, 1) := by decide +kernel
theorem dq_DS_costs_90 : decode gc_DS_costs 90 = .ok (.getfield 35, 3) := by decide +kernel
theorem dq_DS_costs_93 : decode gc_DS_costs 93 = .ok (.iload_n 2, 1) := by decide +kernel
theorem dq_DS_costs_94 : decode gc_DS_costs 94 = .ok (.invokevirtual 202, 3) := by decide +kernel
theorem dq_DS_costs_97 : decode gc_DS_costs 97 = .ok (.iload_n 3, 1) := by decide +kernel
theorem dq_DS_costs_98 : decode gc_DS_costs 98 = .ok (.aload_n 0, 1) := by decide +kernel
theorem dq_DS_costs_99 : decode gc_DS_costs 99 = .ok (.getfield 35, 3) := by decide +kernel
theorem dq_DS_costs_102 : decode gc_DS_costs 102 = .ok (.iload_n 1, 1) := by decide +kernel
theorem dq_DS_costs_103 : decode gc_DS_costs 103 = .ok (.invokevirtual 212, 3) := by decide +kernel
theorem dq_DS_costs_106 : decode gc_DS_costs 106 = .ok (.isub, 1) := by decide +kernel
theorem dq_DS_costs_107 : decode gc_DS_costs 107 = .ok (.ireturn, 1) := by decide +kernel
abbrev gm_DS_costs : gM := (gc_DS_costs, gR_6, 5, 113, 4)
def f_DS_costs (a1 : Int) (a2 : Int) (h : gH) : Option gO := gb (f_DS_isNoCart a1 h) (fun h1 r2 => if r2 = 0 then (gb (f_DS_isOutside a2 1 300 h1) (fun h4 r5 => if r5 = 0 then (gd (gix 6 a1) (if (h4 33 a1.toNat) = 0 then (gb (f_Traffic_copyFrom 37 27 h4) (fun h8 r9 => gb (f_Traffic_pass 37 a2 h8) (fun h10 r11 => gb (f_Traffic_together 37 a1 h10) (fun h12 r13 => gb (f_Traffic_copyFrom 37 27 h12) (fun h14 r15 => gd (gix 6 a1) (gs (gup h14 43 a1.toNat 4) (fun h16 => gb (f_Traffic_pass 37 a2 h16) (fun h17 r18 => gb (f_Traffic_together 37 a1 h17) (fun h19 r20 => some (h19, (gsub r13 r20))))))))))) else (some (h4, (-1000000003))))) else (some (h4, (-1000000002))))) else (some (h1, (-1000000001))))
theorem c_DS_costs {Z : gZ} (hL : gLive Z) (hn : (zL Z).Nodup) {a1 : Int} {a2 : Int}  {h : gH} {o : gO} (hg : gRg h) (ha : gRl [.inr (.inr 0), .inl a1, .inl a2]) (hx : f_DS_costs a1 a2 h = some o) : gC Z gy_DS_costs gc_DS_costs 4 (some .int) 5 113 [.inr (.inr 0), .inl a1, .inl a2] h o := by
  unfold f_DS_costs at hx
  refine gC_of (lv := [(0, .inr (.inr 0)), (1, .inl a1), (2, .inl a2)]) (own := gR_6) (by decide +kernel) rfl (Nat.le_of_ble_eq_true rfl) rfl rfl hn hg ha hx (fun X hZ hF => ?_)
  subst hZ
  show gr _ o gm_DS_costs X h 0 _ _
  refine gr_aload_n (M := gm_DS_costs) dq_DS_costs_0 rfl 0 rfl 1 rfl ?_
  refine gr_iload_n (M := gm_DS_costs) dq_DS_costs_1 rfl 1 rfl 2 rfl ?_
  refine gr_callVi (M := gm_DS_costs) (as := [.inl a1]) dq_DS_costs_2 5 rfl rfl gcy_DS_157 gim_DS_isNoCart gse_DS_isNoCart ⟨by decide, by decide⟩ (Nat.le_of_ble_eq_true rfl) gsh_0 rfl (gli hL gsh_0) (fun o1 hg ha hx => c_DS_isNoCart hL hn  hg ha hx) (fun h1 r2 _ => ?_)
  refine gr_if_eq (M := gm_DS_costs) dq_DS_costs_5 11 8 rfl rfl (fun c3 => ?_) (fun c3 => ?_)
  · refine gr_iload_n (M := gm_DS_costs) dq_DS_costs_11 rfl 2 rfl 12 rfl ?_
    refine gr_iconst (M := gm_DS_costs) (v := 1) dq_DS_costs_12 rfl ⟨by decide, by decide⟩ 13 rfl ?_
    refine gr_sipush (M := gm_DS_costs) (v := 300) dq_DS_costs_13 (by decide) ⟨by decide, by decide⟩ 16 rfl ?_
    refine gr_callSi (M := gm_DS_costs) (as := [.inl a2, .inl 1, .inl 300]) dq_DS_costs_16 19 rfl rfl gcy_DS_76 gst_DS_isOutside ⟨by decide, by decide⟩ (Nat.le_of_ble_eq_true rfl) (fun o1 hg ha hx => c_DS_isOutside hL hn  hg ha hx) (fun h4 r5 _ => ?_)
    refine gr_if_eq (M := gm_DS_costs) dq_DS_costs_19 25 22 rfl rfl (fun c6 => ?_) (fun c6 => ?_)
    · refine gr_aload_n (M := gm_DS_costs) dq_DS_costs_25 rfl 0 rfl 26 rfl ?_
      refine gr_geta (M := gm_DS_costs) dq_DS_costs_26 29 rfl gfl_DS_31 gsh_0 rfl (gli hL gsh_0) ?_
      refine gr_getr (M := gm_DS_costs) dq_DS_costs_29 32 rfl gfl_DS_175 gsh_27 rfl (gli hL gsh_27) 33 rfl ?_
      refine gr_iload_n (M := gm_DS_costs) dq_DS_costs_32 rfl 1 rfl 33 rfl ?_
      refine gr_iald (M := gm_DS_costs) dq_DS_costs_33 34 rfl gsh_33 (glj hL gsh_33 (by decide)) ?_
      refine gr_if_eq (M := gm_DS_costs) dq_DS_costs_34 40 37 rfl rfl (fun c7 => ?_) (fun c7 => ?_)
      · refine gr_aload_n (M := gm_DS_costs) dq_DS_costs_40 rfl 0 rfl 41 rfl ?_
        refine gr_geta (M := gm_DS_costs) dq_DS_costs_41 44 rfl gfl_DS_35 gsh_0 rfl (gli hL gsh_0) ?_
        refine gr_aload_n (M := gm_DS_costs) dq_DS_costs_44 rfl 0 rfl 45 rfl ?_
        refine gr_geta (M := gm_DS_costs) dq_DS_costs_45 48 rfl gfl_DS_31 gsh_0 rfl (gli hL gsh_0) ?_
        refine gr_callVv (M := gm_DS_costs) (as := [.inr (.inr 27)]) dq_DS_costs_48 51 rfl rfl gcy_DS_209 gim_Traffic_copyFrom gse_Traffic_copyFrom ⟨by decide, by decide⟩ (Nat.le_of_ble_eq_true rfl) gsh_37 rfl (gli hL gsh_37) (fun o1 hg ha hx => c_Traffic_copyFrom hL hn gsh_37 gsh_27 hg ha hx) (fun h8 r9 _ => ?_)
        refine gr_aload_n (M := gm_DS_costs) dq_DS_costs_51 rfl 0 rfl 52 rfl ?_
        refine gr_geta (M := gm_DS_costs) dq_DS_costs_52 55 rfl gfl_DS_35 gsh_0 rfl (gli hL gsh_0) ?_
        refine gr_iload_n (M := gm_DS_costs) dq_DS_costs_55 rfl 2 rfl 56 rfl ?_
        refine gr_callVv (M := gm_DS_costs) (as := [.inl a2]) dq_DS_costs_56 59 rfl rfl gcy_DS_202 gim_Traffic_pass gse_Traffic_pass ⟨by decide, by decide⟩ (Nat.le_of_ble_eq_true rfl) gsh_37 rfl (gli hL gsh_37) (fun o1 hg ha hx => c_Traffic_pass hL hn gsh_37 hg ha hx) (fun h10 r11 _ => ?_)
        refine gr_aload_n (M := gm_DS_costs) dq_DS_costs_59 rfl 0 rfl 60 rfl ?_
        refine gr_geta (M := gm_DS_costs) dq_DS_costs_60 63 rfl gfl_DS_35 gsh_0 rfl (gli hL gsh_0) ?_
        refine gr_iload_n (M := gm_DS_costs) dq_DS_costs_63 rfl 1 rfl 64 rfl ?_
        refine gr_callVi (M := gm_DS_costs) (as := [.inl a1]) dq_DS_costs_64 67 rfl rfl gcy_DS_212 gim_Traffic_together gse_Traffic_together ⟨by decide, by decide⟩ (Nat.le_of_ble_eq_true rfl) gsh_37 rfl (gli hL gsh_37) (fun o1 hg ha hx => c_Traffic_together hL hn gsh_37 hg ha hx) (fun h12 r13 _ => ?_)
        refine gr_istore_n (M := gm_DS_costs) (lv' := [(3, .inl r13), (0, .inr (.inr 0)), (1, .inl a1), (2, .inl a2)]) dq_DS_costs_67 rfl (by decide) rfl 68 rfl ?_
        refine gr_aload_n (M := gm_DS_costs) dq_DS_costs_68 rfl 1 rfl 69 rfl ?_
        refine gr_geta (M := gm_DS_costs) dq_DS_costs_69 72 rfl gfl_DS_35 gsh_0 rfl (gli hL gsh_0) ?_
        refine gr_aload_n (M := gm_DS_costs) dq_DS_costs_72 rfl 1 rfl 73 rfl ?_
        refine gr_geta (M := gm_DS_costs) dq_DS_costs_73 76 rfl gfl_DS_31 gsh_0 rfl (gli hL gsh_0) ?_
        refine gr_callVv (M := gm_DS_costs) (as := [.inr (.inr 27)]) dq_DS_costs_76 79 rfl rfl gcy_DS_209 gim_Traffic_copyFrom gse_Traffic_copyFrom ⟨by decide, by decide⟩ (Nat.le_of_ble_eq_true rfl) gsh_37 rfl (gli hL gsh_37) (fun o1 hg ha hx => c_Traffic_copyFrom hL hn gsh_37 gsh_27 hg ha hx) (fun h14 r15 _ => ?_)
        refine gr_aload_n (M := gm_DS_costs) dq_DS_costs_79 rfl 1 rfl 80 rfl ?_
        refine gr_geta (M := gm_DS_costs) dq_DS_costs_80 83 rfl gfl_DS_35 gsh_0 rfl (gli hL gsh_0) ?_
        refine gr_getr (M := gm_DS_costs) dq_DS_costs_83 86 rfl gfl_DS_175 gsh_37 rfl (gli hL gsh_37) 43 rfl ?_
        refine gr_iload_n (M := gm_DS_costs) dq_DS_costs_86 rfl 2 rfl 87 rfl ?_
        refine gr_iconst (M := gm_DS_costs) (v := 4) dq_DS_costs_87 rfl ⟨by decide, by decide⟩ 88 rfl ?_
        refine gr_iast (M := gm_DS_costs) dq_DS_costs_88 89 rfl gsh_43 (glj hL gsh_43 (by decide)) (fun h16 _ => ?_)
        refine gr_aload_n (M := gm_DS_costs) dq_DS_costs_89 rfl 1 rfl 90 rfl ?_
        refine gr_geta (M := gm_DS_costs) dq_DS_costs_90 93 rfl gfl_DS_35 gsh_0 rfl (gli hL gsh_0) ?_
        refine gr_iload_n (M := gm_DS_costs) dq_DS_costs_93 rfl 3 rfl 94 rfl ?_
        refine gr_callVv (M := gm_DS_costs) (as := [.inl a2]) dq_DS_costs_94 97 rfl rfl gcy_DS_202 gim_Traffic_pass gse_Traffic_pass ⟨by decide, by decide⟩ (Nat.le_of_ble_eq_true rfl) gsh_37 rfl (gli hL gsh_37) (fun o1 hg ha hx => c_Traffic_pass hL hn gsh_37 hg ha hx) (fun h17 r18 _ => ?_)
        refine gr_iload_n (M := gm_DS_costs) dq_DS_costs_97 rfl 0 rfl 98 rfl ?_
        refine gr_aload_n (M := gm_DS_costs) dq_DS_costs_98 rfl 1 rfl 99 rfl ?_
        refine gr_geta (M := gm_DS_costs) dq_DS_costs_99 102 rfl gfl_DS_35 gsh_0 rfl (gli hL gsh_0) ?_
        refine gr_iload_n (M := gm_DS_costs) dq_DS_costs_102 rfl 2 rfl 103 rfl ?_
        refine gr_callVi (M := gm_DS_costs) (as := [.inl a1]) dq_DS_costs_103 106 rfl rfl gcy_DS_212 gim_Traffic_together gse_Traffic_together ⟨by decide, by decide⟩ (Nat.le_of_ble_eq_true rfl) gsh_37 rfl (gli hL gsh_37) (fun o1 hg ha hx => c_Traffic_together hL hn gsh_37 hg ha hx) (fun h19 r20 _ => ?_)
        refine gr_isub (M := gm_DS_costs) dq_DS_costs_106 107 rfl ?_
        exact gr_ireturn (M := gm_DS_costs) dq_DS_costs_107 hF
      refine gr_ldc (M := gm_DS_costs) (v := (-1000000003)) dq_DS_costs_37 gk_DS_208 ⟨by decide, by decide⟩ 39 rfl ?_
      exact gr_ireturn (M := gm_DS_costs) dq_DS_costs_39 hF
    refine gr_ldc (M := gm_DS_costs) (v := (-1000000002)) dq_DS_costs_22 gk_DS_80 ⟨by decide, by decide⟩ 24 rfl ?_
    exact gr_ireturn (M := gm_DS_costs) dq_DS_costs_24 hF
  refine gr_ldc (M := gm_DS_costs) (v := (-1000000001)) dq_DS_costs_8 gk_DS_130 ⟨by decide, by decide⟩ 10 rfl ?_
  exact gr_ireturn (M := gm_DS_costs) dq_DS_costs_10 hF

-- DS_decree
theorem dq_DS_decree_0 : decode gc_DS_decree 0 = .ok (.iload_n 1, 1) := by decide +kernel
theorem dq_DS_decree_1 : decode gc_DS_decree 1 = .ok (.iconst 1, 1) := by decide +kernel
theorem dq_DS_decree_2 : decode gc_DS_decree 2 = .ok (.sipush 300, 3) := by decide +kernel
theorem dq_DS_decree_5 : decode gc_DS_decree 5 = .ok (.invokestatic 76, 3) := by decide +kernel
theorem dq_DS_decree_8 : decode gc_DS_decree 8 = .ok (.ifCond .eq 6, 3) := by decide +kernel
theorem dq_DS_decree_11 : decode gc_DS_decree 11 = .ok (.ldc 80, 2) := by decide +kernel
theorem dq_DS_decree_13 : decode gc_DS_decree 13 = .ok (.ireturn, 1) := by decide +kernel
theorem dq_DS_decree_14 : decode gc_DS_decree 14 = .ok (.aload_n 0, 1) := by decide +kernel
theorem dq_DS_decree_15 : decode gc_DS_decree 15 = .ok (.getfield 35, 3) := by decide +kernel
theorem dq_DS_decree_18 : decode gc_DS_decree 18 = .ok (.aload_n 0, 1) := by decide +kernel
theorem dq_DS_decree_19 : decode gc_DS_decree 19 = .ok (.getfield 31, 3) := by decide +kernel
theorem dq_DS_decree_22 : decode gc_DS_decree 22 = .ok (.invokevirtual 209, 3) := by decide +kernel
theorem dq_DS_decree_25 : decode gc_DS_decree 25 = .ok (.aload_n 0, 1) := by decide +kernel
theorem dq_DS_decree_26 : decode gc_DS_decree 26 = .ok (.getfield 35, 3) := by decide +kernel
theorem dq_DS_decree_29 : decode gc_DS_decree 29 = .ok (.iload_n 1, 1) := by decide +kernel
theorem dq_DS_decree_30 : decode gc_DS_decree 30 = .ok (.invokevirtual 202, 3) := by decide +kernel
theorem dq_DS_decree_33 : decode gc_DS_decree 33 = .ok (.aload_n 0, 1) := by decide +kernel
theorem dq_DS_decree_34 : decode gc_DS_decree 34 = .ok (.getfield 35, 3) := by decide +kernel
theorem dq_DS_decree_37 : decode gc_DS_decree 37 = .ok (.iconst (-1), 1) := by decide +kernel
theorem dq_DS_decree_38 : decode gc_DS_decree 38 = .ok (.invokevirtual 212, 3) := by decide +kernel
theorem dq_DS_decree_41 : decode gc_DS_decree 41 = .ok (.istore_n 2, 1) := by decide +kernel
theorem dq_DS_decree_42 : decode gc_DS_decree 42 = .ok (.iconst (-1), 1) := by decide +kernel
theorem dq_DS_decree_43 : decode gc_DS_decree 43 = .ok (.istore_n 3, 1) := by decide +kernel
theorem dq_DS_decree_44 : decode gc_DS_decree 44 = .ok (.iconst 0, 1) := by decide +kernel
theorem dq_DS_decree_45 : decode gc_DS_decree 45 = .ok (.istore 4, 2) := by decide +kernel
theorem dq_DS_decree_47 : decode gc_DS_decree 47 = .ok (.iload 4, 2) := by decide +kernel
theorem dq_DS_decree_49 : decode gc_DS_decree 49 = .ok (.aload_n 0, 1) := by decide +kernel
theorem dq_DS_decree_50 : decode gc_DS_decree 50 = .ok (.getfield 10, 3) := by decide +kernel
theorem dq_DS_decree_53 : decode gc_DS_decree 53 = .ok (.getfield 107, 3) := by decide +kernel
theorem dq_DS_decree_56 : decode gc_DS_decree 56 = .ok (.if_icmp .ge 85, 3) := by decide +kernel
theorem dq_DS_decree_59 : decode gc_DS_decree 59 = .ok (.aload_n 0, 1) := by decide +kernel
theorem dq_DS_decree_60 : decode gc_DS_decree 60 = .ok (.getfield 31, 3) := by decide +kernel
theorem dq_DS_decree_63 : decode gc_DS_decree 63 = .ok (.getfield 154, 3) := by decide +kernel
theorem dq_DS_decree_66 : decode gc_DS_decree 66 = .ok (.iload 4, 2) := by decide +kernel
theorem dq_DS_decree_68 : decode gc_DS_decree 68 = .ok (.iaload, 1) := by decide +kernel
theorem dq_DS_decree_69 : decode gc_DS_decree 69 = .ok (.ifCond .ne 66, 3) := by decide +kernel
theorem dq_DS_decree_72 : decode gc_DS_decree 72 = .ok (.aload_n 0, 1) := by decide +kernel
theorem dq_DS_decree_73 : decode gc_DS_decree 73 = .ok (.getfield 35, 3) := by decide +kernel
theorem dq_DS_decree_76 : decode gc_DS_decree 76 = .ok (.aload_n 0, 1) := by decide +kernel
theorem dq_DS_decree_77 : decode gc_DS_decree 77 = .ok (.getfield 31, 3) := by decide +kernel
theorem dq_DS_decree_80 : decode gc_DS_decree 80 = .ok (.invokevirtual 209, 3) := by decide +kernel
theorem dq_DS_decree_83 : decode gc_DS_decree 83 = .ok (.aload_n 0, 1) := by decide +kernel
theorem dq_DS_decree_84 : decode gc_DS_decree 84 = .ok (.getfield 35, 3) := by decide +kernel
theorem dq_DS_decree_87 : decode gc_DS_decree 87 = .ok (.getfield 151, 3) := by decide +kernel
theorem dq_DS_decree_90 : decode gc_DS_decree 90 = .ok (.iload 4, 2) := by decide +kernel
theorem dq_DS_decree_92 : decode gc_DS_decree 92 = .ok (.iconst 1, 1) := by decide +kernel
theorem dq_DS_decree_93 : decode gc_DS_decree 93 = .ok (.aload_n 0, 1) := by decide +kernel
theorem dq_DS_decree_94 : decode gc_DS_decree 94 = .ok (.getfield 35, 3) := by decide +kernel
theorem dq_DS_decree_97 : decode gc_DS_decree 97 = .ok (.getfield 151, 3) := by decide +kernel
theorem dq_DS_decree_100 : decode gc_DS_decree 100 = .ok (.iload 4, 2) := by decide +kernel
theorem dq_DS_decree_102 : decode gc_DS_decree 102 = .ok (.iaload, 1) := by decide +kernel
theorem dq_DS_decree_103 : decode gc_DS_decree 103 = .ok (.isub, 1) := by decide +kernel
theorem dq_DS_decree_104 : decode gc_DS_decree 104 = .ok (.iastore, 1) := by decide +kernel
theorem dq_DS_decree_105 : decode gc_DS_decree 105 = .ok (.aload_n 0, 1) := by decide +kernel
theorem dq_DS_decree_106 : decode gc_DS_decree 106 = .ok (.getfield 35, 3) := by decide +kernel
theorem dq_DS_decree_109 : decode gc_DS_decree 109 = .ok (.iload_n 1, 1) := by decide +kernel
theorem dq_DS_decree_110 : decode gc_DS_decree 110 = .ok (.invokevirtual 202, 3) := by decide +kernel
theorem dq_DS_decree_113 : decode gc_DS_decree 113 = .ok (.aload_n 0, 1) := by decide +kernel
theorem dq_DS_decree_114 : decode gc_DS_decree 114 = .ok (.getfield 35, 3) := by decide +kernel
theorem dq_DS_decree_117 : decode gc_DS_decree 117 = .ok (.iconst (-1), 1) := by decide +kernel
theorem dq_DS_decree_118 : decode gc_DS_decree 118 = .ok (.invokevirtual 212, 3) := by decide +kernel
theorem dq_DS_decree_121 : decode gc_DS_decree 121 = .ok (.istore 5, 2) := by decide +kernel
theorem dq_DS_decree_123 : decode gc_DS_decree 123 = .ok (.iload 5, 2) := by decide +kernel
theorem dq_DS_decree_125 : decode gc_DS_decree 125 = .ok (.iload_n 2, 1) := by decide +kernel
theorem dq_DS_decree_126 : decode gc_DS_decree 126 = .ok (.if_icmp .ge 9, 3) := by decide +kernel
theorem dq_DS_decree_129 : decode gc_DS_decree 129 = .ok (.iload 5, 2) := by decide +kernel
theorem dq_DS_decree_131 : decode gc_DS_decree 131 = .ok (.istore_n 2, 1) := by decide +kernel
theorem dq_DS_decree_132 : decode gc_DS_decree 132 = .ok (.iload 4, 2) := by decide +kernel
theorem dq_DS_decree_134 : decode gc_DS_decree 134 = .ok (.istore_n 3, 1) := by decide +kernel
theorem dq_DS_decree_135 : decode gc_DS_decree 135 = .ok (.iinc 4 1, 3) := by decide +kernel
theorem dq_DS_decree_138 : decode gc_DS_decree 138 = .ok (.goto (-91), 3) := by decide +kernel
theorem dq_DS_decree_141 : decode gc_DS_decree 141 = .ok (.iload_n 3, 1) := by decide +kernel
theorem dq_DS_decree_142 : decode gc_DS_decree 142 = .ok (.ireturn, 1) := by decide +kernel
abbrev gm_DS_decree : gM := (gc_DS_decree, gR_6, 5, 113, 6)
def f_DS_decree_J135  (k47 : Int → Int → Int → gH → Option gO) (v1 : Int) (v2 : Int) (v3 : Int) (v4 : Int) (h : gH) : Option gO := k47 v2 v3 (gadd v4 1) h
theorem w_DS_decree_J135 {o : gO} {X : gX} (hL : gLive (xZ X)) (hn : (zL (xZ X)).Nodup) (hF : gFin X (some .int) o)    {k47 : Int → Int → Int → gH → Option gO} {v1 : Int} {v2 : Int} {v3 : Int} {v4 : Int} {h : gH} (hk47 : ∀ (v2 : Int) (v3 : Int) (v4 : Int) (h : gH), gr (k47 v2 v3 v4 h) o gm_DS_decree X h 47 [(0, .inr (.inr 0)), (1, .inl v1), (2, .inl v2), (3, .inl v3), (4, .inl v4)] []) : gr (f_DS_decree_J135  k47 v1 v2 v3 v4 h) o gm_DS_decree X h 135 [(0, .inr (.inr 0)), (1, .inl v1), (2, .inl v2), (3, .inl v3), (4, .inl v4)] [] := by
  unfold f_DS_decree_J135
  refine gr_iinc (M := gm_DS_decree) (lv' := [(4, .inl (gadd v4 1)), (0, .inr (.inr 0)), (1, .inl v1), (2, .inl v2), (3, .inl v3)]) dq_DS_decree_135 4 rfl rfl (by decide) rfl 138 rfl ?_
  refine gr_goto (M := gm_DS_decree) dq_DS_decree_138 47 rfl ?_
  refine gr_sub (M := gm_DS_decree) (lv' := [(0, .inr (.inr 0)), (1, .inl v1), (2, .inl v2), (3, .inl v3), (4, .inl (gadd v4 1))]) [1, 2, 3, 4, 0] rfl ?_
  exact hk47 _ _ _ _

def f_DS_decree_L47 (v1 : Int) (k141 : Int → gH → Option gO) : Nat → Int → Int → Int → gH → Option gO
  | 0, _, _, _, _ => none
  | n + 1, v2, v3, v4, h => gd (gcl ((h 0 0).toNat) 0) (if (h (h 0 0).toNat 2) ≤ v4 then (k141 v3 h) else (gd (gix 9 v4) (if (h 30 v4.toNat) = 0 then (gb (f_Traffic_copyFrom 37 27 h) (fun h13 r14 => gd (gix 9 v4) (gd (gix 9 v4) (gs (gup h13 39 v4.toNat (gsub 1 (h13 39 v4.toNat))) (fun h15 => gb (f_Traffic_pass 37 v1 h15) (fun h16 r17 => gb (f_Traffic_together 37 (-1) h16) (fun h18 r19 => if v2 ≤ r19 then (f_DS_decree_J135  (f_DS_decree_L47 v1 k141 n) v1 v2 v3 v4 h18) else (f_DS_decree_J135  (f_DS_decree_L47 v1 k141 n) v1 r19 v4 v4 h18)))))))) else (f_DS_decree_J135  (f_DS_decree_L47 v1 k141 n) v1 v2 v3 v4 h))))
theorem w_DS_decree_L47 {o : gO} {X : gX} (hL : gLive (xZ X)) (hn : (zL (xZ X)).Nodup) (hF : gFin X (some .int) o) {v1 : Int}   {k141 : Int → gH → Option gO} (hk141 : ∀ (v3 : Int) (h : gH), gr (k141 v3 h) o gm_DS_decree X h 141 [(3, .inl v3)] []) : ∀ (n : Nat) (v2 : Int) (v3 : Int) (v4 : Int) (h : gH), gr (f_DS_decree_L47 v1 k141 n v2 v3 v4 h) o gm_DS_decree X h 47 [(0, .inr (.inr 0)), (1, .inl v1), (2, .inl v2), (3, .inl v3), (4, .inl v4)] [] := by
  intro n
  induction n with
  | zero => intros; exact gr_none
  | succ n ih =>
    intro v2 v3 v4 h
    unfold f_DS_decree_L47
    refine gr_iload (M := gm_DS_decree) dq_DS_decree_47 4 rfl 49 rfl ?_
    refine gr_aload_n (M := gm_DS_decree) dq_DS_decree_49 rfl 0 rfl 50 rfl ?_
    refine gr_getd (M := gm_DS_decree) dq_DS_decree_50 53 rfl gfl_DS_10 gsh_0 rfl (gli hL gsh_0) (fun hc10 => ?_)
    refine gr_geti (M := gm_DS_decree) dq_DS_decree_53 56 rfl gfl_DS_107 (gclE hc10) rfl (gli hL (gclE hc10)) ?_
    refine gr_icmp_ge (M := gm_DS_decree) dq_DS_decree_56 141 59 rfl rfl (fun c11 => ?_) (fun c11 => ?_)
    · refine gr_sub (M := gm_DS_decree) (lv' := [(3, .inl v3)]) [3] rfl ?_
      exact hk141 _ _
    refine gr_aload_n (M := gm_DS_decree) dq_DS_decree_59 rfl 0 rfl 60 rfl ?_
    refine gr_geta (M := gm_DS_decree) dq_DS_decree_60 63 rfl gfl_DS_31 gsh_0 rfl (gli hL gsh_0) ?_
    refine gr_getr (M := gm_DS_decree) dq_DS_decree_63 66 rfl gfl_DS_154 gsh_27 rfl (gli hL gsh_27) 30 rfl ?_
    refine gr_iload (M := gm_DS_decree) dq_DS_decree_66 4 rfl 68 rfl ?_
    refine gr_iald (M := gm_DS_decree) dq_DS_decree_68 69 rfl gsh_30 (glj hL gsh_30 (by decide)) ?_
    refine gr_if_ne (M := gm_DS_decree) dq_DS_decree_69 135 72 rfl rfl (fun c12 => ?_) (fun c12 => ?_)
    · exact w_DS_decree_J135 hL hn hF   ih
    refine gr_aload_n (M := gm_DS_decree) dq_DS_decree_72 rfl 0 rfl 73 rfl ?_
    refine gr_geta (M := gm_DS_decree) dq_DS_decree_73 76 rfl gfl_DS_35 gsh_0 rfl (gli hL gsh_0) ?_
    refine gr_aload_n (M := gm_DS_decree) dq_DS_decree_76 rfl 0 rfl 77 rfl ?_
    refine gr_geta (M := gm_DS_decree) dq_DS_decree_77 80 rfl gfl_DS_31 gsh_0 rfl (gli hL gsh_0) ?_
    refine gr_callVv (M := gm_DS_decree) (as := [.inr (.inr 27)]) dq_DS_decree_80 83 rfl rfl gcy_DS_209 gim_Traffic_copyFrom gse_Traffic_copyFrom ⟨by decide, by decide⟩ (Nat.le_of_ble_eq_true rfl) gsh_37 rfl (gli hL gsh_37) (fun o1 hg ha hx => c_Traffic_copyFrom hL hn gsh_37 gsh_27 hg ha hx) (fun h13 r14 _ => ?_)
    refine gr_aload_n (M := gm_DS_decree) dq_DS_decree_83 rfl 0 rfl 84 rfl ?_
    refine gr_geta (M := gm_DS_decree) dq_DS_decree_84 87 rfl gfl_DS_35 gsh_0 rfl (gli hL gsh_0) ?_
    refine gr_getr (M := gm_DS_decree) dq_DS_decree_87 90 rfl gfl_DS_151 gsh_37 rfl (gli hL gsh_37) 39 rfl ?_
    refine gr_iload (M := gm_DS_decree) dq_DS_decree_90 4 rfl 92 rfl ?_
    refine gr_iconst (M := gm_DS_decree) (v := 1) dq_DS_decree_92 rfl ⟨by decide, by decide⟩ 93 rfl ?_
    refine gr_aload_n (M := gm_DS_decree) dq_DS_decree_93 rfl 0 rfl 94 rfl ?_
    refine gr_geta (M := gm_DS_decree) dq_DS_decree_94 97 rfl gfl_DS_35 gsh_0 rfl (gli hL gsh_0) ?_
    refine gr_getr (M := gm_DS_decree) dq_DS_decree_97 100 rfl gfl_DS_151 gsh_37 rfl (gli hL gsh_37) 39 rfl ?_
    refine gr_iload (M := gm_DS_decree) dq_DS_decree_100 4 rfl 102 rfl ?_
    refine gr_iald (M := gm_DS_decree) dq_DS_decree_102 103 rfl gsh_39 (glj hL gsh_39 (by decide)) ?_
    refine gr_isub (M := gm_DS_decree) dq_DS_decree_103 104 rfl ?_
    refine gr_iast (M := gm_DS_decree) dq_DS_decree_104 105 rfl gsh_39 (glj hL gsh_39 (by decide)) (fun h15 _ => ?_)
    refine gr_aload_n (M := gm_DS_decree) dq_DS_decree_105 rfl 0 rfl 106 rfl ?_
    refine gr_geta (M := gm_DS_decree) dq_DS_decree_106 109 rfl gfl_DS_35 gsh_0 rfl (gli hL gsh_0) ?_
    refine gr_iload_n (M := gm_DS_decree) dq_DS_decree_109 rfl 1 rfl 110 rfl ?_
    refine gr_callVv (M := gm_DS_decree) (as := [.inl v1]) dq_DS_decree_110 113 rfl rfl gcy_DS_202 gim_Traffic_pass gse_Traffic_pass ⟨by decide, by decide⟩ (Nat.le_of_ble_eq_true rfl) gsh_37 rfl (gli hL gsh_37) (fun o1 hg ha hx => c_Traffic_pass hL hn gsh_37 hg ha hx) (fun h16 r17 _ => ?_)
    refine gr_aload_n (M := gm_DS_decree) dq_DS_decree_113 rfl 0 rfl 114 rfl ?_
    refine gr_geta (M := gm_DS_decree) dq_DS_decree_114 117 rfl gfl_DS_35 gsh_0 rfl (gli hL gsh_0) ?_
    refine gr_iconst (M := gm_DS_decree) (v := (-1)) dq_DS_decree_117 rfl ⟨by decide, by decide⟩ 118 rfl ?_
    refine gr_callVi (M := gm_DS_decree) (as := [.inl (-1)]) dq_DS_decree_118 121 rfl rfl gcy_DS_212 gim_Traffic_together gse_Traffic_together ⟨by decide, by decide⟩ (Nat.le_of_ble_eq_true rfl) gsh_37 rfl (gli hL gsh_37) (fun o1 hg ha hx => c_Traffic_together hL hn gsh_37 hg ha hx) (fun h18 r19 _ => ?_)
    refine gr_istore (M := gm_DS_decree) (kk := 0) (lv' := [(5, .inl r19), (0, .inr (.inr 0)), (1, .inl v1), (2, .inl v2), (3, .inl v3), (4, .inl v4)]) dq_DS_decree_121 (by decide) rfl 123 rfl ?_
    refine gr_iload (M := gm_DS_decree) dq_DS_decree_123 0 rfl 125 rfl ?_
    refine gr_iload_n (M := gm_DS_decree) dq_DS_decree_125 rfl 3 rfl 126 rfl ?_
    refine gr_icmp_ge (M := gm_DS_decree) dq_DS_decree_126 135 129 rfl rfl (fun c20 => ?_) (fun c20 => ?_)
    · refine gr_sub (M := gm_DS_decree) (lv' := [(0, .inr (.inr 0)), (1, .inl v1), (2, .inl v2), (3, .inl v3), (4, .inl v4)]) [1, 2, 3, 4, 5] rfl ?_
      exact w_DS_decree_J135 hL hn hF   ih
    refine gr_iload (M := gm_DS_decree) dq_DS_decree_129 0 rfl 131 rfl ?_
    refine gr_istore_n (M := gm_DS_decree) (lv' := [(2, .inl r19), (5, .inl r19), (0, .inr (.inr 0)), (1, .inl v1), (3, .inl v3), (4, .inl v4)]) dq_DS_decree_131 rfl (by decide) rfl 132 rfl ?_
    refine gr_iload (M := gm_DS_decree) dq_DS_decree_132 5 rfl 134 rfl ?_
    refine gr_istore_n (M := gm_DS_decree) (lv' := [(3, .inl v4), (2, .inl r19), (5, .inl r19), (0, .inr (.inr 0)), (1, .inl v1), (4, .inl v4)]) dq_DS_decree_134 rfl (by decide) rfl 135 rfl ?_
    refine gr_sub (M := gm_DS_decree) (lv' := [(0, .inr (.inr 0)), (1, .inl v1), (2, .inl r19), (3, .inl v4), (4, .inl v4)]) [3, 4, 1, 0, 5] rfl ?_
    exact w_DS_decree_J135 hL hn hF   ih

def f_DS_decree (a1 : Int) (h : gH) : Option gO := gb (f_DS_isOutside a1 1 300 h) (fun h1 r2 => if r2 = 0 then (gb (f_Traffic_copyFrom 37 27 h1) (fun h4 r5 => gb (f_Traffic_pass 37 a1 h4) (fun h6 r7 => gb (f_Traffic_together 37 (-1) h6) (fun h8 r9 => f_DS_decree_L47 a1 (fun v21 h22 => some (h22, v21)) 50000 r9 (-1) 0 h8)))) else (some (h1, (-1000000002))))
theorem c_DS_decree {Z : gZ} (hL : gLive Z) (hn : (zL Z).Nodup) {a1 : Int}  {h : gH} {o : gO} (hg : gRg h) (ha : gRl [.inr (.inr 0), .inl a1]) (hx : f_DS_decree a1 h = some o) : gC Z gy_DS_decree gc_DS_decree 6 (some .int) 5 113 [.inr (.inr 0), .inl a1] h o := by
  unfold f_DS_decree at hx
  refine gC_of (lv := [(0, .inr (.inr 0)), (1, .inl a1)]) (own := gR_6) (by decide +kernel) rfl (Nat.le_of_ble_eq_true rfl) rfl rfl hn hg ha hx (fun X hZ hF => ?_)
  subst hZ
  show gr _ o gm_DS_decree X h 0 _ _
  refine gr_iload_n (M := gm_DS_decree) dq_DS_decree_0 rfl 1 rfl 1 rfl ?_
  refine gr_iconst (M := gm_DS_decree) (v := 1) dq_DS_decree_1 rfl ⟨by decide, by decide⟩ 2 rfl ?_
  refine gr_sipush (M := gm_DS_decree) (v := 300) dq_DS_decree_2 (by decide) ⟨by decide, by decide⟩ 5 rfl ?_
  refine gr_callSi (M := gm_DS_decree) (as := [.inl a1, .inl 1, .inl 300]) dq_DS_decree_5 8 rfl rfl gcy_DS_76 gst_DS_isOutside ⟨by decide, by decide⟩ (Nat.le_of_ble_eq_true rfl) (fun o1 hg ha hx => c_DS_isOutside hL hn  hg ha hx) (fun h1 r2 _ => ?_)
  refine gr_if_eq (M := gm_DS_decree) dq_DS_decree_8 14 11 rfl rfl (fun c3 => ?_) (fun c3 => ?_)
  · refine gr_aload_n (M := gm_DS_decree) dq_DS_decree_14 rfl 0 rfl 15 rfl ?_
    refine gr_geta (M := gm_DS_decree) dq_DS_decree_15 18 rfl gfl_DS_35 gsh_0 rfl (gli hL gsh_0) ?_
    refine gr_aload_n (M := gm_DS_decree) dq_DS_decree_18 rfl 0 rfl 19 rfl ?_
    refine gr_geta (M := gm_DS_decree) dq_DS_decree_19 22 rfl gfl_DS_31 gsh_0 rfl (gli hL gsh_0) ?_
    refine gr_callVv (M := gm_DS_decree) (as := [.inr (.inr 27)]) dq_DS_decree_22 25 rfl rfl gcy_DS_209 gim_Traffic_copyFrom gse_Traffic_copyFrom ⟨by decide, by decide⟩ (Nat.le_of_ble_eq_true rfl) gsh_37 rfl (gli hL gsh_37) (fun o1 hg ha hx => c_Traffic_copyFrom hL hn gsh_37 gsh_27 hg ha hx) (fun h4 r5 _ => ?_)
    refine gr_aload_n (M := gm_DS_decree) dq_DS_decree_25 rfl 0 rfl 26 rfl ?_
    refine gr_geta (M := gm_DS_decree) dq_DS_decree_26 29 rfl gfl_DS_35 gsh_0 rfl (gli hL gsh_0) ?_
    refine gr_iload_n (M := gm_DS_decree) dq_DS_decree_29 rfl 1 rfl 30 rfl ?_
    refine gr_callVv (M := gm_DS_decree) (as := [.inl a1]) dq_DS_decree_30 33 rfl rfl gcy_DS_202 gim_Traffic_pass gse_Traffic_pass ⟨by decide, by decide⟩ (Nat.le_of_ble_eq_true rfl) gsh_37 rfl (gli hL gsh_37) (fun o1 hg ha hx => c_Traffic_pass hL hn gsh_37 hg ha hx) (fun h6 r7 _ => ?_)
    refine gr_aload_n (M := gm_DS_decree) dq_DS_decree_33 rfl 0 rfl 34 rfl ?_
    refine gr_geta (M := gm_DS_decree) dq_DS_decree_34 37 rfl gfl_DS_35 gsh_0 rfl (gli hL gsh_0) ?_
    refine gr_iconst (M := gm_DS_decree) (v := (-1)) dq_DS_decree_37 rfl ⟨by decide, by decide⟩ 38 rfl ?_
    refine gr_callVi (M := gm_DS_decree) (as := [.inl (-1)]) dq_DS_decree_38 41 rfl rfl gcy_DS_212 gim_Traffic_together gse_Traffic_together ⟨by decide, by decide⟩ (Nat.le_of_ble_eq_true rfl) gsh_37 rfl (gli hL gsh_37) (fun o1 hg ha hx => c_Traffic_together hL hn gsh_37 hg ha hx) (fun h8 r9 _ => ?_)
    refine gr_istore_n (M := gm_DS_decree) (lv' := [(2, .inl r9), (0, .inr (.inr 0)), (1, .inl a1)]) dq_DS_decree_41 rfl (by decide) rfl 42 rfl ?_
    refine gr_iconst (M := gm_DS_decree) (v := (-1)) dq_DS_decree_42 rfl ⟨by decide, by decide⟩ 43 rfl ?_
    refine gr_istore_n (M := gm_DS_decree) (lv' := [(3, .inl (-1)), (2, .inl r9), (0, .inr (.inr 0)), (1, .inl a1)]) dq_DS_decree_43 rfl (by decide) rfl 44 rfl ?_
    refine gr_iconst (M := gm_DS_decree) (v := 0) dq_DS_decree_44 rfl ⟨by decide, by decide⟩ 45 rfl ?_
    refine gr_istore (M := gm_DS_decree) (kk := 0) (lv' := [(4, .inl 0), (3, .inl (-1)), (2, .inl r9), (0, .inr (.inr 0)), (1, .inl a1)]) dq_DS_decree_45 (by decide) rfl 47 rfl ?_
    refine gr_sub (M := gm_DS_decree) (lv' := [(0, .inr (.inr 0)), (1, .inl a1), (2, .inl r9), (3, .inl (-1)), (4, .inl 0)]) [3, 4, 2, 1, 0] rfl ?_
    refine w_DS_decree_L47 hL hn hF   (fun v21 h22 => ?_) 50000 _ _ _ _
    refine gr_iload_n (M := gm_DS_decree) dq_DS_decree_141 rfl 0 rfl 142 rfl ?_
    exact gr_ireturn (M := gm_DS_decree) dq_DS_decree_142 hF
  refine gr_ldc (M := gm_DS_decree) (v := (-1000000002)) dq_DS_decree_11 gk_DS_80 ⟨by decide, by decide⟩ 13 rfl ?_
  exact gr_ireturn (M := gm_DS_decree) dq_DS_decree_13 hF

-- DS_rut
theorem dq_DS_rut_0 : decode gc_DS_rut 0 = .ok (.aload_n 0, 1) := by decide +kernel
theorem dq_DS_rut_1 : decode gc_DS_rut 1 = .ok (.iload_n 1, 1) := by decide +kernel
theorem dq_DS_rut_2 : decode gc_DS_rut 2 = .ok (.invokevirtual 135, 3) := by decide +kernel
theorem dq_DS_rut_5 : decode gc_DS_rut 5 = .ok (.ifCond .eq 6, 3) := by decide +kernel
theorem dq_DS_rut_8 : decode gc_DS_rut 8 = .ok (.ldc 130, 2) := by decide +kernel
theorem dq_DS_rut_10 : decode gc_DS_rut 10 = .ok (.ireturn, 1) := by decide +kernel
theorem dq_DS_rut_11 : decode gc_DS_rut 11 = .ok (.iload_n 2, 1) := by decide +kernel
theorem dq_DS_rut_12 : decode gc_DS_rut 12 = .ok (.iconst 0, 1) := by decide +kernel
theorem dq_DS_rut_13 : decode gc_DS_rut 13 = .ok (.bipush 99, 2) := by decide +kernel
theorem dq_DS_rut_15 : decode gc_DS_rut 15 = .ok (.invokestatic 76, 3) := by decide +kernel
theorem dq_DS_rut_18 : decode gc_DS_rut 18 = .ok (.ifCond .ne 12, 3) := by decide +kernel
theorem dq_DS_rut_21 : decode gc_DS_rut 21 = .ok (.iload_n 3, 1) := by decide +kernel
theorem dq_DS_rut_22 : decode gc_DS_rut 22 = .ok (.iconst 0, 1) := by decide +kernel
theorem dq_DS_rut_23 : decode gc_DS_rut 23 = .ok (.iconst 1, 1) := by decide +kernel
theorem dq_DS_rut_24 : decode gc_DS_rut 24 = .ok (.invokestatic 76, 3) := by decide +kernel
theorem dq_DS_rut_27 : decode gc_DS_rut 27 = .ok (.ifCond .eq 6, 3) := by decide +kernel
theorem dq_DS_rut_30 : decode gc_DS_rut 30 = .ok (.ldc 80, 2) := by decide +kernel
theorem dq_DS_rut_32 : decode gc_DS_rut 32 = .ok (.ireturn, 1) := by decide +kernel
theorem dq_DS_rut_33 : decode gc_DS_rut 33 = .ok (.aload_n 0, 1) := by decide +kernel
theorem dq_DS_rut_34 : decode gc_DS_rut 34 = .ok (.getfield 69, 3) := by decide +kernel
theorem dq_DS_rut_37 : decode gc_DS_rut 37 = .ok (.iload_n 1, 1) := by decide +kernel
theorem dq_DS_rut_38 : decode gc_DS_rut 38 = .ok (.iload_n 2, 1) := by decide +kernel
theorem dq_DS_rut_39 : decode gc_DS_rut 39 = .ok (.iload_n 3, 1) := by decide +kernel
theorem dq_DS_rut_40 : decode gc_DS_rut 40 = .ok (.invokevirtual 241, 3) := by decide +kernel
theorem dq_DS_rut_43 : decode gc_DS_rut 43 = .ok (.ifCond .eq 13, 3) := by decide +kernel
theorem dq_DS_rut_46 : decode gc_DS_rut 46 = .ok (.aload_n 0, 1) := by decide +kernel
theorem dq_DS_rut_47 : decode gc_DS_rut 47 = .ok (.getfield 69, 3) := by decide +kernel
theorem dq_DS_rut_50 : decode gc_DS_rut 50 = .ok (.getfield 97, 3) := by decide +kernel
theorem dq_DS_rut_53 : decode gc_DS_rut 53 = .ok (.goto 5, 3) := by decide +kernel
theorem dq_DS_rut_56 : decode gc_DS_rut 56 = .ok (.ldc 89, 2) := by decide +kernel
theorem dq_DS_rut_58 : decode gc_DS_rut 58 = .ok (.ireturn, 1) := by decide +kernel
abbrev gm_DS_rut : gM := (gc_DS_rut, gR_6, 2, 43, 4)
set_option maxRecDepth 20000 in
theorem gcy_DS_241 : gCy gR_6 241 gy_Notes_add gc_Notes_add 4 (some .boolean) 3 := ⟨(gtab_at 682 (by decide +kernel) rfl), (gtab_at 7 (by decide +kernel) rfl), (gtab_at 685 rfl rfl), by decide, by decide, by decide +kernel⟩
theorem gim_Notes_add : Cond.instanceMethod gy_Notes_add ∈ gtbl := (gtab_at 683 (by decide +kernel) rfl)
theorem gse_Notes_add : Cond.selects gy_Notes_add.cls gy_Notes_add gy_Notes_add ∈ gtbl := (gtab_at 684 (by decide +kernel) rfl)
def f_DS_rut (a1 : Int) (a2 : Int) (a3 : Int) (h : gH) : Option gO := gb (f_DS_isNoStreet a1 h) (fun h1 r2 => if r2 = 0 then (gb (f_DS_isOutside a2 0 99 h1) (fun h4 r5 => if r5 = 0 then (gb (f_DS_isOutside a3 0 1 h4) (fun h7 r8 => if r8 = 0 then (gb (f_Notes_add 75 a1 a2 a3 h7) (fun h10 r11 => if r11 = 0 then (some (h10, (-1000000004))) else (some (h10, (h10 75 0))))) else (some (h7, (-1000000002))))) else (some (h4, (-1000000002))))) else (some (h1, (-1000000001))))
theorem c_DS_rut {Z : gZ} (hL : gLive Z) (hn : (zL Z).Nodup) {a1 : Int} {a2 : Int} {a3 : Int}  {h : gH} {o : gO} (hg : gRg h) (ha : gRl [.inr (.inr 0), .inl a1, .inl a2, .inl a3]) (hx : f_DS_rut a1 a2 a3 h = some o) : gC Z gy_DS_rut gc_DS_rut 4 (some .int) 2 43 [.inr (.inr 0), .inl a1, .inl a2, .inl a3] h o := by
  unfold f_DS_rut at hx
  refine gC_of (lv := [(0, .inr (.inr 0)), (1, .inl a1), (2, .inl a2), (3, .inl a3)]) (own := gR_6) (by decide +kernel) rfl (Nat.le_of_ble_eq_true rfl) rfl rfl hn hg ha hx (fun X hZ hF => ?_)
  subst hZ
  show gr _ o gm_DS_rut X h 0 _ _
  refine gr_aload_n (M := gm_DS_rut) dq_DS_rut_0 rfl 0 rfl 1 rfl ?_
  refine gr_iload_n (M := gm_DS_rut) dq_DS_rut_1 rfl 1 rfl 2 rfl ?_
  refine gr_callVi (M := gm_DS_rut) (as := [.inl a1]) dq_DS_rut_2 5 rfl rfl gcy_DS_135 gim_DS_isNoStreet gse_DS_isNoStreet ⟨by decide, by decide⟩ (Nat.le_of_ble_eq_true rfl) gsh_0 rfl (gli hL gsh_0) (fun o1 hg ha hx => c_DS_isNoStreet hL hn  hg ha hx) (fun h1 r2 _ => ?_)
  refine gr_if_eq (M := gm_DS_rut) dq_DS_rut_5 11 8 rfl rfl (fun c3 => ?_) (fun c3 => ?_)
  · refine gr_iload_n (M := gm_DS_rut) dq_DS_rut_11 rfl 2 rfl 12 rfl ?_
    refine gr_iconst (M := gm_DS_rut) (v := 0) dq_DS_rut_12 rfl ⟨by decide, by decide⟩ 13 rfl ?_
    refine gr_bipush (M := gm_DS_rut) (v := 99) dq_DS_rut_13 (by decide) ⟨by decide, by decide⟩ 15 rfl ?_
    refine gr_callSi (M := gm_DS_rut) (as := [.inl a2, .inl 0, .inl 99]) dq_DS_rut_15 18 rfl rfl gcy_DS_76 gst_DS_isOutside ⟨by decide, by decide⟩ (Nat.le_of_ble_eq_true rfl) (fun o1 hg ha hx => c_DS_isOutside hL hn  hg ha hx) (fun h4 r5 _ => ?_)
    refine gr_if_ne (M := gm_DS_rut) dq_DS_rut_18 30 21 rfl rfl (fun c6 => ?_) (fun c6 => ?_)
    · refine gr_ldc (M := gm_DS_rut) (v := (-1000000002)) dq_DS_rut_30 gk_DS_80 ⟨by decide, by decide⟩ 32 rfl ?_
      exact gr_ireturn (M := gm_DS_rut) dq_DS_rut_32 hF
    refine gr_iload_n (M := gm_DS_rut) dq_DS_rut_21 rfl 3 rfl 22 rfl ?_
    refine gr_iconst (M := gm_DS_rut) (v := 0) dq_DS_rut_22 rfl ⟨by decide, by decide⟩ 23 rfl ?_
    refine gr_iconst (M := gm_DS_rut) (v := 1) dq_DS_rut_23 rfl ⟨by decide, by decide⟩ 24 rfl ?_
    refine gr_callSi (M := gm_DS_rut) (as := [.inl a3, .inl 0, .inl 1]) dq_DS_rut_24 27 rfl rfl gcy_DS_76 gst_DS_isOutside ⟨by decide, by decide⟩ (Nat.le_of_ble_eq_true rfl) (fun o1 hg ha hx => c_DS_isOutside hL hn  hg ha hx) (fun h7 r8 _ => ?_)
    refine gr_if_eq (M := gm_DS_rut) dq_DS_rut_27 33 30 rfl rfl (fun c9 => ?_) (fun c9 => ?_)
    · refine gr_aload_n (M := gm_DS_rut) dq_DS_rut_33 rfl 0 rfl 34 rfl ?_
      refine gr_geta (M := gm_DS_rut) dq_DS_rut_34 37 rfl gfl_DS_69 gsh_0 rfl (gli hL gsh_0) ?_
      refine gr_iload_n (M := gm_DS_rut) dq_DS_rut_37 rfl 1 rfl 38 rfl ?_
      refine gr_iload_n (M := gm_DS_rut) dq_DS_rut_38 rfl 2 rfl 39 rfl ?_
      refine gr_iload_n (M := gm_DS_rut) dq_DS_rut_39 rfl 3 rfl 40 rfl ?_
      refine gr_callVi (M := gm_DS_rut) (as := [.inl a1, .inl a2, .inl a3]) dq_DS_rut_40 43 rfl rfl gcy_DS_241 gim_Notes_add gse_Notes_add ⟨by decide, by decide⟩ (Nat.le_of_ble_eq_true rfl) gsh_75 rfl (gli hL gsh_75) (fun o1 hg ha hx => c_Notes_add hL hn gsh_75 hg ha hx) (fun h10 r11 _ => ?_)
      refine gr_if_eq (M := gm_DS_rut) dq_DS_rut_43 56 46 rfl rfl (fun c12 => ?_) (fun c12 => ?_)
      · refine gr_ldc (M := gm_DS_rut) (v := (-1000000004)) dq_DS_rut_56 gk_DS_89 ⟨by decide, by decide⟩ 58 rfl ?_
        exact gr_ireturn (M := gm_DS_rut) dq_DS_rut_58 hF
      refine gr_aload_n (M := gm_DS_rut) dq_DS_rut_46 rfl 0 rfl 47 rfl ?_
      refine gr_geta (M := gm_DS_rut) dq_DS_rut_47 50 rfl gfl_DS_69 gsh_0 rfl (gli hL gsh_0) ?_
      refine gr_geti (M := gm_DS_rut) dq_DS_rut_50 53 rfl gfl_DS_97 gsh_75 rfl (gli hL gsh_75) ?_
      refine gr_goto (M := gm_DS_rut) dq_DS_rut_53 58 rfl ?_
      exact gr_ireturn (M := gm_DS_rut) dq_DS_rut_58 hF
    refine gr_ldc (M := gm_DS_rut) (v := (-1000000002)) dq_DS_rut_30 gk_DS_80 ⟨by decide, by decide⟩ 32 rfl ?_
    exact gr_ireturn (M := gm_DS_rut) dq_DS_rut_32 hF
  refine gr_ldc (M := gm_DS_rut) (v := (-1000000001)) dq_DS_rut_8 gk_DS_130 ⟨by decide, by decide⟩ 10 rfl ?_
  exact gr_ireturn (M := gm_DS_rut) dq_DS_rut_10 hF

-- DS_fitsRuts
theorem dq_DS_fitsRuts_0 : decode gc_DS_fitsRuts 0 = .ok (.aload_n 0, 1) := by decide +kernel
theorem dq_DS_fitsRuts_1 : decode gc_DS_fitsRuts 1 = .ok (.getfield 35, 3) := by decide +kernel
theorem dq_DS_fitsRuts_4 : decode gc_DS_fitsRuts 4 = .ok (.aload_n 0, 1) := by decide +kernel
theorem dq_DS_fitsRuts_5 : decode gc_DS_fitsRuts 5 = .ok (.getfield 31, 3) := by decide +kernel
theorem dq_DS_fitsRuts_8 : decode gc_DS_fitsRuts 8 = .ok (.invokevirtual 209, 3) := by decide +kernel
theorem dq_DS_fitsRuts_11 : decode gc_DS_fitsRuts 11 = .ok (.aload_n 0, 1) := by decide +kernel
theorem dq_DS_fitsRuts_12 : decode gc_DS_fitsRuts 12 = .ok (.getfield 35, 3) := by decide +kernel
theorem dq_DS_fitsRuts_15 : decode gc_DS_fitsRuts 15 = .ok (.iload_n 1, 1) := by decide +kernel
theorem dq_DS_fitsRuts_16 : decode gc_DS_fitsRuts 16 = .ok (.iload_n 2, 1) := by decide +kernel
theorem dq_DS_fitsRuts_17 : decode gc_DS_fitsRuts 17 = .ok (.invokevirtual 238, 3) := by decide +kernel
theorem dq_DS_fitsRuts_20 : decode gc_DS_fitsRuts 20 = .ok (.aload_n 0, 1) := by decide +kernel
theorem dq_DS_fitsRuts_21 : decode gc_DS_fitsRuts 21 = .ok (.getfield 69, 3) := by decide +kernel
theorem dq_DS_fitsRuts_24 : decode gc_DS_fitsRuts 24 = .ok (.iload_n 1, 1) := by decide +kernel
theorem dq_DS_fitsRuts_25 : decode gc_DS_fitsRuts 25 = .ok (.invokevirtual 257, 3) := by decide +kernel
theorem dq_DS_fitsRuts_28 : decode gc_DS_fitsRuts 28 = .ok (.istore_n 3, 1) := by decide +kernel
theorem dq_DS_fitsRuts_29 : decode gc_DS_fitsRuts 29 = .ok (.iconst 0, 1) := by decide +kernel
theorem dq_DS_fitsRuts_30 : decode gc_DS_fitsRuts 30 = .ok (.istore 4, 2) := by decide +kernel
theorem dq_DS_fitsRuts_32 : decode gc_DS_fitsRuts 32 = .ok (.iload 4, 2) := by decide +kernel
theorem dq_DS_fitsRuts_34 : decode gc_DS_fitsRuts 34 = .ok (.iload_n 3, 1) := by decide +kernel
theorem dq_DS_fitsRuts_35 : decode gc_DS_fitsRuts 35 = .ok (.if_icmp .ge 41, 3) := by decide +kernel
theorem dq_DS_fitsRuts_38 : decode gc_DS_fitsRuts 38 = .ok (.aload_n 0, 1) := by decide +kernel
theorem dq_DS_fitsRuts_39 : decode gc_DS_fitsRuts 39 = .ok (.getfield 35, 3) := by decide +kernel
theorem dq_DS_fitsRuts_42 : decode gc_DS_fitsRuts 42 = .ok (.iconst 1, 1) := by decide +kernel
theorem dq_DS_fitsRuts_43 : decode gc_DS_fitsRuts 43 = .ok (.invokevirtual 202, 3) := by decide +kernel
theorem dq_DS_fitsRuts_46 : decode gc_DS_fitsRuts 46 = .ok (.aload_n 0, 1) := by decide +kernel
theorem dq_DS_fitsRuts_47 : decode gc_DS_fitsRuts 47 = .ok (.getfield 69, 3) := by decide +kernel
theorem dq_DS_fitsRuts_50 : decode gc_DS_fitsRuts 50 = .ok (.iload_n 1, 1) := by decide +kernel
theorem dq_DS_fitsRuts_51 : decode gc_DS_fitsRuts 51 = .ok (.iload 4, 2) := by decide +kernel
theorem dq_DS_fitsRuts_53 : decode gc_DS_fitsRuts 53 = .ok (.aload_n 0, 1) := by decide +kernel
theorem dq_DS_fitsRuts_54 : decode gc_DS_fitsRuts 54 = .ok (.getfield 35, 3) := by decide +kernel
theorem dq_DS_fitsRuts_57 : decode gc_DS_fitsRuts 57 = .ok (.getfield 151, 3) := by decide +kernel
theorem dq_DS_fitsRuts_60 : decode gc_DS_fitsRuts 60 = .ok (.iload_n 1, 1) := by decide +kernel
theorem dq_DS_fitsRuts_61 : decode gc_DS_fitsRuts 61 = .ok (.iaload, 1) := by decide +kernel
theorem dq_DS_fitsRuts_62 : decode gc_DS_fitsRuts 62 = .ok (.invokevirtual 260, 3) := by decide +kernel
theorem dq_DS_fitsRuts_65 : decode gc_DS_fitsRuts 65 = .ok (.ifCond .ne 5, 3) := by decide +kernel
theorem dq_DS_fitsRuts_68 : decode gc_DS_fitsRuts 68 = .ok (.iconst 0, 1) := by decide +kernel
theorem dq_DS_fitsRuts_69 : decode gc_DS_fitsRuts 69 = .ok (.ireturn, 1) := by decide +kernel
theorem dq_DS_fitsRuts_70 : decode gc_DS_fitsRuts 70 = .ok (.iinc 4 1, 3) := by decide +kernel
theorem dq_DS_fitsRuts_73 : decode gc_DS_fitsRuts 73 = .ok (.goto (-41), 3) := by decide +kernel
theorem dq_DS_fitsRuts_76 : decode gc_DS_fitsRuts 76 = .ok (.iconst 1, 1) := by decide +kernel
theorem dq_DS_fitsRuts_77 : decode gc_DS_fitsRuts 77 = .ok (.ireturn, 1) := by decide +kernel
abbrev gm_DS_fitsRuts : gM := (gc_DS_fitsRuts, gR_6, 5, 113, 5)
set_option maxRecDepth 20000 in
theorem gcy_DS_257 : gCy gR_6 257 gy_Notes_minutesOf gc_Notes_minutesOf 4 (some .int) 1 := ⟨(gtab_at 694 (by decide +kernel) rfl), (gtab_at 7 (by decide +kernel) rfl), (gtab_at 697 rfl rfl), by decide, by decide, by decide +kernel⟩
theorem gim_Notes_minutesOf : Cond.instanceMethod gy_Notes_minutesOf ∈ gtbl := (gtab_at 695 (by decide +kernel) rfl)
theorem gse_Notes_minutesOf : Cond.selects gy_Notes_minutesOf.cls gy_Notes_minutesOf gy_Notes_minutesOf ∈ gtbl := (gtab_at 696 (by decide +kernel) rfl)
set_option maxRecDepth 20000 in
theorem gcy_DS_260 : gCy gR_6 260 gy_Notes_agree gc_Notes_agree 5 (some .boolean) 3 := ⟨(gtab_at 699 (by decide +kernel) rfl), (gtab_at 7 (by decide +kernel) rfl), (gtab_at 702 rfl rfl), by decide, by decide, by decide +kernel⟩
theorem gim_Notes_agree : Cond.instanceMethod gy_Notes_agree ∈ gtbl := (gtab_at 700 (by decide +kernel) rfl)
theorem gse_Notes_agree : Cond.selects gy_Notes_agree.cls gy_Notes_agree gy_Notes_agree ∈ gtbl := (gtab_at 701 (by decide +kernel) rfl)
def f_DS_fitsRuts_L32 (v1 : Int) (v3 : Int) (k76 : gH → Option gO) : Nat → Int → gH → Option gO
  | 0, _, _ => none
  | n + 1, v4, h => if v3 ≤ v4 then (k76  h) else (gb (f_Traffic_pass 37 1 h) (fun h8 r9 => gd (gix 9 v1) (gb (f_Notes_agree 75 v1 v4 (h8 39 v1.toNat) h8) (fun h10 r11 => if r11 = 0 then (gd (gz 0) (some (h10, 0))) else (f_DS_fitsRuts_L32 v1 v3 k76 n (gadd v4 1) h10)))))
theorem w_DS_fitsRuts_L32 {o : gO} {X : gX} (hL : gLive (xZ X)) (hn : (zL (xZ X)).Nodup) (hF : gFin X (some .boolean) o) {v1 : Int} {v3 : Int}   {k76 : gH → Option gO} (hk76 : ∀ (h : gH), gr (k76 h) o gm_DS_fitsRuts X h 76 [] []) : ∀ (n : Nat) (v4 : Int) (h : gH), gr (f_DS_fitsRuts_L32 v1 v3 k76 n v4 h) o gm_DS_fitsRuts X h 32 [(0, .inr (.inr 0)), (1, .inl v1), (3, .inl v3), (4, .inl v4)] [] := by
  intro n
  induction n with
  | zero => intros; exact gr_none
  | succ n ih =>
    intro v4 h
    unfold f_DS_fitsRuts_L32
    refine gr_iload (M := gm_DS_fitsRuts) dq_DS_fitsRuts_32 3 rfl 34 rfl ?_
    refine gr_iload_n (M := gm_DS_fitsRuts) dq_DS_fitsRuts_34 rfl 2 rfl 35 rfl ?_
    refine gr_icmp_ge (M := gm_DS_fitsRuts) dq_DS_fitsRuts_35 76 38 rfl rfl (fun c7 => ?_) (fun c7 => ?_)
    · refine gr_sub (M := gm_DS_fitsRuts) (lv' := []) [] rfl ?_
      exact hk76  _
    refine gr_aload_n (M := gm_DS_fitsRuts) dq_DS_fitsRuts_38 rfl 0 rfl 39 rfl ?_
    refine gr_geta (M := gm_DS_fitsRuts) dq_DS_fitsRuts_39 42 rfl gfl_DS_35 gsh_0 rfl (gli hL gsh_0) ?_
    refine gr_iconst (M := gm_DS_fitsRuts) (v := 1) dq_DS_fitsRuts_42 rfl ⟨by decide, by decide⟩ 43 rfl ?_
    refine gr_callVv (M := gm_DS_fitsRuts) (as := [.inl 1]) dq_DS_fitsRuts_43 46 rfl rfl gcy_DS_202 gim_Traffic_pass gse_Traffic_pass ⟨by decide, by decide⟩ (Nat.le_of_ble_eq_true rfl) gsh_37 rfl (gli hL gsh_37) (fun o1 hg ha hx => c_Traffic_pass hL hn gsh_37 hg ha hx) (fun h8 r9 _ => ?_)
    refine gr_aload_n (M := gm_DS_fitsRuts) dq_DS_fitsRuts_46 rfl 0 rfl 47 rfl ?_
    refine gr_geta (M := gm_DS_fitsRuts) dq_DS_fitsRuts_47 50 rfl gfl_DS_69 gsh_0 rfl (gli hL gsh_0) ?_
    refine gr_iload_n (M := gm_DS_fitsRuts) dq_DS_fitsRuts_50 rfl 1 rfl 51 rfl ?_
    refine gr_iload (M := gm_DS_fitsRuts) dq_DS_fitsRuts_51 3 rfl 53 rfl ?_
    refine gr_aload_n (M := gm_DS_fitsRuts) dq_DS_fitsRuts_53 rfl 0 rfl 54 rfl ?_
    refine gr_geta (M := gm_DS_fitsRuts) dq_DS_fitsRuts_54 57 rfl gfl_DS_35 gsh_0 rfl (gli hL gsh_0) ?_
    refine gr_getr (M := gm_DS_fitsRuts) dq_DS_fitsRuts_57 60 rfl gfl_DS_151 gsh_37 rfl (gli hL gsh_37) 39 rfl ?_
    refine gr_iload_n (M := gm_DS_fitsRuts) dq_DS_fitsRuts_60 rfl 1 rfl 61 rfl ?_
    refine gr_iald (M := gm_DS_fitsRuts) dq_DS_fitsRuts_61 62 rfl gsh_39 (glj hL gsh_39 (by decide)) ?_
    refine gr_callVi (M := gm_DS_fitsRuts) (as := [.inl v1, .inl v4, .inl (h8 39 v1.toNat)]) dq_DS_fitsRuts_62 65 rfl rfl gcy_DS_260 gim_Notes_agree gse_Notes_agree ⟨by decide, by decide⟩ (Nat.le_of_ble_eq_true rfl) gsh_75 rfl (gli hL gsh_75) (fun o1 hg ha hx => c_Notes_agree hL hn gsh_75 hg ha hx) (fun h10 r11 _ => ?_)
    refine gr_if_ne (M := gm_DS_fitsRuts) dq_DS_fitsRuts_65 70 68 rfl rfl (fun c12 => ?_) (fun c12 => ?_)
    · refine gr_iinc (M := gm_DS_fitsRuts) (lv' := [(4, .inl (gadd v4 1)), (0, .inr (.inr 0)), (1, .inl v1), (3, .inl v3)]) dq_DS_fitsRuts_70 3 rfl rfl (by decide) rfl 73 rfl ?_
      refine gr_goto (M := gm_DS_fitsRuts) dq_DS_fitsRuts_73 32 rfl ?_
      refine gr_sub (M := gm_DS_fitsRuts) (lv' := [(0, .inr (.inr 0)), (1, .inl v1), (3, .inl v3), (4, .inl (gadd v4 1))]) [1, 2, 3, 0] rfl ?_
      exact ih _ _
    refine gr_iconst (M := gm_DS_fitsRuts) (v := 0) dq_DS_fitsRuts_68 rfl ⟨by decide, by decide⟩ 69 rfl ?_
    exact gr_zreturn (M := gm_DS_fitsRuts) dq_DS_fitsRuts_69 hF

def f_DS_fitsRuts (a1 : Int) (a2 : Int) (h : gH) : Option gO := gb (f_Traffic_copyFrom 37 27 h) (fun h1 r2 => gb (f_Traffic_decreeLaw 37 a1 a2 h1) (fun h3 r4 => gb (f_Notes_minutesOf 75 a1 h3) (fun h5 r6 => f_DS_fitsRuts_L32 a1 r6 (fun  h13 => gd (gz 1) (some (h13, 1))) 50000 0 h5)))
theorem c_DS_fitsRuts {Z : gZ} (hL : gLive Z) (hn : (zL Z).Nodup) {a1 : Int} {a2 : Int}  {h : gH} {o : gO} (hg : gRg h) (ha : gRl [.inr (.inr 0), .inl a1, .inl a2]) (hx : f_DS_fitsRuts a1 a2 h = some o) : gC Z gy_DS_fitsRuts gc_DS_fitsRuts 5 (some .boolean) 5 113 [.inr (.inr 0), .inl a1, .inl a2] h o := by
  unfold f_DS_fitsRuts at hx
  refine gC_of (lv := [(0, .inr (.inr 0)), (1, .inl a1), (2, .inl a2)]) (own := gR_6) (by decide +kernel) rfl (Nat.le_of_ble_eq_true rfl) rfl rfl hn hg ha hx (fun X hZ hF => ?_)
  subst hZ
  show gr _ o gm_DS_fitsRuts X h 0 _ _
  refine gr_aload_n (M := gm_DS_fitsRuts) dq_DS_fitsRuts_0 rfl 0 rfl 1 rfl ?_
  refine gr_geta (M := gm_DS_fitsRuts) dq_DS_fitsRuts_1 4 rfl gfl_DS_35 gsh_0 rfl (gli hL gsh_0) ?_
  refine gr_aload_n (M := gm_DS_fitsRuts) dq_DS_fitsRuts_4 rfl 0 rfl 5 rfl ?_
  refine gr_geta (M := gm_DS_fitsRuts) dq_DS_fitsRuts_5 8 rfl gfl_DS_31 gsh_0 rfl (gli hL gsh_0) ?_
  refine gr_callVv (M := gm_DS_fitsRuts) (as := [.inr (.inr 27)]) dq_DS_fitsRuts_8 11 rfl rfl gcy_DS_209 gim_Traffic_copyFrom gse_Traffic_copyFrom ⟨by decide, by decide⟩ (Nat.le_of_ble_eq_true rfl) gsh_37 rfl (gli hL gsh_37) (fun o1 hg ha hx => c_Traffic_copyFrom hL hn gsh_37 gsh_27 hg ha hx) (fun h1 r2 _ => ?_)
  refine gr_aload_n (M := gm_DS_fitsRuts) dq_DS_fitsRuts_11 rfl 0 rfl 12 rfl ?_
  refine gr_geta (M := gm_DS_fitsRuts) dq_DS_fitsRuts_12 15 rfl gfl_DS_35 gsh_0 rfl (gli hL gsh_0) ?_
  refine gr_iload_n (M := gm_DS_fitsRuts) dq_DS_fitsRuts_15 rfl 1 rfl 16 rfl ?_
  refine gr_iload_n (M := gm_DS_fitsRuts) dq_DS_fitsRuts_16 rfl 2 rfl 17 rfl ?_
  refine gr_callVv (M := gm_DS_fitsRuts) (as := [.inl a1, .inl a2]) dq_DS_fitsRuts_17 20 rfl rfl gcy_DS_238 gim_Traffic_decreeLaw gse_Traffic_decreeLaw ⟨by decide, by decide⟩ (Nat.le_of_ble_eq_true rfl) gsh_37 rfl (gli hL gsh_37) (fun o1 hg ha hx => c_Traffic_decreeLaw hL hn gsh_37 hg ha hx) (fun h3 r4 _ => ?_)
  refine gr_aload_n (M := gm_DS_fitsRuts) dq_DS_fitsRuts_20 rfl 0 rfl 21 rfl ?_
  refine gr_geta (M := gm_DS_fitsRuts) dq_DS_fitsRuts_21 24 rfl gfl_DS_69 gsh_0 rfl (gli hL gsh_0) ?_
  refine gr_iload_n (M := gm_DS_fitsRuts) dq_DS_fitsRuts_24 rfl 1 rfl 25 rfl ?_
  refine gr_callVi (M := gm_DS_fitsRuts) (as := [.inl a1]) dq_DS_fitsRuts_25 28 rfl rfl gcy_DS_257 gim_Notes_minutesOf gse_Notes_minutesOf ⟨by decide, by decide⟩ (Nat.le_of_ble_eq_true rfl) gsh_75 rfl (gli hL gsh_75) (fun o1 hg ha hx => c_Notes_minutesOf hL hn gsh_75 hg ha hx) (fun h5 r6 _ => ?_)
  refine gr_istore_n (M := gm_DS_fitsRuts) (lv' := [(3, .inl r6), (0, .inr (.inr 0)), (1, .inl a1), (2, .inl a2)]) dq_DS_fitsRuts_28 rfl (by decide) rfl 29 rfl ?_
  refine gr_iconst (M := gm_DS_fitsRuts) (v := 0) dq_DS_fitsRuts_29 rfl ⟨by decide, by decide⟩ 30 rfl ?_
  refine gr_istore (M := gm_DS_fitsRuts) (kk := 0) (lv' := [(4, .inl 0), (3, .inl r6), (0, .inr (.inr 0)), (1, .inl a1), (2, .inl a2)]) dq_DS_fitsRuts_30 (by decide) rfl 32 rfl ?_
  refine gr_sub (M := gm_DS_fitsRuts) (lv' := [(0, .inr (.inr 0)), (1, .inl a1), (3, .inl r6), (4, .inl 0)]) [2, 3, 1, 0] rfl ?_
  refine w_DS_fitsRuts_L32 hL hn hF   (fun h13 => ?_) 50000 _ _
  refine gr_iconst (M := gm_DS_fitsRuts) (v := 1) dq_DS_fitsRuts_76 rfl ⟨by decide, by decide⟩ 77 rfl ?_
  exact gr_zreturn (M := gm_DS_fitsRuts) dq_DS_fitsRuts_77 hF

-- DS_laws
theorem dq_DS_laws_0 : decode gc_DS_laws 0 = .ok (.aload_n 0, 1) := by decide +kernel
theorem dq_DS_laws_1 : decode gc_DS_laws 1 = .ok (.iload_n 1, 1) := by decide +kernel
theorem dq_DS_laws_2 : decode gc_DS_laws 2 = .ok (.invokevirtual 135, 3) := by decide +kernel
theorem dq_DS_laws_5 : decode gc_DS_laws 5 = .ok (.ifCond .eq 6, 3) := by decide +kernel
theorem dq_DS_laws_8 : decode gc_DS_laws 8 = .ok (.ldc 130, 2) := by decide +kernel
theorem dq_DS_laws_10 : decode gc_DS_laws 10 = .ok (.ireturn, 1) := by decide +kernel
theorem dq_DS_laws_11 : decode gc_DS_laws 11 = .ok (.iconst 0, 1) := by decide +kernel
theorem dq_DS_laws_12 : decode gc_DS_laws 12 = .ok (.istore_n 2, 1) := by decide +kernel
theorem dq_DS_laws_13 : decode gc_DS_laws 13 = .ok (.iconst 0, 1) := by decide +kernel
theorem dq_DS_laws_14 : decode gc_DS_laws 14 = .ok (.istore_n 3, 1) := by decide +kernel
theorem dq_DS_laws_15 : decode gc_DS_laws 15 = .ok (.iload_n 3, 1) := by decide +kernel
theorem dq_DS_laws_16 : decode gc_DS_laws 16 = .ok (.iconst 5, 1) := by decide +kernel
theorem dq_DS_laws_17 : decode gc_DS_laws 17 = .ok (.if_icmp .ge 24, 3) := by decide +kernel
theorem dq_DS_laws_20 : decode gc_DS_laws 20 = .ok (.aload_n 0, 1) := by decide +kernel
theorem dq_DS_laws_21 : decode gc_DS_laws 21 = .ok (.iload_n 1, 1) := by decide +kernel
theorem dq_DS_laws_22 : decode gc_DS_laws 22 = .ok (.iload_n 3, 1) := by decide +kernel
theorem dq_DS_laws_23 : decode gc_DS_laws 23 = .ok (.invokevirtual 243, 3) := by decide +kernel
theorem dq_DS_laws_26 : decode gc_DS_laws 26 = .ok (.ifCond .eq 9, 3) := by decide +kernel
theorem dq_DS_laws_29 : decode gc_DS_laws 29 = .ok (.iload_n 2, 1) := by decide +kernel
theorem dq_DS_laws_30 : decode gc_DS_laws 30 = .ok (.iconst 1, 1) := by decide +kernel
theorem dq_DS_laws_31 : decode gc_DS_laws 31 = .ok (.iload_n 3, 1) := by decide +kernel
theorem dq_DS_laws_32 : decode gc_DS_laws 32 = .ok (.ishl, 1) := by decide +kernel
theorem dq_DS_laws_33 : decode gc_DS_laws 33 = .ok (.ior, 1) := by decide +kernel
theorem dq_DS_laws_34 : decode gc_DS_laws 34 = .ok (.istore_n 2, 1) := by decide +kernel
theorem dq_DS_laws_35 : decode gc_DS_laws 35 = .ok (.iinc 3 1, 3) := by decide +kernel
theorem dq_DS_laws_38 : decode gc_DS_laws 38 = .ok (.goto (-23), 3) := by decide +kernel
theorem dq_DS_laws_41 : decode gc_DS_laws 41 = .ok (.iload_n 2, 1) := by decide +kernel
theorem dq_DS_laws_42 : decode gc_DS_laws 42 = .ok (.ireturn, 1) := by decide +kernel
abbrev gm_DS_laws : gM := (gc_DS_laws, gR_6, 6, 137, 4)
set_option maxRecDepth 20000 in
theorem gcy_DS_243 : gCy gR_6 243 gy_DS_fitsRuts gc_DS_fitsRuts 5 (some .boolean) 2 := ⟨(gtab_at 690 (by decide +kernel) rfl), (gtab_at 1 (by decide +kernel) rfl), (gtab_at 693 rfl rfl), by decide, by decide, by decide +kernel⟩
theorem gim_DS_fitsRuts : Cond.instanceMethod gy_DS_fitsRuts ∈ gtbl := (gtab_at 692 (by decide +kernel) rfl)
theorem gse_DS_fitsRuts : Cond.selects gy_DS_fitsRuts.cls gy_DS_fitsRuts gy_DS_fitsRuts ∈ gtbl := (by decide +kernel)
def f_DS_laws_J35  (k15 : Int → Int → gH → Option gO) (v1 : Int) (v2 : Int) (v3 : Int) (h : gH) : Option gO := k15 v2 (gadd v3 1) h
theorem w_DS_laws_J35 {o : gO} {X : gX} (hL : gLive (xZ X)) (hn : (zL (xZ X)).Nodup) (hF : gFin X (some .int) o)    {k15 : Int → Int → gH → Option gO} {v1 : Int} {v2 : Int} {v3 : Int} {h : gH} (hk15 : ∀ (v2 : Int) (v3 : Int) (h : gH), gr (k15 v2 v3 h) o gm_DS_laws X h 15 [(0, .inr (.inr 0)), (1, .inl v1), (2, .inl v2), (3, .inl v3)] []) : gr (f_DS_laws_J35  k15 v1 v2 v3 h) o gm_DS_laws X h 35 [(0, .inr (.inr 0)), (1, .inl v1), (2, .inl v2), (3, .inl v3)] [] := by
  unfold f_DS_laws_J35
  refine gr_iinc (M := gm_DS_laws) (lv' := [(3, .inl (gadd v3 1)), (0, .inr (.inr 0)), (1, .inl v1), (2, .inl v2)]) dq_DS_laws_35 3 rfl rfl (by decide) rfl 38 rfl ?_
  refine gr_goto (M := gm_DS_laws) dq_DS_laws_38 15 rfl ?_
  refine gr_sub (M := gm_DS_laws) (lv' := [(0, .inr (.inr 0)), (1, .inl v1), (2, .inl v2), (3, .inl (gadd v3 1))]) [1, 2, 3, 0] rfl ?_
  exact hk15 _ _ _

def f_DS_laws_L15 (v1 : Int) (k41 : Int → gH → Option gO) : Nat → Int → Int → gH → Option gO
  | 0, _, _, _ => none
  | n + 1, v2, v3, h => if 5 ≤ v3 then (k41 v2 h) else (gb (f_DS_fitsRuts v1 v3 h) (fun h5 r6 => if r6 = 0 then (f_DS_laws_J35  (f_DS_laws_L15 v1 k41 n) v1 v2 v3 h5) else (f_DS_laws_J35  (f_DS_laws_L15 v1 k41 n) v1 (gor v2 (gshl 1 v3)) v3 h5)))
theorem w_DS_laws_L15 {o : gO} {X : gX} (hL : gLive (xZ X)) (hn : (zL (xZ X)).Nodup) (hF : gFin X (some .int) o) {v1 : Int}   {k41 : Int → gH → Option gO} (hk41 : ∀ (v2 : Int) (h : gH), gr (k41 v2 h) o gm_DS_laws X h 41 [(2, .inl v2)] []) : ∀ (n : Nat) (v2 : Int) (v3 : Int) (h : gH), gr (f_DS_laws_L15 v1 k41 n v2 v3 h) o gm_DS_laws X h 15 [(0, .inr (.inr 0)), (1, .inl v1), (2, .inl v2), (3, .inl v3)] [] := by
  intro n
  induction n with
  | zero => intros; exact gr_none
  | succ n ih =>
    intro v2 v3 h
    unfold f_DS_laws_L15
    refine gr_iload_n (M := gm_DS_laws) dq_DS_laws_15 rfl 3 rfl 16 rfl ?_
    refine gr_iconst (M := gm_DS_laws) (v := 5) dq_DS_laws_16 rfl ⟨by decide, by decide⟩ 17 rfl ?_
    refine gr_icmp_ge (M := gm_DS_laws) dq_DS_laws_17 41 20 rfl rfl (fun c4 => ?_) (fun c4 => ?_)
    · refine gr_sub (M := gm_DS_laws) (lv' := [(2, .inl v2)]) [2] rfl ?_
      exact hk41 _ _
    refine gr_aload_n (M := gm_DS_laws) dq_DS_laws_20 rfl 0 rfl 21 rfl ?_
    refine gr_iload_n (M := gm_DS_laws) dq_DS_laws_21 rfl 1 rfl 22 rfl ?_
    refine gr_iload_n (M := gm_DS_laws) dq_DS_laws_22 rfl 3 rfl 23 rfl ?_
    refine gr_callVi (M := gm_DS_laws) (as := [.inl v1, .inl v3]) dq_DS_laws_23 26 rfl rfl gcy_DS_243 gim_DS_fitsRuts gse_DS_fitsRuts ⟨by decide, by decide⟩ (Nat.le_of_ble_eq_true rfl) gsh_0 rfl (gli hL gsh_0) (fun o1 hg ha hx => c_DS_fitsRuts hL hn  hg ha hx) (fun h5 r6 _ => ?_)
    refine gr_if_eq (M := gm_DS_laws) dq_DS_laws_26 35 29 rfl rfl (fun c7 => ?_) (fun c7 => ?_)
    · exact w_DS_laws_J35 hL hn hF   ih
    refine gr_iload_n (M := gm_DS_laws) dq_DS_laws_29 rfl 2 rfl 30 rfl ?_
    refine gr_iconst (M := gm_DS_laws) (v := 1) dq_DS_laws_30 rfl ⟨by decide, by decide⟩ 31 rfl ?_
    refine gr_iload_n (M := gm_DS_laws) dq_DS_laws_31 rfl 3 rfl 32 rfl ?_
    refine gr_ishl (M := gm_DS_laws) dq_DS_laws_32 33 rfl ?_
    refine gr_ior (M := gm_DS_laws) dq_DS_laws_33 34 rfl ?_
    refine gr_istore_n (M := gm_DS_laws) (lv' := [(2, .inl (gor v2 (gshl 1 v3))), (0, .inr (.inr 0)), (1, .inl v1), (3, .inl v3)]) dq_DS_laws_34 rfl (by decide) rfl 35 rfl ?_
    refine gr_sub (M := gm_DS_laws) (lv' := [(0, .inr (.inr 0)), (1, .inl v1), (2, .inl (gor v2 (gshl 1 v3))), (3, .inl v3)]) [1, 2, 0, 3] rfl ?_
    exact w_DS_laws_J35 hL hn hF   ih

def f_DS_laws (a1 : Int) (h : gH) : Option gO := gb (f_DS_isNoStreet a1 h) (fun h1 r2 => if r2 = 0 then (f_DS_laws_L15 a1 (fun v8 h9 => some (h9, v8)) 50000 0 0 h1) else (some (h1, (-1000000001))))
theorem c_DS_laws {Z : gZ} (hL : gLive Z) (hn : (zL Z).Nodup) {a1 : Int}  {h : gH} {o : gO} (hg : gRg h) (ha : gRl [.inr (.inr 0), .inl a1]) (hx : f_DS_laws a1 h = some o) : gC Z gy_DS_laws gc_DS_laws 4 (some .int) 6 137 [.inr (.inr 0), .inl a1] h o := by
  unfold f_DS_laws at hx
  refine gC_of (lv := [(0, .inr (.inr 0)), (1, .inl a1)]) (own := gR_6) (by decide +kernel) rfl (Nat.le_of_ble_eq_true rfl) rfl rfl hn hg ha hx (fun X hZ hF => ?_)
  subst hZ
  show gr _ o gm_DS_laws X h 0 _ _
  refine gr_aload_n (M := gm_DS_laws) dq_DS_laws_0 rfl 0 rfl 1 rfl ?_
  refine gr_iload_n (M := gm_DS_laws) dq_DS_laws_1 rfl 1 rfl 2 rfl ?_
  refine gr_callVi (M := gm_DS_laws) (as := [.inl a1]) dq_DS_laws_2 5 rfl rfl gcy_DS_135 gim_DS_isNoStreet gse_DS_isNoStreet ⟨by decide, by decide⟩ (Nat.le_of_ble_eq_true rfl) gsh_0 rfl (gli hL gsh_0) (fun o1 hg ha hx => c_DS_isNoStreet hL hn  hg ha hx) (fun h1 r2 _ => ?_)
  refine gr_if_eq (M := gm_DS_laws) dq_DS_laws_5 11 8 rfl rfl (fun c3 => ?_) (fun c3 => ?_)
  · refine gr_iconst (M := gm_DS_laws) (v := 0) dq_DS_laws_11 rfl ⟨by decide, by decide⟩ 12 rfl ?_
    refine gr_istore_n (M := gm_DS_laws) (lv' := [(2, .inl 0), (0, .inr (.inr 0)), (1, .inl a1)]) dq_DS_laws_12 rfl (by decide) rfl 13 rfl ?_
    refine gr_iconst (M := gm_DS_laws) (v := 0) dq_DS_laws_13 rfl ⟨by decide, by decide⟩ 14 rfl ?_
    refine gr_istore_n (M := gm_DS_laws) (lv' := [(3, .inl 0), (2, .inl 0), (0, .inr (.inr 0)), (1, .inl a1)]) dq_DS_laws_14 rfl (by decide) rfl 15 rfl ?_
    refine gr_sub (M := gm_DS_laws) (lv' := [(0, .inr (.inr 0)), (1, .inl a1), (2, .inl 0), (3, .inl 0)]) [2, 3, 1, 0] rfl ?_
    refine w_DS_laws_L15 hL hn hF   (fun v8 h9 => ?_) 50000 _ _ _
    refine gr_iload_n (M := gm_DS_laws) dq_DS_laws_41 rfl 0 rfl 42 rfl ?_
    exact gr_ireturn (M := gm_DS_laws) dq_DS_laws_42 hF
  refine gr_ldc (M := gm_DS_laws) (v := (-1000000001)) dq_DS_laws_8 gk_DS_130 ⟨by decide, by decide⟩ 10 rfl ?_
  exact gr_ireturn (M := gm_DS_laws) dq_DS_laws_10 hF

-- DS_write
theorem dq_DS_write_0 : decode gc_DS_write 0 = .ok (.aload_n 0, 1) := by decide +kernel
theorem dq_DS_write_1 : decode gc_DS_write 1 = .ok (.iload_n 1, 1) := by decide +kernel
theorem dq_DS_write_2 : decode gc_DS_write 2 = .ok (.invokevirtual 157, 3) := by decide +kernel
theorem dq_DS_write_5 : decode gc_DS_write 5 = .ok (.ifCond .eq 6, 3) := by decide +kernel
theorem dq_DS_write_8 : decode gc_DS_write 8 = .ok (.ldc 130, 2) := by decide +kernel
theorem dq_DS_write_10 : decode gc_DS_write 10 = .ok (.ireturn, 1) := by decide +kernel
theorem dq_DS_write_11 : decode gc_DS_write 11 = .ok (.iload_n 2, 1) := by decide +kernel
theorem dq_DS_write_12 : decode gc_DS_write 12 = .ok (.iconst 0, 1) := by decide +kernel
theorem dq_DS_write_13 : decode gc_DS_write 13 = .ok (.ldc 247, 2) := by decide +kernel
theorem dq_DS_write_15 : decode gc_DS_write 15 = .ok (.invokestatic 76, 3) := by decide +kernel
theorem dq_DS_write_18 : decode gc_DS_write 18 = .ok (.ifCond .eq 6, 3) := by decide +kernel
theorem dq_DS_write_21 : decode gc_DS_write 21 = .ok (.ldc 80, 2) := by decide +kernel
theorem dq_DS_write_23 : decode gc_DS_write 23 = .ok (.ireturn, 1) := by decide +kernel
theorem dq_DS_write_24 : decode gc_DS_write 24 = .ok (.aload_n 0, 1) := by decide +kernel
theorem dq_DS_write_25 : decode gc_DS_write 25 = .ok (.getfield 73, 3) := by decide +kernel
theorem dq_DS_write_28 : decode gc_DS_write 28 = .ok (.iload_n 1, 1) := by decide +kernel
theorem dq_DS_write_29 : decode gc_DS_write 29 = .ok (.iload_n 2, 1) := by decide +kernel
theorem dq_DS_write_30 : decode gc_DS_write 30 = .ok (.iconst 0, 1) := by decide +kernel
theorem dq_DS_write_31 : decode gc_DS_write 31 = .ok (.invokevirtual 241, 3) := by decide +kernel
theorem dq_DS_write_34 : decode gc_DS_write 34 = .ok (.ifCond .eq 13, 3) := by decide +kernel
theorem dq_DS_write_37 : decode gc_DS_write 37 = .ok (.aload_n 0, 1) := by decide +kernel
theorem dq_DS_write_38 : decode gc_DS_write 38 = .ok (.getfield 73, 3) := by decide +kernel
theorem dq_DS_write_41 : decode gc_DS_write 41 = .ok (.getfield 97, 3) := by decide +kernel
theorem dq_DS_write_44 : decode gc_DS_write 44 = .ok (.goto 5, 3) := by decide +kernel
theorem dq_DS_write_47 : decode gc_DS_write 47 = .ok (.ldc 89, 2) := by decide +kernel
theorem dq_DS_write_49 : decode gc_DS_write 49 = .ok (.ireturn, 1) := by decide +kernel
abbrev gm_DS_write : gM := (gc_DS_write, gR_6, 2, 43, 3)
theorem gk_DS_247 : Cond.constant gR_6 247 (Int32.ofInt 99999) ∈ gtbl := (gtab_at 707 (by decide +kernel) rfl)
def f_DS_write (a1 : Int) (a2 : Int) (h : gH) : Option gO := gb (f_DS_isNoCart a1 h) (fun h1 r2 => if r2 = 0 then (gb (f_DS_isOutside a2 0 99999 h1) (fun h4 r5 => if r5 = 0 then (gb (f_Notes_add 79 a1 a2 0 h4) (fun h7 r8 => if r8 = 0 then (some (h7, (-1000000004))) else (some (h7, (h7 79 0))))) else (some (h4, (-1000000002))))) else (some (h1, (-1000000001))))
theorem c_DS_write {Z : gZ} (hL : gLive Z) (hn : (zL Z).Nodup) {a1 : Int} {a2 : Int}  {h : gH} {o : gO} (hg : gRg h) (ha : gRl [.inr (.inr 0), .inl a1, .inl a2]) (hx : f_DS_write a1 a2 h = some o) : gC Z gy_DS_write gc_DS_write 3 (some .int) 2 43 [.inr (.inr 0), .inl a1, .inl a2] h o := by
  unfold f_DS_write at hx
  refine gC_of (lv := [(0, .inr (.inr 0)), (1, .inl a1), (2, .inl a2)]) (own := gR_6) (by decide +kernel) rfl (Nat.le_of_ble_eq_true rfl) rfl rfl hn hg ha hx (fun X hZ hF => ?_)
  subst hZ
  show gr _ o gm_DS_write X h 0 _ _
  refine gr_aload_n (M := gm_DS_write) dq_DS_write_0 rfl 0 rfl 1 rfl ?_
  refine gr_iload_n (M := gm_DS_write) dq_DS_write_1 rfl 1 rfl 2 rfl ?_
  refine gr_callVi (M := gm_DS_write) (as := [.inl a1]) dq_DS_write_2 5 rfl rfl gcy_DS_157 gim_DS_isNoCart gse_DS_isNoCart ⟨by decide, by decide⟩ (Nat.le_of_ble_eq_true rfl) gsh_0 rfl (gli hL gsh_0) (fun o1 hg ha hx => c_DS_isNoCart hL hn  hg ha hx) (fun h1 r2 _ => ?_)
  refine gr_if_eq (M := gm_DS_write) dq_DS_write_5 11 8 rfl rfl (fun c3 => ?_) (fun c3 => ?_)
  · refine gr_iload_n (M := gm_DS_write) dq_DS_write_11 rfl 2 rfl 12 rfl ?_
    refine gr_iconst (M := gm_DS_write) (v := 0) dq_DS_write_12 rfl ⟨by decide, by decide⟩ 13 rfl ?_
    refine gr_ldc (M := gm_DS_write) (v := 99999) dq_DS_write_13 gk_DS_247 ⟨by decide, by decide⟩ 15 rfl ?_
    refine gr_callSi (M := gm_DS_write) (as := [.inl a2, .inl 0, .inl 99999]) dq_DS_write_15 18 rfl rfl gcy_DS_76 gst_DS_isOutside ⟨by decide, by decide⟩ (Nat.le_of_ble_eq_true rfl) (fun o1 hg ha hx => c_DS_isOutside hL hn  hg ha hx) (fun h4 r5 _ => ?_)
    refine gr_if_eq (M := gm_DS_write) dq_DS_write_18 24 21 rfl rfl (fun c6 => ?_) (fun c6 => ?_)
    · refine gr_aload_n (M := gm_DS_write) dq_DS_write_24 rfl 0 rfl 25 rfl ?_
      refine gr_geta (M := gm_DS_write) dq_DS_write_25 28 rfl gfl_DS_73 gsh_0 rfl (gli hL gsh_0) ?_
      refine gr_iload_n (M := gm_DS_write) dq_DS_write_28 rfl 1 rfl 29 rfl ?_
      refine gr_iload_n (M := gm_DS_write) dq_DS_write_29 rfl 2 rfl 30 rfl ?_
      refine gr_iconst (M := gm_DS_write) (v := 0) dq_DS_write_30 rfl ⟨by decide, by decide⟩ 31 rfl ?_
      refine gr_callVi (M := gm_DS_write) (as := [.inl a1, .inl a2, .inl 0]) dq_DS_write_31 34 rfl rfl gcy_DS_241 gim_Notes_add gse_Notes_add ⟨by decide, by decide⟩ (Nat.le_of_ble_eq_true rfl) gsh_79 rfl (gli hL gsh_79) (fun o1 hg ha hx => c_Notes_add hL hn gsh_79 hg ha hx) (fun h7 r8 _ => ?_)
      refine gr_if_eq (M := gm_DS_write) dq_DS_write_34 47 37 rfl rfl (fun c9 => ?_) (fun c9 => ?_)
      · refine gr_ldc (M := gm_DS_write) (v := (-1000000004)) dq_DS_write_47 gk_DS_89 ⟨by decide, by decide⟩ 49 rfl ?_
        exact gr_ireturn (M := gm_DS_write) dq_DS_write_49 hF
      refine gr_aload_n (M := gm_DS_write) dq_DS_write_37 rfl 0 rfl 38 rfl ?_
      refine gr_geta (M := gm_DS_write) dq_DS_write_38 41 rfl gfl_DS_73 gsh_0 rfl (gli hL gsh_0) ?_
      refine gr_geti (M := gm_DS_write) dq_DS_write_41 44 rfl gfl_DS_97 gsh_79 rfl (gli hL gsh_79) ?_
      refine gr_goto (M := gm_DS_write) dq_DS_write_44 49 rfl ?_
      exact gr_ireturn (M := gm_DS_write) dq_DS_write_49 hF
    refine gr_ldc (M := gm_DS_write) (v := (-1000000002)) dq_DS_write_21 gk_DS_80 ⟨by decide, by decide⟩ 23 rfl ?_
    exact gr_ireturn (M := gm_DS_write) dq_DS_write_23 hF
  refine gr_ldc (M := gm_DS_write) (v := (-1000000001)) dq_DS_write_8 gk_DS_130 ⟨by decide, by decide⟩ 10 rfl ?_
  exact gr_ireturn (M := gm_DS_write) dq_DS_write_10 hF

-- DS_tear
theorem dq_DS_tear_0 : decode gc_DS_tear 0 = .ok (.aload_n 0, 1) := by decide +kernel
theorem dq_DS_tear_1 : decode gc_DS_tear 1 = .ok (.getfield 69, 3) := by decide +kernel
theorem dq_DS_tear_4 : decode gc_DS_tear 4 = .ok (.getfield 97, 3) := by decide +kernel
theorem dq_DS_tear_7 : decode gc_DS_tear 7 = .ok (.aload_n 0, 1) := by decide +kernel
theorem dq_DS_tear_8 : decode gc_DS_tear 8 = .ok (.getfield 73, 3) := by decide +kernel
theorem dq_DS_tear_11 : decode gc_DS_tear 11 = .ok (.getfield 97, 3) := by decide +kernel
theorem dq_DS_tear_14 : decode gc_DS_tear 14 = .ok (.iadd, 1) := by decide +kernel
theorem dq_DS_tear_15 : decode gc_DS_tear 15 = .ok (.istore_n 1, 1) := by decide +kernel
theorem dq_DS_tear_16 : decode gc_DS_tear 16 = .ok (.aload_n 0, 1) := by decide +kernel
theorem dq_DS_tear_17 : decode gc_DS_tear 17 = .ok (.getfield 69, 3) := by decide +kernel
theorem dq_DS_tear_20 : decode gc_DS_tear 20 = .ok (.iconst 0, 1) := by decide +kernel
theorem dq_DS_tear_21 : decode gc_DS_tear 21 = .ok (.putfield 97, 3) := by decide +kernel
theorem dq_DS_tear_24 : decode gc_DS_tear 24 = .ok (.aload_n 0, 1) := by decide +kernel
theorem dq_DS_tear_25 : decode gc_DS_tear 25 = .ok (.getfield 73, 3) := by decide +kernel
theorem dq_DS_tear_28 : decode gc_DS_tear 28 = .ok (.iconst 0, 1) := by decide +kernel
theorem dq_DS_tear_29 : decode gc_DS_tear 29 = .ok (.putfield 97, 3) := by decide +kernel
theorem dq_DS_tear_32 : decode gc_DS_tear 32 = .ok (.iload_n 1, 1) := by decide +kernel
theorem dq_DS_tear_33 : decode gc_DS_tear 33 = .ok (.ireturn, 1) := by decide +kernel
abbrev gm_DS_tear : gM := (gc_DS_tear, gR_6, 0, 0, 2)
def f_DS_tear  (h : gH) : Option gO := gs (gup h 75 0 0) (fun h1 => gs (gup h1 79 0 0) (fun h2 => some (h2, (gadd (h 75 0) (h 79 0)))))
theorem c_DS_tear {Z : gZ} (hL : gLive Z) (hn : (zL Z).Nodup)   {h : gH} {o : gO} (hg : gRg h) (ha : gRl [.inr (.inr 0)]) (hx : f_DS_tear  h = some o) : gC Z gy_DS_tear gc_DS_tear 2 (some .int) 0 0 [.inr (.inr 0)] h o := by
  unfold f_DS_tear at hx
  refine gC_of (lv := [(0, .inr (.inr 0))]) (own := gR_6) (by decide +kernel) rfl (Nat.le_of_ble_eq_true rfl) rfl rfl hn hg ha hx (fun X hZ hF => ?_)
  subst hZ
  show gr _ o gm_DS_tear X h 0 _ _
  refine gr_aload_n (M := gm_DS_tear) dq_DS_tear_0 rfl 0 rfl 1 rfl ?_
  refine gr_geta (M := gm_DS_tear) dq_DS_tear_1 4 rfl gfl_DS_69 gsh_0 rfl (gli hL gsh_0) ?_
  refine gr_geti (M := gm_DS_tear) dq_DS_tear_4 7 rfl gfl_DS_97 gsh_75 rfl (gli hL gsh_75) ?_
  refine gr_aload_n (M := gm_DS_tear) dq_DS_tear_7 rfl 0 rfl 8 rfl ?_
  refine gr_geta (M := gm_DS_tear) dq_DS_tear_8 11 rfl gfl_DS_73 gsh_0 rfl (gli hL gsh_0) ?_
  refine gr_geti (M := gm_DS_tear) dq_DS_tear_11 14 rfl gfl_DS_97 gsh_79 rfl (gli hL gsh_79) ?_
  refine gr_iadd (M := gm_DS_tear) dq_DS_tear_14 15 rfl ?_
  refine gr_istore_n (M := gm_DS_tear) (lv' := [(1, .inl (gadd (h 75 0) (h 79 0))), (0, .inr (.inr 0))]) dq_DS_tear_15 rfl (by decide) rfl 16 rfl ?_
  refine gr_aload_n (M := gm_DS_tear) dq_DS_tear_16 rfl 1 rfl 17 rfl ?_
  refine gr_geta (M := gm_DS_tear) dq_DS_tear_17 20 rfl gfl_DS_69 gsh_0 rfl (gli hL gsh_0) ?_
  refine gr_iconst (M := gm_DS_tear) (v := 0) dq_DS_tear_20 rfl ⟨by decide, by decide⟩ 21 rfl ?_
  refine gr_puti (M := gm_DS_tear) dq_DS_tear_21 24 rfl gfp_DS_97 gsh_75 rfl (gli hL gsh_75) (fun h1 _ => ?_)
  refine gr_aload_n (M := gm_DS_tear) dq_DS_tear_24 rfl 1 rfl 25 rfl ?_
  refine gr_geta (M := gm_DS_tear) dq_DS_tear_25 28 rfl gfl_DS_73 gsh_0 rfl (gli hL gsh_0) ?_
  refine gr_iconst (M := gm_DS_tear) (v := 0) dq_DS_tear_28 rfl ⟨by decide, by decide⟩ 29 rfl ?_
  refine gr_puti (M := gm_DS_tear) dq_DS_tear_29 32 rfl gfp_DS_97 gsh_79 rfl (gli hL gsh_79) (fun h2 _ => ?_)
  refine gr_iload_n (M := gm_DS_tear) dq_DS_tear_32 rfl 0 rfl 33 rfl ?_
  exact gr_ireturn (M := gm_DS_tear) dq_DS_tear_33 hF

-- DS_judge
theorem dq_DS_judge_0 : decode gc_DS_judge 0 = .ok (.iconst 0, 1) := by decide +kernel
theorem dq_DS_judge_1 : decode gc_DS_judge 1 = .ok (.istore_n 1, 1) := by decide +kernel
theorem dq_DS_judge_2 : decode gc_DS_judge 2 = .ok (.iload_n 1, 1) := by decide +kernel
theorem dq_DS_judge_3 : decode gc_DS_judge 3 = .ok (.aload_n 0, 1) := by decide +kernel
theorem dq_DS_judge_4 : decode gc_DS_judge 4 = .ok (.getfield 73, 3) := by decide +kernel
theorem dq_DS_judge_7 : decode gc_DS_judge 7 = .ok (.getfield 97, 3) := by decide +kernel
theorem dq_DS_judge_10 : decode gc_DS_judge 10 = .ok (.if_icmp .ge 55, 3) := by decide +kernel
theorem dq_DS_judge_13 : decode gc_DS_judge 13 = .ok (.aload_n 0, 1) := by decide +kernel
theorem dq_DS_judge_14 : decode gc_DS_judge 14 = .ok (.getfield 73, 3) := by decide +kernel
theorem dq_DS_judge_17 : decode gc_DS_judge 17 = .ok (.getfield 248, 3) := by decide +kernel
theorem dq_DS_judge_20 : decode gc_DS_judge 20 = .ok (.iload_n 1, 1) := by decide +kernel
theorem dq_DS_judge_21 : decode gc_DS_judge 21 = .ok (.iaload, 1) := by decide +kernel
theorem dq_DS_judge_22 : decode gc_DS_judge 22 = .ok (.istore_n 2, 1) := by decide +kernel
theorem dq_DS_judge_23 : decode gc_DS_judge 23 = .ok (.aload_n 0, 1) := by decide +kernel
theorem dq_DS_judge_24 : decode gc_DS_judge 24 = .ok (.getfield 31, 3) := by decide +kernel
theorem dq_DS_judge_27 : decode gc_DS_judge 27 = .ok (.getfield 175, 3) := by decide +kernel
theorem dq_DS_judge_30 : decode gc_DS_judge 30 = .ok (.iload_n 2, 1) := by decide +kernel
theorem dq_DS_judge_31 : decode gc_DS_judge 31 = .ok (.iaload, 1) := by decide +kernel
theorem dq_DS_judge_32 : decode gc_DS_judge 32 = .ok (.iconst 3, 1) := by decide +kernel
theorem dq_DS_judge_33 : decode gc_DS_judge 33 = .ok (.if_icmp .ne 24, 3) := by decide +kernel
theorem dq_DS_judge_36 : decode gc_DS_judge 36 = .ok (.aload_n 0, 1) := by decide +kernel
theorem dq_DS_judge_37 : decode gc_DS_judge 37 = .ok (.getfield 31, 3) := by decide +kernel
theorem dq_DS_judge_40 : decode gc_DS_judge 40 = .ok (.getfield 181, 3) := by decide +kernel
theorem dq_DS_judge_43 : decode gc_DS_judge 43 = .ok (.iload_n 2, 1) := by decide +kernel
theorem dq_DS_judge_44 : decode gc_DS_judge 44 = .ok (.iaload, 1) := by decide +kernel
theorem dq_DS_judge_45 : decode gc_DS_judge 45 = .ok (.aload_n 0, 1) := by decide +kernel
theorem dq_DS_judge_46 : decode gc_DS_judge 46 = .ok (.getfield 73, 3) := by decide +kernel
theorem dq_DS_judge_49 : decode gc_DS_judge 49 = .ok (.getfield 251, 3) := by decide +kernel
theorem dq_DS_judge_52 : decode gc_DS_judge 52 = .ok (.iload_n 1, 1) := by decide +kernel
theorem dq_DS_judge_53 : decode gc_DS_judge 53 = .ok (.iaload, 1) := by decide +kernel
theorem dq_DS_judge_54 : decode gc_DS_judge 54 = .ok (.if_icmp .eq 5, 3) := by decide +kernel
theorem dq_DS_judge_57 : decode gc_DS_judge 57 = .ok (.iload_n 1, 1) := by decide +kernel
theorem dq_DS_judge_58 : decode gc_DS_judge 58 = .ok (.ireturn, 1) := by decide +kernel
theorem dq_DS_judge_59 : decode gc_DS_judge 59 = .ok (.iinc 1 1, 3) := by decide +kernel
theorem dq_DS_judge_62 : decode gc_DS_judge 62 = .ok (.goto (-60), 3) := by decide +kernel
theorem dq_DS_judge_65 : decode gc_DS_judge 65 = .ok (.iconst (-1), 1) := by decide +kernel
theorem dq_DS_judge_66 : decode gc_DS_judge 66 = .ok (.ireturn, 1) := by decide +kernel
abbrev gm_DS_judge : gM := (gc_DS_judge, gR_6, 0, 0, 3)
theorem gfl_DS_248 : gFl gR_6 248 1 1 := ⟨_, _, _, rfl, by decide, (gtab_at 259 (by decide +kernel) rfl), gin_1⟩
theorem gfl_DS_251 : gFl gR_6 251 1 2 := ⟨_, _, _, rfl, by decide, (gtab_at 261 (by decide +kernel) rfl), gin_1⟩
def f_DS_judge_L2  (k65 : gH → Option gO) : Nat → Int → gH → Option gO
  | 0, _, _ => none
  | n + 1, v1, h => if (h 79 0) ≤ v1 then (k65  h) else (gd (gix 15 v1) (gd (gix 6 (h 80 v1.toNat)) (if (h 33 (h 80 v1.toNat).toNat) = 3 then (gd (gix 6 (h 80 v1.toNat)) (gd (gix 15 v1) (if (h 35 (h 80 v1.toNat).toNat) = (h 81 v1.toNat) then (f_DS_judge_L2 k65 n (gadd v1 1) h) else (some (h, v1))))) else (some (h, v1)))))
theorem w_DS_judge_L2 {o : gO} {X : gX} (hL : gLive (xZ X)) (hn : (zL (xZ X)).Nodup) (hF : gFin X (some .int) o)    {k65 : gH → Option gO} (hk65 : ∀ (h : gH), gr (k65 h) o gm_DS_judge X h 65 [] []) : ∀ (n : Nat) (v1 : Int) (h : gH), gr (f_DS_judge_L2  k65 n v1 h) o gm_DS_judge X h 2 [(0, .inr (.inr 0)), (1, .inl v1)] [] := by
  intro n
  induction n with
  | zero => intros; exact gr_none
  | succ n ih =>
    intro v1 h
    unfold f_DS_judge_L2
    refine gr_iload_n (M := gm_DS_judge) dq_DS_judge_2 rfl 1 rfl 3 rfl ?_
    refine gr_aload_n (M := gm_DS_judge) dq_DS_judge_3 rfl 0 rfl 4 rfl ?_
    refine gr_geta (M := gm_DS_judge) dq_DS_judge_4 7 rfl gfl_DS_73 gsh_0 rfl (gli hL gsh_0) ?_
    refine gr_geti (M := gm_DS_judge) dq_DS_judge_7 10 rfl gfl_DS_97 gsh_79 rfl (gli hL gsh_79) ?_
    refine gr_icmp_ge (M := gm_DS_judge) dq_DS_judge_10 65 13 rfl rfl (fun c1 => ?_) (fun c1 => ?_)
    · refine gr_sub (M := gm_DS_judge) (lv' := []) [] rfl ?_
      exact hk65  _
    refine gr_aload_n (M := gm_DS_judge) dq_DS_judge_13 rfl 0 rfl 14 rfl ?_
    refine gr_geta (M := gm_DS_judge) dq_DS_judge_14 17 rfl gfl_DS_73 gsh_0 rfl (gli hL gsh_0) ?_
    refine gr_getr (M := gm_DS_judge) dq_DS_judge_17 20 rfl gfl_DS_248 gsh_79 rfl (gli hL gsh_79) 80 rfl ?_
    refine gr_iload_n (M := gm_DS_judge) dq_DS_judge_20 rfl 1 rfl 21 rfl ?_
    refine gr_iald (M := gm_DS_judge) dq_DS_judge_21 22 rfl gsh_80 (glj hL gsh_80 (by decide)) ?_
    refine gr_istore_n (M := gm_DS_judge) (lv' := [(2, .inl (h 80 v1.toNat)), (0, .inr (.inr 0)), (1, .inl v1)]) dq_DS_judge_22 rfl (by decide) rfl 23 rfl ?_
    refine gr_aload_n (M := gm_DS_judge) dq_DS_judge_23 rfl 1 rfl 24 rfl ?_
    refine gr_geta (M := gm_DS_judge) dq_DS_judge_24 27 rfl gfl_DS_31 gsh_0 rfl (gli hL gsh_0) ?_
    refine gr_getr (M := gm_DS_judge) dq_DS_judge_27 30 rfl gfl_DS_175 gsh_27 rfl (gli hL gsh_27) 33 rfl ?_
    refine gr_iload_n (M := gm_DS_judge) dq_DS_judge_30 rfl 0 rfl 31 rfl ?_
    refine gr_iald (M := gm_DS_judge) dq_DS_judge_31 32 rfl gsh_33 (glj hL gsh_33 (by decide)) ?_
    refine gr_iconst (M := gm_DS_judge) (v := 3) dq_DS_judge_32 rfl ⟨by decide, by decide⟩ 33 rfl ?_
    refine gr_icmp_ne (M := gm_DS_judge) dq_DS_judge_33 57 36 rfl rfl (fun c2 => ?_) (fun c2 => ?_)
    · refine gr_iload_n (M := gm_DS_judge) dq_DS_judge_57 rfl 2 rfl 58 rfl ?_
      exact gr_ireturn (M := gm_DS_judge) dq_DS_judge_58 hF
    refine gr_aload_n (M := gm_DS_judge) dq_DS_judge_36 rfl 1 rfl 37 rfl ?_
    refine gr_geta (M := gm_DS_judge) dq_DS_judge_37 40 rfl gfl_DS_31 gsh_0 rfl (gli hL gsh_0) ?_
    refine gr_getr (M := gm_DS_judge) dq_DS_judge_40 43 rfl gfl_DS_181 gsh_27 rfl (gli hL gsh_27) 35 rfl ?_
    refine gr_iload_n (M := gm_DS_judge) dq_DS_judge_43 rfl 0 rfl 44 rfl ?_
    refine gr_iald (M := gm_DS_judge) dq_DS_judge_44 45 rfl gsh_35 (glj hL gsh_35 (by decide)) ?_
    refine gr_aload_n (M := gm_DS_judge) dq_DS_judge_45 rfl 1 rfl 46 rfl ?_
    refine gr_geta (M := gm_DS_judge) dq_DS_judge_46 49 rfl gfl_DS_73 gsh_0 rfl (gli hL gsh_0) ?_
    refine gr_getr (M := gm_DS_judge) dq_DS_judge_49 52 rfl gfl_DS_251 gsh_79 rfl (gli hL gsh_79) 81 rfl ?_
    refine gr_iload_n (M := gm_DS_judge) dq_DS_judge_52 rfl 2 rfl 53 rfl ?_
    refine gr_iald (M := gm_DS_judge) dq_DS_judge_53 54 rfl gsh_81 (glj hL gsh_81 (by decide)) ?_
    refine gr_icmp_eq (M := gm_DS_judge) dq_DS_judge_54 59 57 rfl rfl (fun c3 => ?_) (fun c3 => ?_)
    · refine gr_iinc (M := gm_DS_judge) (lv' := [(1, .inl (gadd v1 1)), (2, .inl (h 80 v1.toNat)), (0, .inr (.inr 0))]) dq_DS_judge_59 2 rfl rfl (by decide) rfl 62 rfl ?_
      refine gr_goto (M := gm_DS_judge) dq_DS_judge_62 2 rfl ?_
      refine gr_sub (M := gm_DS_judge) (lv' := [(0, .inr (.inr 0)), (1, .inl (gadd v1 1))]) [2, 0] rfl ?_
      exact ih _ _
    refine gr_iload_n (M := gm_DS_judge) dq_DS_judge_57 rfl 2 rfl 58 rfl ?_
    exact gr_ireturn (M := gm_DS_judge) dq_DS_judge_58 hF

def f_DS_judge  (h : gH) : Option gO := f_DS_judge_L2  (fun  h4 => some (h4, (-1))) 50000 0 h
theorem c_DS_judge {Z : gZ} (hL : gLive Z) (hn : (zL Z).Nodup)   {h : gH} {o : gO} (hg : gRg h) (ha : gRl [.inr (.inr 0)]) (hx : f_DS_judge  h = some o) : gC Z gy_DS_judge gc_DS_judge 3 (some .int) 0 0 [.inr (.inr 0)] h o := by
  unfold f_DS_judge at hx
  refine gC_of (lv := [(0, .inr (.inr 0))]) (own := gR_6) (by decide +kernel) rfl (Nat.le_of_ble_eq_true rfl) rfl rfl hn hg ha hx (fun X hZ hF => ?_)
  subst hZ
  show gr _ o gm_DS_judge X h 0 _ _
  refine gr_iconst (M := gm_DS_judge) (v := 0) dq_DS_judge_0 rfl ⟨by decide, by decide⟩ 1 rfl ?_
  refine gr_istore_n (M := gm_DS_judge) (lv' := [(1, .inl 0), (0, .inr (.inr 0))]) dq_DS_judge_1 rfl (by decide) rfl 2 rfl ?_
  refine gr_sub (M := gm_DS_judge) (lv' := [(0, .inr (.inr 0)), (1, .inl 0)]) [1, 0] rfl ?_
  refine w_DS_judge_L2 hL hn hF   (fun h4 => ?_) 50000 _ _
  refine gr_iconst (M := gm_DS_judge) (v := (-1)) dq_DS_judge_65 rfl ⟨by decide, by decide⟩ 66 rfl ?_
  exact gr_ireturn (M := gm_DS_judge) dq_DS_judge_66 hF

-- DS_seed
theorem dq_DS_seed_0 : decode gc_DS_seed 0 = .ok (.iload_n 1, 1) := by decide +kernel
theorem dq_DS_seed_1 : decode gc_DS_seed 1 = .ok (.ifCond .ge 6, 3) := by decide +kernel
theorem dq_DS_seed_4 : decode gc_DS_seed 4 = .ok (.ldc 80, 2) := by decide +kernel
theorem dq_DS_seed_6 : decode gc_DS_seed 6 = .ok (.ireturn, 1) := by decide +kernel
theorem dq_DS_seed_7 : decode gc_DS_seed 7 = .ok (.aload_n 0, 1) := by decide +kernel
theorem dq_DS_seed_8 : decode gc_DS_seed 8 = .ok (.getfield 31, 3) := by decide +kernel
theorem dq_DS_seed_11 : decode gc_DS_seed 11 = .ok (.getfield 253, 3) := by decide +kernel
theorem dq_DS_seed_14 : decode gc_DS_seed 14 = .ok (.istore_n 2, 1) := by decide +kernel
theorem dq_DS_seed_15 : decode gc_DS_seed 15 = .ok (.aload_n 0, 1) := by decide +kernel
theorem dq_DS_seed_16 : decode gc_DS_seed 16 = .ok (.getfield 31, 3) := by decide +kernel
theorem dq_DS_seed_19 : decode gc_DS_seed 19 = .ok (.iload_n 1, 1) := by decide +kernel
theorem dq_DS_seed_20 : decode gc_DS_seed 20 = .ok (.putfield 253, 3) := by decide +kernel
theorem dq_DS_seed_23 : decode gc_DS_seed 23 = .ok (.iload_n 2, 1) := by decide +kernel
theorem dq_DS_seed_24 : decode gc_DS_seed 24 = .ok (.ireturn, 1) := by decide +kernel
abbrev gm_DS_seed : gM := (gc_DS_seed, gR_6, 0, 0, 3)
theorem gfl_DS_253 : gFl gR_6 253 4 2 := ⟨_, _, _, rfl, by decide, (gtab_at 158 (by decide +kernel) rfl), gin_4⟩
theorem gfp_DS_253 : gFp gR_6 253 4 2 .int := ⟨_, _, _, gt_4, rfl, by decide, (gtab_at 158 (by decide +kernel) rfl), gin_4, gto_4, gnm_4, rfl, by decide +kernel⟩
def f_DS_seed (a1 : Int) (h : gH) : Option gO := if 0 ≤ a1 then (gs (gup h 27 2 a1) (fun h2 => some (h2, (h 27 2)))) else (some (h, (-1000000002)))
theorem c_DS_seed {Z : gZ} (hL : gLive Z) (hn : (zL Z).Nodup) {a1 : Int}  {h : gH} {o : gO} (hg : gRg h) (ha : gRl [.inr (.inr 0), .inl a1]) (hx : f_DS_seed a1 h = some o) : gC Z gy_DS_seed gc_DS_seed 3 (some .int) 0 0 [.inr (.inr 0), .inl a1] h o := by
  unfold f_DS_seed at hx
  refine gC_of (lv := [(0, .inr (.inr 0)), (1, .inl a1)]) (own := gR_6) (by decide +kernel) rfl (Nat.le_of_ble_eq_true rfl) rfl rfl hn hg ha hx (fun X hZ hF => ?_)
  subst hZ
  show gr _ o gm_DS_seed X h 0 _ _
  refine gr_iload_n (M := gm_DS_seed) dq_DS_seed_0 rfl 1 rfl 1 rfl ?_
  refine gr_if_ge (M := gm_DS_seed) dq_DS_seed_1 7 4 rfl rfl (fun c1 => ?_) (fun c1 => ?_)
  · refine gr_aload_n (M := gm_DS_seed) dq_DS_seed_7 rfl 0 rfl 8 rfl ?_
    refine gr_geta (M := gm_DS_seed) dq_DS_seed_8 11 rfl gfl_DS_31 gsh_0 rfl (gli hL gsh_0) ?_
    refine gr_geti (M := gm_DS_seed) dq_DS_seed_11 14 rfl gfl_DS_253 gsh_27 rfl (gli hL gsh_27) ?_
    refine gr_istore_n (M := gm_DS_seed) (lv' := [(2, .inl (h 27 2)), (0, .inr (.inr 0)), (1, .inl a1)]) dq_DS_seed_14 rfl (by decide) rfl 15 rfl ?_
    refine gr_aload_n (M := gm_DS_seed) dq_DS_seed_15 rfl 1 rfl 16 rfl ?_
    refine gr_geta (M := gm_DS_seed) dq_DS_seed_16 19 rfl gfl_DS_31 gsh_0 rfl (gli hL gsh_0) ?_
    refine gr_iload_n (M := gm_DS_seed) dq_DS_seed_19 rfl 2 rfl 20 rfl ?_
    refine gr_puti (M := gm_DS_seed) dq_DS_seed_20 23 rfl gfp_DS_253 gsh_27 rfl (gli hL gsh_27) (fun h2 _ => ?_)
    refine gr_iload_n (M := gm_DS_seed) dq_DS_seed_23 rfl 0 rfl 24 rfl ?_
    exact gr_ireturn (M := gm_DS_seed) dq_DS_seed_24 hF
  refine gr_ldc (M := gm_DS_seed) (v := (-1000000002)) dq_DS_seed_4 gk_DS_80 ⟨by decide, by decide⟩ 6 rfl ?_
  exact gr_ireturn (M := gm_DS_seed) dq_DS_seed_6 hF

-- DS_keep
theorem dq_DS_keep_0 : decode gc_DS_keep 0 = .ok (.iload_n 1, 1) := by decide +kernel
theorem dq_DS_keep_1 : decode gc_DS_keep 1 = .ok (.iconst 0, 1) := by decide +kernel
theorem dq_DS_keep_2 : decode gc_DS_keep 2 = .ok (.iconst 1, 1) := by decide +kernel
theorem dq_DS_keep_3 : decode gc_DS_keep 3 = .ok (.invokestatic 76, 3) := by decide +kernel
theorem dq_DS_keep_6 : decode gc_DS_keep 6 = .ok (.ifCond .eq 6, 3) := by decide +kernel
theorem dq_DS_keep_9 : decode gc_DS_keep 9 = .ok (.ldc 130, 2) := by decide +kernel
theorem dq_DS_keep_11 : decode gc_DS_keep 11 = .ok (.ireturn, 1) := by decide +kernel
theorem dq_DS_keep_12 : decode gc_DS_keep 12 = .ok (.aload_n 0, 1) := by decide +kernel
theorem dq_DS_keep_13 : decode gc_DS_keep 13 = .ok (.getfield 38, 3) := by decide +kernel
theorem dq_DS_keep_16 : decode gc_DS_keep 16 = .ok (.iload_n 1, 1) := by decide +kernel
theorem dq_DS_keep_17 : decode gc_DS_keep 17 = .ok (.aaload, 1) := by decide +kernel
theorem dq_DS_keep_18 : decode gc_DS_keep 18 = .ok (.aload_n 0, 1) := by decide +kernel
theorem dq_DS_keep_19 : decode gc_DS_keep 19 = .ok (.getfield 31, 3) := by decide +kernel
theorem dq_DS_keep_22 : decode gc_DS_keep 22 = .ok (.invokevirtual 209, 3) := by decide +kernel
theorem dq_DS_keep_25 : decode gc_DS_keep 25 = .ok (.aload_n 0, 1) := by decide +kernel
theorem dq_DS_keep_26 : decode gc_DS_keep 26 = .ok (.getfield 42, 3) := by decide +kernel
theorem dq_DS_keep_29 : decode gc_DS_keep 29 = .ok (.iload_n 1, 1) := by decide +kernel
theorem dq_DS_keep_30 : decode gc_DS_keep 30 = .ok (.iconst 1, 1) := by decide +kernel
theorem dq_DS_keep_31 : decode gc_DS_keep 31 = .ok (.bastore, 1) := by decide +kernel
theorem dq_DS_keep_32 : decode gc_DS_keep 32 = .ok (.iconst 1, 1) := by decide +kernel
theorem dq_DS_keep_33 : decode gc_DS_keep 33 = .ok (.ireturn, 1) := by decide +kernel
abbrev gm_DS_keep : gM := (gc_DS_keep, gR_6, 2, 47, 2)
theorem gfl_DS_38 : gFl gR_6 38 6 5 := ⟨_, _, _, rfl, by decide, (gtab_at 277 (by decide +kernel) rfl), gin_6⟩
def f_DS_keep (a1 : Int) (h : gH) : Option gO := gb (f_DS_isOutside a1 0 1 h) (fun h1 r2 => if r2 = 0 then (gd (gix 2 a1) (gd (gcl (47 + 1 + 10 * a1.toNat) 4) (gb (f_Traffic_copyFrom (47 + 1 + 10 * a1.toNat) 27 h1) (fun h5 r6 => gd (gix 2 a1) (gs (gup h5 68 a1.toNat 1) (fun h7 => some (h7, 1))))))) else (some (h1, (-1000000001))))
theorem c_DS_keep {Z : gZ} (hL : gLive Z) (hn : (zL Z).Nodup) {a1 : Int}  {h : gH} {o : gO} (hg : gRg h) (ha : gRl [.inr (.inr 0), .inl a1]) (hx : f_DS_keep a1 h = some o) : gC Z gy_DS_keep gc_DS_keep 2 (some .int) 2 47 [.inr (.inr 0), .inl a1] h o := by
  unfold f_DS_keep at hx
  refine gC_of (lv := [(0, .inr (.inr 0)), (1, .inl a1)]) (own := gR_6) (by decide +kernel) rfl (Nat.le_of_ble_eq_true rfl) rfl rfl hn hg ha hx (fun X hZ hF => ?_)
  subst hZ
  show gr _ o gm_DS_keep X h 0 _ _
  refine gr_iload_n (M := gm_DS_keep) dq_DS_keep_0 rfl 1 rfl 1 rfl ?_
  refine gr_iconst (M := gm_DS_keep) (v := 0) dq_DS_keep_1 rfl ⟨by decide, by decide⟩ 2 rfl ?_
  refine gr_iconst (M := gm_DS_keep) (v := 1) dq_DS_keep_2 rfl ⟨by decide, by decide⟩ 3 rfl ?_
  refine gr_callSi (M := gm_DS_keep) (as := [.inl a1, .inl 0, .inl 1]) dq_DS_keep_3 6 rfl rfl gcy_DS_76 gst_DS_isOutside ⟨by decide, by decide⟩ (Nat.le_of_ble_eq_true rfl) (fun o1 hg ha hx => c_DS_isOutside hL hn  hg ha hx) (fun h1 r2 _ => ?_)
  refine gr_if_eq (M := gm_DS_keep) dq_DS_keep_6 12 9 rfl rfl (fun c3 => ?_) (fun c3 => ?_)
  · refine gr_aload_n (M := gm_DS_keep) dq_DS_keep_12 rfl 0 rfl 13 rfl ?_
    refine gr_geta (M := gm_DS_keep) dq_DS_keep_13 16 rfl gfl_DS_38 gsh_0 rfl (gli hL gsh_0) ?_
    refine gr_iload_n (M := gm_DS_keep) dq_DS_keep_16 rfl 1 rfl 17 rfl ?_
    refine gr_qald (M := gm_DS_keep) dq_DS_keep_17 18 rfl gsh_47 (glj hL gsh_47 (by decide)) ?_
    refine gr_gd (M := gm_DS_keep) fun hc4 => ?_
    refine gr_aload_n (M := gm_DS_keep) dq_DS_keep_18 rfl 0 rfl 19 rfl ?_
    refine gr_geta (M := gm_DS_keep) dq_DS_keep_19 22 rfl gfl_DS_31 gsh_0 rfl (gli hL gsh_0) ?_
    refine gr_callVv (M := gm_DS_keep) (as := [.inr (.inr 27)]) dq_DS_keep_22 25 rfl rfl gcy_DS_209 gim_Traffic_copyFrom gse_Traffic_copyFrom ⟨by decide, by decide⟩ (Nat.le_of_ble_eq_true rfl) (gclE hc4) rfl (gli hL (gclE hc4)) (fun o1 hg ha hx => c_Traffic_copyFrom hL hn (gclE hc4) gsh_27 hg ha hx) (fun h5 r6 _ => ?_)
    refine gr_aload_n (M := gm_DS_keep) dq_DS_keep_25 rfl 0 rfl 26 rfl ?_
    refine gr_geta (M := gm_DS_keep) dq_DS_keep_26 29 rfl gfl_DS_42 gsh_0 rfl (gli hL gsh_0) ?_
    refine gr_iload_n (M := gm_DS_keep) dq_DS_keep_29 rfl 1 rfl 30 rfl ?_
    refine gr_iconst (M := gm_DS_keep) (v := 1) dq_DS_keep_30 rfl ⟨by decide, by decide⟩ 31 rfl ?_
    refine gr_zast (M := gm_DS_keep) dq_DS_keep_31 (by decide) 32 rfl gsh_68 (glj hL gsh_68 (by decide)) (fun h7 _ => ?_)
    refine gr_iconst (M := gm_DS_keep) (v := 1) dq_DS_keep_32 rfl ⟨by decide, by decide⟩ 33 rfl ?_
    exact gr_ireturn (M := gm_DS_keep) dq_DS_keep_33 hF
  refine gr_ldc (M := gm_DS_keep) (v := (-1000000001)) dq_DS_keep_9 gk_DS_130 ⟨by decide, by decide⟩ 11 rfl ?_
  exact gr_ireturn (M := gm_DS_keep) dq_DS_keep_11 hF

-- DS_goBack
theorem dq_DS_goBack_0 : decode gc_DS_goBack 0 = .ok (.iload_n 1, 1) := by decide +kernel
theorem dq_DS_goBack_1 : decode gc_DS_goBack 1 = .ok (.iconst 0, 1) := by decide +kernel
theorem dq_DS_goBack_2 : decode gc_DS_goBack 2 = .ok (.iconst 1, 1) := by decide +kernel
theorem dq_DS_goBack_3 : decode gc_DS_goBack 3 = .ok (.invokestatic 76, 3) := by decide +kernel
theorem dq_DS_goBack_6 : decode gc_DS_goBack 6 = .ok (.ifCond .eq 6, 3) := by decide +kernel
theorem dq_DS_goBack_9 : decode gc_DS_goBack 9 = .ok (.ldc 130, 2) := by decide +kernel
theorem dq_DS_goBack_11 : decode gc_DS_goBack 11 = .ok (.ireturn, 1) := by decide +kernel
theorem dq_DS_goBack_12 : decode gc_DS_goBack 12 = .ok (.aload_n 0, 1) := by decide +kernel
theorem dq_DS_goBack_13 : decode gc_DS_goBack 13 = .ok (.getfield 42, 3) := by decide +kernel
theorem dq_DS_goBack_16 : decode gc_DS_goBack 16 = .ok (.iload_n 1, 1) := by decide +kernel
theorem dq_DS_goBack_17 : decode gc_DS_goBack 17 = .ok (.baload, 1) := by decide +kernel
theorem dq_DS_goBack_18 : decode gc_DS_goBack 18 = .ok (.ifCond .ne 6, 3) := by decide +kernel
theorem dq_DS_goBack_21 : decode gc_DS_goBack 21 = .ok (.ldc 208, 2) := by decide +kernel
theorem dq_DS_goBack_23 : decode gc_DS_goBack 23 = .ok (.ireturn, 1) := by decide +kernel
theorem dq_DS_goBack_24 : decode gc_DS_goBack 24 = .ok (.aload_n 0, 1) := by decide +kernel
theorem dq_DS_goBack_25 : decode gc_DS_goBack 25 = .ok (.getfield 31, 3) := by decide +kernel
theorem dq_DS_goBack_28 : decode gc_DS_goBack 28 = .ok (.aload_n 0, 1) := by decide +kernel
theorem dq_DS_goBack_29 : decode gc_DS_goBack 29 = .ok (.getfield 38, 3) := by decide +kernel
theorem dq_DS_goBack_32 : decode gc_DS_goBack 32 = .ok (.iload_n 1, 1) := by decide +kernel
theorem dq_DS_goBack_33 : decode gc_DS_goBack 33 = .ok (.aaload, 1) := by decide +kernel
theorem dq_DS_goBack_34 : decode gc_DS_goBack 34 = .ok (.invokevirtual 209, 3) := by decide +kernel
theorem dq_DS_goBack_37 : decode gc_DS_goBack 37 = .ok (.aload_n 0, 1) := by decide +kernel
theorem dq_DS_goBack_38 : decode gc_DS_goBack 38 = .ok (.getfield 60, 3) := by decide +kernel
theorem dq_DS_goBack_41 : decode gc_DS_goBack 41 = .ok (.invokevirtual 98, 3) := by decide +kernel
theorem dq_DS_goBack_44 : decode gc_DS_goBack 44 = .ok (.iconst 1, 1) := by decide +kernel
theorem dq_DS_goBack_45 : decode gc_DS_goBack 45 = .ok (.ireturn, 1) := by decide +kernel
abbrev gm_DS_goBack : gM := (gc_DS_goBack, gR_6, 2, 47, 2)
def f_DS_goBack (a1 : Int) (h : gH) : Option gO := gb (f_DS_isOutside a1 0 1 h) (fun h1 r2 => if r2 = 0 then (gd (gix 2 a1) (if (h1 68 a1.toNat) = 0 then (some (h1, (-1000000003))) else (gd (gix 2 a1) (gd (gcl (47 + 1 + 10 * a1.toNat) 4) (gb (f_Traffic_copyFrom 27 (47 + 1 + 10 * a1.toNat) h1) (fun h6 r7 => gb (f_Shuffle_forget  h6) (fun h8 r9 => some (h8, 1)))))))) else (some (h1, (-1000000001))))
theorem c_DS_goBack {Z : gZ} (hL : gLive Z) (hn : (zL Z).Nodup) {a1 : Int}  {h : gH} {o : gO} (hg : gRg h) (ha : gRl [.inr (.inr 0), .inl a1]) (hx : f_DS_goBack a1 h = some o) : gC Z gy_DS_goBack gc_DS_goBack 2 (some .int) 2 47 [.inr (.inr 0), .inl a1] h o := by
  unfold f_DS_goBack at hx
  refine gC_of (lv := [(0, .inr (.inr 0)), (1, .inl a1)]) (own := gR_6) (by decide +kernel) rfl (Nat.le_of_ble_eq_true rfl) rfl rfl hn hg ha hx (fun X hZ hF => ?_)
  subst hZ
  show gr _ o gm_DS_goBack X h 0 _ _
  refine gr_iload_n (M := gm_DS_goBack) dq_DS_goBack_0 rfl 1 rfl 1 rfl ?_
  refine gr_iconst (M := gm_DS_goBack) (v := 0) dq_DS_goBack_1 rfl ⟨by decide, by decide⟩ 2 rfl ?_
  refine gr_iconst (M := gm_DS_goBack) (v := 1) dq_DS_goBack_2 rfl ⟨by decide, by decide⟩ 3 rfl ?_
  refine gr_callSi (M := gm_DS_goBack) (as := [.inl a1, .inl 0, .inl 1]) dq_DS_goBack_3 6 rfl rfl gcy_DS_76 gst_DS_isOutside ⟨by decide, by decide⟩ (Nat.le_of_ble_eq_true rfl) (fun o1 hg ha hx => c_DS_isOutside hL hn  hg ha hx) (fun h1 r2 _ => ?_)
  refine gr_if_eq (M := gm_DS_goBack) dq_DS_goBack_6 12 9 rfl rfl (fun c3 => ?_) (fun c3 => ?_)
  · refine gr_aload_n (M := gm_DS_goBack) dq_DS_goBack_12 rfl 0 rfl 13 rfl ?_
    refine gr_geta (M := gm_DS_goBack) dq_DS_goBack_13 16 rfl gfl_DS_42 gsh_0 rfl (gli hL gsh_0) ?_
    refine gr_iload_n (M := gm_DS_goBack) dq_DS_goBack_16 rfl 1 rfl 17 rfl ?_
    refine gr_zald (M := gm_DS_goBack) dq_DS_goBack_17 18 rfl gsh_68 (glj hL gsh_68 (by decide)) ?_
    refine gr_if_ne (M := gm_DS_goBack) dq_DS_goBack_18 24 21 rfl rfl (fun c4 => ?_) (fun c4 => ?_)
    · refine gr_aload_n (M := gm_DS_goBack) dq_DS_goBack_24 rfl 0 rfl 25 rfl ?_
      refine gr_geta (M := gm_DS_goBack) dq_DS_goBack_25 28 rfl gfl_DS_31 gsh_0 rfl (gli hL gsh_0) ?_
      refine gr_aload_n (M := gm_DS_goBack) dq_DS_goBack_28 rfl 0 rfl 29 rfl ?_
      refine gr_geta (M := gm_DS_goBack) dq_DS_goBack_29 32 rfl gfl_DS_38 gsh_0 rfl (gli hL gsh_0) ?_
      refine gr_iload_n (M := gm_DS_goBack) dq_DS_goBack_32 rfl 1 rfl 33 rfl ?_
      refine gr_qald (M := gm_DS_goBack) dq_DS_goBack_33 34 rfl gsh_47 (glj hL gsh_47 (by decide)) ?_
      refine gr_gd (M := gm_DS_goBack) fun hc5 => ?_
      refine gr_callVv (M := gm_DS_goBack) (as := [.inr (.inr (47 + 1 + 10 * a1.toNat))]) dq_DS_goBack_34 37 rfl rfl gcy_DS_209 gim_Traffic_copyFrom gse_Traffic_copyFrom ⟨by decide, by decide⟩ (Nat.le_of_ble_eq_true rfl) gsh_27 rfl (gli hL gsh_27) (fun o1 hg ha hx => c_Traffic_copyFrom hL hn gsh_27 (gclE hc5) hg ha hx) (fun h6 r7 _ => ?_)
      refine gr_aload_n (M := gm_DS_goBack) dq_DS_goBack_37 rfl 0 rfl 38 rfl ?_
      refine gr_geta (M := gm_DS_goBack) dq_DS_goBack_38 41 rfl gfl_DS_60 gsh_0 rfl (gli hL gsh_0) ?_
      refine gr_callVv (M := gm_DS_goBack) (as := []) dq_DS_goBack_41 44 rfl rfl gcy_DS_98 gim_Shuffle_forget gse_Shuffle_forget ⟨by decide, by decide⟩ (Nat.le_of_ble_eq_true rfl) gsh_72 rfl (gli hL gsh_72) (fun o1 hg ha hx => c_Shuffle_forget hL hn  hg ha hx) (fun h8 r9 _ => ?_)
      refine gr_iconst (M := gm_DS_goBack) (v := 1) dq_DS_goBack_44 rfl ⟨by decide, by decide⟩ 45 rfl ?_
      exact gr_ireturn (M := gm_DS_goBack) dq_DS_goBack_45 hF
    refine gr_ldc (M := gm_DS_goBack) (v := (-1000000003)) dq_DS_goBack_21 gk_DS_208 ⟨by decide, by decide⟩ 23 rfl ?_
    exact gr_ireturn (M := gm_DS_goBack) dq_DS_goBack_23 hF
  refine gr_ldc (M := gm_DS_goBack) (v := (-1000000001)) dq_DS_goBack_9 gk_DS_130 ⟨by decide, by decide⟩ 11 rfl ?_
  exact gr_ireturn (M := gm_DS_goBack) dq_DS_goBack_11 hF

