-- Way_setOut
theorem dq_Way_setOut_0 : decode gc_Way_setOut 0 = .ok (.iconst 0, 1) := by decide +kernel
theorem dq_Way_setOut_1 : decode gc_Way_setOut 1 = .ok (.istore_n 3, 1) := by decide +kernel
theorem dq_Way_setOut_2 : decode gc_Way_setOut 2 = .ok (.iload_n 3, 1) := by decide +kernel
theorem dq_Way_setOut_3 : decode gc_Way_setOut 3 = .ok (.bipush 7, 2) := by decide +kernel
theorem dq_Way_setOut_5 : decode gc_Way_setOut 5 = .ok (.if_icmp .ge 17, 3) := by decide +kernel
theorem dq_Way_setOut_8 : decode gc_Way_setOut 8 = .ok (.aload_n 0, 1) := by decide +kernel
theorem dq_Way_setOut_9 : decode gc_Way_setOut 9 = .ok (.getfield 11, 3) := by decide +kernel
theorem dq_Way_setOut_12 : decode gc_Way_setOut 12 = .ok (.iload_n 3, 1) := by decide +kernel
theorem dq_Way_setOut_13 : decode gc_Way_setOut 13 = .ok (.ldc 24, 2) := by decide +kernel
theorem dq_Way_setOut_15 : decode gc_Way_setOut 15 = .ok (.iastore, 1) := by decide +kernel
theorem dq_Way_setOut_16 : decode gc_Way_setOut 16 = .ok (.iinc 3 1, 3) := by decide +kernel
theorem dq_Way_setOut_19 : decode gc_Way_setOut 19 = .ok (.goto (-17), 3) := by decide +kernel
theorem dq_Way_setOut_22 : decode gc_Way_setOut 22 = .ok (.aload_n 0, 1) := by decide +kernel
theorem dq_Way_setOut_23 : decode gc_Way_setOut 23 = .ok (.getfield 11, 3) := by decide +kernel
theorem dq_Way_setOut_26 : decode gc_Way_setOut 26 = .ok (.iload_n 1, 1) := by decide +kernel
theorem dq_Way_setOut_27 : decode gc_Way_setOut 27 = .ok (.iload_n 2, 1) := by decide +kernel
theorem dq_Way_setOut_28 : decode gc_Way_setOut 28 = .ok (.iastore, 1) := by decide +kernel
theorem dq_Way_setOut_29 : decode gc_Way_setOut 29 = .ok (.return_, 1) := by decide +kernel
abbrev gm_Way_setOut : gM := (gc_Way_setOut, gR_5, 0, 0, 4)
theorem gfl_Way_11 : gFl gR_5 11 5 0 := ⟨_, _, _, rfl, by decide, (gtab_at 211 (by decide +kernel) rfl), gin_5⟩
theorem gk_Way_24 : Cond.constant gR_5 24 (Int32.ofInt 1000000) ∈ gtbl := (gtab_at 601 (by decide +kernel) rfl)
def f_Way_setOut_L2 (v1 : Int) (v2 : Int) (k22 : gH → Option gO) : Nat → Int → gH → Option gO
  | 0, _, _ => none
  | n + 1, v3, h => if 7 ≤ v3 then (k22  h) else (gd (gix 7 v3) (gs (gup h 70 v3.toNat 1000000) (fun h2 => f_Way_setOut_L2 v1 v2 k22 n (gadd v3 1) h2)))
theorem w_Way_setOut_L2 {o : gO} {X : gX} (hL : gLive (xZ X)) (hn : (zL (xZ X)).Nodup) (hF : gFin X none o) {v1 : Int} {v2 : Int}   {k22 : gH → Option gO} (hk22 : ∀ (h : gH), gr (k22 h) o gm_Way_setOut X h 22 [(0, .inr (.inr 69)), (1, .inl v1), (2, .inl v2)] []) : ∀ (n : Nat) (v3 : Int) (h : gH), gr (f_Way_setOut_L2 v1 v2 k22 n v3 h) o gm_Way_setOut X h 2 [(0, .inr (.inr 69)), (1, .inl v1), (2, .inl v2), (3, .inl v3)] [] := by
  intro n
  induction n with
  | zero => intros; exact gr_none
  | succ n ih =>
    intro v3 h
    unfold f_Way_setOut_L2
    refine gr_iload_n (M := gm_Way_setOut) dq_Way_setOut_2 rfl 3 rfl 3 rfl ?_
    refine gr_bipush (M := gm_Way_setOut) (v := 7) dq_Way_setOut_3 (by decide) ⟨by decide, by decide⟩ 5 rfl ?_
    refine gr_icmp_ge (M := gm_Way_setOut) dq_Way_setOut_5 22 8 rfl rfl (fun c1 => ?_) (fun c1 => ?_)
    · refine gr_sub (M := gm_Way_setOut) (lv' := [(0, .inr (.inr 69)), (1, .inl v1), (2, .inl v2)]) [0, 1, 2] rfl ?_
      exact hk22  _
    refine gr_aload_n (M := gm_Way_setOut) dq_Way_setOut_8 rfl 0 rfl 9 rfl ?_
    refine gr_getr (M := gm_Way_setOut) dq_Way_setOut_9 12 rfl gfl_Way_11 gsh_69 rfl (gli hL gsh_69) 70 rfl ?_
    refine gr_iload_n (M := gm_Way_setOut) dq_Way_setOut_12 rfl 3 rfl 13 rfl ?_
    refine gr_ldc (M := gm_Way_setOut) (v := 1000000) dq_Way_setOut_13 gk_Way_24 ⟨by decide, by decide⟩ 15 rfl ?_
    refine gr_iast (M := gm_Way_setOut) dq_Way_setOut_15 16 rfl gsh_70 (glj hL gsh_70 (by decide)) (fun h2 _ => ?_)
    refine gr_iinc (M := gm_Way_setOut) (lv' := [(3, .inl (gadd v3 1)), (0, .inr (.inr 69)), (1, .inl v1), (2, .inl v2)]) dq_Way_setOut_16 3 rfl rfl (by decide) rfl 19 rfl ?_
    refine gr_goto (M := gm_Way_setOut) dq_Way_setOut_19 2 rfl ?_
    refine gr_sub (M := gm_Way_setOut) (lv' := [(0, .inr (.inr 69)), (1, .inl v1), (2, .inl v2), (3, .inl (gadd v3 1))]) [1, 2, 3, 0] rfl ?_
    exact ih _ _

def f_Way_setOut (a1 : Int) (a2 : Int) (h : gH) : Option gO := f_Way_setOut_L2 a1 a2 (fun  h3 => gd (gix 7 a1) (gs (gup h3 70 a1.toNat a2) (fun h4 => some (h4, 0)))) 50000 0 h
theorem c_Way_setOut {Z : gZ} (hL : gLive Z) (hn : (zL Z).Nodup) {a1 : Int} {a2 : Int}  {h : gH} {o : gO} (hg : gRg h) (ha : gRl [.inr (.inr 69), .inl a1, .inl a2]) (hx : f_Way_setOut a1 a2 h = some o) : gC Z gy_Way_setOut gc_Way_setOut 4 none 0 0 [.inr (.inr 69), .inl a1, .inl a2] h o := by
  unfold f_Way_setOut at hx
  refine gC_of (lv := [(0, .inr (.inr 69)), (1, .inl a1), (2, .inl a2)]) (own := gR_5) (by decide +kernel) rfl (Nat.le_of_ble_eq_true rfl) rfl rfl hn hg ha hx (fun X hZ hF => ?_)
  subst hZ
  show gr _ o gm_Way_setOut X h 0 _ _
  refine gr_iconst (M := gm_Way_setOut) (v := 0) dq_Way_setOut_0 rfl ⟨by decide, by decide⟩ 1 rfl ?_
  refine gr_istore_n (M := gm_Way_setOut) (lv' := [(3, .inl 0), (0, .inr (.inr 69)), (1, .inl a1), (2, .inl a2)]) dq_Way_setOut_1 rfl (by decide) rfl 2 rfl ?_
  refine gr_sub (M := gm_Way_setOut) (lv' := [(0, .inr (.inr 69)), (1, .inl a1), (2, .inl a2), (3, .inl 0)]) [1, 2, 3, 0] rfl ?_
  refine w_Way_setOut_L2 hL hn hF   (fun h3 => ?_) 50000 _ _
  refine gr_aload_n (M := gm_Way_setOut) dq_Way_setOut_22 rfl 0 rfl 23 rfl ?_
  refine gr_getr (M := gm_Way_setOut) dq_Way_setOut_23 26 rfl gfl_Way_11 gsh_69 rfl (gli hL gsh_69) 70 rfl ?_
  refine gr_iload_n (M := gm_Way_setOut) dq_Way_setOut_26 rfl 1 rfl 27 rfl ?_
  refine gr_iload_n (M := gm_Way_setOut) dq_Way_setOut_27 rfl 2 rfl 28 rfl ?_
  refine gr_iast (M := gm_Way_setOut) dq_Way_setOut_28 29 rfl gsh_70 (glj hL gsh_70 (by decide)) (fun h4 _ => ?_)
  exact gr_return (M := gm_Way_setOut) dq_Way_setOut_29 hF

-- Way_entry
theorem dq_Way_entry_0 : decode gc_Way_entry 0 = .ok (.aload_n 0, 1) := by decide +kernel
theorem dq_Way_entry_1 : decode gc_Way_entry 1 = .ok (.getfield 20, 3) := by decide +kernel
theorem dq_Way_entry_4 : decode gc_Way_entry 4 = .ok (.getfield 51, 3) := by decide +kernel
theorem dq_Way_entry_7 : decode gc_Way_entry 7 = .ok (.iload_n 1, 1) := by decide +kernel
theorem dq_Way_entry_8 : decode gc_Way_entry 8 = .ok (.iaload, 1) := by decide +kernel
theorem dq_Way_entry_9 : decode gc_Way_entry 9 = .ok (.iconst 4, 1) := by decide +kernel
theorem dq_Way_entry_10 : decode gc_Way_entry 10 = .ok (.if_icmp .ne 14, 3) := by decide +kernel
theorem dq_Way_entry_13 : decode gc_Way_entry 13 = .ok (.iload_n 2, 1) := by decide +kernel
theorem dq_Way_entry_14 : decode gc_Way_entry 14 = .ok (.ifCond .ne 7, 3) := by decide +kernel
theorem dq_Way_entry_17 : decode gc_Way_entry 17 = .ok (.iload_n 3, 1) := by decide +kernel
theorem dq_Way_entry_18 : decode gc_Way_entry 18 = .ok (.goto 5, 3) := by decide +kernel
theorem dq_Way_entry_21 : decode gc_Way_entry 21 = .ok (.ldc 24, 2) := by decide +kernel
theorem dq_Way_entry_23 : decode gc_Way_entry 23 = .ok (.ireturn, 1) := by decide +kernel
theorem dq_Way_entry_24 : decode gc_Way_entry 24 = .ok (.aload_n 0, 1) := by decide +kernel
theorem dq_Way_entry_25 : decode gc_Way_entry 25 = .ok (.getfield 20, 3) := by decide +kernel
theorem dq_Way_entry_28 : decode gc_Way_entry 28 = .ok (.getfield 51, 3) := by decide +kernel
theorem dq_Way_entry_31 : decode gc_Way_entry 31 = .ok (.iload_n 1, 1) := by decide +kernel
theorem dq_Way_entry_32 : decode gc_Way_entry 32 = .ok (.iaload, 1) := by decide +kernel
theorem dq_Way_entry_33 : decode gc_Way_entry 33 = .ok (.iconst 1, 1) := by decide +kernel
theorem dq_Way_entry_34 : decode gc_Way_entry 34 = .ok (.if_icmp .ne 58, 3) := by decide +kernel
theorem dq_Way_entry_37 : decode gc_Way_entry 37 = .ok (.aload_n 0, 1) := by decide +kernel
theorem dq_Way_entry_38 : decode gc_Way_entry 38 = .ok (.getfield 20, 3) := by decide +kernel
theorem dq_Way_entry_41 : decode gc_Way_entry 41 = .ok (.getfield 25, 3) := by decide +kernel
theorem dq_Way_entry_44 : decode gc_Way_entry 44 = .ok (.getfield 70, 3) := by decide +kernel
theorem dq_Way_entry_47 : decode gc_Way_entry 47 = .ok (.ifCond .le 45, 3) := by decide +kernel
theorem dq_Way_entry_50 : decode gc_Way_entry 50 = .ok (.iload_n 3, 1) := by decide +kernel
theorem dq_Way_entry_51 : decode gc_Way_entry 51 = .ok (.aload_n 0, 1) := by decide +kernel
theorem dq_Way_entry_52 : decode gc_Way_entry 52 = .ok (.getfield 20, 3) := by decide +kernel
theorem dq_Way_entry_55 : decode gc_Way_entry 55 = .ok (.getfield 25, 3) := by decide +kernel
theorem dq_Way_entry_58 : decode gc_Way_entry 58 = .ok (.getfield 70, 3) := by decide +kernel
theorem dq_Way_entry_61 : decode gc_Way_entry 61 = .ok (.idiv, 1) := by decide +kernel
theorem dq_Way_entry_62 : decode gc_Way_entry 62 = .ok (.istore 4, 2) := by decide +kernel
theorem dq_Way_entry_64 : decode gc_Way_entry 64 = .ok (.iload 4, 2) := by decide +kernel
theorem dq_Way_entry_66 : decode gc_Way_entry 66 = .ok (.iconst 2, 1) := by decide +kernel
theorem dq_Way_entry_67 : decode gc_Way_entry 67 = .ok (.irem, 1) := by decide +kernel
theorem dq_Way_entry_68 : decode gc_Way_entry 68 = .ok (.iload_n 2, 1) := by decide +kernel
theorem dq_Way_entry_69 : decode gc_Way_entry 69 = .ok (.if_icmp .ne 7, 3) := by decide +kernel
theorem dq_Way_entry_72 : decode gc_Way_entry 72 = .ok (.iload_n 3, 1) := by decide +kernel
theorem dq_Way_entry_73 : decode gc_Way_entry 73 = .ok (.goto 18, 3) := by decide +kernel
theorem dq_Way_entry_76 : decode gc_Way_entry 76 = .ok (.iload 4, 2) := by decide +kernel
theorem dq_Way_entry_78 : decode gc_Way_entry 78 = .ok (.iconst 1, 1) := by decide +kernel
theorem dq_Way_entry_79 : decode gc_Way_entry 79 = .ok (.iadd, 1) := by decide +kernel
theorem dq_Way_entry_80 : decode gc_Way_entry 80 = .ok (.aload_n 0, 1) := by decide +kernel
theorem dq_Way_entry_81 : decode gc_Way_entry 81 = .ok (.getfield 20, 3) := by decide +kernel
theorem dq_Way_entry_84 : decode gc_Way_entry 84 = .ok (.getfield 25, 3) := by decide +kernel
theorem dq_Way_entry_87 : decode gc_Way_entry 87 = .ok (.getfield 70, 3) := by decide +kernel
theorem dq_Way_entry_90 : decode gc_Way_entry 90 = .ok (.imul, 1) := by decide +kernel
theorem dq_Way_entry_91 : decode gc_Way_entry 91 = .ok (.ireturn, 1) := by decide +kernel
theorem dq_Way_entry_92 : decode gc_Way_entry 92 = .ok (.iload_n 3, 1) := by decide +kernel
theorem dq_Way_entry_93 : decode gc_Way_entry 93 = .ok (.ireturn, 1) := by decide +kernel
abbrev gm_Way_entry : gM := (gc_Way_entry, gR_5, 0, 0, 5)
theorem gfl_Way_20 : gFl gR_5 20 5 2 := ⟨_, _, _, rfl, by decide, (gtab_at 214 (by decide +kernel) rfl), gin_5⟩
theorem gfl_Way_51 : gFl gR_5 51 4 3 := ⟨_, _, _, rfl, by decide, (gtab_at 160 (by decide +kernel) rfl), gin_4⟩
theorem gfl_Way_25 : gFl gR_5 25 4 0 := ⟨_, _, _, rfl, by decide, (gtab_at 154 (by decide +kernel) rfl), gin_4⟩
theorem gfl_Way_70 : gFl gR_5 70 0 1 := ⟨_, _, _, rfl, by decide, (gtab_at 32 (by decide +kernel) rfl), gin_0⟩
def f_Way_entry (a1 : Int) (a2 : Int) (a3 : Int) (h : gH) : Option gO := gd (gix 9 a1) (if (h 28 a1.toNat) = 4 then (if a2 = 0 then (some (h, a3)) else (some (h, 1000000))) else (gd (gix 9 a1) (if (h 28 a1.toNat) = 1 then (gd (gcl ((h 27 0).toNat) 0) (if (h (h 27 0).toNat 1) ≤ 0 then (some (h, a3)) else (gd (gcl ((h 27 0).toNat) 0) (gd (gnz (h (h 27 0).toNat 1)) (gd (gnz 2) (if (grem (gdiv a3 (h (h 27 0).toNat 1)) 2) = a2 then (some (h, a3)) else (gd (gcl ((h 27 0).toNat) 0) (some (h, (gmul (gadd (gdiv a3 (h (h 27 0).toNat 1)) 1) (h (h 27 0).toNat 1))))))))))) else (some (h, a3)))))
theorem c_Way_entry {Z : gZ} (hL : gLive Z) (hn : (zL Z).Nodup) {a1 : Int} {a2 : Int} {a3 : Int}  {h : gH} {o : gO} (hg : gRg h) (ha : gRl [.inr (.inr 69), .inl a1, .inl a2, .inl a3]) (hx : f_Way_entry a1 a2 a3 h = some o) : gC Z gy_Way_entry gc_Way_entry 5 (some .int) 0 0 [.inr (.inr 69), .inl a1, .inl a2, .inl a3] h o := by
  unfold f_Way_entry at hx
  refine gC_of (lv := [(0, .inr (.inr 69)), (1, .inl a1), (2, .inl a2), (3, .inl a3)]) (own := gR_5) (by decide +kernel) rfl (Nat.le_of_ble_eq_true rfl) rfl rfl hn hg ha hx (fun X hZ hF => ?_)
  subst hZ
  show gr _ o gm_Way_entry X h 0 _ _
  refine gr_aload_n (M := gm_Way_entry) dq_Way_entry_0 rfl 0 rfl 1 rfl ?_
  refine gr_geta (M := gm_Way_entry) dq_Way_entry_1 4 rfl gfl_Way_20 gsh_69 rfl (gli hL gsh_69) ?_
  refine gr_getr (M := gm_Way_entry) dq_Way_entry_4 7 rfl gfl_Way_51 gsh_27 rfl (gli hL gsh_27) 28 rfl ?_
  refine gr_iload_n (M := gm_Way_entry) dq_Way_entry_7 rfl 1 rfl 8 rfl ?_
  refine gr_iald (M := gm_Way_entry) dq_Way_entry_8 9 rfl gsh_28 (glj hL gsh_28 (by decide)) ?_
  refine gr_iconst (M := gm_Way_entry) (v := 4) dq_Way_entry_9 rfl ⟨by decide, by decide⟩ 10 rfl ?_
  refine gr_icmp_ne (M := gm_Way_entry) dq_Way_entry_10 24 13 rfl rfl (fun c1 => ?_) (fun c1 => ?_)
  · refine gr_aload_n (M := gm_Way_entry) dq_Way_entry_24 rfl 0 rfl 25 rfl ?_
    refine gr_geta (M := gm_Way_entry) dq_Way_entry_25 28 rfl gfl_Way_20 gsh_69 rfl (gli hL gsh_69) ?_
    refine gr_getr (M := gm_Way_entry) dq_Way_entry_28 31 rfl gfl_Way_51 gsh_27 rfl (gli hL gsh_27) 28 rfl ?_
    refine gr_iload_n (M := gm_Way_entry) dq_Way_entry_31 rfl 1 rfl 32 rfl ?_
    refine gr_iald (M := gm_Way_entry) dq_Way_entry_32 33 rfl gsh_28 (glj hL gsh_28 (by decide)) ?_
    refine gr_iconst (M := gm_Way_entry) (v := 1) dq_Way_entry_33 rfl ⟨by decide, by decide⟩ 34 rfl ?_
    refine gr_icmp_ne (M := gm_Way_entry) dq_Way_entry_34 92 37 rfl rfl (fun c2 => ?_) (fun c2 => ?_)
    · refine gr_iload_n (M := gm_Way_entry) dq_Way_entry_92 rfl 3 rfl 93 rfl ?_
      exact gr_ireturn (M := gm_Way_entry) dq_Way_entry_93 hF
    refine gr_aload_n (M := gm_Way_entry) dq_Way_entry_37 rfl 0 rfl 38 rfl ?_
    refine gr_geta (M := gm_Way_entry) dq_Way_entry_38 41 rfl gfl_Way_20 gsh_69 rfl (gli hL gsh_69) ?_
    refine gr_getd (M := gm_Way_entry) dq_Way_entry_41 44 rfl gfl_Way_25 gsh_27 rfl (gli hL gsh_27) (fun hc3 => ?_)
    refine gr_geti (M := gm_Way_entry) dq_Way_entry_44 47 rfl gfl_Way_70 (gclE hc3) rfl (gli hL (gclE hc3)) ?_
    refine gr_if_le (M := gm_Way_entry) dq_Way_entry_47 92 50 rfl rfl (fun c4 => ?_) (fun c4 => ?_)
    · refine gr_iload_n (M := gm_Way_entry) dq_Way_entry_92 rfl 3 rfl 93 rfl ?_
      exact gr_ireturn (M := gm_Way_entry) dq_Way_entry_93 hF
    refine gr_iload_n (M := gm_Way_entry) dq_Way_entry_50 rfl 3 rfl 51 rfl ?_
    refine gr_aload_n (M := gm_Way_entry) dq_Way_entry_51 rfl 0 rfl 52 rfl ?_
    refine gr_geta (M := gm_Way_entry) dq_Way_entry_52 55 rfl gfl_Way_20 gsh_69 rfl (gli hL gsh_69) ?_
    refine gr_getd (M := gm_Way_entry) dq_Way_entry_55 58 rfl gfl_Way_25 gsh_27 rfl (gli hL gsh_27) (fun hc5 => ?_)
    refine gr_geti (M := gm_Way_entry) dq_Way_entry_58 61 rfl gfl_Way_70 (gclE hc5) rfl (gli hL (gclE hc5)) ?_
    refine gr_idiv (M := gm_Way_entry) dq_Way_entry_61 62 rfl ?_
    refine gr_istore (M := gm_Way_entry) (kk := 0) (lv' := [(4, .inl (gdiv a3 (h (h 27 0).toNat 1))), (0, .inr (.inr 69)), (1, .inl a1), (2, .inl a2), (3, .inl a3)]) dq_Way_entry_62 (by decide) rfl 64 rfl ?_
    refine gr_iload (M := gm_Way_entry) dq_Way_entry_64 0 rfl 66 rfl ?_
    refine gr_iconst (M := gm_Way_entry) (v := 2) dq_Way_entry_66 rfl ⟨by decide, by decide⟩ 67 rfl ?_
    refine gr_irem (M := gm_Way_entry) dq_Way_entry_67 68 rfl ?_
    refine gr_iload_n (M := gm_Way_entry) dq_Way_entry_68 rfl 3 rfl 69 rfl ?_
    refine gr_icmp_ne (M := gm_Way_entry) dq_Way_entry_69 76 72 rfl rfl (fun c6 => ?_) (fun c6 => ?_)
    · refine gr_iload (M := gm_Way_entry) dq_Way_entry_76 0 rfl 78 rfl ?_
      refine gr_iconst (M := gm_Way_entry) (v := 1) dq_Way_entry_78 rfl ⟨by decide, by decide⟩ 79 rfl ?_
      refine gr_iadd (M := gm_Way_entry) dq_Way_entry_79 80 rfl ?_
      refine gr_aload_n (M := gm_Way_entry) dq_Way_entry_80 rfl 1 rfl 81 rfl ?_
      refine gr_geta (M := gm_Way_entry) dq_Way_entry_81 84 rfl gfl_Way_20 gsh_69 rfl (gli hL gsh_69) ?_
      refine gr_getd (M := gm_Way_entry) dq_Way_entry_84 87 rfl gfl_Way_25 gsh_27 rfl (gli hL gsh_27) (fun hc7 => ?_)
      refine gr_geti (M := gm_Way_entry) dq_Way_entry_87 90 rfl gfl_Way_70 (gclE hc7) rfl (gli hL (gclE hc7)) ?_
      refine gr_imul (M := gm_Way_entry) dq_Way_entry_90 91 rfl ?_
      exact gr_ireturn (M := gm_Way_entry) dq_Way_entry_91 hF
    refine gr_iload_n (M := gm_Way_entry) dq_Way_entry_72 rfl 4 rfl 73 rfl ?_
    refine gr_goto (M := gm_Way_entry) dq_Way_entry_73 91 rfl ?_
    exact gr_ireturn (M := gm_Way_entry) dq_Way_entry_91 hF
  refine gr_iload_n (M := gm_Way_entry) dq_Way_entry_13 rfl 2 rfl 14 rfl ?_
  refine gr_if_ne (M := gm_Way_entry) dq_Way_entry_14 21 17 rfl rfl (fun c8 => ?_) (fun c8 => ?_)
  · refine gr_ldc (M := gm_Way_entry) (v := 1000000) dq_Way_entry_21 gk_Way_24 ⟨by decide, by decide⟩ 23 rfl ?_
    exact gr_ireturn (M := gm_Way_entry) dq_Way_entry_23 hF
  refine gr_iload_n (M := gm_Way_entry) dq_Way_entry_17 rfl 3 rfl 18 rfl ?_
  refine gr_goto (M := gm_Way_entry) dq_Way_entry_18 23 rfl ?_
  exact gr_ireturn (M := gm_Way_entry) dq_Way_entry_23 hF

-- Way_reach
theorem dq_Way_reach_0 : decode gc_Way_reach 0 = .ok (.iload_n 2, 1) := by decide +kernel
theorem dq_Way_reach_1 : decode gc_Way_reach 1 = .ok (.aload_n 0, 1) := by decide +kernel
theorem dq_Way_reach_2 : decode gc_Way_reach 2 = .ok (.getfield 11, 3) := by decide +kernel
theorem dq_Way_reach_5 : decode gc_Way_reach 5 = .ok (.iload_n 1, 1) := by decide +kernel
theorem dq_Way_reach_6 : decode gc_Way_reach 6 = .ok (.iaload, 1) := by decide +kernel
theorem dq_Way_reach_7 : decode gc_Way_reach 7 = .ok (.if_icmp .ge 9, 3) := by decide +kernel
theorem dq_Way_reach_10 : decode gc_Way_reach 10 = .ok (.iload_n 2, 1) := by decide +kernel
theorem dq_Way_reach_11 : decode gc_Way_reach 11 = .ok (.ldc 24, 2) := by decide +kernel
theorem dq_Way_reach_13 : decode gc_Way_reach 13 = .ok (.if_icmp .lt 5, 3) := by decide +kernel
theorem dq_Way_reach_16 : decode gc_Way_reach 16 = .ok (.iconst 0, 1) := by decide +kernel
theorem dq_Way_reach_17 : decode gc_Way_reach 17 = .ok (.ireturn, 1) := by decide +kernel
theorem dq_Way_reach_18 : decode gc_Way_reach 18 = .ok (.aload_n 0, 1) := by decide +kernel
theorem dq_Way_reach_19 : decode gc_Way_reach 19 = .ok (.getfield 11, 3) := by decide +kernel
theorem dq_Way_reach_22 : decode gc_Way_reach 22 = .ok (.iload_n 1, 1) := by decide +kernel
theorem dq_Way_reach_23 : decode gc_Way_reach 23 = .ok (.iload_n 2, 1) := by decide +kernel
theorem dq_Way_reach_24 : decode gc_Way_reach 24 = .ok (.iastore, 1) := by decide +kernel
theorem dq_Way_reach_25 : decode gc_Way_reach 25 = .ok (.iconst 1, 1) := by decide +kernel
theorem dq_Way_reach_26 : decode gc_Way_reach 26 = .ok (.ireturn, 1) := by decide +kernel
abbrev gm_Way_reach : gM := (gc_Way_reach, gR_5, 0, 0, 3)
def f_Way_reach (a1 : Int) (a2 : Int) (h : gH) : Option gO := gd (gix 7 a1) (if (h 70 a1.toNat) ≤ a2 then (gd (gz 0) (some (h, 0))) else (if a2 < 1000000 then (gd (gix 7 a1) (gs (gup h 70 a1.toNat a2) (fun h3 => gd (gz 1) (some (h3, 1))))) else (gd (gz 0) (some (h, 0)))))
theorem c_Way_reach {Z : gZ} (hL : gLive Z) (hn : (zL Z).Nodup) {a1 : Int} {a2 : Int}  {h : gH} {o : gO} (hg : gRg h) (ha : gRl [.inr (.inr 69), .inl a1, .inl a2]) (hx : f_Way_reach a1 a2 h = some o) : gC Z gy_Way_reach gc_Way_reach 3 (some .boolean) 0 0 [.inr (.inr 69), .inl a1, .inl a2] h o := by
  unfold f_Way_reach at hx
  refine gC_of (lv := [(0, .inr (.inr 69)), (1, .inl a1), (2, .inl a2)]) (own := gR_5) (by decide +kernel) rfl (Nat.le_of_ble_eq_true rfl) rfl rfl hn hg ha hx (fun X hZ hF => ?_)
  subst hZ
  show gr _ o gm_Way_reach X h 0 _ _
  refine gr_iload_n (M := gm_Way_reach) dq_Way_reach_0 rfl 2 rfl 1 rfl ?_
  refine gr_aload_n (M := gm_Way_reach) dq_Way_reach_1 rfl 0 rfl 2 rfl ?_
  refine gr_getr (M := gm_Way_reach) dq_Way_reach_2 5 rfl gfl_Way_11 gsh_69 rfl (gli hL gsh_69) 70 rfl ?_
  refine gr_iload_n (M := gm_Way_reach) dq_Way_reach_5 rfl 1 rfl 6 rfl ?_
  refine gr_iald (M := gm_Way_reach) dq_Way_reach_6 7 rfl gsh_70 (glj hL gsh_70 (by decide)) ?_
  refine gr_icmp_ge (M := gm_Way_reach) dq_Way_reach_7 16 10 rfl rfl (fun c1 => ?_) (fun c1 => ?_)
  · refine gr_iconst (M := gm_Way_reach) (v := 0) dq_Way_reach_16 rfl ⟨by decide, by decide⟩ 17 rfl ?_
    exact gr_zreturn (M := gm_Way_reach) dq_Way_reach_17 hF
  refine gr_iload_n (M := gm_Way_reach) dq_Way_reach_10 rfl 2 rfl 11 rfl ?_
  refine gr_ldc (M := gm_Way_reach) (v := 1000000) dq_Way_reach_11 gk_Way_24 ⟨by decide, by decide⟩ 13 rfl ?_
  refine gr_icmp_lt (M := gm_Way_reach) dq_Way_reach_13 18 16 rfl rfl (fun c2 => ?_) (fun c2 => ?_)
  · refine gr_aload_n (M := gm_Way_reach) dq_Way_reach_18 rfl 0 rfl 19 rfl ?_
    refine gr_getr (M := gm_Way_reach) dq_Way_reach_19 22 rfl gfl_Way_11 gsh_69 rfl (gli hL gsh_69) 70 rfl ?_
    refine gr_iload_n (M := gm_Way_reach) dq_Way_reach_22 rfl 1 rfl 23 rfl ?_
    refine gr_iload_n (M := gm_Way_reach) dq_Way_reach_23 rfl 2 rfl 24 rfl ?_
    refine gr_iast (M := gm_Way_reach) dq_Way_reach_24 25 rfl gsh_70 (glj hL gsh_70 (by decide)) (fun h3 _ => ?_)
    refine gr_iconst (M := gm_Way_reach) (v := 1) dq_Way_reach_25 rfl ⟨by decide, by decide⟩ 26 rfl ?_
    exact gr_zreturn (M := gm_Way_reach) dq_Way_reach_26 hF
  refine gr_iconst (M := gm_Way_reach) (v := 0) dq_Way_reach_16 rfl ⟨by decide, by decide⟩ 17 rfl ?_
  exact gr_zreturn (M := gm_Way_reach) dq_Way_reach_17 hF

-- Way_goBy
theorem dq_Way_goBy_0 : decode gc_Way_goBy 0 = .ok (.iload_n 2, 1) := by decide +kernel
theorem dq_Way_goBy_1 : decode gc_Way_goBy 1 = .ok (.ifCond .ne 18, 3) := by decide +kernel
theorem dq_Way_goBy_4 : decode gc_Way_goBy 4 = .ok (.aload_n 0, 1) := by decide +kernel
theorem dq_Way_goBy_5 : decode gc_Way_goBy 5 = .ok (.getfield 20, 3) := by decide +kernel
theorem dq_Way_goBy_8 : decode gc_Way_goBy 8 = .ok (.getfield 25, 3) := by decide +kernel
theorem dq_Way_goBy_11 : decode gc_Way_goBy 11 = .ok (.getfield 57, 3) := by decide +kernel
theorem dq_Way_goBy_14 : decode gc_Way_goBy 14 = .ok (.iload_n 1, 1) := by decide +kernel
theorem dq_Way_goBy_15 : decode gc_Way_goBy 15 = .ok (.iaload, 1) := by decide +kernel
theorem dq_Way_goBy_16 : decode gc_Way_goBy 16 = .ok (.goto 15, 3) := by decide +kernel
theorem dq_Way_goBy_19 : decode gc_Way_goBy 19 = .ok (.aload_n 0, 1) := by decide +kernel
theorem dq_Way_goBy_20 : decode gc_Way_goBy 20 = .ok (.getfield 20, 3) := by decide +kernel
theorem dq_Way_goBy_23 : decode gc_Way_goBy 23 = .ok (.getfield 25, 3) := by decide +kernel
theorem dq_Way_goBy_26 : decode gc_Way_goBy 26 = .ok (.getfield 54, 3) := by decide +kernel
theorem dq_Way_goBy_29 : decode gc_Way_goBy 29 = .ok (.iload_n 1, 1) := by decide +kernel
theorem dq_Way_goBy_30 : decode gc_Way_goBy 30 = .ok (.iaload, 1) := by decide +kernel
theorem dq_Way_goBy_31 : decode gc_Way_goBy 31 = .ok (.istore_n 3, 1) := by decide +kernel
theorem dq_Way_goBy_32 : decode gc_Way_goBy 32 = .ok (.iload_n 2, 1) := by decide +kernel
theorem dq_Way_goBy_33 : decode gc_Way_goBy 33 = .ok (.ifCond .ne 18, 3) := by decide +kernel
theorem dq_Way_goBy_36 : decode gc_Way_goBy 36 = .ok (.aload_n 0, 1) := by decide +kernel
theorem dq_Way_goBy_37 : decode gc_Way_goBy 37 = .ok (.getfield 20, 3) := by decide +kernel
theorem dq_Way_goBy_40 : decode gc_Way_goBy 40 = .ok (.getfield 25, 3) := by decide +kernel
theorem dq_Way_goBy_43 : decode gc_Way_goBy 43 = .ok (.getfield 54, 3) := by decide +kernel
theorem dq_Way_goBy_46 : decode gc_Way_goBy 46 = .ok (.iload_n 1, 1) := by decide +kernel
theorem dq_Way_goBy_47 : decode gc_Way_goBy 47 = .ok (.iaload, 1) := by decide +kernel
theorem dq_Way_goBy_48 : decode gc_Way_goBy 48 = .ok (.goto 15, 3) := by decide +kernel
theorem dq_Way_goBy_51 : decode gc_Way_goBy 51 = .ok (.aload_n 0, 1) := by decide +kernel
theorem dq_Way_goBy_52 : decode gc_Way_goBy 52 = .ok (.getfield 20, 3) := by decide +kernel
theorem dq_Way_goBy_55 : decode gc_Way_goBy 55 = .ok (.getfield 25, 3) := by decide +kernel
theorem dq_Way_goBy_58 : decode gc_Way_goBy 58 = .ok (.getfield 57, 3) := by decide +kernel
theorem dq_Way_goBy_61 : decode gc_Way_goBy 61 = .ok (.iload_n 1, 1) := by decide +kernel
theorem dq_Way_goBy_62 : decode gc_Way_goBy 62 = .ok (.iaload, 1) := by decide +kernel
theorem dq_Way_goBy_63 : decode gc_Way_goBy 63 = .ok (.istore 4, 2) := by decide +kernel
theorem dq_Way_goBy_65 : decode gc_Way_goBy 65 = .ok (.aload_n 0, 1) := by decide +kernel
theorem dq_Way_goBy_66 : decode gc_Way_goBy 66 = .ok (.getfield 11, 3) := by decide +kernel
theorem dq_Way_goBy_69 : decode gc_Way_goBy 69 = .ok (.iload_n 3, 1) := by decide +kernel
theorem dq_Way_goBy_70 : decode gc_Way_goBy 70 = .ok (.iaload, 1) := by decide +kernel
theorem dq_Way_goBy_71 : decode gc_Way_goBy 71 = .ok (.ldc 24, 2) := by decide +kernel
theorem dq_Way_goBy_73 : decode gc_Way_goBy 73 = .ok (.if_icmp .lt 5, 3) := by decide +kernel
theorem dq_Way_goBy_76 : decode gc_Way_goBy 76 = .ok (.iconst 0, 1) := by decide +kernel
theorem dq_Way_goBy_77 : decode gc_Way_goBy 77 = .ok (.ireturn, 1) := by decide +kernel
theorem dq_Way_goBy_78 : decode gc_Way_goBy 78 = .ok (.aload_n 0, 1) := by decide +kernel
theorem dq_Way_goBy_79 : decode gc_Way_goBy 79 = .ok (.iload 4, 2) := by decide +kernel
theorem dq_Way_goBy_81 : decode gc_Way_goBy 81 = .ok (.aload_n 0, 1) := by decide +kernel
theorem dq_Way_goBy_82 : decode gc_Way_goBy 82 = .ok (.iload_n 1, 1) := by decide +kernel
theorem dq_Way_goBy_83 : decode gc_Way_goBy 83 = .ok (.iload_n 2, 1) := by decide +kernel
theorem dq_Way_goBy_84 : decode gc_Way_goBy 84 = .ok (.aload_n 0, 1) := by decide +kernel
theorem dq_Way_goBy_85 : decode gc_Way_goBy 85 = .ok (.getfield 11, 3) := by decide +kernel
theorem dq_Way_goBy_88 : decode gc_Way_goBy 88 = .ok (.iload_n 3, 1) := by decide +kernel
theorem dq_Way_goBy_89 : decode gc_Way_goBy 89 = .ok (.iaload, 1) := by decide +kernel
theorem dq_Way_goBy_90 : decode gc_Way_goBy 90 = .ok (.invokevirtual 66, 3) := by decide +kernel
theorem dq_Way_goBy_93 : decode gc_Way_goBy 93 = .ok (.aload_n 0, 1) := by decide +kernel
theorem dq_Way_goBy_94 : decode gc_Way_goBy 94 = .ok (.getfield 20, 3) := by decide +kernel
theorem dq_Way_goBy_97 : decode gc_Way_goBy 97 = .ok (.getfield 25, 3) := by decide +kernel
theorem dq_Way_goBy_100 : decode gc_Way_goBy 100 = .ok (.getfield 60, 3) := by decide +kernel
theorem dq_Way_goBy_103 : decode gc_Way_goBy 103 = .ok (.iload_n 1, 1) := by decide +kernel
theorem dq_Way_goBy_104 : decode gc_Way_goBy 104 = .ok (.iaload, 1) := by decide +kernel
theorem dq_Way_goBy_105 : decode gc_Way_goBy 105 = .ok (.iadd, 1) := by decide +kernel
theorem dq_Way_goBy_106 : decode gc_Way_goBy 106 = .ok (.invokevirtual 63, 3) := by decide +kernel
theorem dq_Way_goBy_109 : decode gc_Way_goBy 109 = .ok (.ireturn, 1) := by decide +kernel
abbrev gm_Way_goBy : gM := (gc_Way_goBy, gR_5, 1, 24, 5)
theorem gfl_Way_54 : gFl gR_5 54 0 5 := ⟨_, _, _, rfl, by decide, (gtab_at 50 (by decide +kernel) rfl), gin_0⟩
theorem gfl_Way_57 : gFl gR_5 57 0 4 := ⟨_, _, _, rfl, by decide, (gtab_at 45 (by decide +kernel) rfl), gin_0⟩
set_option maxRecDepth 20000 in
theorem gcy_Way_66 : gCy gR_5 66 gy_Way_entry gc_Way_entry 5 (some .int) 3 := ⟨(gtab_at 610 (by decide +kernel) rfl), (gtab_at 5 (by decide +kernel) rfl), (gtab_at 613 rfl rfl), by decide, by decide, by decide +kernel⟩
theorem gim_Way_entry : Cond.instanceMethod gy_Way_entry ∈ gtbl := (gtab_at 612 (by decide +kernel) rfl)
theorem gse_Way_entry : Cond.selects gy_Way_entry.cls gy_Way_entry gy_Way_entry ∈ gtbl := (by decide +kernel)
theorem gfl_Way_60 : gFl gR_5 60 0 6 := ⟨_, _, _, rfl, by decide, (gtab_at 55 (by decide +kernel) rfl), gin_0⟩
set_option maxRecDepth 20000 in
theorem gcy_Way_63 : gCy gR_5 63 gy_Way_reach gc_Way_reach 3 (some .boolean) 2 := ⟨(gtab_at 614 (by decide +kernel) rfl), (gtab_at 5 (by decide +kernel) rfl), (gtab_at 617 rfl rfl), by decide, by decide, by decide +kernel⟩
theorem gim_Way_reach : Cond.instanceMethod gy_Way_reach ∈ gtbl := (gtab_at 616 (by decide +kernel) rfl)
theorem gse_Way_reach : Cond.selects gy_Way_reach.cls gy_Way_reach gy_Way_reach ∈ gtbl := (by decide +kernel)
def f_Way_goBy_J63   (v1 : Int) (v2 : Int) (v3 : Int) (s0 : Int) (h : gH) : Option gO := gd (gix 7 v3) (if (h 70 v3.toNat) < 1000000 then (gd (gix 7 v3) (gb (f_Way_entry v1 v2 (h 70 v3.toNat) h) (fun h6 r7 => gd (gcl ((h6 27 0).toNat) 0) (gd (gix 9 v1) (gb (f_Way_reach s0 (gadd r7 (h6 ((h6 27 0).toNat + 3) v1.toNat)) h6) (fun h9 r10 => gd (gz r10) (some (h9, r10)))))))) else (gd (gz 0) (some (h, 0))))
theorem w_Way_goBy_J63 {o : gO} {X : gX} (hL : gLive (xZ X)) (hn : (zL (xZ X)).Nodup) (hF : gFin X (some .boolean) o)     {v1 : Int} {v2 : Int} {v3 : Int} {s0 : Int} {h : gH}  : gr (f_Way_goBy_J63   v1 v2 v3 s0 h) o gm_Way_goBy X h 63 [(0, .inr (.inr 69)), (1, .inl v1), (2, .inl v2), (3, .inl v3)] [.inl s0] := by
  unfold f_Way_goBy_J63
  refine gr_istore (M := gm_Way_goBy) (kk := 0) (lv' := [(4, .inl s0), (0, .inr (.inr 69)), (1, .inl v1), (2, .inl v2), (3, .inl v3)]) dq_Way_goBy_63 (by decide) rfl 65 rfl ?_
  refine gr_aload_n (M := gm_Way_goBy) dq_Way_goBy_65 rfl 1 rfl 66 rfl ?_
  refine gr_getr (M := gm_Way_goBy) dq_Way_goBy_66 69 rfl gfl_Way_11 gsh_69 rfl (gli hL gsh_69) 70 rfl ?_
  refine gr_iload_n (M := gm_Way_goBy) dq_Way_goBy_69 rfl 4 rfl 70 rfl ?_
  refine gr_iald (M := gm_Way_goBy) dq_Way_goBy_70 71 rfl gsh_70 (glj hL gsh_70 (by decide)) ?_
  refine gr_ldc (M := gm_Way_goBy) (v := 1000000) dq_Way_goBy_71 gk_Way_24 ⟨by decide, by decide⟩ 73 rfl ?_
  refine gr_icmp_lt (M := gm_Way_goBy) dq_Way_goBy_73 78 76 rfl rfl (fun c5 => ?_) (fun c5 => ?_)
  · refine gr_aload_n (M := gm_Way_goBy) dq_Way_goBy_78 rfl 1 rfl 79 rfl ?_
    refine gr_iload (M := gm_Way_goBy) dq_Way_goBy_79 0 rfl 81 rfl ?_
    refine gr_aload_n (M := gm_Way_goBy) dq_Way_goBy_81 rfl 1 rfl 82 rfl ?_
    refine gr_iload_n (M := gm_Way_goBy) dq_Way_goBy_82 rfl 2 rfl 83 rfl ?_
    refine gr_iload_n (M := gm_Way_goBy) dq_Way_goBy_83 rfl 3 rfl 84 rfl ?_
    refine gr_aload_n (M := gm_Way_goBy) dq_Way_goBy_84 rfl 1 rfl 85 rfl ?_
    refine gr_getr (M := gm_Way_goBy) dq_Way_goBy_85 88 rfl gfl_Way_11 gsh_69 rfl (gli hL gsh_69) 70 rfl ?_
    refine gr_iload_n (M := gm_Way_goBy) dq_Way_goBy_88 rfl 4 rfl 89 rfl ?_
    refine gr_iald (M := gm_Way_goBy) dq_Way_goBy_89 90 rfl gsh_70 (glj hL gsh_70 (by decide)) ?_
    refine gr_callVi (M := gm_Way_goBy) (as := [.inl v1, .inl v2, .inl (h 70 v3.toNat)]) dq_Way_goBy_90 93 rfl rfl gcy_Way_66 gim_Way_entry gse_Way_entry ⟨by decide, by decide⟩ (Nat.le_of_ble_eq_true rfl) gsh_69 rfl (gli hL gsh_69) (fun o1 hg ha hx => c_Way_entry hL hn  hg ha hx) (fun h6 r7 _ => ?_)
    refine gr_aload_n (M := gm_Way_goBy) dq_Way_goBy_93 rfl 1 rfl 94 rfl ?_
    refine gr_geta (M := gm_Way_goBy) dq_Way_goBy_94 97 rfl gfl_Way_20 gsh_69 rfl (gli hL gsh_69) ?_
    refine gr_getd (M := gm_Way_goBy) dq_Way_goBy_97 100 rfl gfl_Way_25 gsh_27 rfl (gli hL gsh_27) (fun hc8 => ?_)
    refine gr_getr (M := gm_Way_goBy) dq_Way_goBy_100 103 rfl gfl_Way_60 (gclE hc8) rfl (gli hL (gclE hc8)) ((h6 27 0).toNat + 3) rfl ?_
    refine gr_iload_n (M := gm_Way_goBy) dq_Way_goBy_103 rfl 2 rfl 104 rfl ?_
    refine gr_iald (M := gm_Way_goBy) dq_Way_goBy_104 105 rfl (gsC_3 (gclE hc8)) (glj hL (gsC_3 (gclE hc8)) (by decide)) ?_
    refine gr_iadd (M := gm_Way_goBy) dq_Way_goBy_105 106 rfl ?_
    refine gr_callVi (M := gm_Way_goBy) (as := [.inl s0, .inl (gadd r7 (h6 ((h6 27 0).toNat + 3) v1.toNat))]) dq_Way_goBy_106 109 rfl rfl gcy_Way_63 gim_Way_reach gse_Way_reach ⟨by decide, by decide⟩ (Nat.le_of_ble_eq_true rfl) gsh_69 rfl (gli hL gsh_69) (fun o1 hg ha hx => c_Way_reach hL hn  hg ha hx) (fun h9 r10 _ => ?_)
    exact gr_zreturn (M := gm_Way_goBy) dq_Way_goBy_109 hF
  refine gr_iconst (M := gm_Way_goBy) (v := 0) dq_Way_goBy_76 rfl ⟨by decide, by decide⟩ 77 rfl ?_
  exact gr_zreturn (M := gm_Way_goBy) dq_Way_goBy_77 hF

def f_Way_goBy_J31   (v1 : Int) (v2 : Int) (s0 : Int) (h : gH) : Option gO := if v2 = 0 then (gd (gcl ((h 27 0).toNat) 0) (gd (gix 9 v1) (f_Way_goBy_J63   v1 v2 s0 (h ((h 27 0).toNat + 2) v1.toNat) h))) else (gd (gcl ((h 27 0).toNat) 0) (gd (gix 9 v1) (f_Way_goBy_J63   v1 v2 s0 (h ((h 27 0).toNat + 1) v1.toNat) h)))
theorem w_Way_goBy_J31 {o : gO} {X : gX} (hL : gLive (xZ X)) (hn : (zL (xZ X)).Nodup) (hF : gFin X (some .boolean) o)     {v1 : Int} {v2 : Int} {s0 : Int} {h : gH}  : gr (f_Way_goBy_J31   v1 v2 s0 h) o gm_Way_goBy X h 31 [(0, .inr (.inr 69)), (1, .inl v1), (2, .inl v2)] [.inl s0] := by
  unfold f_Way_goBy_J31
  refine gr_istore_n (M := gm_Way_goBy) (lv' := [(3, .inl s0), (0, .inr (.inr 69)), (1, .inl v1), (2, .inl v2)]) dq_Way_goBy_31 rfl (by decide) rfl 32 rfl ?_
  refine gr_iload_n (M := gm_Way_goBy) dq_Way_goBy_32 rfl 3 rfl 33 rfl ?_
  refine gr_if_ne (M := gm_Way_goBy) dq_Way_goBy_33 51 36 rfl rfl (fun c3 => ?_) (fun c3 => ?_)
  · refine gr_aload_n (M := gm_Way_goBy) dq_Way_goBy_51 rfl 1 rfl 52 rfl ?_
    refine gr_geta (M := gm_Way_goBy) dq_Way_goBy_52 55 rfl gfl_Way_20 gsh_69 rfl (gli hL gsh_69) ?_
    refine gr_getd (M := gm_Way_goBy) dq_Way_goBy_55 58 rfl gfl_Way_25 gsh_27 rfl (gli hL gsh_27) (fun hc4 => ?_)
    refine gr_getr (M := gm_Way_goBy) dq_Way_goBy_58 61 rfl gfl_Way_57 (gclE hc4) rfl (gli hL (gclE hc4)) ((h 27 0).toNat + 1) rfl ?_
    refine gr_iload_n (M := gm_Way_goBy) dq_Way_goBy_61 rfl 2 rfl 62 rfl ?_
    refine gr_iald (M := gm_Way_goBy) dq_Way_goBy_62 63 rfl (gsC_1 (gclE hc4)) (glj hL (gsC_1 (gclE hc4)) (by decide)) ?_
    refine gr_sub (M := gm_Way_goBy) (lv' := [(0, .inr (.inr 69)), (1, .inl v1), (2, .inl v2), (3, .inl s0)]) [1, 2, 3, 0] rfl ?_
    exact w_Way_goBy_J63 hL hn hF   
  refine gr_aload_n (M := gm_Way_goBy) dq_Way_goBy_36 rfl 1 rfl 37 rfl ?_
  refine gr_geta (M := gm_Way_goBy) dq_Way_goBy_37 40 rfl gfl_Way_20 gsh_69 rfl (gli hL gsh_69) ?_
  refine gr_getd (M := gm_Way_goBy) dq_Way_goBy_40 43 rfl gfl_Way_25 gsh_27 rfl (gli hL gsh_27) (fun hc11 => ?_)
  refine gr_getr (M := gm_Way_goBy) dq_Way_goBy_43 46 rfl gfl_Way_54 (gclE hc11) rfl (gli hL (gclE hc11)) ((h 27 0).toNat + 2) rfl ?_
  refine gr_iload_n (M := gm_Way_goBy) dq_Way_goBy_46 rfl 2 rfl 47 rfl ?_
  refine gr_iald (M := gm_Way_goBy) dq_Way_goBy_47 48 rfl (gsC_2 (gclE hc11)) (glj hL (gsC_2 (gclE hc11)) (by decide)) ?_
  refine gr_goto (M := gm_Way_goBy) dq_Way_goBy_48 63 rfl ?_
  refine gr_sub (M := gm_Way_goBy) (lv' := [(0, .inr (.inr 69)), (1, .inl v1), (2, .inl v2), (3, .inl s0)]) [1, 2, 3, 0] rfl ?_
  exact w_Way_goBy_J63 hL hn hF   

def f_Way_goBy (a1 : Int) (a2 : Int) (h : gH) : Option gO := if a2 = 0 then (gd (gcl ((h 27 0).toNat) 0) (gd (gix 9 a1) (f_Way_goBy_J31   a1 a2 (h ((h 27 0).toNat + 1) a1.toNat) h))) else (gd (gcl ((h 27 0).toNat) 0) (gd (gix 9 a1) (f_Way_goBy_J31   a1 a2 (h ((h 27 0).toNat + 2) a1.toNat) h)))
theorem c_Way_goBy {Z : gZ} (hL : gLive Z) (hn : (zL Z).Nodup) {a1 : Int} {a2 : Int}  {h : gH} {o : gO} (hg : gRg h) (ha : gRl [.inr (.inr 69), .inl a1, .inl a2]) (hx : f_Way_goBy a1 a2 h = some o) : gC Z gy_Way_goBy gc_Way_goBy 5 (some .boolean) 1 24 [.inr (.inr 69), .inl a1, .inl a2] h o := by
  unfold f_Way_goBy at hx
  refine gC_of (lv := [(0, .inr (.inr 69)), (1, .inl a1), (2, .inl a2)]) (own := gR_5) (by decide +kernel) rfl (Nat.le_of_ble_eq_true rfl) rfl rfl hn hg ha hx (fun X hZ hF => ?_)
  subst hZ
  show gr _ o gm_Way_goBy X h 0 _ _
  refine gr_iload_n (M := gm_Way_goBy) dq_Way_goBy_0 rfl 2 rfl 1 rfl ?_
  refine gr_if_ne (M := gm_Way_goBy) dq_Way_goBy_1 19 4 rfl rfl (fun c1 => ?_) (fun c1 => ?_)
  · refine gr_aload_n (M := gm_Way_goBy) dq_Way_goBy_19 rfl 0 rfl 20 rfl ?_
    refine gr_geta (M := gm_Way_goBy) dq_Way_goBy_20 23 rfl gfl_Way_20 gsh_69 rfl (gli hL gsh_69) ?_
    refine gr_getd (M := gm_Way_goBy) dq_Way_goBy_23 26 rfl gfl_Way_25 gsh_27 rfl (gli hL gsh_27) (fun hc2 => ?_)
    refine gr_getr (M := gm_Way_goBy) dq_Way_goBy_26 29 rfl gfl_Way_54 (gclE hc2) rfl (gli hL (gclE hc2)) ((h 27 0).toNat + 2) rfl ?_
    refine gr_iload_n (M := gm_Way_goBy) dq_Way_goBy_29 rfl 1 rfl 30 rfl ?_
    refine gr_iald (M := gm_Way_goBy) dq_Way_goBy_30 31 rfl (gsC_2 (gclE hc2)) (glj hL (gsC_2 (gclE hc2)) (by decide)) ?_
    exact w_Way_goBy_J31 hL hn hF   
  refine gr_aload_n (M := gm_Way_goBy) dq_Way_goBy_4 rfl 0 rfl 5 rfl ?_
  refine gr_geta (M := gm_Way_goBy) dq_Way_goBy_5 8 rfl gfl_Way_20 gsh_69 rfl (gli hL gsh_69) ?_
  refine gr_getd (M := gm_Way_goBy) dq_Way_goBy_8 11 rfl gfl_Way_25 gsh_27 rfl (gli hL gsh_27) (fun hc12 => ?_)
  refine gr_getr (M := gm_Way_goBy) dq_Way_goBy_11 14 rfl gfl_Way_57 (gclE hc12) rfl (gli hL (gclE hc12)) ((h 27 0).toNat + 1) rfl ?_
  refine gr_iload_n (M := gm_Way_goBy) dq_Way_goBy_14 rfl 1 rfl 15 rfl ?_
  refine gr_iald (M := gm_Way_goBy) dq_Way_goBy_15 16 rfl (gsC_1 (gclE hc12)) (glj hL (gsC_1 (gclE hc12)) (by decide)) ?_
  refine gr_goto (M := gm_Way_goBy) dq_Way_goBy_16 31 rfl ?_
  exact w_Way_goBy_J31 hL hn hF   

-- Way_spread
theorem dq_Way_spread_0 : decode gc_Way_spread 0 = .ok (.iconst 1, 1) := by decide +kernel
theorem dq_Way_spread_1 : decode gc_Way_spread 1 = .ok (.istore_n 1, 1) := by decide +kernel
theorem dq_Way_spread_2 : decode gc_Way_spread 2 = .ok (.iconst 0, 1) := by decide +kernel
theorem dq_Way_spread_3 : decode gc_Way_spread 3 = .ok (.istore_n 2, 1) := by decide +kernel
theorem dq_Way_spread_4 : decode gc_Way_spread 4 = .ok (.iload_n 2, 1) := by decide +kernel
theorem dq_Way_spread_5 : decode gc_Way_spread 5 = .ok (.bipush 7, 2) := by decide +kernel
theorem dq_Way_spread_7 : decode gc_Way_spread 7 = .ok (.if_icmp .ge 55, 3) := by decide +kernel
theorem dq_Way_spread_10 : decode gc_Way_spread 10 = .ok (.iload_n 1, 1) := by decide +kernel
theorem dq_Way_spread_11 : decode gc_Way_spread 11 = .ok (.ifCond .eq 51, 3) := by decide +kernel
theorem dq_Way_spread_14 : decode gc_Way_spread 14 = .ok (.iconst 0, 1) := by decide +kernel
theorem dq_Way_spread_15 : decode gc_Way_spread 15 = .ok (.istore_n 1, 1) := by decide +kernel
theorem dq_Way_spread_16 : decode gc_Way_spread 16 = .ok (.iconst 0, 1) := by decide +kernel
theorem dq_Way_spread_17 : decode gc_Way_spread 17 = .ok (.istore_n 3, 1) := by decide +kernel
theorem dq_Way_spread_18 : decode gc_Way_spread 18 = .ok (.iload_n 3, 1) := by decide +kernel
theorem dq_Way_spread_19 : decode gc_Way_spread 19 = .ok (.aload_n 0, 1) := by decide +kernel
theorem dq_Way_spread_20 : decode gc_Way_spread 20 = .ok (.getfield 20, 3) := by decide +kernel
theorem dq_Way_spread_23 : decode gc_Way_spread 23 = .ok (.getfield 25, 3) := by decide +kernel
theorem dq_Way_spread_26 : decode gc_Way_spread 26 = .ok (.getfield 31, 3) := by decide +kernel
theorem dq_Way_spread_29 : decode gc_Way_spread 29 = .ok (.if_icmp .ge 27, 3) := by decide +kernel
theorem dq_Way_spread_32 : decode gc_Way_spread 32 = .ok (.iload_n 1, 1) := by decide +kernel
theorem dq_Way_spread_33 : decode gc_Way_spread 33 = .ok (.aload_n 0, 1) := by decide +kernel
theorem dq_Way_spread_34 : decode gc_Way_spread 34 = .ok (.iload_n 3, 1) := by decide +kernel
theorem dq_Way_spread_35 : decode gc_Way_spread 35 = .ok (.iconst 0, 1) := by decide +kernel
theorem dq_Way_spread_36 : decode gc_Way_spread 36 = .ok (.invokevirtual 35, 3) := by decide +kernel
theorem dq_Way_spread_39 : decode gc_Way_spread 39 = .ok (.ior, 1) := by decide +kernel
theorem dq_Way_spread_40 : decode gc_Way_spread 40 = .ok (.istore_n 1, 1) := by decide +kernel
theorem dq_Way_spread_41 : decode gc_Way_spread 41 = .ok (.iload_n 1, 1) := by decide +kernel
theorem dq_Way_spread_42 : decode gc_Way_spread 42 = .ok (.aload_n 0, 1) := by decide +kernel
theorem dq_Way_spread_43 : decode gc_Way_spread 43 = .ok (.iload_n 3, 1) := by decide +kernel
theorem dq_Way_spread_44 : decode gc_Way_spread 44 = .ok (.iconst 1, 1) := by decide +kernel
theorem dq_Way_spread_45 : decode gc_Way_spread 45 = .ok (.invokevirtual 35, 3) := by decide +kernel
theorem dq_Way_spread_48 : decode gc_Way_spread 48 = .ok (.ior, 1) := by decide +kernel
theorem dq_Way_spread_49 : decode gc_Way_spread 49 = .ok (.istore_n 1, 1) := by decide +kernel
theorem dq_Way_spread_50 : decode gc_Way_spread 50 = .ok (.iinc 3 1, 3) := by decide +kernel
theorem dq_Way_spread_53 : decode gc_Way_spread 53 = .ok (.goto (-35), 3) := by decide +kernel
theorem dq_Way_spread_56 : decode gc_Way_spread 56 = .ok (.iinc 2 1, 3) := by decide +kernel
theorem dq_Way_spread_59 : decode gc_Way_spread 59 = .ok (.goto (-55), 3) := by decide +kernel
theorem dq_Way_spread_62 : decode gc_Way_spread 62 = .ok (.return_, 1) := by decide +kernel
abbrev gm_Way_spread : gM := (gc_Way_spread, gR_5, 2, 48, 4)
theorem gfl_Way_31 : gFl gR_5 31 0 2 := ⟨_, _, _, rfl, by decide, (gtab_at 35 (by decide +kernel) rfl), gin_0⟩
set_option maxRecDepth 20000 in
theorem gcy_Way_35 : gCy gR_5 35 gy_Way_goBy gc_Way_goBy 5 (some .boolean) 2 := ⟨(gtab_at 606 (by decide +kernel) rfl), (gtab_at 5 (by decide +kernel) rfl), (gtab_at 609 rfl rfl), by decide, by decide, by decide +kernel⟩
theorem gim_Way_goBy : Cond.instanceMethod gy_Way_goBy ∈ gtbl := (gtab_at 608 (by decide +kernel) rfl)
theorem gse_Way_goBy : Cond.selects gy_Way_goBy.cls gy_Way_goBy gy_Way_goBy ∈ gtbl := (by decide +kernel)
def f_Way_spread_L18 (v2 : Int) (k56 : Int → gH → Option gO) : Nat → Int → Int → gH → Option gO
  | 0, _, _, _ => none
  | n + 1, v1, v3, h => gd (gcl ((h 27 0).toNat) 0) (if (h (h 27 0).toNat 2) ≤ v3 then (k56 v1 h) else (gb (f_Way_goBy v3 0 h) (fun h5 r6 => gb (f_Way_goBy v3 1 h5) (fun h7 r8 => f_Way_spread_L18 v2 k56 n (gor (gor v1 r6) r8) (gadd v3 1) h7))))
theorem w_Way_spread_L18 {o : gO} {X : gX} (hL : gLive (xZ X)) (hn : (zL (xZ X)).Nodup) (hF : gFin X none o) {v2 : Int}   {k56 : Int → gH → Option gO} (hk56 : ∀ (v1 : Int) (h : gH), gr (k56 v1 h) o gm_Way_spread X h 56 [(0, .inr (.inr 69)), (1, .inl v1), (2, .inl v2)] []) : ∀ (n : Nat) (v1 : Int) (v3 : Int) (h : gH), gr (f_Way_spread_L18 v2 k56 n v1 v3 h) o gm_Way_spread X h 18 [(0, .inr (.inr 69)), (1, .inl v1), (2, .inl v2), (3, .inl v3)] [] := by
  intro n
  induction n with
  | zero => intros; exact gr_none
  | succ n ih =>
    intro v1 v3 h
    unfold f_Way_spread_L18
    refine gr_iload_n (M := gm_Way_spread) dq_Way_spread_18 rfl 3 rfl 19 rfl ?_
    refine gr_aload_n (M := gm_Way_spread) dq_Way_spread_19 rfl 0 rfl 20 rfl ?_
    refine gr_geta (M := gm_Way_spread) dq_Way_spread_20 23 rfl gfl_Way_20 gsh_69 rfl (gli hL gsh_69) ?_
    refine gr_getd (M := gm_Way_spread) dq_Way_spread_23 26 rfl gfl_Way_25 gsh_27 rfl (gli hL gsh_27) (fun hc3 => ?_)
    refine gr_geti (M := gm_Way_spread) dq_Way_spread_26 29 rfl gfl_Way_31 (gclE hc3) rfl (gli hL (gclE hc3)) ?_
    refine gr_icmp_ge (M := gm_Way_spread) dq_Way_spread_29 56 32 rfl rfl (fun c4 => ?_) (fun c4 => ?_)
    · refine gr_sub (M := gm_Way_spread) (lv' := [(0, .inr (.inr 69)), (1, .inl v1), (2, .inl v2)]) [0, 1, 2] rfl ?_
      exact hk56 _ _
    refine gr_iload_n (M := gm_Way_spread) dq_Way_spread_32 rfl 1 rfl 33 rfl ?_
    refine gr_aload_n (M := gm_Way_spread) dq_Way_spread_33 rfl 0 rfl 34 rfl ?_
    refine gr_iload_n (M := gm_Way_spread) dq_Way_spread_34 rfl 3 rfl 35 rfl ?_
    refine gr_iconst (M := gm_Way_spread) (v := 0) dq_Way_spread_35 rfl ⟨by decide, by decide⟩ 36 rfl ?_
    refine gr_callVi (M := gm_Way_spread) (as := [.inl v3, .inl 0]) dq_Way_spread_36 39 rfl rfl gcy_Way_35 gim_Way_goBy gse_Way_goBy ⟨by decide, by decide⟩ (Nat.le_of_ble_eq_true rfl) gsh_69 rfl (gli hL gsh_69) (fun o1 hg ha hx => c_Way_goBy hL hn  hg ha hx) (fun h5 r6 _ => ?_)
    refine gr_ior (M := gm_Way_spread) dq_Way_spread_39 40 rfl ?_
    refine gr_istore_n (M := gm_Way_spread) (lv' := [(1, .inl (gor v1 r6)), (0, .inr (.inr 69)), (2, .inl v2), (3, .inl v3)]) dq_Way_spread_40 rfl (by decide) rfl 41 rfl ?_
    refine gr_iload_n (M := gm_Way_spread) dq_Way_spread_41 rfl 0 rfl 42 rfl ?_
    refine gr_aload_n (M := gm_Way_spread) dq_Way_spread_42 rfl 1 rfl 43 rfl ?_
    refine gr_iload_n (M := gm_Way_spread) dq_Way_spread_43 rfl 3 rfl 44 rfl ?_
    refine gr_iconst (M := gm_Way_spread) (v := 1) dq_Way_spread_44 rfl ⟨by decide, by decide⟩ 45 rfl ?_
    refine gr_callVi (M := gm_Way_spread) (as := [.inl v3, .inl 1]) dq_Way_spread_45 48 rfl rfl gcy_Way_35 gim_Way_goBy gse_Way_goBy ⟨by decide, by decide⟩ (Nat.le_of_ble_eq_true rfl) gsh_69 rfl (gli hL gsh_69) (fun o1 hg ha hx => c_Way_goBy hL hn  hg ha hx) (fun h7 r8 _ => ?_)
    refine gr_ior (M := gm_Way_spread) dq_Way_spread_48 49 rfl ?_
    refine gr_istore_n (M := gm_Way_spread) (lv' := [(1, .inl (gor (gor v1 r6) r8)), (0, .inr (.inr 69)), (2, .inl v2), (3, .inl v3)]) dq_Way_spread_49 rfl (by decide) rfl 50 rfl ?_
    refine gr_iinc (M := gm_Way_spread) (lv' := [(3, .inl (gadd v3 1)), (1, .inl (gor (gor v1 r6) r8)), (0, .inr (.inr 69)), (2, .inl v2)]) dq_Way_spread_50 3 rfl rfl (by decide) rfl 53 rfl ?_
    refine gr_goto (M := gm_Way_spread) dq_Way_spread_53 18 rfl ?_
    refine gr_sub (M := gm_Way_spread) (lv' := [(0, .inr (.inr 69)), (1, .inl (gor (gor v1 r6) r8)), (2, .inl v2), (3, .inl (gadd v3 1))]) [2, 1, 3, 0] rfl ?_
    exact ih _ _ _

def f_Way_spread_L4  (k62 : gH → Option gO) : Nat → Int → Int → gH → Option gO
  | 0, _, _, _ => none
  | n + 1, v1, v2, h => if 7 ≤ v2 then (k62  h) else (if v1 = 0 then (k62  h) else (f_Way_spread_L18 v2 (fun v9 h10 => f_Way_spread_L4 k62 n v9 (gadd v2 1) h10) 50000 0 0 h))
theorem w_Way_spread_L4 {o : gO} {X : gX} (hL : gLive (xZ X)) (hn : (zL (xZ X)).Nodup) (hF : gFin X none o)    {k62 : gH → Option gO} (hk62 : ∀ (h : gH), gr (k62 h) o gm_Way_spread X h 62 [] []) : ∀ (n : Nat) (v1 : Int) (v2 : Int) (h : gH), gr (f_Way_spread_L4  k62 n v1 v2 h) o gm_Way_spread X h 4 [(0, .inr (.inr 69)), (1, .inl v1), (2, .inl v2)] [] := by
  intro n
  induction n with
  | zero => intros; exact gr_none
  | succ n ih =>
    intro v1 v2 h
    unfold f_Way_spread_L4
    refine gr_iload_n (M := gm_Way_spread) dq_Way_spread_4 rfl 2 rfl 5 rfl ?_
    refine gr_bipush (M := gm_Way_spread) (v := 7) dq_Way_spread_5 (by decide) ⟨by decide, by decide⟩ 7 rfl ?_
    refine gr_icmp_ge (M := gm_Way_spread) dq_Way_spread_7 62 10 rfl rfl (fun c1 => ?_) (fun c1 => ?_)
    · refine gr_sub (M := gm_Way_spread) (lv' := []) [] rfl ?_
      exact hk62  _
    refine gr_iload_n (M := gm_Way_spread) dq_Way_spread_10 rfl 1 rfl 11 rfl ?_
    refine gr_if_eq (M := gm_Way_spread) dq_Way_spread_11 62 14 rfl rfl (fun c2 => ?_) (fun c2 => ?_)
    · refine gr_sub (M := gm_Way_spread) (lv' := []) [] rfl ?_
      exact hk62  _
    refine gr_iconst (M := gm_Way_spread) (v := 0) dq_Way_spread_14 rfl ⟨by decide, by decide⟩ 15 rfl ?_
    refine gr_istore_n (M := gm_Way_spread) (lv' := [(1, .inl 0), (0, .inr (.inr 69)), (2, .inl v2)]) dq_Way_spread_15 rfl (by decide) rfl 16 rfl ?_
    refine gr_iconst (M := gm_Way_spread) (v := 0) dq_Way_spread_16 rfl ⟨by decide, by decide⟩ 17 rfl ?_
    refine gr_istore_n (M := gm_Way_spread) (lv' := [(3, .inl 0), (1, .inl 0), (0, .inr (.inr 69)), (2, .inl v2)]) dq_Way_spread_17 rfl (by decide) rfl 18 rfl ?_
    refine gr_sub (M := gm_Way_spread) (lv' := [(0, .inr (.inr 69)), (1, .inl 0), (2, .inl v2), (3, .inl 0)]) [2, 1, 3, 0] rfl ?_
    refine w_Way_spread_L18 hL hn hF   (fun v9 h10 => ?_) 50000 _ _ _
    refine gr_iinc (M := gm_Way_spread) (lv' := [(2, .inl (gadd v2 1)), (0, .inr (.inr 69)), (1, .inl v9)]) dq_Way_spread_56 2 rfl rfl (by decide) rfl 59 rfl ?_
    refine gr_goto (M := gm_Way_spread) dq_Way_spread_59 4 rfl ?_
    refine gr_sub (M := gm_Way_spread) (lv' := [(0, .inr (.inr 69)), (1, .inl v9), (2, .inl (gadd v2 1))]) [1, 2, 0] rfl ?_
    exact ih _ _ _

def f_Way_spread  (h : gH) : Option gO := f_Way_spread_L4  (fun  h11 => some (h11, 0)) 50000 1 0 h
theorem c_Way_spread {Z : gZ} (hL : gLive Z) (hn : (zL Z).Nodup)   {h : gH} {o : gO} (hg : gRg h) (ha : gRl [.inr (.inr 69)]) (hx : f_Way_spread  h = some o) : gC Z gy_Way_spread gc_Way_spread 4 none 2 48 [.inr (.inr 69)] h o := by
  unfold f_Way_spread at hx
  refine gC_of (lv := [(0, .inr (.inr 69))]) (own := gR_5) (by decide +kernel) rfl (Nat.le_of_ble_eq_true rfl) rfl rfl hn hg ha hx (fun X hZ hF => ?_)
  subst hZ
  show gr _ o gm_Way_spread X h 0 _ _
  refine gr_iconst (M := gm_Way_spread) (v := 1) dq_Way_spread_0 rfl ⟨by decide, by decide⟩ 1 rfl ?_
  refine gr_istore_n (M := gm_Way_spread) (lv' := [(1, .inl 1), (0, .inr (.inr 69))]) dq_Way_spread_1 rfl (by decide) rfl 2 rfl ?_
  refine gr_iconst (M := gm_Way_spread) (v := 0) dq_Way_spread_2 rfl ⟨by decide, by decide⟩ 3 rfl ?_
  refine gr_istore_n (M := gm_Way_spread) (lv' := [(2, .inl 0), (1, .inl 1), (0, .inr (.inr 69))]) dq_Way_spread_3 rfl (by decide) rfl 4 rfl ?_
  refine gr_sub (M := gm_Way_spread) (lv' := [(0, .inr (.inr 69)), (1, .inl 1), (2, .inl 0)]) [2, 1, 0] rfl ?_
  refine w_Way_spread_L4 hL hn hF   (fun h11 => ?_) 50000 _ _ _
  exact gr_return (M := gm_Way_spread) dq_Way_spread_62 hF

-- Way_buyOne
theorem dq_Way_buyOne_0 : decode gc_Way_buyOne 0 = .ok (.aload_n 0, 1) := by decide +kernel
theorem dq_Way_buyOne_1 : decode gc_Way_buyOne 1 = .ok (.getfield 11, 3) := by decide +kernel
theorem dq_Way_buyOne_4 : decode gc_Way_buyOne 4 = .ok (.iconst 0, 1) := by decide +kernel
theorem dq_Way_buyOne_5 : decode gc_Way_buyOne 5 = .ok (.aload_n 0, 1) := by decide +kernel
theorem dq_Way_buyOne_6 : decode gc_Way_buyOne 6 = .ok (.getfield 17, 3) := by decide +kernel
theorem dq_Way_buyOne_9 : decode gc_Way_buyOne 9 = .ok (.iconst 0, 1) := by decide +kernel
theorem dq_Way_buyOne_10 : decode gc_Way_buyOne 10 = .ok (.bipush 7, 2) := by decide +kernel
theorem dq_Way_buyOne_12 : decode gc_Way_buyOne 12 = .ok (.invokestatic 45, 3) := by decide +kernel
theorem dq_Way_buyOne_15 : decode gc_Way_buyOne 15 = .ok (.iconst 0, 1) := by decide +kernel
theorem dq_Way_buyOne_16 : decode gc_Way_buyOne 16 = .ok (.istore_n 1, 1) := by decide +kernel
theorem dq_Way_buyOne_17 : decode gc_Way_buyOne 17 = .ok (.iload_n 1, 1) := by decide +kernel
theorem dq_Way_buyOne_18 : decode gc_Way_buyOne 18 = .ok (.aload_n 0, 1) := by decide +kernel
theorem dq_Way_buyOne_19 : decode gc_Way_buyOne 19 = .ok (.getfield 20, 3) := by decide +kernel
theorem dq_Way_buyOne_22 : decode gc_Way_buyOne 22 = .ok (.getfield 25, 3) := by decide +kernel
theorem dq_Way_buyOne_25 : decode gc_Way_buyOne 25 = .ok (.getfield 31, 3) := by decide +kernel
theorem dq_Way_buyOne_28 : decode gc_Way_buyOne 28 = .ok (.if_icmp .ge 116, 3) := by decide +kernel
theorem dq_Way_buyOne_31 : decode gc_Way_buyOne 31 = .ok (.aload_n 0, 1) := by decide +kernel
theorem dq_Way_buyOne_32 : decode gc_Way_buyOne 32 = .ok (.getfield 20, 3) := by decide +kernel
theorem dq_Way_buyOne_35 : decode gc_Way_buyOne 35 = .ok (.getfield 51, 3) := by decide +kernel
theorem dq_Way_buyOne_38 : decode gc_Way_buyOne 38 = .ok (.iload_n 1, 1) := by decide +kernel
theorem dq_Way_buyOne_39 : decode gc_Way_buyOne 39 = .ok (.iaload, 1) := by decide +kernel
theorem dq_Way_buyOne_40 : decode gc_Way_buyOne 40 = .ok (.iconst 1, 1) := by decide +kernel
theorem dq_Way_buyOne_41 : decode gc_Way_buyOne 41 = .ok (.if_icmp .ne 97, 3) := by decide +kernel
theorem dq_Way_buyOne_44 : decode gc_Way_buyOne 44 = .ok (.aload_n 0, 1) := by decide +kernel
theorem dq_Way_buyOne_45 : decode gc_Way_buyOne 45 = .ok (.aload_n 0, 1) := by decide +kernel
theorem dq_Way_buyOne_46 : decode gc_Way_buyOne 46 = .ok (.getfield 20, 3) := by decide +kernel
theorem dq_Way_buyOne_49 : decode gc_Way_buyOne 49 = .ok (.getfield 25, 3) := by decide +kernel
theorem dq_Way_buyOne_52 : decode gc_Way_buyOne 52 = .ok (.getfield 54, 3) := by decide +kernel
theorem dq_Way_buyOne_55 : decode gc_Way_buyOne 55 = .ok (.iload_n 1, 1) := by decide +kernel
theorem dq_Way_buyOne_56 : decode gc_Way_buyOne 56 = .ok (.iaload, 1) := by decide +kernel
theorem dq_Way_buyOne_57 : decode gc_Way_buyOne 57 = .ok (.aload_n 0, 1) := by decide +kernel
theorem dq_Way_buyOne_58 : decode gc_Way_buyOne 58 = .ok (.getfield 17, 3) := by decide +kernel
theorem dq_Way_buyOne_61 : decode gc_Way_buyOne 61 = .ok (.aload_n 0, 1) := by decide +kernel
theorem dq_Way_buyOne_62 : decode gc_Way_buyOne 62 = .ok (.getfield 20, 3) := by decide +kernel
theorem dq_Way_buyOne_65 : decode gc_Way_buyOne 65 = .ok (.getfield 25, 3) := by decide +kernel
theorem dq_Way_buyOne_68 : decode gc_Way_buyOne 68 = .ok (.getfield 57, 3) := by decide +kernel
theorem dq_Way_buyOne_71 : decode gc_Way_buyOne 71 = .ok (.iload_n 1, 1) := by decide +kernel
theorem dq_Way_buyOne_72 : decode gc_Way_buyOne 72 = .ok (.iaload, 1) := by decide +kernel
theorem dq_Way_buyOne_73 : decode gc_Way_buyOne 73 = .ok (.iaload, 1) := by decide +kernel
theorem dq_Way_buyOne_74 : decode gc_Way_buyOne 74 = .ok (.aload_n 0, 1) := by decide +kernel
theorem dq_Way_buyOne_75 : decode gc_Way_buyOne 75 = .ok (.getfield 20, 3) := by decide +kernel
theorem dq_Way_buyOne_78 : decode gc_Way_buyOne 78 = .ok (.getfield 25, 3) := by decide +kernel
theorem dq_Way_buyOne_81 : decode gc_Way_buyOne 81 = .ok (.getfield 60, 3) := by decide +kernel
theorem dq_Way_buyOne_84 : decode gc_Way_buyOne 84 = .ok (.iload_n 1, 1) := by decide +kernel
theorem dq_Way_buyOne_85 : decode gc_Way_buyOne 85 = .ok (.iaload, 1) := by decide +kernel
theorem dq_Way_buyOne_86 : decode gc_Way_buyOne 86 = .ok (.iadd, 1) := by decide +kernel
theorem dq_Way_buyOne_87 : decode gc_Way_buyOne 87 = .ok (.invokevirtual 63, 3) := by decide +kernel
theorem dq_Way_buyOne_90 : decode gc_Way_buyOne 90 = .ok (.pop, 1) := by decide +kernel
theorem dq_Way_buyOne_91 : decode gc_Way_buyOne 91 = .ok (.aload_n 0, 1) := by decide +kernel
theorem dq_Way_buyOne_92 : decode gc_Way_buyOne 92 = .ok (.aload_n 0, 1) := by decide +kernel
theorem dq_Way_buyOne_93 : decode gc_Way_buyOne 93 = .ok (.getfield 20, 3) := by decide +kernel
theorem dq_Way_buyOne_96 : decode gc_Way_buyOne 96 = .ok (.getfield 25, 3) := by decide +kernel
theorem dq_Way_buyOne_99 : decode gc_Way_buyOne 99 = .ok (.getfield 57, 3) := by decide +kernel
theorem dq_Way_buyOne_102 : decode gc_Way_buyOne 102 = .ok (.iload_n 1, 1) := by decide +kernel
theorem dq_Way_buyOne_103 : decode gc_Way_buyOne 103 = .ok (.iaload, 1) := by decide +kernel
theorem dq_Way_buyOne_104 : decode gc_Way_buyOne 104 = .ok (.aload_n 0, 1) := by decide +kernel
theorem dq_Way_buyOne_105 : decode gc_Way_buyOne 105 = .ok (.getfield 17, 3) := by decide +kernel
theorem dq_Way_buyOne_108 : decode gc_Way_buyOne 108 = .ok (.aload_n 0, 1) := by decide +kernel
theorem dq_Way_buyOne_109 : decode gc_Way_buyOne 109 = .ok (.getfield 20, 3) := by decide +kernel
theorem dq_Way_buyOne_112 : decode gc_Way_buyOne 112 = .ok (.getfield 25, 3) := by decide +kernel
theorem dq_Way_buyOne_115 : decode gc_Way_buyOne 115 = .ok (.getfield 54, 3) := by decide +kernel
theorem dq_Way_buyOne_118 : decode gc_Way_buyOne 118 = .ok (.iload_n 1, 1) := by decide +kernel
theorem dq_Way_buyOne_119 : decode gc_Way_buyOne 119 = .ok (.iaload, 1) := by decide +kernel
theorem dq_Way_buyOne_120 : decode gc_Way_buyOne 120 = .ok (.iaload, 1) := by decide +kernel
theorem dq_Way_buyOne_121 : decode gc_Way_buyOne 121 = .ok (.aload_n 0, 1) := by decide +kernel
theorem dq_Way_buyOne_122 : decode gc_Way_buyOne 122 = .ok (.getfield 20, 3) := by decide +kernel
theorem dq_Way_buyOne_125 : decode gc_Way_buyOne 125 = .ok (.getfield 25, 3) := by decide +kernel
theorem dq_Way_buyOne_128 : decode gc_Way_buyOne 128 = .ok (.getfield 60, 3) := by decide +kernel
theorem dq_Way_buyOne_131 : decode gc_Way_buyOne 131 = .ok (.iload_n 1, 1) := by decide +kernel
theorem dq_Way_buyOne_132 : decode gc_Way_buyOne 132 = .ok (.iaload, 1) := by decide +kernel
theorem dq_Way_buyOne_133 : decode gc_Way_buyOne 133 = .ok (.iadd, 1) := by decide +kernel
theorem dq_Way_buyOne_134 : decode gc_Way_buyOne 134 = .ok (.invokevirtual 63, 3) := by decide +kernel
theorem dq_Way_buyOne_137 : decode gc_Way_buyOne 137 = .ok (.pop, 1) := by decide +kernel
theorem dq_Way_buyOne_138 : decode gc_Way_buyOne 138 = .ok (.iinc 1 1, 3) := by decide +kernel
theorem dq_Way_buyOne_141 : decode gc_Way_buyOne 141 = .ok (.goto (-124), 3) := by decide +kernel
theorem dq_Way_buyOne_144 : decode gc_Way_buyOne 144 = .ok (.return_, 1) := by decide +kernel
abbrev gm_Way_buyOne : gM := (gc_Way_buyOne, gR_5, 1, 26, 2)
theorem gfl_Way_17 : gFl gR_5 17 5 1 := ⟨_, _, _, rfl, by decide, (gtab_at 213 (by decide +kernel) rfl), gin_5⟩
theorem gml_Way_45 : Cond.methodLink gR_5 45 arraycopyName ∈ gtbl := (gtab_at 631 (by decide +kernel) rfl)
def f_Way_buyOne_J138  (k17 : Int → gH → Option gO) (v1 : Int) (h : gH) : Option gO := k17 (gadd v1 1) h
theorem w_Way_buyOne_J138 {o : gO} {X : gX} (hL : gLive (xZ X)) (hn : (zL (xZ X)).Nodup) (hF : gFin X none o)    {k17 : Int → gH → Option gO} {v1 : Int} {h : gH} (hk17 : ∀ (v1 : Int) (h : gH), gr (k17 v1 h) o gm_Way_buyOne X h 17 [(0, .inr (.inr 69)), (1, .inl v1)] []) : gr (f_Way_buyOne_J138  k17 v1 h) o gm_Way_buyOne X h 138 [(0, .inr (.inr 69)), (1, .inl v1)] [] := by
  unfold f_Way_buyOne_J138
  refine gr_iinc (M := gm_Way_buyOne) (lv' := [(1, .inl (gadd v1 1)), (0, .inr (.inr 69))]) dq_Way_buyOne_138 1 rfl rfl (by decide) rfl 141 rfl ?_
  refine gr_goto (M := gm_Way_buyOne) dq_Way_buyOne_141 17 rfl ?_
  refine gr_sub (M := gm_Way_buyOne) (lv' := [(0, .inr (.inr 69)), (1, .inl (gadd v1 1))]) [1, 0] rfl ?_
  exact hk17 _ _

def f_Way_buyOne_L17  (k144 : gH → Option gO) : Nat → Int → gH → Option gO
  | 0, _, _ => none
  | n + 1, v1, h => gd (gcl ((h 27 0).toNat) 0) (if (h (h 27 0).toNat 2) ≤ v1 then (k144  h) else (gd (gix 9 v1) (if (h 28 v1.toNat) = 1 then (gd (gcl ((h 27 0).toNat) 0) (gd (gix 9 v1) (gd (gcl ((h 27 0).toNat) 0) (gd (gix 9 v1) (gd (gix 7 (h ((h 27 0).toNat + 1) v1.toNat)) (gd (gcl ((h 27 0).toNat) 0) (gd (gix 9 v1) (gb (f_Way_reach (h ((h 27 0).toNat + 2) v1.toNat) (gadd (h 71 (h ((h 27 0).toNat + 1) v1.toNat).toNat) (h ((h 27 0).toNat + 3) v1.toNat)) h) (fun h8 r9 => gd (gcl ((h8 27 0).toNat) 0) (gd (gix 9 v1) (gd (gcl ((h8 27 0).toNat) 0) (gd (gix 9 v1) (gd (gix 7 (h8 ((h8 27 0).toNat + 2) v1.toNat)) (gd (gcl ((h8 27 0).toNat) 0) (gd (gix 9 v1) (gb (f_Way_reach (h8 ((h8 27 0).toNat + 1) v1.toNat) (gadd (h8 71 (h8 ((h8 27 0).toNat + 2) v1.toNat).toNat) (h8 ((h8 27 0).toNat + 3) v1.toNat)) h8) (fun h13 r14 => f_Way_buyOne_J138  (f_Way_buyOne_L17 k144 n) v1 h13))))))))))))))))) else (f_Way_buyOne_J138  (f_Way_buyOne_L17 k144 n) v1 h))))
theorem w_Way_buyOne_L17 {o : gO} {X : gX} (hL : gLive (xZ X)) (hn : (zL (xZ X)).Nodup) (hF : gFin X none o)    {k144 : gH → Option gO} (hk144 : ∀ (h : gH), gr (k144 h) o gm_Way_buyOne X h 144 [] []) : ∀ (n : Nat) (v1 : Int) (h : gH), gr (f_Way_buyOne_L17  k144 n v1 h) o gm_Way_buyOne X h 17 [(0, .inr (.inr 69)), (1, .inl v1)] [] := by
  intro n
  induction n with
  | zero => intros; exact gr_none
  | succ n ih =>
    intro v1 h
    unfold f_Way_buyOne_L17
    refine gr_iload_n (M := gm_Way_buyOne) dq_Way_buyOne_17 rfl 1 rfl 18 rfl ?_
    refine gr_aload_n (M := gm_Way_buyOne) dq_Way_buyOne_18 rfl 0 rfl 19 rfl ?_
    refine gr_geta (M := gm_Way_buyOne) dq_Way_buyOne_19 22 rfl gfl_Way_20 gsh_69 rfl (gli hL gsh_69) ?_
    refine gr_getd (M := gm_Way_buyOne) dq_Way_buyOne_22 25 rfl gfl_Way_25 gsh_27 rfl (gli hL gsh_27) (fun hc2 => ?_)
    refine gr_geti (M := gm_Way_buyOne) dq_Way_buyOne_25 28 rfl gfl_Way_31 (gclE hc2) rfl (gli hL (gclE hc2)) ?_
    refine gr_icmp_ge (M := gm_Way_buyOne) dq_Way_buyOne_28 144 31 rfl rfl (fun c3 => ?_) (fun c3 => ?_)
    · refine gr_sub (M := gm_Way_buyOne) (lv' := []) [] rfl ?_
      exact hk144  _
    refine gr_aload_n (M := gm_Way_buyOne) dq_Way_buyOne_31 rfl 0 rfl 32 rfl ?_
    refine gr_geta (M := gm_Way_buyOne) dq_Way_buyOne_32 35 rfl gfl_Way_20 gsh_69 rfl (gli hL gsh_69) ?_
    refine gr_getr (M := gm_Way_buyOne) dq_Way_buyOne_35 38 rfl gfl_Way_51 gsh_27 rfl (gli hL gsh_27) 28 rfl ?_
    refine gr_iload_n (M := gm_Way_buyOne) dq_Way_buyOne_38 rfl 1 rfl 39 rfl ?_
    refine gr_iald (M := gm_Way_buyOne) dq_Way_buyOne_39 40 rfl gsh_28 (glj hL gsh_28 (by decide)) ?_
    refine gr_iconst (M := gm_Way_buyOne) (v := 1) dq_Way_buyOne_40 rfl ⟨by decide, by decide⟩ 41 rfl ?_
    refine gr_icmp_ne (M := gm_Way_buyOne) dq_Way_buyOne_41 138 44 rfl rfl (fun c4 => ?_) (fun c4 => ?_)
    · exact w_Way_buyOne_J138 hL hn hF   ih
    refine gr_aload_n (M := gm_Way_buyOne) dq_Way_buyOne_44 rfl 0 rfl 45 rfl ?_
    refine gr_aload_n (M := gm_Way_buyOne) dq_Way_buyOne_45 rfl 0 rfl 46 rfl ?_
    refine gr_geta (M := gm_Way_buyOne) dq_Way_buyOne_46 49 rfl gfl_Way_20 gsh_69 rfl (gli hL gsh_69) ?_
    refine gr_getd (M := gm_Way_buyOne) dq_Way_buyOne_49 52 rfl gfl_Way_25 gsh_27 rfl (gli hL gsh_27) (fun hc5 => ?_)
    refine gr_getr (M := gm_Way_buyOne) dq_Way_buyOne_52 55 rfl gfl_Way_54 (gclE hc5) rfl (gli hL (gclE hc5)) ((h 27 0).toNat + 2) rfl ?_
    refine gr_iload_n (M := gm_Way_buyOne) dq_Way_buyOne_55 rfl 1 rfl 56 rfl ?_
    refine gr_iald (M := gm_Way_buyOne) dq_Way_buyOne_56 57 rfl (gsC_2 (gclE hc5)) (glj hL (gsC_2 (gclE hc5)) (by decide)) ?_
    refine gr_aload_n (M := gm_Way_buyOne) dq_Way_buyOne_57 rfl 0 rfl 58 rfl ?_
    refine gr_getr (M := gm_Way_buyOne) dq_Way_buyOne_58 61 rfl gfl_Way_17 gsh_69 rfl (gli hL gsh_69) 71 rfl ?_
    refine gr_aload_n (M := gm_Way_buyOne) dq_Way_buyOne_61 rfl 0 rfl 62 rfl ?_
    refine gr_geta (M := gm_Way_buyOne) dq_Way_buyOne_62 65 rfl gfl_Way_20 gsh_69 rfl (gli hL gsh_69) ?_
    refine gr_getd (M := gm_Way_buyOne) dq_Way_buyOne_65 68 rfl gfl_Way_25 gsh_27 rfl (gli hL gsh_27) (fun hc6 => ?_)
    refine gr_getr (M := gm_Way_buyOne) dq_Way_buyOne_68 71 rfl gfl_Way_57 (gclE hc6) rfl (gli hL (gclE hc6)) ((h 27 0).toNat + 1) rfl ?_
    refine gr_iload_n (M := gm_Way_buyOne) dq_Way_buyOne_71 rfl 1 rfl 72 rfl ?_
    refine gr_iald (M := gm_Way_buyOne) dq_Way_buyOne_72 73 rfl (gsC_1 (gclE hc6)) (glj hL (gsC_1 (gclE hc6)) (by decide)) ?_
    refine gr_iald (M := gm_Way_buyOne) dq_Way_buyOne_73 74 rfl gsh_71 (glj hL gsh_71 (by decide)) ?_
    refine gr_aload_n (M := gm_Way_buyOne) dq_Way_buyOne_74 rfl 0 rfl 75 rfl ?_
    refine gr_geta (M := gm_Way_buyOne) dq_Way_buyOne_75 78 rfl gfl_Way_20 gsh_69 rfl (gli hL gsh_69) ?_
    refine gr_getd (M := gm_Way_buyOne) dq_Way_buyOne_78 81 rfl gfl_Way_25 gsh_27 rfl (gli hL gsh_27) (fun hc7 => ?_)
    refine gr_getr (M := gm_Way_buyOne) dq_Way_buyOne_81 84 rfl gfl_Way_60 (gclE hc7) rfl (gli hL (gclE hc7)) ((h 27 0).toNat + 3) rfl ?_
    refine gr_iload_n (M := gm_Way_buyOne) dq_Way_buyOne_84 rfl 1 rfl 85 rfl ?_
    refine gr_iald (M := gm_Way_buyOne) dq_Way_buyOne_85 86 rfl (gsC_3 (gclE hc7)) (glj hL (gsC_3 (gclE hc7)) (by decide)) ?_
    refine gr_iadd (M := gm_Way_buyOne) dq_Way_buyOne_86 87 rfl ?_
    refine gr_callVi (M := gm_Way_buyOne) (as := [.inl (h ((h 27 0).toNat + 2) v1.toNat), .inl (gadd (h 71 (h ((h 27 0).toNat + 1) v1.toNat).toNat) (h ((h 27 0).toNat + 3) v1.toNat))]) dq_Way_buyOne_87 90 rfl rfl gcy_Way_63 gim_Way_reach gse_Way_reach ⟨by decide, by decide⟩ (Nat.le_of_ble_eq_true rfl) gsh_69 rfl (gli hL gsh_69) (fun o1 hg ha hx => c_Way_reach hL hn  hg ha hx) (fun h8 r9 _ => ?_)
    refine gr_pop (M := gm_Way_buyOne) dq_Way_buyOne_90 (fun _ q => by cases q) 91 rfl ?_
    refine gr_aload_n (M := gm_Way_buyOne) dq_Way_buyOne_91 rfl 0 rfl 92 rfl ?_
    refine gr_aload_n (M := gm_Way_buyOne) dq_Way_buyOne_92 rfl 0 rfl 93 rfl ?_
    refine gr_geta (M := gm_Way_buyOne) dq_Way_buyOne_93 96 rfl gfl_Way_20 gsh_69 rfl (gli hL gsh_69) ?_
    refine gr_getd (M := gm_Way_buyOne) dq_Way_buyOne_96 99 rfl gfl_Way_25 gsh_27 rfl (gli hL gsh_27) (fun hc10 => ?_)
    refine gr_getr (M := gm_Way_buyOne) dq_Way_buyOne_99 102 rfl gfl_Way_57 (gclE hc10) rfl (gli hL (gclE hc10)) ((h8 27 0).toNat + 1) rfl ?_
    refine gr_iload_n (M := gm_Way_buyOne) dq_Way_buyOne_102 rfl 1 rfl 103 rfl ?_
    refine gr_iald (M := gm_Way_buyOne) dq_Way_buyOne_103 104 rfl (gsC_1 (gclE hc10)) (glj hL (gsC_1 (gclE hc10)) (by decide)) ?_
    refine gr_aload_n (M := gm_Way_buyOne) dq_Way_buyOne_104 rfl 0 rfl 105 rfl ?_
    refine gr_getr (M := gm_Way_buyOne) dq_Way_buyOne_105 108 rfl gfl_Way_17 gsh_69 rfl (gli hL gsh_69) 71 rfl ?_
    refine gr_aload_n (M := gm_Way_buyOne) dq_Way_buyOne_108 rfl 0 rfl 109 rfl ?_
    refine gr_geta (M := gm_Way_buyOne) dq_Way_buyOne_109 112 rfl gfl_Way_20 gsh_69 rfl (gli hL gsh_69) ?_
    refine gr_getd (M := gm_Way_buyOne) dq_Way_buyOne_112 115 rfl gfl_Way_25 gsh_27 rfl (gli hL gsh_27) (fun hc11 => ?_)
    refine gr_getr (M := gm_Way_buyOne) dq_Way_buyOne_115 118 rfl gfl_Way_54 (gclE hc11) rfl (gli hL (gclE hc11)) ((h8 27 0).toNat + 2) rfl ?_
    refine gr_iload_n (M := gm_Way_buyOne) dq_Way_buyOne_118 rfl 1 rfl 119 rfl ?_
    refine gr_iald (M := gm_Way_buyOne) dq_Way_buyOne_119 120 rfl (gsC_2 (gclE hc11)) (glj hL (gsC_2 (gclE hc11)) (by decide)) ?_
    refine gr_iald (M := gm_Way_buyOne) dq_Way_buyOne_120 121 rfl gsh_71 (glj hL gsh_71 (by decide)) ?_
    refine gr_aload_n (M := gm_Way_buyOne) dq_Way_buyOne_121 rfl 0 rfl 122 rfl ?_
    refine gr_geta (M := gm_Way_buyOne) dq_Way_buyOne_122 125 rfl gfl_Way_20 gsh_69 rfl (gli hL gsh_69) ?_
    refine gr_getd (M := gm_Way_buyOne) dq_Way_buyOne_125 128 rfl gfl_Way_25 gsh_27 rfl (gli hL gsh_27) (fun hc12 => ?_)
    refine gr_getr (M := gm_Way_buyOne) dq_Way_buyOne_128 131 rfl gfl_Way_60 (gclE hc12) rfl (gli hL (gclE hc12)) ((h8 27 0).toNat + 3) rfl ?_
    refine gr_iload_n (M := gm_Way_buyOne) dq_Way_buyOne_131 rfl 1 rfl 132 rfl ?_
    refine gr_iald (M := gm_Way_buyOne) dq_Way_buyOne_132 133 rfl (gsC_3 (gclE hc12)) (glj hL (gsC_3 (gclE hc12)) (by decide)) ?_
    refine gr_iadd (M := gm_Way_buyOne) dq_Way_buyOne_133 134 rfl ?_
    refine gr_callVi (M := gm_Way_buyOne) (as := [.inl (h8 ((h8 27 0).toNat + 1) v1.toNat), .inl (gadd (h8 71 (h8 ((h8 27 0).toNat + 2) v1.toNat).toNat) (h8 ((h8 27 0).toNat + 3) v1.toNat))]) dq_Way_buyOne_134 137 rfl rfl gcy_Way_63 gim_Way_reach gse_Way_reach ⟨by decide, by decide⟩ (Nat.le_of_ble_eq_true rfl) gsh_69 rfl (gli hL gsh_69) (fun o1 hg ha hx => c_Way_reach hL hn  hg ha hx) (fun h13 r14 _ => ?_)
    refine gr_pop (M := gm_Way_buyOne) dq_Way_buyOne_137 (fun _ q => by cases q) 138 rfl ?_
    exact w_Way_buyOne_J138 hL hn hF   ih

def f_Way_buyOne  (h : gH) : Option gO := gd (gcpok 70 71 0 0 7) (gs (gcp h 70 0 71 0 7) (fun h1 => f_Way_buyOne_L17  (fun  h15 => some (h15, 0)) 50000 0 h1))
theorem c_Way_buyOne {Z : gZ} (hL : gLive Z) (hn : (zL Z).Nodup)   {h : gH} {o : gO} (hg : gRg h) (ha : gRl [.inr (.inr 69)]) (hx : f_Way_buyOne  h = some o) : gC Z gy_Way_buyOne gc_Way_buyOne 2 none 1 26 [.inr (.inr 69)] h o := by
  unfold f_Way_buyOne at hx
  refine gC_of (lv := [(0, .inr (.inr 69))]) (own := gR_5) (by decide +kernel) rfl (Nat.le_of_ble_eq_true rfl) rfl rfl hn hg ha hx (fun X hZ hF => ?_)
  subst hZ
  show gr _ o gm_Way_buyOne X h 0 _ _
  refine gr_aload_n (M := gm_Way_buyOne) dq_Way_buyOne_0 rfl 0 rfl 1 rfl ?_
  refine gr_getr (M := gm_Way_buyOne) dq_Way_buyOne_1 4 rfl gfl_Way_11 gsh_69 rfl (gli hL gsh_69) 70 rfl ?_
  refine gr_iconst (M := gm_Way_buyOne) (v := 0) dq_Way_buyOne_4 rfl ⟨by decide, by decide⟩ 5 rfl ?_
  refine gr_aload_n (M := gm_Way_buyOne) dq_Way_buyOne_5 rfl 0 rfl 6 rfl ?_
  refine gr_getr (M := gm_Way_buyOne) dq_Way_buyOne_6 9 rfl gfl_Way_17 gsh_69 rfl (gli hL gsh_69) 71 rfl ?_
  refine gr_iconst (M := gm_Way_buyOne) (v := 0) dq_Way_buyOne_9 rfl ⟨by decide, by decide⟩ 10 rfl ?_
  refine gr_bipush (M := gm_Way_buyOne) (v := 7) dq_Way_buyOne_10 (by decide) ⟨by decide, by decide⟩ 12 rfl ?_
  refine gr_acopy (M := gm_Way_buyOne) dq_Way_buyOne_12 15 rfl gml_Way_45 gac_n gac_s gac_i ⟨by decide, by decide⟩ (Nat.le_of_ble_eq_true rfl) gsh_70 gsh_71 (glj hL gsh_70 (by decide)) (glj hL gsh_71 (by decide)) (fun h1 _ => ?_)
  refine gr_iconst (M := gm_Way_buyOne) (v := 0) dq_Way_buyOne_15 rfl ⟨by decide, by decide⟩ 16 rfl ?_
  refine gr_istore_n (M := gm_Way_buyOne) (lv' := [(1, .inl 0), (0, .inr (.inr 69))]) dq_Way_buyOne_16 rfl (by decide) rfl 17 rfl ?_
  refine gr_sub (M := gm_Way_buyOne) (lv' := [(0, .inr (.inr 69)), (1, .inl 0)]) [1, 0] rfl ?_
  refine w_Way_buyOne_L17 hL hn hF   (fun h15 => ?_) 50000 _ _
  exact gr_return (M := gm_Way_buyOne) dq_Way_buyOne_144 hF

-- Way_fewestBought
theorem dq_Way_fewestBought_0 : decode gc_Way_fewestBought 0 = .ok (.iconst 0, 1) := by decide +kernel
theorem dq_Way_fewestBought_1 : decode gc_Way_fewestBought 1 = .ok (.istore_n 3, 1) := by decide +kernel
theorem dq_Way_fewestBought_2 : decode gc_Way_fewestBought 2 = .ok (.iload_n 3, 1) := by decide +kernel
theorem dq_Way_fewestBought_3 : decode gc_Way_fewestBought 3 = .ok (.bipush 7, 2) := by decide +kernel
theorem dq_Way_fewestBought_5 : decode gc_Way_fewestBought 5 = .ok (.if_icmp .ge 29, 3) := by decide +kernel
theorem dq_Way_fewestBought_8 : decode gc_Way_fewestBought 8 = .ok (.aload_n 0, 1) := by decide +kernel
theorem dq_Way_fewestBought_9 : decode gc_Way_fewestBought 9 = .ok (.invokevirtual 39, 3) := by decide +kernel
theorem dq_Way_fewestBought_12 : decode gc_Way_fewestBought 12 = .ok (.aload_n 0, 1) := by decide +kernel
theorem dq_Way_fewestBought_13 : decode gc_Way_fewestBought 13 = .ok (.getfield 11, 3) := by decide +kernel
theorem dq_Way_fewestBought_16 : decode gc_Way_fewestBought 16 = .ok (.iload_n 1, 1) := by decide +kernel
theorem dq_Way_fewestBought_17 : decode gc_Way_fewestBought 17 = .ok (.iaload, 1) := by decide +kernel
theorem dq_Way_fewestBought_18 : decode gc_Way_fewestBought 18 = .ok (.iload_n 2, 1) := by decide +kernel
theorem dq_Way_fewestBought_19 : decode gc_Way_fewestBought 19 = .ok (.if_icmp .gt 5, 3) := by decide +kernel
theorem dq_Way_fewestBought_22 : decode gc_Way_fewestBought 22 = .ok (.iload_n 3, 1) := by decide +kernel
theorem dq_Way_fewestBought_23 : decode gc_Way_fewestBought 23 = .ok (.ireturn, 1) := by decide +kernel
theorem dq_Way_fewestBought_24 : decode gc_Way_fewestBought 24 = .ok (.aload_n 0, 1) := by decide +kernel
theorem dq_Way_fewestBought_25 : decode gc_Way_fewestBought 25 = .ok (.invokevirtual 42, 3) := by decide +kernel
theorem dq_Way_fewestBought_28 : decode gc_Way_fewestBought 28 = .ok (.iinc 3 1, 3) := by decide +kernel
theorem dq_Way_fewestBought_31 : decode gc_Way_fewestBought 31 = .ok (.goto (-29), 3) := by decide +kernel
theorem dq_Way_fewestBought_34 : decode gc_Way_fewestBought 34 = .ok (.iconst (-1), 1) := by decide +kernel
theorem dq_Way_fewestBought_35 : decode gc_Way_fewestBought 35 = .ok (.ireturn, 1) := by decide +kernel
abbrev gm_Way_fewestBought : gM := (gc_Way_fewestBought, gR_5, 3, 71, 4)
set_option maxRecDepth 20000 in
theorem gcy_Way_39 : gCy gR_5 39 gy_Way_spread gc_Way_spread 4 none 0 := ⟨(gtab_at 626 (by decide +kernel) rfl), (gtab_at 5 (by decide +kernel) rfl), (gtab_at 605 rfl rfl), by decide, by decide, by decide +kernel⟩
theorem gim_Way_spread : Cond.instanceMethod gy_Way_spread ∈ gtbl := (gtab_at 603 (by decide +kernel) rfl)
theorem gse_Way_spread : Cond.selects gy_Way_spread.cls gy_Way_spread gy_Way_spread ∈ gtbl := (gtab_at 604 (by decide +kernel) rfl)
set_option maxRecDepth 20000 in
theorem gcy_Way_42 : gCy gR_5 42 gy_Way_buyOne gc_Way_buyOne 2 none 0 := ⟨(gtab_at 627 (by decide +kernel) rfl), (gtab_at 5 (by decide +kernel) rfl), (gtab_at 630 rfl rfl), by decide, by decide, by decide +kernel⟩
theorem gim_Way_buyOne : Cond.instanceMethod gy_Way_buyOne ∈ gtbl := (gtab_at 629 (by decide +kernel) rfl)
theorem gse_Way_buyOne : Cond.selects gy_Way_buyOne.cls gy_Way_buyOne gy_Way_buyOne ∈ gtbl := (by decide +kernel)
def f_Way_fewestBought_L2 (v1 : Int) (v2 : Int) (k34 : gH → Option gO) : Nat → Int → gH → Option gO
  | 0, _, _ => none
  | n + 1, v3, h => if 7 ≤ v3 then (k34  h) else (gb (f_Way_spread  h) (fun h2 r3 => gd (gix 7 v1) (if v2 < (h2 70 v1.toNat) then (gb (f_Way_buyOne  h2) (fun h5 r6 => f_Way_fewestBought_L2 v1 v2 k34 n (gadd v3 1) h5)) else (some (h2, v3)))))
theorem w_Way_fewestBought_L2 {o : gO} {X : gX} (hL : gLive (xZ X)) (hn : (zL (xZ X)).Nodup) (hF : gFin X (some .int) o) {v1 : Int} {v2 : Int}   {k34 : gH → Option gO} (hk34 : ∀ (h : gH), gr (k34 h) o gm_Way_fewestBought X h 34 [] []) : ∀ (n : Nat) (v3 : Int) (h : gH), gr (f_Way_fewestBought_L2 v1 v2 k34 n v3 h) o gm_Way_fewestBought X h 2 [(0, .inr (.inr 69)), (1, .inl v1), (2, .inl v2), (3, .inl v3)] [] := by
  intro n
  induction n with
  | zero => intros; exact gr_none
  | succ n ih =>
    intro v3 h
    unfold f_Way_fewestBought_L2
    refine gr_iload_n (M := gm_Way_fewestBought) dq_Way_fewestBought_2 rfl 3 rfl 3 rfl ?_
    refine gr_bipush (M := gm_Way_fewestBought) (v := 7) dq_Way_fewestBought_3 (by decide) ⟨by decide, by decide⟩ 5 rfl ?_
    refine gr_icmp_ge (M := gm_Way_fewestBought) dq_Way_fewestBought_5 34 8 rfl rfl (fun c1 => ?_) (fun c1 => ?_)
    · refine gr_sub (M := gm_Way_fewestBought) (lv' := []) [] rfl ?_
      exact hk34  _
    refine gr_aload_n (M := gm_Way_fewestBought) dq_Way_fewestBought_8 rfl 0 rfl 9 rfl ?_
    refine gr_callVv (M := gm_Way_fewestBought) (as := []) dq_Way_fewestBought_9 12 rfl rfl gcy_Way_39 gim_Way_spread gse_Way_spread ⟨by decide, by decide⟩ (Nat.le_of_ble_eq_true rfl) gsh_69 rfl (gli hL gsh_69) (fun o1 hg ha hx => c_Way_spread hL hn  hg ha hx) (fun h2 r3 _ => ?_)
    refine gr_aload_n (M := gm_Way_fewestBought) dq_Way_fewestBought_12 rfl 0 rfl 13 rfl ?_
    refine gr_getr (M := gm_Way_fewestBought) dq_Way_fewestBought_13 16 rfl gfl_Way_11 gsh_69 rfl (gli hL gsh_69) 70 rfl ?_
    refine gr_iload_n (M := gm_Way_fewestBought) dq_Way_fewestBought_16 rfl 1 rfl 17 rfl ?_
    refine gr_iald (M := gm_Way_fewestBought) dq_Way_fewestBought_17 18 rfl gsh_70 (glj hL gsh_70 (by decide)) ?_
    refine gr_iload_n (M := gm_Way_fewestBought) dq_Way_fewestBought_18 rfl 2 rfl 19 rfl ?_
    refine gr_icmp_gt (M := gm_Way_fewestBought) dq_Way_fewestBought_19 24 22 rfl rfl (fun c4 => ?_) (fun c4 => ?_)
    · refine gr_aload_n (M := gm_Way_fewestBought) dq_Way_fewestBought_24 rfl 0 rfl 25 rfl ?_
      refine gr_callVv (M := gm_Way_fewestBought) (as := []) dq_Way_fewestBought_25 28 rfl rfl gcy_Way_42 gim_Way_buyOne gse_Way_buyOne ⟨by decide, by decide⟩ (Nat.le_of_ble_eq_true rfl) gsh_69 rfl (gli hL gsh_69) (fun o1 hg ha hx => c_Way_buyOne hL hn  hg ha hx) (fun h5 r6 _ => ?_)
      refine gr_iinc (M := gm_Way_fewestBought) (lv' := [(3, .inl (gadd v3 1)), (0, .inr (.inr 69)), (1, .inl v1), (2, .inl v2)]) dq_Way_fewestBought_28 3 rfl rfl (by decide) rfl 31 rfl ?_
      refine gr_goto (M := gm_Way_fewestBought) dq_Way_fewestBought_31 2 rfl ?_
      refine gr_sub (M := gm_Way_fewestBought) (lv' := [(0, .inr (.inr 69)), (1, .inl v1), (2, .inl v2), (3, .inl (gadd v3 1))]) [1, 2, 3, 0] rfl ?_
      exact ih _ _
    refine gr_iload_n (M := gm_Way_fewestBought) dq_Way_fewestBought_22 rfl 3 rfl 23 rfl ?_
    exact gr_ireturn (M := gm_Way_fewestBought) dq_Way_fewestBought_23 hF

def f_Way_fewestBought (a1 : Int) (a2 : Int) (h : gH) : Option gO := f_Way_fewestBought_L2 a1 a2 (fun  h7 => some (h7, (-1))) 50000 0 h
theorem c_Way_fewestBought {Z : gZ} (hL : gLive Z) (hn : (zL Z).Nodup) {a1 : Int} {a2 : Int}  {h : gH} {o : gO} (hg : gRg h) (ha : gRl [.inr (.inr 69), .inl a1, .inl a2]) (hx : f_Way_fewestBought a1 a2 h = some o) : gC Z gy_Way_fewestBought gc_Way_fewestBought 4 (some .int) 3 71 [.inr (.inr 69), .inl a1, .inl a2] h o := by
  unfold f_Way_fewestBought at hx
  refine gC_of (lv := [(0, .inr (.inr 69)), (1, .inl a1), (2, .inl a2)]) (own := gR_5) (by decide +kernel) rfl (Nat.le_of_ble_eq_true rfl) rfl rfl hn hg ha hx (fun X hZ hF => ?_)
  subst hZ
  show gr _ o gm_Way_fewestBought X h 0 _ _
  refine gr_iconst (M := gm_Way_fewestBought) (v := 0) dq_Way_fewestBought_0 rfl ⟨by decide, by decide⟩ 1 rfl ?_
  refine gr_istore_n (M := gm_Way_fewestBought) (lv' := [(3, .inl 0), (0, .inr (.inr 69)), (1, .inl a1), (2, .inl a2)]) dq_Way_fewestBought_1 rfl (by decide) rfl 2 rfl ?_
  refine gr_sub (M := gm_Way_fewestBought) (lv' := [(0, .inr (.inr 69)), (1, .inl a1), (2, .inl a2), (3, .inl 0)]) [1, 2, 3, 0] rfl ?_
  refine w_Way_fewestBought_L2 hL hn hF   (fun h7 => ?_) 50000 _ _
  refine gr_iconst (M := gm_Way_fewestBought) (v := (-1)) dq_Way_fewestBought_34 rfl ⟨by decide, by decide⟩ 35 rfl ?_
  exact gr_ireturn (M := gm_Way_fewestBought) dq_Way_fewestBought_35 hF

