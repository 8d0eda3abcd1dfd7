-- Traffic_letIn
theorem dq_Traffic_letIn_0 : decode gc_Traffic_letIn 0 = .ok (.iconst 2, 1) := by decide +kernel
theorem dq_Traffic_letIn_1 : decode gc_Traffic_letIn 1 = .ok (.iload_n 1, 1) := by decide +kernel
theorem dq_Traffic_letIn_2 : decode gc_Traffic_letIn 2 = .ok (.imul, 1) := by decide +kernel
theorem dq_Traffic_letIn_3 : decode gc_Traffic_letIn 3 = .ok (.aload_n 0, 1) := by decide +kernel
theorem dq_Traffic_letIn_4 : decode gc_Traffic_letIn 4 = .ok (.getfield 17, 3) := by decide +kernel
theorem dq_Traffic_letIn_7 : decode gc_Traffic_letIn 7 = .ok (.iload_n 1, 1) := by decide +kernel
theorem dq_Traffic_letIn_8 : decode gc_Traffic_letIn 8 = .ok (.iaload, 1) := by decide +kernel
theorem dq_Traffic_letIn_9 : decode gc_Traffic_letIn 9 = .ok (.iadd, 1) := by decide +kernel
theorem dq_Traffic_letIn_10 : decode gc_Traffic_letIn 10 = .ok (.istore_n 2, 1) := by decide +kernel
theorem dq_Traffic_letIn_11 : decode gc_Traffic_letIn 11 = .ok (.aload_n 0, 1) := by decide +kernel
theorem dq_Traffic_letIn_12 : decode gc_Traffic_letIn 12 = .ok (.aload_n 0, 1) := by decide +kernel
theorem dq_Traffic_letIn_13 : decode gc_Traffic_letIn 13 = .ok (.getfield 23, 3) := by decide +kernel
theorem dq_Traffic_letIn_16 : decode gc_Traffic_letIn 16 = .ok (.iload_n 2, 1) := by decide +kernel
theorem dq_Traffic_letIn_17 : decode gc_Traffic_letIn 17 = .ok (.iaload, 1) := by decide +kernel
theorem dq_Traffic_letIn_18 : decode gc_Traffic_letIn 18 = .ok (.invokevirtual 153, 3) := by decide +kernel
theorem dq_Traffic_letIn_21 : decode gc_Traffic_letIn 21 = .ok (.istore_n 3, 1) := by decide +kernel
theorem dq_Traffic_letIn_22 : decode gc_Traffic_letIn 22 = .ok (.iload_n 3, 1) := by decide +kernel
theorem dq_Traffic_letIn_23 : decode gc_Traffic_letIn 23 = .ok (.iconst (-1), 1) := by decide +kernel
theorem dq_Traffic_letIn_24 : decode gc_Traffic_letIn 24 = .ok (.if_icmp .eq 36, 3) := by decide +kernel
theorem dq_Traffic_letIn_27 : decode gc_Traffic_letIn 27 = .ok (.aload_n 0, 1) := by decide +kernel
theorem dq_Traffic_letIn_28 : decode gc_Traffic_letIn 28 = .ok (.getfield 23, 3) := by decide +kernel
theorem dq_Traffic_letIn_31 : decode gc_Traffic_letIn 31 = .ok (.iload_n 2, 1) := by decide +kernel
theorem dq_Traffic_letIn_32 : decode gc_Traffic_letIn 32 = .ok (.dup2, 1) := by decide +kernel
theorem dq_Traffic_letIn_33 : decode gc_Traffic_letIn 33 = .ok (.iaload, 1) := by decide +kernel
theorem dq_Traffic_letIn_34 : decode gc_Traffic_letIn 34 = .ok (.iconst 1, 1) := by decide +kernel
theorem dq_Traffic_letIn_35 : decode gc_Traffic_letIn 35 = .ok (.iload_n 3, 1) := by decide +kernel
theorem dq_Traffic_letIn_36 : decode gc_Traffic_letIn 36 = .ok (.ishl, 1) := by decide +kernel
theorem dq_Traffic_letIn_37 : decode gc_Traffic_letIn 37 = .ok (.iconst (-1), 1) := by decide +kernel
theorem dq_Traffic_letIn_38 : decode gc_Traffic_letIn 38 = .ok (.ixor, 1) := by decide +kernel
theorem dq_Traffic_letIn_39 : decode gc_Traffic_letIn 39 = .ok (.iand, 1) := by decide +kernel
theorem dq_Traffic_letIn_40 : decode gc_Traffic_letIn 40 = .ok (.iastore, 1) := by decide +kernel
theorem dq_Traffic_letIn_41 : decode gc_Traffic_letIn 41 = .ok (.aload_n 0, 1) := by decide +kernel
theorem dq_Traffic_letIn_42 : decode gc_Traffic_letIn 42 = .ok (.getfield 20, 3) := by decide +kernel
theorem dq_Traffic_letIn_45 : decode gc_Traffic_letIn 45 = .ok (.iload_n 1, 1) := by decide +kernel
theorem dq_Traffic_letIn_46 : decode gc_Traffic_letIn 46 = .ok (.dup2, 1) := by decide +kernel
theorem dq_Traffic_letIn_47 : decode gc_Traffic_letIn 47 = .ok (.iaload, 1) := by decide +kernel
theorem dq_Traffic_letIn_48 : decode gc_Traffic_letIn 48 = .ok (.iconst 1, 1) := by decide +kernel
theorem dq_Traffic_letIn_49 : decode gc_Traffic_letIn 49 = .ok (.iload_n 3, 1) := by decide +kernel
theorem dq_Traffic_letIn_50 : decode gc_Traffic_letIn 50 = .ok (.ishl, 1) := by decide +kernel
theorem dq_Traffic_letIn_51 : decode gc_Traffic_letIn 51 = .ok (.ior, 1) := by decide +kernel
theorem dq_Traffic_letIn_52 : decode gc_Traffic_letIn 52 = .ok (.iastore, 1) := by decide +kernel
theorem dq_Traffic_letIn_53 : decode gc_Traffic_letIn 53 = .ok (.aload_n 0, 1) := by decide +kernel
theorem dq_Traffic_letIn_54 : decode gc_Traffic_letIn 54 = .ok (.iload_n 3, 1) := by decide +kernel
theorem dq_Traffic_letIn_55 : decode gc_Traffic_letIn 55 = .ok (.iconst 2, 1) := by decide +kernel
theorem dq_Traffic_letIn_56 : decode gc_Traffic_letIn 56 = .ok (.iload_n 1, 1) := by decide +kernel
theorem dq_Traffic_letIn_57 : decode gc_Traffic_letIn 57 = .ok (.invokevirtual 143, 3) := by decide +kernel
theorem dq_Traffic_letIn_60 : decode gc_Traffic_letIn 60 = .ok (.return_, 1) := by decide +kernel
abbrev gm_Traffic_letIn : gM := (gc_Traffic_letIn, gR_4, 2, 45, 4)
set_option maxRecDepth 20000 in
theorem gcy_Traffic_153 : gCy gR_4 153 gy_Traffic_firstOf gc_Traffic_firstOf 4 (some .int) 1 := ⟨(gtab_at 545 (by decide +kernel) rfl), (gtab_at 4 (by decide +kernel) rfl), (gtab_at 460 rfl rfl), by decide, by decide, by decide +kernel⟩
theorem gim_Traffic_firstOf : Cond.instanceMethod gy_Traffic_firstOf ∈ gtbl := (gtab_at 458 (by decide +kernel) rfl)
theorem gse_Traffic_firstOf : Cond.selects gy_Traffic_firstOf.cls gy_Traffic_firstOf gy_Traffic_firstOf ∈ gtbl := (gtab_at 459 (by decide +kernel) rfl)
def f_Traffic_letIn (t : Nat) (a1 : Int) (h : gH) : Option gO := gd (gix 9 a1) (gd (gix 18 (gadd (gmul 2 a1) (h (t + 2) a1.toNat))) (gb (f_Traffic_firstOf t (h (t + 4) (gadd (gmul 2 a1) (h (t + 2) a1.toNat)).toNat) h) (fun h1 r2 => if r2 = (-1) then (some (h1, 0)) else (gd (gix 18 (gadd (gmul 2 a1) (h (t + 2) a1.toNat))) (gd (gix 18 (gadd (gmul 2 a1) (h (t + 2) a1.toNat))) (gs (gup h1 (t + 4) (gadd (gmul 2 a1) (h (t + 2) a1.toNat)).toNat (gand (h1 (t + 4) (gadd (gmul 2 a1) (h (t + 2) a1.toNat)).toNat) (gxor (gshl 1 r2) (-1)))) (fun h4 => gd (gix 9 a1) (gd (gix 9 a1) (gs (gup h4 (t + 3) a1.toNat (gor (h4 (t + 3) a1.toNat) (gshl 1 r2))) (fun h5 => gb (f_Traffic_settle t r2 2 a1 h5) (fun h6 r7 => some (h6, 0))))))))))))
theorem c_Traffic_letIn {Z : gZ} (hL : gLive Z) (hn : (zL Z).Nodup) {t : Nat} {a1 : Int} (ht : gsh t = .inr 4) {h : gH} {o : gO} (hg : gRg h) (ha : gRl [.inr (.inr t), .inl a1]) (hx : f_Traffic_letIn t a1 h = some o) : gC Z gy_Traffic_letIn gc_Traffic_letIn 4 none 2 45 [.inr (.inr t), .inl a1] h o := by
  unfold f_Traffic_letIn at hx
  refine gC_of (lv := [(0, .inr (.inr t)), (1, .inl a1)]) (own := gR_4) (by decide +kernel) rfl (Nat.le_of_ble_eq_true rfl) rfl rfl hn hg ha hx (fun X hZ hF => ?_)
  subst hZ
  show gr _ o gm_Traffic_letIn X h 0 _ _
  refine gr_iconst (M := gm_Traffic_letIn) (v := 2) dq_Traffic_letIn_0 rfl ⟨by decide, by decide⟩ 1 rfl ?_
  refine gr_iload_n (M := gm_Traffic_letIn) dq_Traffic_letIn_1 rfl 1 rfl 2 rfl ?_
  refine gr_imul (M := gm_Traffic_letIn) dq_Traffic_letIn_2 3 rfl ?_
  refine gr_aload_n (M := gm_Traffic_letIn) dq_Traffic_letIn_3 rfl 0 rfl 4 rfl ?_
  refine gr_getr (M := gm_Traffic_letIn) dq_Traffic_letIn_4 7 rfl gfl_Traffic_17 ht rfl (gli hL ht) (t + 2) rfl ?_
  refine gr_iload_n (M := gm_Traffic_letIn) dq_Traffic_letIn_7 rfl 1 rfl 8 rfl ?_
  refine gr_iald (M := gm_Traffic_letIn) dq_Traffic_letIn_8 9 rfl (gsT_2 ht) (glj hL (gsT_2 ht) (by decide)) ?_
  refine gr_iadd (M := gm_Traffic_letIn) dq_Traffic_letIn_9 10 rfl ?_
  refine gr_istore_n (M := gm_Traffic_letIn) (lv' := [(2, .inl (gadd (gmul 2 a1) (h (t + 2) a1.toNat))), (0, .inr (.inr t)), (1, .inl a1)]) dq_Traffic_letIn_10 rfl (by decide) rfl 11 rfl ?_
  refine gr_aload_n (M := gm_Traffic_letIn) dq_Traffic_letIn_11 rfl 1 rfl 12 rfl ?_
  refine gr_aload_n (M := gm_Traffic_letIn) dq_Traffic_letIn_12 rfl 1 rfl 13 rfl ?_
  refine gr_getr (M := gm_Traffic_letIn) dq_Traffic_letIn_13 16 rfl gfl_Traffic_23 ht rfl (gli hL ht) (t + 4) rfl ?_
  refine gr_iload_n (M := gm_Traffic_letIn) dq_Traffic_letIn_16 rfl 0 rfl 17 rfl ?_
  refine gr_iald (M := gm_Traffic_letIn) dq_Traffic_letIn_17 18 rfl (gsT_4 ht) (glj hL (gsT_4 ht) (by decide)) ?_
  refine gr_callVi (M := gm_Traffic_letIn) (as := [.inl (h (t + 4) (gadd (gmul 2 a1) (h (t + 2) a1.toNat)).toNat)]) dq_Traffic_letIn_18 21 rfl rfl gcy_Traffic_153 gim_Traffic_firstOf gse_Traffic_firstOf ⟨by decide, by decide⟩ (Nat.le_of_ble_eq_true rfl) ht rfl (gli hL ht) (fun o1 hg ha hx => c_Traffic_firstOf hL hn ht hg ha hx) (fun h1 r2 _ => ?_)
  refine gr_istore_n (M := gm_Traffic_letIn) (lv' := [(3, .inl r2), (2, .inl (gadd (gmul 2 a1) (h (t + 2) a1.toNat))), (0, .inr (.inr t)), (1, .inl a1)]) dq_Traffic_letIn_21 rfl (by decide) rfl 22 rfl ?_
  refine gr_iload_n (M := gm_Traffic_letIn) dq_Traffic_letIn_22 rfl 0 rfl 23 rfl ?_
  refine gr_iconst (M := gm_Traffic_letIn) (v := (-1)) dq_Traffic_letIn_23 rfl ⟨by decide, by decide⟩ 24 rfl ?_
  refine gr_icmp_eq (M := gm_Traffic_letIn) dq_Traffic_letIn_24 60 27 rfl rfl (fun c3 => ?_) (fun c3 => ?_)
  · exact gr_return (M := gm_Traffic_letIn) dq_Traffic_letIn_60 hF
  refine gr_aload_n (M := gm_Traffic_letIn) dq_Traffic_letIn_27 rfl 2 rfl 28 rfl ?_
  refine gr_getr (M := gm_Traffic_letIn) dq_Traffic_letIn_28 31 rfl gfl_Traffic_23 ht rfl (gli hL ht) (t + 4) rfl ?_
  refine gr_iload_n (M := gm_Traffic_letIn) dq_Traffic_letIn_31 rfl 1 rfl 32 rfl ?_
  refine gr_dup2 (M := gm_Traffic_letIn) dq_Traffic_letIn_32 (fun _ q => by cases q) (fun _ q => by cases q) 33 rfl ?_
  refine gr_iald (M := gm_Traffic_letIn) dq_Traffic_letIn_33 34 rfl (gsT_4 ht) (glj hL (gsT_4 ht) (by decide)) ?_
  refine gr_iconst (M := gm_Traffic_letIn) (v := 1) dq_Traffic_letIn_34 rfl ⟨by decide, by decide⟩ 35 rfl ?_
  refine gr_iload_n (M := gm_Traffic_letIn) dq_Traffic_letIn_35 rfl 0 rfl 36 rfl ?_
  refine gr_ishl (M := gm_Traffic_letIn) dq_Traffic_letIn_36 37 rfl ?_
  refine gr_iconst (M := gm_Traffic_letIn) (v := (-1)) dq_Traffic_letIn_37 rfl ⟨by decide, by decide⟩ 38 rfl ?_
  refine gr_ixor (M := gm_Traffic_letIn) dq_Traffic_letIn_38 39 rfl ?_
  refine gr_iand (M := gm_Traffic_letIn) dq_Traffic_letIn_39 40 rfl ?_
  refine gr_iast (M := gm_Traffic_letIn) dq_Traffic_letIn_40 41 rfl (gsT_4 ht) (glj hL (gsT_4 ht) (by decide)) (fun h4 _ => ?_)
  refine gr_aload_n (M := gm_Traffic_letIn) dq_Traffic_letIn_41 rfl 2 rfl 42 rfl ?_
  refine gr_getr (M := gm_Traffic_letIn) dq_Traffic_letIn_42 45 rfl gfl_Traffic_20 ht rfl (gli hL ht) (t + 3) rfl ?_
  refine gr_iload_n (M := gm_Traffic_letIn) dq_Traffic_letIn_45 rfl 3 rfl 46 rfl ?_
  refine gr_dup2 (M := gm_Traffic_letIn) dq_Traffic_letIn_46 (fun _ q => by cases q) (fun _ q => by cases q) 47 rfl ?_
  refine gr_iald (M := gm_Traffic_letIn) dq_Traffic_letIn_47 48 rfl (gsT_3 ht) (glj hL (gsT_3 ht) (by decide)) ?_
  refine gr_iconst (M := gm_Traffic_letIn) (v := 1) dq_Traffic_letIn_48 rfl ⟨by decide, by decide⟩ 49 rfl ?_
  refine gr_iload_n (M := gm_Traffic_letIn) dq_Traffic_letIn_49 rfl 0 rfl 50 rfl ?_
  refine gr_ishl (M := gm_Traffic_letIn) dq_Traffic_letIn_50 51 rfl ?_
  refine gr_ior (M := gm_Traffic_letIn) dq_Traffic_letIn_51 52 rfl ?_
  refine gr_iast (M := gm_Traffic_letIn) dq_Traffic_letIn_52 53 rfl (gsT_3 ht) (glj hL (gsT_3 ht) (by decide)) (fun h5 _ => ?_)
  refine gr_aload_n (M := gm_Traffic_letIn) dq_Traffic_letIn_53 rfl 2 rfl 54 rfl ?_
  refine gr_iload_n (M := gm_Traffic_letIn) dq_Traffic_letIn_54 rfl 0 rfl 55 rfl ?_
  refine gr_iconst (M := gm_Traffic_letIn) (v := 2) dq_Traffic_letIn_55 rfl ⟨by decide, by decide⟩ 56 rfl ?_
  refine gr_iload_n (M := gm_Traffic_letIn) dq_Traffic_letIn_56 rfl 3 rfl 57 rfl ?_
  refine gr_callVv (M := gm_Traffic_letIn) (as := [.inl r2, .inl 2, .inl a1]) dq_Traffic_letIn_57 60 rfl rfl gcy_Traffic_143 gim_Traffic_settle gse_Traffic_settle ⟨by decide, by decide⟩ (Nat.le_of_ble_eq_true rfl) ht rfl (gli hL ht) (fun o1 hg ha hx => c_Traffic_settle hL hn ht hg ha hx) (fun h6 r7 _ => ?_)
  exact gr_return (M := gm_Traffic_letIn) dq_Traffic_letIn_60 hF

-- Traffic_losePatience
theorem dq_Traffic_losePatience_0 : decode gc_Traffic_losePatience 0 = .ok (.aload_n 0, 1) := by decide +kernel
theorem dq_Traffic_losePatience_1 : decode gc_Traffic_losePatience 1 = .ok (.getfield 38, 3) := by decide +kernel
theorem dq_Traffic_losePatience_4 : decode gc_Traffic_losePatience 4 = .ok (.iload_n 1, 1) := by decide +kernel
theorem dq_Traffic_losePatience_5 : decode gc_Traffic_losePatience 5 = .ok (.dup2, 1) := by decide +kernel
theorem dq_Traffic_losePatience_6 : decode gc_Traffic_losePatience 6 = .ok (.iaload, 1) := by decide +kernel
theorem dq_Traffic_losePatience_7 : decode gc_Traffic_losePatience 7 = .ok (.iconst 1, 1) := by decide +kernel
theorem dq_Traffic_losePatience_8 : decode gc_Traffic_losePatience 8 = .ok (.iadd, 1) := by decide +kernel
theorem dq_Traffic_losePatience_9 : decode gc_Traffic_losePatience 9 = .ok (.iastore, 1) := by decide +kernel
theorem dq_Traffic_losePatience_10 : decode gc_Traffic_losePatience 10 = .ok (.aload_n 0, 1) := by decide +kernel
theorem dq_Traffic_losePatience_11 : decode gc_Traffic_losePatience 11 = .ok (.getfield 38, 3) := by decide +kernel
theorem dq_Traffic_losePatience_14 : decode gc_Traffic_losePatience 14 = .ok (.iload_n 1, 1) := by decide +kernel
theorem dq_Traffic_losePatience_15 : decode gc_Traffic_losePatience 15 = .ok (.iaload, 1) := by decide +kernel
theorem dq_Traffic_losePatience_16 : decode gc_Traffic_losePatience 16 = .ok (.aload_n 0, 1) := by decide +kernel
theorem dq_Traffic_losePatience_17 : decode gc_Traffic_losePatience 17 = .ok (.getfield 45, 3) := by decide +kernel
theorem dq_Traffic_losePatience_20 : decode gc_Traffic_losePatience 20 = .ok (.getfield 156, 3) := by decide +kernel
theorem dq_Traffic_losePatience_23 : decode gc_Traffic_losePatience 23 = .ok (.iload_n 1, 1) := by decide +kernel
theorem dq_Traffic_losePatience_24 : decode gc_Traffic_losePatience 24 = .ok (.iaload, 1) := by decide +kernel
theorem dq_Traffic_losePatience_25 : decode gc_Traffic_losePatience 25 = .ok (.if_icmp .le 66, 3) := by decide +kernel
theorem dq_Traffic_losePatience_28 : decode gc_Traffic_losePatience 28 = .ok (.aload_n 0, 1) := by decide +kernel
theorem dq_Traffic_losePatience_29 : decode gc_Traffic_losePatience 29 = .ok (.getfield 32, 3) := by decide +kernel
theorem dq_Traffic_losePatience_32 : decode gc_Traffic_losePatience 32 = .ok (.iload_n 1, 1) := by decide +kernel
theorem dq_Traffic_losePatience_33 : decode gc_Traffic_losePatience 33 = .ok (.iaload, 1) := by decide +kernel
theorem dq_Traffic_losePatience_34 : decode gc_Traffic_losePatience 34 = .ok (.istore_n 2, 1) := by decide +kernel
theorem dq_Traffic_losePatience_35 : decode gc_Traffic_losePatience 35 = .ok (.aload_n 0, 1) := by decide +kernel
theorem dq_Traffic_losePatience_36 : decode gc_Traffic_losePatience 36 = .ok (.getfield 45, 3) := by decide +kernel
theorem dq_Traffic_losePatience_39 : decode gc_Traffic_losePatience 39 = .ok (.iload_n 2, 1) := by decide +kernel
theorem dq_Traffic_losePatience_40 : decode gc_Traffic_losePatience 40 = .ok (.aload_n 0, 1) := by decide +kernel
theorem dq_Traffic_losePatience_41 : decode gc_Traffic_losePatience 41 = .ok (.getfield 45, 3) := by decide +kernel
theorem dq_Traffic_losePatience_44 : decode gc_Traffic_losePatience 44 = .ok (.getfield 140, 3) := by decide +kernel
theorem dq_Traffic_losePatience_47 : decode gc_Traffic_losePatience 47 = .ok (.iload_n 1, 1) := by decide +kernel
theorem dq_Traffic_losePatience_48 : decode gc_Traffic_losePatience 48 = .ok (.iaload, 1) := by decide +kernel
theorem dq_Traffic_losePatience_49 : decode gc_Traffic_losePatience 49 = .ok (.invokevirtual 147, 3) := by decide +kernel
theorem dq_Traffic_losePatience_52 : decode gc_Traffic_losePatience 52 = .ok (.istore_n 3, 1) := by decide +kernel
theorem dq_Traffic_losePatience_53 : decode gc_Traffic_losePatience 53 = .ok (.iload_n 3, 1) := by decide +kernel
theorem dq_Traffic_losePatience_54 : decode gc_Traffic_losePatience 54 = .ok (.iconst (-1), 1) := by decide +kernel
theorem dq_Traffic_losePatience_55 : decode gc_Traffic_losePatience 55 = .ok (.if_icmp .eq 29, 3) := by decide +kernel
theorem dq_Traffic_losePatience_58 : decode gc_Traffic_losePatience 58 = .ok (.aload_n 0, 1) := by decide +kernel
theorem dq_Traffic_losePatience_59 : decode gc_Traffic_losePatience 59 = .ok (.getfield 23, 3) := by decide +kernel
theorem dq_Traffic_losePatience_62 : decode gc_Traffic_losePatience 62 = .ok (.iconst 2, 1) := by decide +kernel
theorem dq_Traffic_losePatience_63 : decode gc_Traffic_losePatience 63 = .ok (.iload_n 3, 1) := by decide +kernel
theorem dq_Traffic_losePatience_64 : decode gc_Traffic_losePatience 64 = .ok (.imul, 1) := by decide +kernel
theorem dq_Traffic_losePatience_65 : decode gc_Traffic_losePatience 65 = .ok (.aload_n 0, 1) := by decide +kernel
theorem dq_Traffic_losePatience_66 : decode gc_Traffic_losePatience 66 = .ok (.getfield 45, 3) := by decide +kernel
theorem dq_Traffic_losePatience_69 : decode gc_Traffic_losePatience 69 = .ok (.iload_n 3, 1) := by decide +kernel
theorem dq_Traffic_losePatience_70 : decode gc_Traffic_losePatience 70 = .ok (.iload_n 2, 1) := by decide +kernel
theorem dq_Traffic_losePatience_71 : decode gc_Traffic_losePatience 71 = .ok (.invokevirtual 150, 3) := by decide +kernel
theorem dq_Traffic_losePatience_74 : decode gc_Traffic_losePatience 74 = .ok (.iadd, 1) := by decide +kernel
theorem dq_Traffic_losePatience_75 : decode gc_Traffic_losePatience 75 = .ok (.dup2, 1) := by decide +kernel
theorem dq_Traffic_losePatience_76 : decode gc_Traffic_losePatience 76 = .ok (.iaload, 1) := by decide +kernel
theorem dq_Traffic_losePatience_77 : decode gc_Traffic_losePatience 77 = .ok (.iconst 1, 1) := by decide +kernel
theorem dq_Traffic_losePatience_78 : decode gc_Traffic_losePatience 78 = .ok (.iload_n 1, 1) := by decide +kernel
theorem dq_Traffic_losePatience_79 : decode gc_Traffic_losePatience 79 = .ok (.ishl, 1) := by decide +kernel
theorem dq_Traffic_losePatience_80 : decode gc_Traffic_losePatience 80 = .ok (.iconst (-1), 1) := by decide +kernel
theorem dq_Traffic_losePatience_81 : decode gc_Traffic_losePatience 81 = .ok (.ixor, 1) := by decide +kernel
theorem dq_Traffic_losePatience_82 : decode gc_Traffic_losePatience 82 = .ok (.iand, 1) := by decide +kernel
theorem dq_Traffic_losePatience_83 : decode gc_Traffic_losePatience 83 = .ok (.iastore, 1) := by decide +kernel
theorem dq_Traffic_losePatience_84 : decode gc_Traffic_losePatience 84 = .ok (.aload_n 0, 1) := by decide +kernel
theorem dq_Traffic_losePatience_85 : decode gc_Traffic_losePatience 85 = .ok (.iload_n 1, 1) := by decide +kernel
theorem dq_Traffic_losePatience_86 : decode gc_Traffic_losePatience 86 = .ok (.iconst 4, 1) := by decide +kernel
theorem dq_Traffic_losePatience_87 : decode gc_Traffic_losePatience 87 = .ok (.iload_n 2, 1) := by decide +kernel
theorem dq_Traffic_losePatience_88 : decode gc_Traffic_losePatience 88 = .ok (.invokevirtual 143, 3) := by decide +kernel
theorem dq_Traffic_losePatience_91 : decode gc_Traffic_losePatience 91 = .ok (.return_, 1) := by decide +kernel
abbrev gm_Traffic_losePatience : gM := (gc_Traffic_losePatience, gR_4, 1, 23, 4)
theorem gfl_Traffic_156 : gFl gR_4 156 0 12 := ⟨_, _, _, rfl, by decide, (gtab_at 80 (by decide +kernel) rfl), gin_0⟩
def f_Traffic_losePatience_J84 (t : Nat)  (v1 : Int) (v2 : Int) (h : gH) : Option gO := gb (f_Traffic_settle t v1 4 v2 h) (fun h9 r10 => some (h9, 0))
theorem w_Traffic_losePatience_J84 {o : gO} {X : gX} (hL : gLive (xZ X)) (hn : (zL (xZ X)).Nodup) (hF : gFin X none o) {t : Nat} (ht : gsh t = .inr 4)   {v1 : Int} {v2 : Int} {h : gH}  : gr (f_Traffic_losePatience_J84 t  v1 v2 h) o gm_Traffic_losePatience X h 84 [(0, .inr (.inr t)), (1, .inl v1), (2, .inl v2)] [] := by
  unfold f_Traffic_losePatience_J84
  refine gr_aload_n (M := gm_Traffic_losePatience) dq_Traffic_losePatience_84 rfl 0 rfl 85 rfl ?_
  refine gr_iload_n (M := gm_Traffic_losePatience) dq_Traffic_losePatience_85 rfl 1 rfl 86 rfl ?_
  refine gr_iconst (M := gm_Traffic_losePatience) (v := 4) dq_Traffic_losePatience_86 rfl ⟨by decide, by decide⟩ 87 rfl ?_
  refine gr_iload_n (M := gm_Traffic_losePatience) dq_Traffic_losePatience_87 rfl 2 rfl 88 rfl ?_
  refine gr_callVv (M := gm_Traffic_losePatience) (as := [.inl v1, .inl 4, .inl v2]) dq_Traffic_losePatience_88 91 rfl rfl gcy_Traffic_143 gim_Traffic_settle gse_Traffic_settle ⟨by decide, by decide⟩ (Nat.le_of_ble_eq_true rfl) ht rfl (gli hL ht) (fun o1 hg ha hx => c_Traffic_settle hL hn ht hg ha hx) (fun h9 r10 _ => ?_)
  exact gr_return (M := gm_Traffic_losePatience) dq_Traffic_losePatience_91 hF

def f_Traffic_losePatience (t : Nat) (a1 : Int) (h : gH) : Option gO := gd (gix 6 a1) (gd (gix 6 a1) (gs (gup h (t + 9) a1.toNat (gadd (h (t + 9) a1.toNat) 1)) (fun h1 => gd (gix 6 a1) (gd (gcl ((h1 t 0).toNat) 0) (gd (gix 6 a1) (if (h1 (t + 9) a1.toNat) ≤ (h1 ((h1 t 0).toNat + 9) a1.toNat) then (some (h1, 0)) else (gd (gix 6 a1) (gd (gcl ((h1 t 0).toNat) 0) (gd (gcl ((h1 t 0).toNat) 0) (gd (gix 6 a1) (gb (f_City_nextStreet (h1 t 0).toNat (h1 (t + 7) a1.toNat) (h1 ((h1 t 0).toNat + 6) a1.toNat) h1) (fun h6 r7 => if r7 = (-1) then (f_Traffic_losePatience_J84 t  a1 (h1 (t + 7) a1.toNat) h6) else (gd (gcl ((h6 t 0).toNat) 0) (gb (f_City_sideOf (h6 t 0).toNat r7 (h1 (t + 7) a1.toNat) h6) (fun h12 r13 => gd (gix 18 (gadd (gmul 2 r7) r13)) (gd (gix 18 (gadd (gmul 2 r7) r13)) (gs (gup h12 (t + 4) (gadd (gmul 2 r7) r13).toNat (gand (h12 (t + 4) (gadd (gmul 2 r7) r13).toNat) (gxor (gshl 1 a1) (-1)))) (fun h14 => f_Traffic_losePatience_J84 t  a1 (h1 (t + 7) a1.toNat) h14))))))))))))))))))
theorem c_Traffic_losePatience {Z : gZ} (hL : gLive Z) (hn : (zL Z).Nodup) {t : Nat} {a1 : Int} (ht : gsh t = .inr 4) {h : gH} {o : gO} (hg : gRg h) (ha : gRl [.inr (.inr t), .inl a1]) (hx : f_Traffic_losePatience t a1 h = some o) : gC Z gy_Traffic_losePatience gc_Traffic_losePatience 4 none 1 23 [.inr (.inr t), .inl a1] h o := by
  unfold f_Traffic_losePatience at hx
  refine gC_of (lv := [(0, .inr (.inr t)), (1, .inl a1)]) (own := gR_4) (by decide +kernel) rfl (Nat.le_of_ble_eq_true rfl) rfl rfl hn hg ha hx (fun X hZ hF => ?_)
  subst hZ
  show gr _ o gm_Traffic_losePatience X h 0 _ _
  refine gr_aload_n (M := gm_Traffic_losePatience) dq_Traffic_losePatience_0 rfl 0 rfl 1 rfl ?_
  refine gr_getr (M := gm_Traffic_losePatience) dq_Traffic_losePatience_1 4 rfl gfl_Traffic_38 ht rfl (gli hL ht) (t + 9) rfl ?_
  refine gr_iload_n (M := gm_Traffic_losePatience) dq_Traffic_losePatience_4 rfl 1 rfl 5 rfl ?_
  refine gr_dup2 (M := gm_Traffic_losePatience) dq_Traffic_losePatience_5 (fun _ q => by cases q) (fun _ q => by cases q) 6 rfl ?_
  refine gr_iald (M := gm_Traffic_losePatience) dq_Traffic_losePatience_6 7 rfl (gsT_9 ht) (glj hL (gsT_9 ht) (by decide)) ?_
  refine gr_iconst (M := gm_Traffic_losePatience) (v := 1) dq_Traffic_losePatience_7 rfl ⟨by decide, by decide⟩ 8 rfl ?_
  refine gr_iadd (M := gm_Traffic_losePatience) dq_Traffic_losePatience_8 9 rfl ?_
  refine gr_iast (M := gm_Traffic_losePatience) dq_Traffic_losePatience_9 10 rfl (gsT_9 ht) (glj hL (gsT_9 ht) (by decide)) (fun h1 _ => ?_)
  refine gr_aload_n (M := gm_Traffic_losePatience) dq_Traffic_losePatience_10 rfl 0 rfl 11 rfl ?_
  refine gr_getr (M := gm_Traffic_losePatience) dq_Traffic_losePatience_11 14 rfl gfl_Traffic_38 ht rfl (gli hL ht) (t + 9) rfl ?_
  refine gr_iload_n (M := gm_Traffic_losePatience) dq_Traffic_losePatience_14 rfl 1 rfl 15 rfl ?_
  refine gr_iald (M := gm_Traffic_losePatience) dq_Traffic_losePatience_15 16 rfl (gsT_9 ht) (glj hL (gsT_9 ht) (by decide)) ?_
  refine gr_aload_n (M := gm_Traffic_losePatience) dq_Traffic_losePatience_16 rfl 0 rfl 17 rfl ?_
  refine gr_getd (M := gm_Traffic_losePatience) dq_Traffic_losePatience_17 20 rfl gfl_Traffic_45 ht rfl (gli hL ht) (fun hc2 => ?_)
  refine gr_getr (M := gm_Traffic_losePatience) dq_Traffic_losePatience_20 23 rfl gfl_Traffic_156 (gclE hc2) rfl (gli hL (gclE hc2)) ((h1 t 0).toNat + 9) rfl ?_
  refine gr_iload_n (M := gm_Traffic_losePatience) dq_Traffic_losePatience_23 rfl 1 rfl 24 rfl ?_
  refine gr_iald (M := gm_Traffic_losePatience) dq_Traffic_losePatience_24 25 rfl (gsC_9 (gclE hc2)) (glj hL (gsC_9 (gclE hc2)) (by decide)) ?_
  refine gr_icmp_le (M := gm_Traffic_losePatience) dq_Traffic_losePatience_25 91 28 rfl rfl (fun c3 => ?_) (fun c3 => ?_)
  · exact gr_return (M := gm_Traffic_losePatience) dq_Traffic_losePatience_91 hF
  refine gr_aload_n (M := gm_Traffic_losePatience) dq_Traffic_losePatience_28 rfl 0 rfl 29 rfl ?_
  refine gr_getr (M := gm_Traffic_losePatience) dq_Traffic_losePatience_29 32 rfl gfl_Traffic_32 ht rfl (gli hL ht) (t + 7) rfl ?_
  refine gr_iload_n (M := gm_Traffic_losePatience) dq_Traffic_losePatience_32 rfl 1 rfl 33 rfl ?_
  refine gr_iald (M := gm_Traffic_losePatience) dq_Traffic_losePatience_33 34 rfl (gsT_7 ht) (glj hL (gsT_7 ht) (by decide)) ?_
  refine gr_istore_n (M := gm_Traffic_losePatience) (lv' := [(2, .inl (h1 (t + 7) a1.toNat)), (0, .inr (.inr t)), (1, .inl a1)]) dq_Traffic_losePatience_34 rfl (by decide) rfl 35 rfl ?_
  refine gr_aload_n (M := gm_Traffic_losePatience) dq_Traffic_losePatience_35 rfl 1 rfl 36 rfl ?_
  refine gr_getd (M := gm_Traffic_losePatience) dq_Traffic_losePatience_36 39 rfl gfl_Traffic_45 ht rfl (gli hL ht) (fun hc4 => ?_)
  refine gr_iload_n (M := gm_Traffic_losePatience) dq_Traffic_losePatience_39 rfl 0 rfl 40 rfl ?_
  refine gr_aload_n (M := gm_Traffic_losePatience) dq_Traffic_losePatience_40 rfl 1 rfl 41 rfl ?_
  refine gr_getd (M := gm_Traffic_losePatience) dq_Traffic_losePatience_41 44 rfl gfl_Traffic_45 ht rfl (gli hL ht) (fun hc5 => ?_)
  refine gr_getr (M := gm_Traffic_losePatience) dq_Traffic_losePatience_44 47 rfl gfl_Traffic_140 (gclE hc5) rfl (gli hL (gclE hc5)) ((h1 t 0).toNat + 6) rfl ?_
  refine gr_iload_n (M := gm_Traffic_losePatience) dq_Traffic_losePatience_47 rfl 2 rfl 48 rfl ?_
  refine gr_iald (M := gm_Traffic_losePatience) dq_Traffic_losePatience_48 49 rfl (gsC_6 (gclE hc5)) (glj hL (gsC_6 (gclE hc5)) (by decide)) ?_
  refine gr_callVi (M := gm_Traffic_losePatience) (as := [.inl (h1 (t + 7) a1.toNat), .inl (h1 ((h1 t 0).toNat + 6) a1.toNat)]) dq_Traffic_losePatience_49 52 rfl rfl gcy_Traffic_147 gim_City_nextStreet gse_City_nextStreet ⟨by decide, by decide⟩ (Nat.le_of_ble_eq_true rfl) (gclE hc4) rfl (gli hL (gclE hc4)) (fun o1 hg ha hx => c_City_nextStreet hL hn (gclE hc4) hg ha hx) (fun h6 r7 _ => ?_)
  refine gr_istore_n (M := gm_Traffic_losePatience) (lv' := [(3, .inl r7), (2, .inl (h1 (t + 7) a1.toNat)), (0, .inr (.inr t)), (1, .inl a1)]) dq_Traffic_losePatience_52 rfl (by decide) rfl 53 rfl ?_
  refine gr_iload_n (M := gm_Traffic_losePatience) dq_Traffic_losePatience_53 rfl 0 rfl 54 rfl ?_
  refine gr_iconst (M := gm_Traffic_losePatience) (v := (-1)) dq_Traffic_losePatience_54 rfl ⟨by decide, by decide⟩ 55 rfl ?_
  refine gr_icmp_eq (M := gm_Traffic_losePatience) dq_Traffic_losePatience_55 84 58 rfl rfl (fun c8 => ?_) (fun c8 => ?_)
  · refine gr_sub (M := gm_Traffic_losePatience) (lv' := [(0, .inr (.inr t)), (1, .inl a1), (2, .inl (h1 (t + 7) a1.toNat))]) [2, 3, 1] rfl ?_
    exact w_Traffic_losePatience_J84 hL hn hF ht  
  refine gr_aload_n (M := gm_Traffic_losePatience) dq_Traffic_losePatience_58 rfl 2 rfl 59 rfl ?_
  refine gr_getr (M := gm_Traffic_losePatience) dq_Traffic_losePatience_59 62 rfl gfl_Traffic_23 ht rfl (gli hL ht) (t + 4) rfl ?_
  refine gr_iconst (M := gm_Traffic_losePatience) (v := 2) dq_Traffic_losePatience_62 rfl ⟨by decide, by decide⟩ 63 rfl ?_
  refine gr_iload_n (M := gm_Traffic_losePatience) dq_Traffic_losePatience_63 rfl 0 rfl 64 rfl ?_
  refine gr_imul (M := gm_Traffic_losePatience) dq_Traffic_losePatience_64 65 rfl ?_
  refine gr_aload_n (M := gm_Traffic_losePatience) dq_Traffic_losePatience_65 rfl 2 rfl 66 rfl ?_
  refine gr_getd (M := gm_Traffic_losePatience) dq_Traffic_losePatience_66 69 rfl gfl_Traffic_45 ht rfl (gli hL ht) (fun hc11 => ?_)
  refine gr_iload_n (M := gm_Traffic_losePatience) dq_Traffic_losePatience_69 rfl 0 rfl 70 rfl ?_
  refine gr_iload_n (M := gm_Traffic_losePatience) dq_Traffic_losePatience_70 rfl 1 rfl 71 rfl ?_
  refine gr_callVi (M := gm_Traffic_losePatience) (as := [.inl r7, .inl (h1 (t + 7) a1.toNat)]) dq_Traffic_losePatience_71 74 rfl rfl gcy_Traffic_150 gim_City_sideOf gse_City_sideOf ⟨by decide, by decide⟩ (Nat.le_of_ble_eq_true rfl) (gclE hc11) rfl (gli hL (gclE hc11)) (fun o1 hg ha hx => c_City_sideOf hL hn (gclE hc11) hg ha hx) (fun h12 r13 _ => ?_)
  refine gr_iadd (M := gm_Traffic_losePatience) dq_Traffic_losePatience_74 75 rfl ?_
  refine gr_dup2 (M := gm_Traffic_losePatience) dq_Traffic_losePatience_75 (fun _ q => by cases q) (fun _ q => by cases q) 76 rfl ?_
  refine gr_iald (M := gm_Traffic_losePatience) dq_Traffic_losePatience_76 77 rfl (gsT_4 ht) (glj hL (gsT_4 ht) (by decide)) ?_
  refine gr_iconst (M := gm_Traffic_losePatience) (v := 1) dq_Traffic_losePatience_77 rfl ⟨by decide, by decide⟩ 78 rfl ?_
  refine gr_iload_n (M := gm_Traffic_losePatience) dq_Traffic_losePatience_78 rfl 3 rfl 79 rfl ?_
  refine gr_ishl (M := gm_Traffic_losePatience) dq_Traffic_losePatience_79 80 rfl ?_
  refine gr_iconst (M := gm_Traffic_losePatience) (v := (-1)) dq_Traffic_losePatience_80 rfl ⟨by decide, by decide⟩ 81 rfl ?_
  refine gr_ixor (M := gm_Traffic_losePatience) dq_Traffic_losePatience_81 82 rfl ?_
  refine gr_iand (M := gm_Traffic_losePatience) dq_Traffic_losePatience_82 83 rfl ?_
  refine gr_iast (M := gm_Traffic_losePatience) dq_Traffic_losePatience_83 84 rfl (gsT_4 ht) (glj hL (gsT_4 ht) (by decide)) (fun h14 _ => ?_)
  refine gr_sub (M := gm_Traffic_losePatience) (lv' := [(0, .inr (.inr t)), (1, .inl a1), (2, .inl (h1 (t + 7) a1.toNat))]) [2, 3, 1] rfl ?_
  exact w_Traffic_losePatience_J84 hL hn hF ht  

-- Traffic_passOne
theorem dq_Traffic_passOne_0 : decode gc_Traffic_passOne 0 = .ok (.iconst 0, 1) := by decide +kernel
theorem dq_Traffic_passOne_1 : decode gc_Traffic_passOne 1 = .ok (.istore_n 1, 1) := by decide +kernel
theorem dq_Traffic_passOne_2 : decode gc_Traffic_passOne 2 = .ok (.iload_n 1, 1) := by decide +kernel
theorem dq_Traffic_passOne_3 : decode gc_Traffic_passOne 3 = .ok (.aload_n 0, 1) := by decide +kernel
theorem dq_Traffic_passOne_4 : decode gc_Traffic_passOne 4 = .ok (.getfield 45, 3) := by decide +kernel
theorem dq_Traffic_passOne_7 : decode gc_Traffic_passOne 7 = .ok (.getfield 74, 3) := by decide +kernel
theorem dq_Traffic_passOne_10 : decode gc_Traffic_passOne 10 = .ok (.if_icmp .ge 94, 3) := by decide +kernel
theorem dq_Traffic_passOne_13 : decode gc_Traffic_passOne 13 = .ok (.aload_n 0, 1) := by decide +kernel
theorem dq_Traffic_passOne_14 : decode gc_Traffic_passOne 14 = .ok (.getfield 29, 3) := by decide +kernel
theorem dq_Traffic_passOne_17 : decode gc_Traffic_passOne 17 = .ok (.iload_n 1, 1) := by decide +kernel
theorem dq_Traffic_passOne_18 : decode gc_Traffic_passOne 18 = .ok (.iaload, 1) := by decide +kernel
theorem dq_Traffic_passOne_19 : decode gc_Traffic_passOne 19 = .ok (.iconst 2, 1) := by decide +kernel
theorem dq_Traffic_passOne_20 : decode gc_Traffic_passOne 20 = .ok (.if_icmp .ne 39, 3) := by decide +kernel
theorem dq_Traffic_passOne_23 : decode gc_Traffic_passOne 23 = .ok (.aload_n 0, 1) := by decide +kernel
theorem dq_Traffic_passOne_24 : decode gc_Traffic_passOne 24 = .ok (.getfield 49, 3) := by decide +kernel
theorem dq_Traffic_passOne_27 : decode gc_Traffic_passOne 27 = .ok (.aload_n 0, 1) := by decide +kernel
theorem dq_Traffic_passOne_28 : decode gc_Traffic_passOne 28 = .ok (.getfield 35, 3) := by decide +kernel
theorem dq_Traffic_passOne_31 : decode gc_Traffic_passOne 31 = .ok (.iload_n 1, 1) := by decide +kernel
theorem dq_Traffic_passOne_32 : decode gc_Traffic_passOne 32 = .ok (.iaload, 1) := by decide +kernel
theorem dq_Traffic_passOne_33 : decode gc_Traffic_passOne 33 = .ok (.isub, 1) := by decide +kernel
theorem dq_Traffic_passOne_34 : decode gc_Traffic_passOne 34 = .ok (.aload_n 0, 1) := by decide +kernel
theorem dq_Traffic_passOne_35 : decode gc_Traffic_passOne 35 = .ok (.getfield 45, 3) := by decide +kernel
theorem dq_Traffic_passOne_38 : decode gc_Traffic_passOne 38 = .ok (.getfield 112, 3) := by decide +kernel
theorem dq_Traffic_passOne_41 : decode gc_Traffic_passOne 41 = .ok (.aload_n 0, 1) := by decide +kernel
theorem dq_Traffic_passOne_42 : decode gc_Traffic_passOne 42 = .ok (.getfield 32, 3) := by decide +kernel
theorem dq_Traffic_passOne_45 : decode gc_Traffic_passOne 45 = .ok (.iload_n 1, 1) := by decide +kernel
theorem dq_Traffic_passOne_46 : decode gc_Traffic_passOne 46 = .ok (.iaload, 1) := by decide +kernel
theorem dq_Traffic_passOne_47 : decode gc_Traffic_passOne 47 = .ok (.iaload, 1) := by decide +kernel
theorem dq_Traffic_passOne_48 : decode gc_Traffic_passOne 48 = .ok (.if_icmp .lt 11, 3) := by decide +kernel
theorem dq_Traffic_passOne_51 : decode gc_Traffic_passOne 51 = .ok (.aload_n 0, 1) := by decide +kernel
theorem dq_Traffic_passOne_52 : decode gc_Traffic_passOne 52 = .ok (.iload_n 1, 1) := by decide +kernel
theorem dq_Traffic_passOne_53 : decode gc_Traffic_passOne 53 = .ok (.invokevirtual 118, 3) := by decide +kernel
theorem dq_Traffic_passOne_56 : decode gc_Traffic_passOne 56 = .ok (.goto 42, 3) := by decide +kernel
theorem dq_Traffic_passOne_59 : decode gc_Traffic_passOne 59 = .ok (.aload_n 0, 1) := by decide +kernel
theorem dq_Traffic_passOne_60 : decode gc_Traffic_passOne 60 = .ok (.getfield 29, 3) := by decide +kernel
theorem dq_Traffic_passOne_63 : decode gc_Traffic_passOne 63 = .ok (.iload_n 1, 1) := by decide +kernel
theorem dq_Traffic_passOne_64 : decode gc_Traffic_passOne 64 = .ok (.iaload, 1) := by decide +kernel
theorem dq_Traffic_passOne_65 : decode gc_Traffic_passOne 65 = .ok (.ifCond .ne 33, 3) := by decide +kernel
theorem dq_Traffic_passOne_68 : decode gc_Traffic_passOne 68 = .ok (.aload_n 0, 1) := by decide +kernel
theorem dq_Traffic_passOne_69 : decode gc_Traffic_passOne 69 = .ok (.getfield 45, 3) := by decide +kernel
theorem dq_Traffic_passOne_72 : decode gc_Traffic_passOne 72 = .ok (.getfield 103, 3) := by decide +kernel
theorem dq_Traffic_passOne_75 : decode gc_Traffic_passOne 75 = .ok (.iload_n 1, 1) := by decide +kernel
theorem dq_Traffic_passOne_76 : decode gc_Traffic_passOne 76 = .ok (.iaload, 1) := by decide +kernel
theorem dq_Traffic_passOne_77 : decode gc_Traffic_passOne 77 = .ok (.aload_n 0, 1) := by decide +kernel
theorem dq_Traffic_passOne_78 : decode gc_Traffic_passOne 78 = .ok (.getfield 49, 3) := by decide +kernel
theorem dq_Traffic_passOne_81 : decode gc_Traffic_passOne 81 = .ok (.if_icmp .ne 17, 3) := by decide +kernel
theorem dq_Traffic_passOne_84 : decode gc_Traffic_passOne 84 = .ok (.aload_n 0, 1) := by decide +kernel
theorem dq_Traffic_passOne_85 : decode gc_Traffic_passOne 85 = .ok (.iload_n 1, 1) := by decide +kernel
theorem dq_Traffic_passOne_86 : decode gc_Traffic_passOne 86 = .ok (.aload_n 0, 1) := by decide +kernel
theorem dq_Traffic_passOne_87 : decode gc_Traffic_passOne 87 = .ok (.getfield 45, 3) := by decide +kernel
theorem dq_Traffic_passOne_90 : decode gc_Traffic_passOne 90 = .ok (.getfield 59, 3) := by decide +kernel
theorem dq_Traffic_passOne_93 : decode gc_Traffic_passOne 93 = .ok (.iload_n 1, 1) := by decide +kernel
theorem dq_Traffic_passOne_94 : decode gc_Traffic_passOne 94 = .ok (.iaload, 1) := by decide +kernel
theorem dq_Traffic_passOne_95 : decode gc_Traffic_passOne 95 = .ok (.invokevirtual 121, 3) := by decide +kernel
theorem dq_Traffic_passOne_98 : decode gc_Traffic_passOne 98 = .ok (.iinc 1 1, 3) := by decide +kernel
theorem dq_Traffic_passOne_101 : decode gc_Traffic_passOne 101 = .ok (.goto (-99), 3) := by decide +kernel
theorem dq_Traffic_passOne_104 : decode gc_Traffic_passOne 104 = .ok (.iconst 0, 1) := by decide +kernel
theorem dq_Traffic_passOne_105 : decode gc_Traffic_passOne 105 = .ok (.istore_n 1, 1) := by decide +kernel
theorem dq_Traffic_passOne_106 : decode gc_Traffic_passOne 106 = .ok (.iload_n 1, 1) := by decide +kernel
theorem dq_Traffic_passOne_107 : decode gc_Traffic_passOne 107 = .ok (.aload_n 0, 1) := by decide +kernel
theorem dq_Traffic_passOne_108 : decode gc_Traffic_passOne 108 = .ok (.getfield 45, 3) := by decide +kernel
theorem dq_Traffic_passOne_111 : decode gc_Traffic_passOne 111 = .ok (.getfield 71, 3) := by decide +kernel
theorem dq_Traffic_passOne_114 : decode gc_Traffic_passOne 114 = .ok (.if_icmp .ge 34, 3) := by decide +kernel
theorem dq_Traffic_passOne_117 : decode gc_Traffic_passOne 117 = .ok (.aload_n 0, 1) := by decide +kernel
theorem dq_Traffic_passOne_118 : decode gc_Traffic_passOne 118 = .ok (.getfield 20, 3) := by decide +kernel
theorem dq_Traffic_passOne_121 : decode gc_Traffic_passOne 121 = .ok (.iload_n 1, 1) := by decide +kernel
theorem dq_Traffic_passOne_122 : decode gc_Traffic_passOne 122 = .ok (.iaload, 1) := by decide +kernel
theorem dq_Traffic_passOne_123 : decode gc_Traffic_passOne 123 = .ok (.ifCond .ne 14, 3) := by decide +kernel
theorem dq_Traffic_passOne_126 : decode gc_Traffic_passOne 126 = .ok (.aload_n 0, 1) := by decide +kernel
theorem dq_Traffic_passOne_127 : decode gc_Traffic_passOne 127 = .ok (.getfield 17, 3) := by decide +kernel
theorem dq_Traffic_passOne_130 : decode gc_Traffic_passOne 130 = .ok (.iload_n 1, 1) := by decide +kernel
theorem dq_Traffic_passOne_131 : decode gc_Traffic_passOne 131 = .ok (.aload_n 0, 1) := by decide +kernel
theorem dq_Traffic_passOne_132 : decode gc_Traffic_passOne 132 = .ok (.iload_n 1, 1) := by decide +kernel
theorem dq_Traffic_passOne_133 : decode gc_Traffic_passOne 133 = .ok (.invokevirtual 125, 3) := by decide +kernel
theorem dq_Traffic_passOne_136 : decode gc_Traffic_passOne 136 = .ok (.iastore, 1) := by decide +kernel
theorem dq_Traffic_passOne_137 : decode gc_Traffic_passOne 137 = .ok (.aload_n 0, 1) := by decide +kernel
theorem dq_Traffic_passOne_138 : decode gc_Traffic_passOne 138 = .ok (.iload_n 1, 1) := by decide +kernel
theorem dq_Traffic_passOne_139 : decode gc_Traffic_passOne 139 = .ok (.invokevirtual 128, 3) := by decide +kernel
theorem dq_Traffic_passOne_142 : decode gc_Traffic_passOne 142 = .ok (.iinc 1 1, 3) := by decide +kernel
theorem dq_Traffic_passOne_145 : decode gc_Traffic_passOne 145 = .ok (.goto (-39), 3) := by decide +kernel
theorem dq_Traffic_passOne_148 : decode gc_Traffic_passOne 148 = .ok (.iconst 0, 1) := by decide +kernel
theorem dq_Traffic_passOne_149 : decode gc_Traffic_passOne 149 = .ok (.istore_n 1, 1) := by decide +kernel
theorem dq_Traffic_passOne_150 : decode gc_Traffic_passOne 150 = .ok (.iload_n 1, 1) := by decide +kernel
theorem dq_Traffic_passOne_151 : decode gc_Traffic_passOne 151 = .ok (.aload_n 0, 1) := by decide +kernel
theorem dq_Traffic_passOne_152 : decode gc_Traffic_passOne 152 = .ok (.getfield 45, 3) := by decide +kernel
theorem dq_Traffic_passOne_155 : decode gc_Traffic_passOne 155 = .ok (.getfield 74, 3) := by decide +kernel
theorem dq_Traffic_passOne_158 : decode gc_Traffic_passOne 158 = .ok (.if_icmp .ge 24, 3) := by decide +kernel
theorem dq_Traffic_passOne_161 : decode gc_Traffic_passOne 161 = .ok (.aload_n 0, 1) := by decide +kernel
theorem dq_Traffic_passOne_162 : decode gc_Traffic_passOne 162 = .ok (.getfield 29, 3) := by decide +kernel
theorem dq_Traffic_passOne_165 : decode gc_Traffic_passOne 165 = .ok (.iload_n 1, 1) := by decide +kernel
theorem dq_Traffic_passOne_166 : decode gc_Traffic_passOne 166 = .ok (.iaload, 1) := by decide +kernel
theorem dq_Traffic_passOne_167 : decode gc_Traffic_passOne 167 = .ok (.iconst 1, 1) := by decide +kernel
theorem dq_Traffic_passOne_168 : decode gc_Traffic_passOne 168 = .ok (.if_icmp .ne 8, 3) := by decide +kernel
theorem dq_Traffic_passOne_171 : decode gc_Traffic_passOne 171 = .ok (.aload_n 0, 1) := by decide +kernel
theorem dq_Traffic_passOne_172 : decode gc_Traffic_passOne 172 = .ok (.iload_n 1, 1) := by decide +kernel
theorem dq_Traffic_passOne_173 : decode gc_Traffic_passOne 173 = .ok (.invokevirtual 131, 3) := by decide +kernel
theorem dq_Traffic_passOne_176 : decode gc_Traffic_passOne 176 = .ok (.iinc 1 1, 3) := by decide +kernel
theorem dq_Traffic_passOne_179 : decode gc_Traffic_passOne 179 = .ok (.goto (-29), 3) := by decide +kernel
theorem dq_Traffic_passOne_182 : decode gc_Traffic_passOne 182 = .ok (.aload_n 0, 1) := by decide +kernel
theorem dq_Traffic_passOne_183 : decode gc_Traffic_passOne 183 = .ok (.dup, 1) := by decide +kernel
theorem dq_Traffic_passOne_184 : decode gc_Traffic_passOne 184 = .ok (.getfield 49, 3) := by decide +kernel
theorem dq_Traffic_passOne_187 : decode gc_Traffic_passOne 187 = .ok (.iconst 1, 1) := by decide +kernel
theorem dq_Traffic_passOne_188 : decode gc_Traffic_passOne 188 = .ok (.iadd, 1) := by decide +kernel
theorem dq_Traffic_passOne_189 : decode gc_Traffic_passOne 189 = .ok (.putfield 49, 3) := by decide +kernel
theorem dq_Traffic_passOne_192 : decode gc_Traffic_passOne 192 = .ok (.return_, 1) := by decide +kernel
abbrev gm_Traffic_passOne : gM := (gc_Traffic_passOne, gR_4, 3, 69, 2)
set_option maxRecDepth 20000 in
theorem gcy_Traffic_118 : gCy gR_4 118 gy_Traffic_arrive gc_Traffic_arrive 4 none 1 := ⟨(gtab_at 504 (by decide +kernel) rfl), (gtab_at 4 (by decide +kernel) rfl), (gtab_at 507 rfl rfl), by decide, by decide, by decide +kernel⟩
theorem gim_Traffic_arrive : Cond.instanceMethod gy_Traffic_arrive ∈ gtbl := (gtab_at 506 (by decide +kernel) rfl)
theorem gse_Traffic_arrive : Cond.selects gy_Traffic_arrive.cls gy_Traffic_arrive gy_Traffic_arrive ∈ gtbl := (by decide +kernel)
set_option maxRecDepth 20000 in
theorem gcy_Traffic_128 : gCy gR_4 128 gy_Traffic_letIn gc_Traffic_letIn 4 none 1 := ⟨(gtab_at 541 (by decide +kernel) rfl), (gtab_at 4 (by decide +kernel) rfl), (gtab_at 544 rfl rfl), by decide, by decide, by decide +kernel⟩
theorem gim_Traffic_letIn : Cond.instanceMethod gy_Traffic_letIn ∈ gtbl := (gtab_at 543 (by decide +kernel) rfl)
theorem gse_Traffic_letIn : Cond.selects gy_Traffic_letIn.cls gy_Traffic_letIn gy_Traffic_letIn ∈ gtbl := (by decide +kernel)
set_option maxRecDepth 20000 in
theorem gcy_Traffic_125 : gCy gR_4 125 gy_Traffic_wayByLaw gc_Traffic_wayByLaw 4 (some .int) 1 := ⟨(gtab_at 521 (by decide +kernel) rfl), (gtab_at 4 (by decide +kernel) rfl), (gtab_at 524 rfl rfl), by decide, by decide, by decide +kernel⟩
theorem gim_Traffic_wayByLaw : Cond.instanceMethod gy_Traffic_wayByLaw ∈ gtbl := (gtab_at 523 (by decide +kernel) rfl)
theorem gse_Traffic_wayByLaw : Cond.selects gy_Traffic_wayByLaw.cls gy_Traffic_wayByLaw gy_Traffic_wayByLaw ∈ gtbl := (by decide +kernel)
set_option maxRecDepth 20000 in
theorem gcy_Traffic_131 : gCy gR_4 131 gy_Traffic_losePatience gc_Traffic_losePatience 4 none 1 := ⟨(gtab_at 546 (by decide +kernel) rfl), (gtab_at 4 (by decide +kernel) rfl), (gtab_at 549 rfl rfl), by decide, by decide, by decide +kernel⟩
theorem gim_Traffic_losePatience : Cond.instanceMethod gy_Traffic_losePatience ∈ gtbl := (gtab_at 548 (by decide +kernel) rfl)
theorem gse_Traffic_losePatience : Cond.selects gy_Traffic_losePatience.cls gy_Traffic_losePatience gy_Traffic_losePatience ∈ gtbl := (by decide +kernel)
def f_Traffic_passOne_J98 (t : Nat) (k2 : Int → gH → Option gO) (v1 : Int) (h : gH) : Option gO := k2 (gadd v1 1) h
theorem w_Traffic_passOne_J98 {o : gO} {X : gX} (hL : gLive (xZ X)) (hn : (zL (xZ X)).Nodup) (hF : gFin X none o) {t : Nat} (ht : gsh t = .inr 4)  {k2 : Int → gH → Option gO} {v1 : Int} {h : gH} (hk2 : ∀ (v1 : Int) (h : gH), gr (k2 v1 h) o gm_Traffic_passOne X h 2 [(0, .inr (.inr t)), (1, .inl v1)] []) : gr (f_Traffic_passOne_J98 t k2 v1 h) o gm_Traffic_passOne X h 98 [(0, .inr (.inr t)), (1, .inl v1)] [] := by
  unfold f_Traffic_passOne_J98
  refine gr_iinc (M := gm_Traffic_passOne) (lv' := [(1, .inl (gadd v1 1)), (0, .inr (.inr t))]) dq_Traffic_passOne_98 1 rfl rfl (by decide) rfl 101 rfl ?_
  refine gr_goto (M := gm_Traffic_passOne) dq_Traffic_passOne_101 2 rfl ?_
  refine gr_sub (M := gm_Traffic_passOne) (lv' := [(0, .inr (.inr t)), (1, .inl (gadd v1 1))]) [1, 0] rfl ?_
  exact hk2 _ _

def f_Traffic_passOne_J59 (t : Nat) (k2 : Int → gH → Option gO) (v1 : Int) (h : gH) : Option gO := gd (gix 6 v1) (if (h (t + 6) v1.toNat) = 0 then (gd (gcl ((h t 0).toNat) 0) (gd (gix 6 v1) (if (h ((h t 0).toNat + 7) v1.toNat) = (h t 1) then (gd (gcl ((h t 0).toNat) 0) (gd (gix 6 v1) (gb (f_Traffic_waitAt t v1 (h ((h t 0).toNat + 5) v1.toNat) h) (fun h8 r9 => f_Traffic_passOne_J98 t (k2) v1 h8)))) else (f_Traffic_passOne_J98 t (k2) v1 h)))) else (f_Traffic_passOne_J98 t (k2) v1 h))
theorem w_Traffic_passOne_J59 {o : gO} {X : gX} (hL : gLive (xZ X)) (hn : (zL (xZ X)).Nodup) (hF : gFin X none o) {t : Nat} (ht : gsh t = .inr 4)  {k2 : Int → gH → Option gO} {v1 : Int} {h : gH} (hk2 : ∀ (v1 : Int) (h : gH), gr (k2 v1 h) o gm_Traffic_passOne X h 2 [(0, .inr (.inr t)), (1, .inl v1)] []) : gr (f_Traffic_passOne_J59 t k2 v1 h) o gm_Traffic_passOne X h 59 [(0, .inr (.inr t)), (1, .inl v1)] [] := by
  unfold f_Traffic_passOne_J59
  refine gr_aload_n (M := gm_Traffic_passOne) dq_Traffic_passOne_59 rfl 0 rfl 60 rfl ?_
  refine gr_getr (M := gm_Traffic_passOne) dq_Traffic_passOne_60 63 rfl gfl_Traffic_29 ht rfl (gli hL ht) (t + 6) rfl ?_
  refine gr_iload_n (M := gm_Traffic_passOne) dq_Traffic_passOne_63 rfl 1 rfl 64 rfl ?_
  refine gr_iald (M := gm_Traffic_passOne) dq_Traffic_passOne_64 65 rfl (gsT_6 ht) (glj hL (gsT_6 ht) (by decide)) ?_
  refine gr_if_ne (M := gm_Traffic_passOne) dq_Traffic_passOne_65 98 68 rfl rfl (fun c4 => ?_) (fun c4 => ?_)
  · exact w_Traffic_passOne_J98 hL hn hF ht  hk2
  refine gr_aload_n (M := gm_Traffic_passOne) dq_Traffic_passOne_68 rfl 0 rfl 69 rfl ?_
  refine gr_getd (M := gm_Traffic_passOne) dq_Traffic_passOne_69 72 rfl gfl_Traffic_45 ht rfl (gli hL ht) (fun hc5 => ?_)
  refine gr_getr (M := gm_Traffic_passOne) dq_Traffic_passOne_72 75 rfl gfl_Traffic_103 (gclE hc5) rfl (gli hL (gclE hc5)) ((h t 0).toNat + 7) rfl ?_
  refine gr_iload_n (M := gm_Traffic_passOne) dq_Traffic_passOne_75 rfl 1 rfl 76 rfl ?_
  refine gr_iald (M := gm_Traffic_passOne) dq_Traffic_passOne_76 77 rfl (gsC_7 (gclE hc5)) (glj hL (gsC_7 (gclE hc5)) (by decide)) ?_
  refine gr_aload_n (M := gm_Traffic_passOne) dq_Traffic_passOne_77 rfl 0 rfl 78 rfl ?_
  refine gr_geti (M := gm_Traffic_passOne) dq_Traffic_passOne_78 81 rfl gfl_Traffic_49 ht rfl (gli hL ht) ?_
  refine gr_icmp_ne (M := gm_Traffic_passOne) dq_Traffic_passOne_81 98 84 rfl rfl (fun c6 => ?_) (fun c6 => ?_)
  · exact w_Traffic_passOne_J98 hL hn hF ht  hk2
  refine gr_aload_n (M := gm_Traffic_passOne) dq_Traffic_passOne_84 rfl 0 rfl 85 rfl ?_
  refine gr_iload_n (M := gm_Traffic_passOne) dq_Traffic_passOne_85 rfl 1 rfl 86 rfl ?_
  refine gr_aload_n (M := gm_Traffic_passOne) dq_Traffic_passOne_86 rfl 0 rfl 87 rfl ?_
  refine gr_getd (M := gm_Traffic_passOne) dq_Traffic_passOne_87 90 rfl gfl_Traffic_45 ht rfl (gli hL ht) (fun hc7 => ?_)
  refine gr_getr (M := gm_Traffic_passOne) dq_Traffic_passOne_90 93 rfl gfl_Traffic_59 (gclE hc7) rfl (gli hL (gclE hc7)) ((h t 0).toNat + 5) rfl ?_
  refine gr_iload_n (M := gm_Traffic_passOne) dq_Traffic_passOne_93 rfl 1 rfl 94 rfl ?_
  refine gr_iald (M := gm_Traffic_passOne) dq_Traffic_passOne_94 95 rfl (gsC_5 (gclE hc7)) (glj hL (gsC_5 (gclE hc7)) (by decide)) ?_
  refine gr_callVv (M := gm_Traffic_passOne) (as := [.inl v1, .inl (h ((h t 0).toNat + 5) v1.toNat)]) dq_Traffic_passOne_95 98 rfl rfl gcy_Traffic_121 gim_Traffic_waitAt gse_Traffic_waitAt ⟨by decide, by decide⟩ (Nat.le_of_ble_eq_true rfl) ht rfl (gli hL ht) (fun o1 hg ha hx => c_Traffic_waitAt hL hn ht hg ha hx) (fun h8 r9 _ => ?_)
  exact w_Traffic_passOne_J98 hL hn hF ht  hk2

def f_Traffic_passOne_L2 (t : Nat) (k104 : gH → Option gO) : Nat → Int → gH → Option gO
  | 0, _, _ => none
  | n + 1, v1, h => gd (gcl ((h t 0).toNat) 0) (if (h (h t 0).toNat 3) ≤ v1 then (k104  h) else (gd (gix 6 v1) (if (h (t + 6) v1.toNat) = 2 then (gd (gix 6 v1) (gd (gcl ((h t 0).toNat) 0) (gd (gix 6 v1) (gd (gix 9 (h (t + 7) v1.toNat)) (if (gsub (h t 1) (h (t + 8) v1.toNat)) < (h ((h t 0).toNat + 3) (h (t + 7) v1.toNat).toNat) then (f_Traffic_passOne_J59 t (f_Traffic_passOne_L2 t k104 n) v1 h) else (gb (f_Traffic_arrive t v1 h) (fun h12 r13 => f_Traffic_passOne_J98 t (f_Traffic_passOne_L2 t k104 n) v1 h12))))))) else (f_Traffic_passOne_J59 t (f_Traffic_passOne_L2 t k104 n) v1 h))))
theorem w_Traffic_passOne_L2 {o : gO} {X : gX} (hL : gLive (xZ X)) (hn : (zL (xZ X)).Nodup) (hF : gFin X none o) {t : Nat} (ht : gsh t = .inr 4)  {k104 : gH → Option gO} (hk104 : ∀ (h : gH), gr (k104 h) o gm_Traffic_passOne X h 104 [(0, .inr (.inr t))] []) : ∀ (n : Nat) (v1 : Int) (h : gH), gr (f_Traffic_passOne_L2 t k104 n v1 h) o gm_Traffic_passOne X h 2 [(0, .inr (.inr t)), (1, .inl v1)] [] := by
  intro n
  induction n with
  | zero => intros; exact gr_none
  | succ n ih =>
    intro v1 h
    unfold f_Traffic_passOne_L2
    refine gr_iload_n (M := gm_Traffic_passOne) dq_Traffic_passOne_2 rfl 1 rfl 3 rfl ?_
    refine gr_aload_n (M := gm_Traffic_passOne) dq_Traffic_passOne_3 rfl 0 rfl 4 rfl ?_
    refine gr_getd (M := gm_Traffic_passOne) dq_Traffic_passOne_4 7 rfl gfl_Traffic_45 ht rfl (gli hL ht) (fun hc1 => ?_)
    refine gr_geti (M := gm_Traffic_passOne) dq_Traffic_passOne_7 10 rfl gfl_Traffic_74 (gclE hc1) rfl (gli hL (gclE hc1)) ?_
    refine gr_icmp_ge (M := gm_Traffic_passOne) dq_Traffic_passOne_10 104 13 rfl rfl (fun c2 => ?_) (fun c2 => ?_)
    · refine gr_sub (M := gm_Traffic_passOne) (lv' := [(0, .inr (.inr t))]) [0] rfl ?_
      exact hk104  _
    refine gr_aload_n (M := gm_Traffic_passOne) dq_Traffic_passOne_13 rfl 0 rfl 14 rfl ?_
    refine gr_getr (M := gm_Traffic_passOne) dq_Traffic_passOne_14 17 rfl gfl_Traffic_29 ht rfl (gli hL ht) (t + 6) rfl ?_
    refine gr_iload_n (M := gm_Traffic_passOne) dq_Traffic_passOne_17 rfl 1 rfl 18 rfl ?_
    refine gr_iald (M := gm_Traffic_passOne) dq_Traffic_passOne_18 19 rfl (gsT_6 ht) (glj hL (gsT_6 ht) (by decide)) ?_
    refine gr_iconst (M := gm_Traffic_passOne) (v := 2) dq_Traffic_passOne_19 rfl ⟨by decide, by decide⟩ 20 rfl ?_
    refine gr_icmp_ne (M := gm_Traffic_passOne) dq_Traffic_passOne_20 59 23 rfl rfl (fun c3 => ?_) (fun c3 => ?_)
    · exact w_Traffic_passOne_J59 hL hn hF ht  ih
    refine gr_aload_n (M := gm_Traffic_passOne) dq_Traffic_passOne_23 rfl 0 rfl 24 rfl ?_
    refine gr_geti (M := gm_Traffic_passOne) dq_Traffic_passOne_24 27 rfl gfl_Traffic_49 ht rfl (gli hL ht) ?_
    refine gr_aload_n (M := gm_Traffic_passOne) dq_Traffic_passOne_27 rfl 0 rfl 28 rfl ?_
    refine gr_getr (M := gm_Traffic_passOne) dq_Traffic_passOne_28 31 rfl gfl_Traffic_35 ht rfl (gli hL ht) (t + 8) rfl ?_
    refine gr_iload_n (M := gm_Traffic_passOne) dq_Traffic_passOne_31 rfl 1 rfl 32 rfl ?_
    refine gr_iald (M := gm_Traffic_passOne) dq_Traffic_passOne_32 33 rfl (gsT_8 ht) (glj hL (gsT_8 ht) (by decide)) ?_
    refine gr_isub (M := gm_Traffic_passOne) dq_Traffic_passOne_33 34 rfl ?_
    refine gr_aload_n (M := gm_Traffic_passOne) dq_Traffic_passOne_34 rfl 0 rfl 35 rfl ?_
    refine gr_getd (M := gm_Traffic_passOne) dq_Traffic_passOne_35 38 rfl gfl_Traffic_45 ht rfl (gli hL ht) (fun hc10 => ?_)
    refine gr_getr (M := gm_Traffic_passOne) dq_Traffic_passOne_38 41 rfl gfl_Traffic_112 (gclE hc10) rfl (gli hL (gclE hc10)) ((h t 0).toNat + 3) rfl ?_
    refine gr_aload_n (M := gm_Traffic_passOne) dq_Traffic_passOne_41 rfl 0 rfl 42 rfl ?_
    refine gr_getr (M := gm_Traffic_passOne) dq_Traffic_passOne_42 45 rfl gfl_Traffic_32 ht rfl (gli hL ht) (t + 7) rfl ?_
    refine gr_iload_n (M := gm_Traffic_passOne) dq_Traffic_passOne_45 rfl 1 rfl 46 rfl ?_
    refine gr_iald (M := gm_Traffic_passOne) dq_Traffic_passOne_46 47 rfl (gsT_7 ht) (glj hL (gsT_7 ht) (by decide)) ?_
    refine gr_iald (M := gm_Traffic_passOne) dq_Traffic_passOne_47 48 rfl (gsC_3 (gclE hc10)) (glj hL (gsC_3 (gclE hc10)) (by decide)) ?_
    refine gr_icmp_lt (M := gm_Traffic_passOne) dq_Traffic_passOne_48 59 51 rfl rfl (fun c11 => ?_) (fun c11 => ?_)
    · exact w_Traffic_passOne_J59 hL hn hF ht  ih
    refine gr_aload_n (M := gm_Traffic_passOne) dq_Traffic_passOne_51 rfl 0 rfl 52 rfl ?_
    refine gr_iload_n (M := gm_Traffic_passOne) dq_Traffic_passOne_52 rfl 1 rfl 53 rfl ?_
    refine gr_callVv (M := gm_Traffic_passOne) (as := [.inl v1]) dq_Traffic_passOne_53 56 rfl rfl gcy_Traffic_118 gim_Traffic_arrive gse_Traffic_arrive ⟨by decide, by decide⟩ (Nat.le_of_ble_eq_true rfl) ht rfl (gli hL ht) (fun o1 hg ha hx => c_Traffic_arrive hL hn ht hg ha hx) (fun h12 r13 _ => ?_)
    refine gr_goto (M := gm_Traffic_passOne) dq_Traffic_passOne_56 98 rfl ?_
    exact w_Traffic_passOne_J98 hL hn hF ht  ih

def f_Traffic_passOne_J137 (t : Nat) (k106 : Int → gH → Option gO) (v1 : Int) (h : gH) : Option gO := gb (f_Traffic_letIn t v1 h) (fun h18 r19 => k106 (gadd v1 1) h18)
theorem w_Traffic_passOne_J137 {o : gO} {X : gX} (hL : gLive (xZ X)) (hn : (zL (xZ X)).Nodup) (hF : gFin X none o) {t : Nat} (ht : gsh t = .inr 4)  {k106 : Int → gH → Option gO} {v1 : Int} {h : gH} (hk106 : ∀ (v1 : Int) (h : gH), gr (k106 v1 h) o gm_Traffic_passOne X h 106 [(0, .inr (.inr t)), (1, .inl v1)] []) : gr (f_Traffic_passOne_J137 t k106 v1 h) o gm_Traffic_passOne X h 137 [(0, .inr (.inr t)), (1, .inl v1)] [] := by
  unfold f_Traffic_passOne_J137
  refine gr_aload_n (M := gm_Traffic_passOne) dq_Traffic_passOne_137 rfl 0 rfl 138 rfl ?_
  refine gr_iload_n (M := gm_Traffic_passOne) dq_Traffic_passOne_138 rfl 1 rfl 139 rfl ?_
  refine gr_callVv (M := gm_Traffic_passOne) (as := [.inl v1]) dq_Traffic_passOne_139 142 rfl rfl gcy_Traffic_128 gim_Traffic_letIn gse_Traffic_letIn ⟨by decide, by decide⟩ (Nat.le_of_ble_eq_true rfl) ht rfl (gli hL ht) (fun o1 hg ha hx => c_Traffic_letIn hL hn ht hg ha hx) (fun h18 r19 _ => ?_)
  refine gr_iinc (M := gm_Traffic_passOne) (lv' := [(1, .inl (gadd v1 1)), (0, .inr (.inr t))]) dq_Traffic_passOne_142 1 rfl rfl (by decide) rfl 145 rfl ?_
  refine gr_goto (M := gm_Traffic_passOne) dq_Traffic_passOne_145 106 rfl ?_
  refine gr_sub (M := gm_Traffic_passOne) (lv' := [(0, .inr (.inr t)), (1, .inl (gadd v1 1))]) [1, 0] rfl ?_
  exact hk106 _ _

def f_Traffic_passOne_L106 (t : Nat) (k148 : gH → Option gO) : Nat → Int → gH → Option gO
  | 0, _, _ => none
  | n + 1, v1, h => gd (gcl ((h t 0).toNat) 0) (if (h (h t 0).toNat 2) ≤ v1 then (k148  h) else (gd (gix 9 v1) (if (h (t + 3) v1.toNat) = 0 then (gb (f_Traffic_wayByLaw t v1 h) (fun h20 r21 => gd (gix 9 v1) (gs (gup h20 (t + 2) v1.toNat r21) (fun h22 => f_Traffic_passOne_J137 t (f_Traffic_passOne_L106 t k148 n) v1 h22)))) else (f_Traffic_passOne_J137 t (f_Traffic_passOne_L106 t k148 n) v1 h))))
theorem w_Traffic_passOne_L106 {o : gO} {X : gX} (hL : gLive (xZ X)) (hn : (zL (xZ X)).Nodup) (hF : gFin X none o) {t : Nat} (ht : gsh t = .inr 4)  {k148 : gH → Option gO} (hk148 : ∀ (h : gH), gr (k148 h) o gm_Traffic_passOne X h 148 [(0, .inr (.inr t))] []) : ∀ (n : Nat) (v1 : Int) (h : gH), gr (f_Traffic_passOne_L106 t k148 n v1 h) o gm_Traffic_passOne X h 106 [(0, .inr (.inr t)), (1, .inl v1)] [] := by
  intro n
  induction n with
  | zero => intros; exact gr_none
  | succ n ih =>
    intro v1 h
    unfold f_Traffic_passOne_L106
    refine gr_iload_n (M := gm_Traffic_passOne) dq_Traffic_passOne_106 rfl 1 rfl 107 rfl ?_
    refine gr_aload_n (M := gm_Traffic_passOne) dq_Traffic_passOne_107 rfl 0 rfl 108 rfl ?_
    refine gr_getd (M := gm_Traffic_passOne) dq_Traffic_passOne_108 111 rfl gfl_Traffic_45 ht rfl (gli hL ht) (fun hc15 => ?_)
    refine gr_geti (M := gm_Traffic_passOne) dq_Traffic_passOne_111 114 rfl gfl_Traffic_71 (gclE hc15) rfl (gli hL (gclE hc15)) ?_
    refine gr_icmp_ge (M := gm_Traffic_passOne) dq_Traffic_passOne_114 148 117 rfl rfl (fun c16 => ?_) (fun c16 => ?_)
    · refine gr_sub (M := gm_Traffic_passOne) (lv' := [(0, .inr (.inr t))]) [0] rfl ?_
      exact hk148  _
    refine gr_aload_n (M := gm_Traffic_passOne) dq_Traffic_passOne_117 rfl 0 rfl 118 rfl ?_
    refine gr_getr (M := gm_Traffic_passOne) dq_Traffic_passOne_118 121 rfl gfl_Traffic_20 ht rfl (gli hL ht) (t + 3) rfl ?_
    refine gr_iload_n (M := gm_Traffic_passOne) dq_Traffic_passOne_121 rfl 1 rfl 122 rfl ?_
    refine gr_iald (M := gm_Traffic_passOne) dq_Traffic_passOne_122 123 rfl (gsT_3 ht) (glj hL (gsT_3 ht) (by decide)) ?_
    refine gr_if_ne (M := gm_Traffic_passOne) dq_Traffic_passOne_123 137 126 rfl rfl (fun c17 => ?_) (fun c17 => ?_)
    · exact w_Traffic_passOne_J137 hL hn hF ht  ih
    refine gr_aload_n (M := gm_Traffic_passOne) dq_Traffic_passOne_126 rfl 0 rfl 127 rfl ?_
    refine gr_getr (M := gm_Traffic_passOne) dq_Traffic_passOne_127 130 rfl gfl_Traffic_17 ht rfl (gli hL ht) (t + 2) rfl ?_
    refine gr_iload_n (M := gm_Traffic_passOne) dq_Traffic_passOne_130 rfl 1 rfl 131 rfl ?_
    refine gr_aload_n (M := gm_Traffic_passOne) dq_Traffic_passOne_131 rfl 0 rfl 132 rfl ?_
    refine gr_iload_n (M := gm_Traffic_passOne) dq_Traffic_passOne_132 rfl 1 rfl 133 rfl ?_
    refine gr_callVi (M := gm_Traffic_passOne) (as := [.inl v1]) dq_Traffic_passOne_133 136 rfl rfl gcy_Traffic_125 gim_Traffic_wayByLaw gse_Traffic_wayByLaw ⟨by decide, by decide⟩ (Nat.le_of_ble_eq_true rfl) ht rfl (gli hL ht) (fun o1 hg ha hx => c_Traffic_wayByLaw hL hn ht hg ha hx) (fun h20 r21 _ => ?_)
    refine gr_iast (M := gm_Traffic_passOne) dq_Traffic_passOne_136 137 rfl (gsT_2 ht) (glj hL (gsT_2 ht) (by decide)) (fun h22 _ => ?_)
    exact w_Traffic_passOne_J137 hL hn hF ht  ih

def f_Traffic_passOne_J176 (t : Nat) (k150 : Int → gH → Option gO) (v1 : Int) (h : gH) : Option gO := k150 (gadd v1 1) h
theorem w_Traffic_passOne_J176 {o : gO} {X : gX} (hL : gLive (xZ X)) (hn : (zL (xZ X)).Nodup) (hF : gFin X none o) {t : Nat} (ht : gsh t = .inr 4)  {k150 : Int → gH → Option gO} {v1 : Int} {h : gH} (hk150 : ∀ (v1 : Int) (h : gH), gr (k150 v1 h) o gm_Traffic_passOne X h 150 [(0, .inr (.inr t)), (1, .inl v1)] []) : gr (f_Traffic_passOne_J176 t k150 v1 h) o gm_Traffic_passOne X h 176 [(0, .inr (.inr t)), (1, .inl v1)] [] := by
  unfold f_Traffic_passOne_J176
  refine gr_iinc (M := gm_Traffic_passOne) (lv' := [(1, .inl (gadd v1 1)), (0, .inr (.inr t))]) dq_Traffic_passOne_176 1 rfl rfl (by decide) rfl 179 rfl ?_
  refine gr_goto (M := gm_Traffic_passOne) dq_Traffic_passOne_179 150 rfl ?_
  refine gr_sub (M := gm_Traffic_passOne) (lv' := [(0, .inr (.inr t)), (1, .inl (gadd v1 1))]) [1, 0] rfl ?_
  exact hk150 _ _

def f_Traffic_passOne_L150 (t : Nat) (k182 : gH → Option gO) : Nat → Int → gH → Option gO
  | 0, _, _ => none
  | n + 1, v1, h => gd (gcl ((h t 0).toNat) 0) (if (h (h t 0).toNat 3) ≤ v1 then (k182  h) else (gd (gix 6 v1) (if (h (t + 6) v1.toNat) = 1 then (gb (f_Traffic_losePatience t v1 h) (fun h27 r28 => f_Traffic_passOne_J176 t (f_Traffic_passOne_L150 t k182 n) v1 h27)) else (f_Traffic_passOne_J176 t (f_Traffic_passOne_L150 t k182 n) v1 h))))
theorem w_Traffic_passOne_L150 {o : gO} {X : gX} (hL : gLive (xZ X)) (hn : (zL (xZ X)).Nodup) (hF : gFin X none o) {t : Nat} (ht : gsh t = .inr 4)  {k182 : gH → Option gO} (hk182 : ∀ (h : gH), gr (k182 h) o gm_Traffic_passOne X h 182 [(0, .inr (.inr t))] []) : ∀ (n : Nat) (v1 : Int) (h : gH), gr (f_Traffic_passOne_L150 t k182 n v1 h) o gm_Traffic_passOne X h 150 [(0, .inr (.inr t)), (1, .inl v1)] [] := by
  intro n
  induction n with
  | zero => intros; exact gr_none
  | succ n ih =>
    intro v1 h
    unfold f_Traffic_passOne_L150
    refine gr_iload_n (M := gm_Traffic_passOne) dq_Traffic_passOne_150 rfl 1 rfl 151 rfl ?_
    refine gr_aload_n (M := gm_Traffic_passOne) dq_Traffic_passOne_151 rfl 0 rfl 152 rfl ?_
    refine gr_getd (M := gm_Traffic_passOne) dq_Traffic_passOne_152 155 rfl gfl_Traffic_45 ht rfl (gli hL ht) (fun hc24 => ?_)
    refine gr_geti (M := gm_Traffic_passOne) dq_Traffic_passOne_155 158 rfl gfl_Traffic_74 (gclE hc24) rfl (gli hL (gclE hc24)) ?_
    refine gr_icmp_ge (M := gm_Traffic_passOne) dq_Traffic_passOne_158 182 161 rfl rfl (fun c25 => ?_) (fun c25 => ?_)
    · refine gr_sub (M := gm_Traffic_passOne) (lv' := [(0, .inr (.inr t))]) [0] rfl ?_
      exact hk182  _
    refine gr_aload_n (M := gm_Traffic_passOne) dq_Traffic_passOne_161 rfl 0 rfl 162 rfl ?_
    refine gr_getr (M := gm_Traffic_passOne) dq_Traffic_passOne_162 165 rfl gfl_Traffic_29 ht rfl (gli hL ht) (t + 6) rfl ?_
    refine gr_iload_n (M := gm_Traffic_passOne) dq_Traffic_passOne_165 rfl 1 rfl 166 rfl ?_
    refine gr_iald (M := gm_Traffic_passOne) dq_Traffic_passOne_166 167 rfl (gsT_6 ht) (glj hL (gsT_6 ht) (by decide)) ?_
    refine gr_iconst (M := gm_Traffic_passOne) (v := 1) dq_Traffic_passOne_167 rfl ⟨by decide, by decide⟩ 168 rfl ?_
    refine gr_icmp_ne (M := gm_Traffic_passOne) dq_Traffic_passOne_168 176 171 rfl rfl (fun c26 => ?_) (fun c26 => ?_)
    · exact w_Traffic_passOne_J176 hL hn hF ht  ih
    refine gr_aload_n (M := gm_Traffic_passOne) dq_Traffic_passOne_171 rfl 0 rfl 172 rfl ?_
    refine gr_iload_n (M := gm_Traffic_passOne) dq_Traffic_passOne_172 rfl 1 rfl 173 rfl ?_
    refine gr_callVv (M := gm_Traffic_passOne) (as := [.inl v1]) dq_Traffic_passOne_173 176 rfl rfl gcy_Traffic_131 gim_Traffic_losePatience gse_Traffic_losePatience ⟨by decide, by decide⟩ (Nat.le_of_ble_eq_true rfl) ht rfl (gli hL ht) (fun o1 hg ha hx => c_Traffic_losePatience hL hn ht hg ha hx) (fun h27 r28 _ => ?_)
    exact w_Traffic_passOne_J176 hL hn hF ht  ih

def f_Traffic_passOne (t : Nat) (h : gH) : Option gO := f_Traffic_passOne_L2 t (fun  h14 => f_Traffic_passOne_L106 t (fun  h23 => f_Traffic_passOne_L150 t (fun  h29 => gs (gup h29 t 1 (gadd (h29 t 1) 1)) (fun h30 => some (h30, 0))) 50000 0 h23) 50000 0 h14) 50000 0 h
theorem c_Traffic_passOne {Z : gZ} (hL : gLive Z) (hn : (zL Z).Nodup) {t : Nat} (ht : gsh t = .inr 4) {h : gH} {o : gO} (hg : gRg h) (ha : gRl [.inr (.inr t)]) (hx : f_Traffic_passOne t h = some o) : gC Z gy_Traffic_passOne gc_Traffic_passOne 2 none 3 69 [.inr (.inr t)] h o := by
  unfold f_Traffic_passOne at hx
  refine gC_of (lv := [(0, .inr (.inr t))]) (own := gR_4) (by decide +kernel) rfl (Nat.le_of_ble_eq_true rfl) rfl rfl hn hg ha hx (fun X hZ hF => ?_)
  subst hZ
  show gr _ o gm_Traffic_passOne X h 0 _ _
  refine gr_iconst (M := gm_Traffic_passOne) (v := 0) dq_Traffic_passOne_0 rfl ⟨by decide, by decide⟩ 1 rfl ?_
  refine gr_istore_n (M := gm_Traffic_passOne) (lv' := [(1, .inl 0), (0, .inr (.inr t))]) dq_Traffic_passOne_1 rfl (by decide) rfl 2 rfl ?_
  refine gr_sub (M := gm_Traffic_passOne) (lv' := [(0, .inr (.inr t)), (1, .inl 0)]) [1, 0] rfl ?_
  refine w_Traffic_passOne_L2 hL hn hF ht  (fun h14 => ?_) 50000 _ _
  refine gr_iconst (M := gm_Traffic_passOne) (v := 0) dq_Traffic_passOne_104 rfl ⟨by decide, by decide⟩ 105 rfl ?_
  refine gr_istore_n (M := gm_Traffic_passOne) (lv' := [(1, .inl 0), (0, .inr (.inr t))]) dq_Traffic_passOne_105 rfl (by decide) rfl 106 rfl ?_
  refine gr_sub (M := gm_Traffic_passOne) (lv' := [(0, .inr (.inr t)), (1, .inl 0)]) [1, 0] rfl ?_
  refine w_Traffic_passOne_L106 hL hn hF ht  (fun h23 => ?_) 50000 _ _
  refine gr_iconst (M := gm_Traffic_passOne) (v := 0) dq_Traffic_passOne_148 rfl ⟨by decide, by decide⟩ 149 rfl ?_
  refine gr_istore_n (M := gm_Traffic_passOne) (lv' := [(1, .inl 0), (0, .inr (.inr t))]) dq_Traffic_passOne_149 rfl (by decide) rfl 150 rfl ?_
  refine gr_sub (M := gm_Traffic_passOne) (lv' := [(0, .inr (.inr t)), (1, .inl 0)]) [1, 0] rfl ?_
  refine w_Traffic_passOne_L150 hL hn hF ht  (fun h29 => ?_) 50000 _ _
  refine gr_aload_n (M := gm_Traffic_passOne) dq_Traffic_passOne_182 rfl 0 rfl 183 rfl ?_
  refine gr_dup (M := gm_Traffic_passOne) dq_Traffic_passOne_183 (fun _ q => by cases q) 184 rfl ?_
  refine gr_geti (M := gm_Traffic_passOne) dq_Traffic_passOne_184 187 rfl gfl_Traffic_49 ht rfl (gli hL ht) ?_
  refine gr_iconst (M := gm_Traffic_passOne) (v := 1) dq_Traffic_passOne_187 rfl ⟨by decide, by decide⟩ 188 rfl ?_
  refine gr_iadd (M := gm_Traffic_passOne) dq_Traffic_passOne_188 189 rfl ?_
  refine gr_puti (M := gm_Traffic_passOne) dq_Traffic_passOne_189 192 rfl gfp_Traffic_49 ht rfl (gli hL ht) (fun h30 _ => ?_)
  exact gr_return (M := gm_Traffic_passOne) dq_Traffic_passOne_192 hF

-- Traffic_pass
theorem dq_Traffic_pass_0 : decode gc_Traffic_pass 0 = .ok (.aload_n 0, 1) := by decide +kernel
theorem dq_Traffic_pass_1 : decode gc_Traffic_pass 1 = .ok (.getfield 49, 3) := by decide +kernel
theorem dq_Traffic_pass_4 : decode gc_Traffic_pass 4 = .ok (.iload_n 1, 1) := by decide +kernel
theorem dq_Traffic_pass_5 : decode gc_Traffic_pass 5 = .ok (.iadd, 1) := by decide +kernel
theorem dq_Traffic_pass_6 : decode gc_Traffic_pass 6 = .ok (.istore_n 2, 1) := by decide +kernel
theorem dq_Traffic_pass_7 : decode gc_Traffic_pass 7 = .ok (.iconst 0, 1) := by decide +kernel
theorem dq_Traffic_pass_8 : decode gc_Traffic_pass 8 = .ok (.istore_n 3, 1) := by decide +kernel
theorem dq_Traffic_pass_9 : decode gc_Traffic_pass 9 = .ok (.iload_n 3, 1) := by decide +kernel
theorem dq_Traffic_pass_10 : decode gc_Traffic_pass 10 = .ok (.iload_n 1, 1) := by decide +kernel
theorem dq_Traffic_pass_11 : decode gc_Traffic_pass 11 = .ok (.if_icmp .ge 28, 3) := by decide +kernel
theorem dq_Traffic_pass_14 : decode gc_Traffic_pass 14 = .ok (.aload_n 0, 1) := by decide +kernel
theorem dq_Traffic_pass_15 : decode gc_Traffic_pass 15 = .ok (.getfield 49, 3) := by decide +kernel
theorem dq_Traffic_pass_18 : decode gc_Traffic_pass 18 = .ok (.iload_n 2, 1) := by decide +kernel
theorem dq_Traffic_pass_19 : decode gc_Traffic_pass 19 = .ok (.if_icmp .ge 20, 3) := by decide +kernel
theorem dq_Traffic_pass_22 : decode gc_Traffic_pass 22 = .ok (.aload_n 0, 1) := by decide +kernel
theorem dq_Traffic_pass_23 : decode gc_Traffic_pass 23 = .ok (.iload_n 2, 1) := by decide +kernel
theorem dq_Traffic_pass_24 : decode gc_Traffic_pass 24 = .ok (.iconst 1, 1) := by decide +kernel
theorem dq_Traffic_pass_25 : decode gc_Traffic_pass 25 = .ok (.isub, 1) := by decide +kernel
theorem dq_Traffic_pass_26 : decode gc_Traffic_pass 26 = .ok (.invokevirtual 86, 3) := by decide +kernel
theorem dq_Traffic_pass_29 : decode gc_Traffic_pass 29 = .ok (.aload_n 0, 1) := by decide +kernel
theorem dq_Traffic_pass_30 : decode gc_Traffic_pass 30 = .ok (.invokevirtual 90, 3) := by decide +kernel
theorem dq_Traffic_pass_33 : decode gc_Traffic_pass 33 = .ok (.iinc 3 1, 3) := by decide +kernel
theorem dq_Traffic_pass_36 : decode gc_Traffic_pass 36 = .ok (.goto (-27), 3) := by decide +kernel
theorem dq_Traffic_pass_39 : decode gc_Traffic_pass 39 = .ok (.return_, 1) := by decide +kernel
abbrev gm_Traffic_pass : gM := (gc_Traffic_pass, gR_4, 4, 90, 4)
set_option maxRecDepth 20000 in
theorem gcy_Traffic_86 : gCy gR_4 86 gy_Traffic_skipIdle gc_Traffic_skipIdle 4 none 1 := ⟨(gtab_at 490 (by decide +kernel) rfl), (gtab_at 4 (by decide +kernel) rfl), (gtab_at 493 rfl rfl), by decide, by decide, by decide +kernel⟩
theorem gim_Traffic_skipIdle : Cond.instanceMethod gy_Traffic_skipIdle ∈ gtbl := (gtab_at 492 (by decide +kernel) rfl)
theorem gse_Traffic_skipIdle : Cond.selects gy_Traffic_skipIdle.cls gy_Traffic_skipIdle gy_Traffic_skipIdle ∈ gtbl := (by decide +kernel)
set_option maxRecDepth 20000 in
theorem gcy_Traffic_90 : gCy gR_4 90 gy_Traffic_passOne gc_Traffic_passOne 2 none 0 := ⟨(gtab_at 500 (by decide +kernel) rfl), (gtab_at 4 (by decide +kernel) rfl), (gtab_at 503 rfl rfl), by decide, by decide, by decide +kernel⟩
theorem gim_Traffic_passOne : Cond.instanceMethod gy_Traffic_passOne ∈ gtbl := (gtab_at 502 (by decide +kernel) rfl)
theorem gse_Traffic_passOne : Cond.selects gy_Traffic_passOne.cls gy_Traffic_passOne gy_Traffic_passOne ∈ gtbl := (by decide +kernel)
def f_Traffic_pass_L9 (t : Nat) (v1 : Int) (v2 : Int) (k39 : gH → Option gO) : Nat → Int → gH → Option gO
  | 0, _, _ => none
  | n + 1, v3, h => if v1 ≤ v3 then (k39  h) else (if v2 ≤ (h t 1) then (k39  h) else (gb (f_Traffic_skipIdle t (gsub v2 1) h) (fun h3 r4 => gb (f_Traffic_passOne t h3) (fun h5 r6 => f_Traffic_pass_L9 t v1 v2 k39 n (gadd v3 1) h5))))
theorem w_Traffic_pass_L9 {o : gO} {X : gX} (hL : gLive (xZ X)) (hn : (zL (xZ X)).Nodup) (hF : gFin X none o) {t : Nat} {v1 : Int} {v2 : Int} (ht : gsh t = .inr 4)  {k39 : gH → Option gO} (hk39 : ∀ (h : gH), gr (k39 h) o gm_Traffic_pass X h 39 [] []) : ∀ (n : Nat) (v3 : Int) (h : gH), gr (f_Traffic_pass_L9 t v1 v2 k39 n v3 h) o gm_Traffic_pass X h 9 [(0, .inr (.inr t)), (1, .inl v1), (2, .inl v2), (3, .inl v3)] [] := by
  intro n
  induction n with
  | zero => intros; exact gr_none
  | succ n ih =>
    intro v3 h
    unfold f_Traffic_pass_L9
    refine gr_iload_n (M := gm_Traffic_pass) dq_Traffic_pass_9 rfl 3 rfl 10 rfl ?_
    refine gr_iload_n (M := gm_Traffic_pass) dq_Traffic_pass_10 rfl 1 rfl 11 rfl ?_
    refine gr_icmp_ge (M := gm_Traffic_pass) dq_Traffic_pass_11 39 14 rfl rfl (fun c1 => ?_) (fun c1 => ?_)
    · refine gr_sub (M := gm_Traffic_pass) (lv' := []) [] rfl ?_
      exact hk39  _
    refine gr_aload_n (M := gm_Traffic_pass) dq_Traffic_pass_14 rfl 0 rfl 15 rfl ?_
    refine gr_geti (M := gm_Traffic_pass) dq_Traffic_pass_15 18 rfl gfl_Traffic_49 ht rfl (gli hL ht) ?_
    refine gr_iload_n (M := gm_Traffic_pass) dq_Traffic_pass_18 rfl 2 rfl 19 rfl ?_
    refine gr_icmp_ge (M := gm_Traffic_pass) dq_Traffic_pass_19 39 22 rfl rfl (fun c2 => ?_) (fun c2 => ?_)
    · refine gr_sub (M := gm_Traffic_pass) (lv' := []) [] rfl ?_
      exact hk39  _
    refine gr_aload_n (M := gm_Traffic_pass) dq_Traffic_pass_22 rfl 0 rfl 23 rfl ?_
    refine gr_iload_n (M := gm_Traffic_pass) dq_Traffic_pass_23 rfl 2 rfl 24 rfl ?_
    refine gr_iconst (M := gm_Traffic_pass) (v := 1) dq_Traffic_pass_24 rfl ⟨by decide, by decide⟩ 25 rfl ?_
    refine gr_isub (M := gm_Traffic_pass) dq_Traffic_pass_25 26 rfl ?_
    refine gr_callVv (M := gm_Traffic_pass) (as := [.inl (gsub v2 1)]) dq_Traffic_pass_26 29 rfl rfl gcy_Traffic_86 gim_Traffic_skipIdle gse_Traffic_skipIdle ⟨by decide, by decide⟩ (Nat.le_of_ble_eq_true rfl) ht rfl (gli hL ht) (fun o1 hg ha hx => c_Traffic_skipIdle hL hn ht hg ha hx) (fun h3 r4 _ => ?_)
    refine gr_aload_n (M := gm_Traffic_pass) dq_Traffic_pass_29 rfl 0 rfl 30 rfl ?_
    refine gr_callVv (M := gm_Traffic_pass) (as := []) dq_Traffic_pass_30 33 rfl rfl gcy_Traffic_90 gim_Traffic_passOne gse_Traffic_passOne ⟨by decide, by decide⟩ (Nat.le_of_ble_eq_true rfl) ht rfl (gli hL ht) (fun o1 hg ha hx => c_Traffic_passOne hL hn ht hg ha hx) (fun h5 r6 _ => ?_)
    refine gr_iinc (M := gm_Traffic_pass) (lv' := [(3, .inl (gadd v3 1)), (0, .inr (.inr t)), (1, .inl v1), (2, .inl v2)]) dq_Traffic_pass_33 3 rfl rfl (by decide) rfl 36 rfl ?_
    refine gr_goto (M := gm_Traffic_pass) dq_Traffic_pass_36 9 rfl ?_
    refine gr_sub (M := gm_Traffic_pass) (lv' := [(0, .inr (.inr t)), (1, .inl v1), (2, .inl v2), (3, .inl (gadd v3 1))]) [1, 2, 3, 0] rfl ?_
    exact ih _ _

def f_Traffic_pass (t : Nat) (a1 : Int) (h : gH) : Option gO := f_Traffic_pass_L9 t a1 (gadd (h t 1) a1) (fun  h7 => some (h7, 0)) 50000 0 h
theorem c_Traffic_pass {Z : gZ} (hL : gLive Z) (hn : (zL Z).Nodup) {t : Nat} {a1 : Int} (ht : gsh t = .inr 4) {h : gH} {o : gO} (hg : gRg h) (ha : gRl [.inr (.inr t), .inl a1]) (hx : f_Traffic_pass t a1 h = some o) : gC Z gy_Traffic_pass gc_Traffic_pass 4 none 4 90 [.inr (.inr t), .inl a1] h o := by
  unfold f_Traffic_pass at hx
  refine gC_of (lv := [(0, .inr (.inr t)), (1, .inl a1)]) (own := gR_4) (by decide +kernel) rfl (Nat.le_of_ble_eq_true rfl) rfl rfl hn hg ha hx (fun X hZ hF => ?_)
  subst hZ
  show gr _ o gm_Traffic_pass X h 0 _ _
  refine gr_aload_n (M := gm_Traffic_pass) dq_Traffic_pass_0 rfl 0 rfl 1 rfl ?_
  refine gr_geti (M := gm_Traffic_pass) dq_Traffic_pass_1 4 rfl gfl_Traffic_49 ht rfl (gli hL ht) ?_
  refine gr_iload_n (M := gm_Traffic_pass) dq_Traffic_pass_4 rfl 1 rfl 5 rfl ?_
  refine gr_iadd (M := gm_Traffic_pass) dq_Traffic_pass_5 6 rfl ?_
  refine gr_istore_n (M := gm_Traffic_pass) (lv' := [(2, .inl (gadd (h t 1) a1)), (0, .inr (.inr t)), (1, .inl a1)]) dq_Traffic_pass_6 rfl (by decide) rfl 7 rfl ?_
  refine gr_iconst (M := gm_Traffic_pass) (v := 0) dq_Traffic_pass_7 rfl ⟨by decide, by decide⟩ 8 rfl ?_
  refine gr_istore_n (M := gm_Traffic_pass) (lv' := [(3, .inl 0), (2, .inl (gadd (h t 1) a1)), (0, .inr (.inr t)), (1, .inl a1)]) dq_Traffic_pass_8 rfl (by decide) rfl 9 rfl ?_
  refine gr_sub (M := gm_Traffic_pass) (lv' := [(0, .inr (.inr t)), (1, .inl a1), (2, .inl (gadd (h t 1) a1)), (3, .inl 0)]) [2, 3, 1, 0] rfl ?_
  refine w_Traffic_pass_L9 hL hn hF ht  (fun h7 => ?_) 50000 _ _
  exact gr_return (M := gm_Traffic_pass) dq_Traffic_pass_39 hF

-- Traffic_draw
theorem dq_Traffic_draw_0 : decode gc_Traffic_draw 0 = .ok (.aload_n 0, 1) := by decide +kernel
theorem dq_Traffic_draw_1 : decode gc_Traffic_draw 1 = .ok (.aload_n 0, 1) := by decide +kernel
theorem dq_Traffic_draw_2 : decode gc_Traffic_draw 2 = .ok (.getfield 62, 3) := by decide +kernel
theorem dq_Traffic_draw_5 : decode gc_Traffic_draw 5 = .ok (.i2l, 1) := by decide +kernel
theorem dq_Traffic_draw_6 : decode gc_Traffic_draw 6 = .ok (.ldc2_w 96, 3) := by decide +kernel
theorem dq_Traffic_draw_9 : decode gc_Traffic_draw 9 = .ok (.lmul, 1) := by decide +kernel
theorem dq_Traffic_draw_10 : decode gc_Traffic_draw 10 = .ok (.ldc2_w 98, 3) := by decide +kernel
theorem dq_Traffic_draw_13 : decode gc_Traffic_draw 13 = .ok (.ladd, 1) := by decide +kernel
theorem dq_Traffic_draw_14 : decode gc_Traffic_draw 14 = .ok (.ldc2_w 100, 3) := by decide +kernel
theorem dq_Traffic_draw_17 : decode gc_Traffic_draw 17 = .ok (.land, 1) := by decide +kernel
theorem dq_Traffic_draw_18 : decode gc_Traffic_draw 18 = .ok (.l2i, 1) := by decide +kernel
theorem dq_Traffic_draw_19 : decode gc_Traffic_draw 19 = .ok (.putfield 62, 3) := by decide +kernel
theorem dq_Traffic_draw_22 : decode gc_Traffic_draw 22 = .ok (.iload_n 1, 1) := by decide +kernel
theorem dq_Traffic_draw_23 : decode gc_Traffic_draw 23 = .ok (.ifCond .le 15, 3) := by decide +kernel
theorem dq_Traffic_draw_26 : decode gc_Traffic_draw 26 = .ok (.aload_n 0, 1) := by decide +kernel
theorem dq_Traffic_draw_27 : decode gc_Traffic_draw 27 = .ok (.getfield 62, 3) := by decide +kernel
theorem dq_Traffic_draw_30 : decode gc_Traffic_draw 30 = .ok (.ldc 102, 2) := by decide +kernel
theorem dq_Traffic_draw_32 : decode gc_Traffic_draw 32 = .ok (.idiv, 1) := by decide +kernel
theorem dq_Traffic_draw_33 : decode gc_Traffic_draw 33 = .ok (.iload_n 1, 1) := by decide +kernel
theorem dq_Traffic_draw_34 : decode gc_Traffic_draw 34 = .ok (.irem, 1) := by decide +kernel
theorem dq_Traffic_draw_35 : decode gc_Traffic_draw 35 = .ok (.goto 4, 3) := by decide +kernel
theorem dq_Traffic_draw_38 : decode gc_Traffic_draw 38 = .ok (.iconst 0, 1) := by decide +kernel
theorem dq_Traffic_draw_39 : decode gc_Traffic_draw 39 = .ok (.ireturn, 1) := by decide +kernel
abbrev gm_Traffic_draw : gM := (gc_Traffic_draw, gR_4, 0, 0, 2)
theorem gk_Traffic_96 : Cond.constantLong gR_4 96 (Int64.ofInt 1103515245) ∈ gtbl := (gtab_at 562 (by decide +kernel) rfl)
theorem gk_Traffic_98 : Cond.constantLong gR_4 98 (Int64.ofInt 12345) ∈ gtbl := (gtab_at 563 (by decide +kernel) rfl)
theorem gk_Traffic_100 : Cond.constantLong gR_4 100 (Int64.ofInt 2147483647) ∈ gtbl := (gtab_at 564 (by decide +kernel) rfl)
theorem gk_Traffic_102 : Cond.constant gR_4 102 (Int32.ofInt 65536) ∈ gtbl := (gtab_at 565 (by decide +kernel) rfl)
def f_Traffic_draw (t : Nat) (a1 : Int) (h : gH) : Option gO := gs (gup h t 2 (gl2i (gland (gladd (glmul (h t 2) 1103515245) 12345) 2147483647))) (fun h1 => if a1 ≤ 0 then (some (h1, 0)) else (gd (gnz 65536) (gd (gnz a1) (some (h1, (grem (gdiv (h1 t 2) 65536) a1))))))
theorem c_Traffic_draw {Z : gZ} (hL : gLive Z) (hn : (zL Z).Nodup) {t : Nat} {a1 : Int} (ht : gsh t = .inr 4) {h : gH} {o : gO} (hg : gRg h) (ha : gRl [.inr (.inr t), .inl a1]) (hx : f_Traffic_draw t a1 h = some o) : gC Z gy_Traffic_draw gc_Traffic_draw 2 (some .int) 0 0 [.inr (.inr t), .inl a1] h o := by
  unfold f_Traffic_draw at hx
  refine gC_of (lv := [(0, .inr (.inr t)), (1, .inl a1)]) (own := gR_4) (by decide +kernel) rfl (Nat.le_of_ble_eq_true rfl) rfl rfl hn hg ha hx (fun X hZ hF => ?_)
  subst hZ
  show gr _ o gm_Traffic_draw X h 0 _ _
  refine gr_aload_n (M := gm_Traffic_draw) dq_Traffic_draw_0 rfl 0 rfl 1 rfl ?_
  refine gr_aload_n (M := gm_Traffic_draw) dq_Traffic_draw_1 rfl 0 rfl 2 rfl ?_
  refine gr_geti (M := gm_Traffic_draw) dq_Traffic_draw_2 5 rfl gfl_Traffic_62 ht rfl (gli hL ht) ?_
  refine gr_i2l (M := gm_Traffic_draw) dq_Traffic_draw_5 6 rfl ?_
  refine gr_ldc2_w (M := gm_Traffic_draw) (v := 1103515245) dq_Traffic_draw_6 gk_Traffic_96 ⟨by decide, by decide⟩ 9 rfl ?_
  refine gr_lmul (M := gm_Traffic_draw) dq_Traffic_draw_9 10 rfl ?_
  refine gr_ldc2_w (M := gm_Traffic_draw) (v := 12345) dq_Traffic_draw_10 gk_Traffic_98 ⟨by decide, by decide⟩ 13 rfl ?_
  refine gr_ladd (M := gm_Traffic_draw) dq_Traffic_draw_13 14 rfl ?_
  refine gr_ldc2_w (M := gm_Traffic_draw) (v := 2147483647) dq_Traffic_draw_14 gk_Traffic_100 ⟨by decide, by decide⟩ 17 rfl ?_
  refine gr_land (M := gm_Traffic_draw) dq_Traffic_draw_17 18 rfl ?_
  refine gr_l2i (M := gm_Traffic_draw) dq_Traffic_draw_18 19 rfl ?_
  refine gr_puti (M := gm_Traffic_draw) dq_Traffic_draw_19 22 rfl gfp_Traffic_62 ht rfl (gli hL ht) (fun h1 _ => ?_)
  refine gr_iload_n (M := gm_Traffic_draw) dq_Traffic_draw_22 rfl 1 rfl 23 rfl ?_
  refine gr_if_le (M := gm_Traffic_draw) dq_Traffic_draw_23 38 26 rfl rfl (fun c2 => ?_) (fun c2 => ?_)
  · refine gr_iconst (M := gm_Traffic_draw) (v := 0) dq_Traffic_draw_38 rfl ⟨by decide, by decide⟩ 39 rfl ?_
    exact gr_ireturn (M := gm_Traffic_draw) dq_Traffic_draw_39 hF
  refine gr_aload_n (M := gm_Traffic_draw) dq_Traffic_draw_26 rfl 0 rfl 27 rfl ?_
  refine gr_geti (M := gm_Traffic_draw) dq_Traffic_draw_27 30 rfl gfl_Traffic_62 ht rfl (gli hL ht) ?_
  refine gr_ldc (M := gm_Traffic_draw) (v := 65536) dq_Traffic_draw_30 gk_Traffic_102 ⟨by decide, by decide⟩ 32 rfl ?_
  refine gr_idiv (M := gm_Traffic_draw) dq_Traffic_draw_32 33 rfl ?_
  refine gr_iload_n (M := gm_Traffic_draw) dq_Traffic_draw_33 rfl 1 rfl 34 rfl ?_
  refine gr_irem (M := gm_Traffic_draw) dq_Traffic_draw_34 35 rfl ?_
  refine gr_goto (M := gm_Traffic_draw) dq_Traffic_draw_35 39 rfl ?_
  exact gr_ireturn (M := gm_Traffic_draw) dq_Traffic_draw_39 hF

-- Traffic_passByDraws
theorem dq_Traffic_passByDraws_0 : decode gc_Traffic_passByDraws 0 = .ok (.iconst 0, 1) := by decide +kernel
theorem dq_Traffic_passByDraws_1 : decode gc_Traffic_passByDraws 1 = .ok (.istore_n 2, 1) := by decide +kernel
theorem dq_Traffic_passByDraws_2 : decode gc_Traffic_passByDraws 2 = .ok (.iload_n 2, 1) := by decide +kernel
theorem dq_Traffic_passByDraws_3 : decode gc_Traffic_passByDraws 3 = .ok (.iload_n 1, 1) := by decide +kernel
theorem dq_Traffic_passByDraws_4 : decode gc_Traffic_passByDraws 4 = .ok (.if_icmp .ge 66, 3) := by decide +kernel
theorem dq_Traffic_passByDraws_7 : decode gc_Traffic_passByDraws 7 = .ok (.aload_n 0, 1) := by decide +kernel
theorem dq_Traffic_passByDraws_8 : decode gc_Traffic_passByDraws 8 = .ok (.iconst 4, 1) := by decide +kernel
theorem dq_Traffic_passByDraws_9 : decode gc_Traffic_passByDraws 9 = .ok (.invokevirtual 93, 3) := by decide +kernel
theorem dq_Traffic_passByDraws_12 : decode gc_Traffic_passByDraws 12 = .ok (.ifCond .ne 48, 3) := by decide +kernel
theorem dq_Traffic_passByDraws_15 : decode gc_Traffic_passByDraws 15 = .ok (.aload_n 0, 1) := by decide +kernel
theorem dq_Traffic_passByDraws_16 : decode gc_Traffic_passByDraws 16 = .ok (.getfield 45, 3) := by decide +kernel
theorem dq_Traffic_passByDraws_19 : decode gc_Traffic_passByDraws 19 = .ok (.getfield 71, 3) := by decide +kernel
theorem dq_Traffic_passByDraws_22 : decode gc_Traffic_passByDraws 22 = .ok (.ifCond .le 38, 3) := by decide +kernel
theorem dq_Traffic_passByDraws_25 : decode gc_Traffic_passByDraws 25 = .ok (.aload_n 0, 1) := by decide +kernel
theorem dq_Traffic_passByDraws_26 : decode gc_Traffic_passByDraws 26 = .ok (.aload_n 0, 1) := by decide +kernel
theorem dq_Traffic_passByDraws_27 : decode gc_Traffic_passByDraws 27 = .ok (.getfield 45, 3) := by decide +kernel
theorem dq_Traffic_passByDraws_30 : decode gc_Traffic_passByDraws 30 = .ok (.getfield 71, 3) := by decide +kernel
theorem dq_Traffic_passByDraws_33 : decode gc_Traffic_passByDraws 33 = .ok (.invokevirtual 93, 3) := by decide +kernel
theorem dq_Traffic_passByDraws_36 : decode gc_Traffic_passByDraws 36 = .ok (.istore_n 3, 1) := by decide +kernel
theorem dq_Traffic_passByDraws_37 : decode gc_Traffic_passByDraws 37 = .ok (.aload_n 0, 1) := by decide +kernel
theorem dq_Traffic_passByDraws_38 : decode gc_Traffic_passByDraws 38 = .ok (.getfield 20, 3) := by decide +kernel
theorem dq_Traffic_passByDraws_41 : decode gc_Traffic_passByDraws 41 = .ok (.iload_n 3, 1) := by decide +kernel
theorem dq_Traffic_passByDraws_42 : decode gc_Traffic_passByDraws 42 = .ok (.iaload, 1) := by decide +kernel
theorem dq_Traffic_passByDraws_43 : decode gc_Traffic_passByDraws 43 = .ok (.ifCond .ne 17, 3) := by decide +kernel
theorem dq_Traffic_passByDraws_46 : decode gc_Traffic_passByDraws 46 = .ok (.aload_n 0, 1) := by decide +kernel
theorem dq_Traffic_passByDraws_47 : decode gc_Traffic_passByDraws 47 = .ok (.getfield 17, 3) := by decide +kernel
theorem dq_Traffic_passByDraws_50 : decode gc_Traffic_passByDraws 50 = .ok (.iload_n 3, 1) := by decide +kernel
theorem dq_Traffic_passByDraws_51 : decode gc_Traffic_passByDraws 51 = .ok (.iconst 1, 1) := by decide +kernel
theorem dq_Traffic_passByDraws_52 : decode gc_Traffic_passByDraws 52 = .ok (.aload_n 0, 1) := by decide +kernel
theorem dq_Traffic_passByDraws_53 : decode gc_Traffic_passByDraws 53 = .ok (.getfield 17, 3) := by decide +kernel
theorem dq_Traffic_passByDraws_56 : decode gc_Traffic_passByDraws 56 = .ok (.iload_n 3, 1) := by decide +kernel
theorem dq_Traffic_passByDraws_57 : decode gc_Traffic_passByDraws 57 = .ok (.iaload, 1) := by decide +kernel
theorem dq_Traffic_passByDraws_58 : decode gc_Traffic_passByDraws 58 = .ok (.isub, 1) := by decide +kernel
theorem dq_Traffic_passByDraws_59 : decode gc_Traffic_passByDraws 59 = .ok (.iastore, 1) := by decide +kernel
theorem dq_Traffic_passByDraws_60 : decode gc_Traffic_passByDraws 60 = .ok (.aload_n 0, 1) := by decide +kernel
theorem dq_Traffic_passByDraws_61 : decode gc_Traffic_passByDraws 61 = .ok (.invokevirtual 90, 3) := by decide +kernel
theorem dq_Traffic_passByDraws_64 : decode gc_Traffic_passByDraws 64 = .ok (.iinc 2 1, 3) := by decide +kernel
theorem dq_Traffic_passByDraws_67 : decode gc_Traffic_passByDraws 67 = .ok (.goto (-65), 3) := by decide +kernel
theorem dq_Traffic_passByDraws_70 : decode gc_Traffic_passByDraws 70 = .ok (.return_, 1) := by decide +kernel
abbrev gm_Traffic_passByDraws : gM := (gc_Traffic_passByDraws, gR_4, 4, 90, 4)
set_option maxRecDepth 20000 in
theorem gcy_Traffic_93 : gCy gR_4 93 gy_Traffic_draw gc_Traffic_draw 2 (some .int) 1 := ⟨(gtab_at 558 (by decide +kernel) rfl), (gtab_at 4 (by decide +kernel) rfl), (gtab_at 561 rfl rfl), by decide, by decide, by decide +kernel⟩
theorem gim_Traffic_draw : Cond.instanceMethod gy_Traffic_draw ∈ gtbl := (gtab_at 560 (by decide +kernel) rfl)
theorem gse_Traffic_draw : Cond.selects gy_Traffic_draw.cls gy_Traffic_draw gy_Traffic_draw ∈ gtbl := (by decide +kernel)
def f_Traffic_passByDraws_J60 (t : Nat) (k2 : Int → gH → Option gO) (v1 : Int) (v2 : Int) (h : gH) : Option gO := gb (f_Traffic_passOne t h) (fun h5 r6 => k2 (gadd v2 1) h5)
theorem w_Traffic_passByDraws_J60 {o : gO} {X : gX} (hL : gLive (xZ X)) (hn : (zL (xZ X)).Nodup) (hF : gFin X none o) {t : Nat} (ht : gsh t = .inr 4)  {k2 : Int → gH → Option gO} {v1 : Int} {v2 : Int} {h : gH} (hk2 : ∀ (v2 : Int) (h : gH), gr (k2 v2 h) o gm_Traffic_passByDraws X h 2 [(0, .inr (.inr t)), (1, .inl v1), (2, .inl v2)] []) : gr (f_Traffic_passByDraws_J60 t k2 v1 v2 h) o gm_Traffic_passByDraws X h 60 [(0, .inr (.inr t)), (1, .inl v1), (2, .inl v2)] [] := by
  unfold f_Traffic_passByDraws_J60
  refine gr_aload_n (M := gm_Traffic_passByDraws) dq_Traffic_passByDraws_60 rfl 0 rfl 61 rfl ?_
  refine gr_callVv (M := gm_Traffic_passByDraws) (as := []) dq_Traffic_passByDraws_61 64 rfl rfl gcy_Traffic_90 gim_Traffic_passOne gse_Traffic_passOne ⟨by decide, by decide⟩ (Nat.le_of_ble_eq_true rfl) ht rfl (gli hL ht) (fun o1 hg ha hx => c_Traffic_passOne hL hn ht hg ha hx) (fun h5 r6 _ => ?_)
  refine gr_iinc (M := gm_Traffic_passByDraws) (lv' := [(2, .inl (gadd v2 1)), (0, .inr (.inr t)), (1, .inl v1)]) dq_Traffic_passByDraws_64 2 rfl rfl (by decide) rfl 67 rfl ?_
  refine gr_goto (M := gm_Traffic_passByDraws) dq_Traffic_passByDraws_67 2 rfl ?_
  refine gr_sub (M := gm_Traffic_passByDraws) (lv' := [(0, .inr (.inr t)), (1, .inl v1), (2, .inl (gadd v2 1))]) [1, 2, 0] rfl ?_
  exact hk2 _ _

def f_Traffic_passByDraws_L2 (t : Nat) (v1 : Int) (k70 : gH → Option gO) : Nat → Int → gH → Option gO
  | 0, _, _ => none
  | n + 1, v2, h => if v1 ≤ v2 then (k70  h) else (gb (f_Traffic_draw t 4 h) (fun h2 r3 => if r3 = 0 then (gd (gcl ((h2 t 0).toNat) 0) (if (h2 (h2 t 0).toNat 2) ≤ 0 then (f_Traffic_passByDraws_J60 t (f_Traffic_passByDraws_L2 t v1 k70 n) v1 v2 h2) else (gd (gcl ((h2 t 0).toNat) 0) (gb (f_Traffic_draw t (h2 (h2 t 0).toNat 2) h2) (fun h10 r11 => gd (gix 9 r11) (if (h10 (t + 3) r11.toNat) = 0 then (gd (gix 9 r11) (gd (gix 9 r11) (gs (gup h10 (t + 2) r11.toNat (gsub 1 (h10 (t + 2) r11.toNat))) (fun h13 => f_Traffic_passByDraws_J60 t (f_Traffic_passByDraws_L2 t v1 k70 n) v1 v2 h13)))) else (f_Traffic_passByDraws_J60 t (f_Traffic_passByDraws_L2 t v1 k70 n) v1 v2 h10))))))) else (f_Traffic_passByDraws_J60 t (f_Traffic_passByDraws_L2 t v1 k70 n) v1 v2 h2)))
theorem w_Traffic_passByDraws_L2 {o : gO} {X : gX} (hL : gLive (xZ X)) (hn : (zL (xZ X)).Nodup) (hF : gFin X none o) {t : Nat} {v1 : Int} (ht : gsh t = .inr 4)  {k70 : gH → Option gO} (hk70 : ∀ (h : gH), gr (k70 h) o gm_Traffic_passByDraws X h 70 [] []) : ∀ (n : Nat) (v2 : Int) (h : gH), gr (f_Traffic_passByDraws_L2 t v1 k70 n v2 h) o gm_Traffic_passByDraws X h 2 [(0, .inr (.inr t)), (1, .inl v1), (2, .inl v2)] [] := by
  intro n
  induction n with
  | zero => intros; exact gr_none
  | succ n ih =>
    intro v2 h
    unfold f_Traffic_passByDraws_L2
    refine gr_iload_n (M := gm_Traffic_passByDraws) dq_Traffic_passByDraws_2 rfl 2 rfl 3 rfl ?_
    refine gr_iload_n (M := gm_Traffic_passByDraws) dq_Traffic_passByDraws_3 rfl 1 rfl 4 rfl ?_
    refine gr_icmp_ge (M := gm_Traffic_passByDraws) dq_Traffic_passByDraws_4 70 7 rfl rfl (fun c1 => ?_) (fun c1 => ?_)
    · refine gr_sub (M := gm_Traffic_passByDraws) (lv' := []) [] rfl ?_
      exact hk70  _
    refine gr_aload_n (M := gm_Traffic_passByDraws) dq_Traffic_passByDraws_7 rfl 0 rfl 8 rfl ?_
    refine gr_iconst (M := gm_Traffic_passByDraws) (v := 4) dq_Traffic_passByDraws_8 rfl ⟨by decide, by decide⟩ 9 rfl ?_
    refine gr_callVi (M := gm_Traffic_passByDraws) (as := [.inl 4]) dq_Traffic_passByDraws_9 12 rfl rfl gcy_Traffic_93 gim_Traffic_draw gse_Traffic_draw ⟨by decide, by decide⟩ (Nat.le_of_ble_eq_true rfl) ht rfl (gli hL ht) (fun o1 hg ha hx => c_Traffic_draw hL hn ht hg ha hx) (fun h2 r3 _ => ?_)
    refine gr_if_ne (M := gm_Traffic_passByDraws) dq_Traffic_passByDraws_12 60 15 rfl rfl (fun c4 => ?_) (fun c4 => ?_)
    · exact w_Traffic_passByDraws_J60 hL hn hF ht  ih
    refine gr_aload_n (M := gm_Traffic_passByDraws) dq_Traffic_passByDraws_15 rfl 0 rfl 16 rfl ?_
    refine gr_getd (M := gm_Traffic_passByDraws) dq_Traffic_passByDraws_16 19 rfl gfl_Traffic_45 ht rfl (gli hL ht) (fun hc7 => ?_)
    refine gr_geti (M := gm_Traffic_passByDraws) dq_Traffic_passByDraws_19 22 rfl gfl_Traffic_71 (gclE hc7) rfl (gli hL (gclE hc7)) ?_
    refine gr_if_le (M := gm_Traffic_passByDraws) dq_Traffic_passByDraws_22 60 25 rfl rfl (fun c8 => ?_) (fun c8 => ?_)
    · exact w_Traffic_passByDraws_J60 hL hn hF ht  ih
    refine gr_aload_n (M := gm_Traffic_passByDraws) dq_Traffic_passByDraws_25 rfl 0 rfl 26 rfl ?_
    refine gr_aload_n (M := gm_Traffic_passByDraws) dq_Traffic_passByDraws_26 rfl 0 rfl 27 rfl ?_
    refine gr_getd (M := gm_Traffic_passByDraws) dq_Traffic_passByDraws_27 30 rfl gfl_Traffic_45 ht rfl (gli hL ht) (fun hc9 => ?_)
    refine gr_geti (M := gm_Traffic_passByDraws) dq_Traffic_passByDraws_30 33 rfl gfl_Traffic_71 (gclE hc9) rfl (gli hL (gclE hc9)) ?_
    refine gr_callVi (M := gm_Traffic_passByDraws) (as := [.inl (h2 (h2 t 0).toNat 2)]) dq_Traffic_passByDraws_33 36 rfl rfl gcy_Traffic_93 gim_Traffic_draw gse_Traffic_draw ⟨by decide, by decide⟩ (Nat.le_of_ble_eq_true rfl) ht rfl (gli hL ht) (fun o1 hg ha hx => c_Traffic_draw hL hn ht hg ha hx) (fun h10 r11 _ => ?_)
    refine gr_istore_n (M := gm_Traffic_passByDraws) (lv' := [(3, .inl r11), (0, .inr (.inr t)), (1, .inl v1), (2, .inl v2)]) dq_Traffic_passByDraws_36 rfl (by decide) rfl 37 rfl ?_
    refine gr_aload_n (M := gm_Traffic_passByDraws) dq_Traffic_passByDraws_37 rfl 1 rfl 38 rfl ?_
    refine gr_getr (M := gm_Traffic_passByDraws) dq_Traffic_passByDraws_38 41 rfl gfl_Traffic_20 ht rfl (gli hL ht) (t + 3) rfl ?_
    refine gr_iload_n (M := gm_Traffic_passByDraws) dq_Traffic_passByDraws_41 rfl 0 rfl 42 rfl ?_
    refine gr_iald (M := gm_Traffic_passByDraws) dq_Traffic_passByDraws_42 43 rfl (gsT_3 ht) (glj hL (gsT_3 ht) (by decide)) ?_
    refine gr_if_ne (M := gm_Traffic_passByDraws) dq_Traffic_passByDraws_43 60 46 rfl rfl (fun c12 => ?_) (fun c12 => ?_)
    · refine gr_sub (M := gm_Traffic_passByDraws) (lv' := [(0, .inr (.inr t)), (1, .inl v1), (2, .inl v2)]) [1, 2, 3] rfl ?_
      exact w_Traffic_passByDraws_J60 hL hn hF ht  ih
    refine gr_aload_n (M := gm_Traffic_passByDraws) dq_Traffic_passByDraws_46 rfl 1 rfl 47 rfl ?_
    refine gr_getr (M := gm_Traffic_passByDraws) dq_Traffic_passByDraws_47 50 rfl gfl_Traffic_17 ht rfl (gli hL ht) (t + 2) rfl ?_
    refine gr_iload_n (M := gm_Traffic_passByDraws) dq_Traffic_passByDraws_50 rfl 0 rfl 51 rfl ?_
    refine gr_iconst (M := gm_Traffic_passByDraws) (v := 1) dq_Traffic_passByDraws_51 rfl ⟨by decide, by decide⟩ 52 rfl ?_
    refine gr_aload_n (M := gm_Traffic_passByDraws) dq_Traffic_passByDraws_52 rfl 1 rfl 53 rfl ?_
    refine gr_getr (M := gm_Traffic_passByDraws) dq_Traffic_passByDraws_53 56 rfl gfl_Traffic_17 ht rfl (gli hL ht) (t + 2) rfl ?_
    refine gr_iload_n (M := gm_Traffic_passByDraws) dq_Traffic_passByDraws_56 rfl 0 rfl 57 rfl ?_
    refine gr_iald (M := gm_Traffic_passByDraws) dq_Traffic_passByDraws_57 58 rfl (gsT_2 ht) (glj hL (gsT_2 ht) (by decide)) ?_
    refine gr_isub (M := gm_Traffic_passByDraws) dq_Traffic_passByDraws_58 59 rfl ?_
    refine gr_iast (M := gm_Traffic_passByDraws) dq_Traffic_passByDraws_59 60 rfl (gsT_2 ht) (glj hL (gsT_2 ht) (by decide)) (fun h13 _ => ?_)
    refine gr_sub (M := gm_Traffic_passByDraws) (lv' := [(0, .inr (.inr t)), (1, .inl v1), (2, .inl v2)]) [1, 2, 3] rfl ?_
    exact w_Traffic_passByDraws_J60 hL hn hF ht  ih

def f_Traffic_passByDraws (t : Nat) (a1 : Int) (h : gH) : Option gO := f_Traffic_passByDraws_L2 t a1 (fun  h14 => some (h14, 0)) 50000 0 h
theorem c_Traffic_passByDraws {Z : gZ} (hL : gLive Z) (hn : (zL Z).Nodup) {t : Nat} {a1 : Int} (ht : gsh t = .inr 4) {h : gH} {o : gO} (hg : gRg h) (ha : gRl [.inr (.inr t), .inl a1]) (hx : f_Traffic_passByDraws t a1 h = some o) : gC Z gy_Traffic_passByDraws gc_Traffic_passByDraws 4 none 4 90 [.inr (.inr t), .inl a1] h o := by
  unfold f_Traffic_passByDraws at hx
  refine gC_of (lv := [(0, .inr (.inr t)), (1, .inl a1)]) (own := gR_4) (by decide +kernel) rfl (Nat.le_of_ble_eq_true rfl) rfl rfl hn hg ha hx (fun X hZ hF => ?_)
  subst hZ
  show gr _ o gm_Traffic_passByDraws X h 0 _ _
  refine gr_iconst (M := gm_Traffic_passByDraws) (v := 0) dq_Traffic_passByDraws_0 rfl ⟨by decide, by decide⟩ 1 rfl ?_
  refine gr_istore_n (M := gm_Traffic_passByDraws) (lv' := [(2, .inl 0), (0, .inr (.inr t)), (1, .inl a1)]) dq_Traffic_passByDraws_1 rfl (by decide) rfl 2 rfl ?_
  refine gr_sub (M := gm_Traffic_passByDraws) (lv' := [(0, .inr (.inr t)), (1, .inl a1), (2, .inl 0)]) [1, 2, 0] rfl ?_
  refine w_Traffic_passByDraws_L2 hL hn hF ht  (fun h14 => ?_) 50000 _ _
  exact gr_return (M := gm_Traffic_passByDraws) dq_Traffic_passByDraws_70 hF

