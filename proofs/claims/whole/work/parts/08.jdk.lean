-- JI_bitCount
theorem dq_JI_bitCount_0 : decode gc_JI_bitCount 0 = .ok (.iload_n 0, 1) := by decide +kernel
theorem dq_JI_bitCount_1 : decode gc_JI_bitCount 1 = .ok (.iload_n 0, 1) := by decide +kernel
theorem dq_JI_bitCount_2 : decode gc_JI_bitCount 2 = .ok (.iconst 1, 1) := by decide +kernel
theorem dq_JI_bitCount_3 : decode gc_JI_bitCount 3 = .ok (.iushr, 1) := by decide +kernel
theorem dq_JI_bitCount_4 : decode gc_JI_bitCount 4 = .ok (.ldc_w 265, 3) := by decide +kernel
theorem dq_JI_bitCount_7 : decode gc_JI_bitCount 7 = .ok (.iand, 1) := by decide +kernel
theorem dq_JI_bitCount_8 : decode gc_JI_bitCount 8 = .ok (.isub, 1) := by decide +kernel
theorem dq_JI_bitCount_9 : decode gc_JI_bitCount 9 = .ok (.istore_n 0, 1) := by decide +kernel
theorem dq_JI_bitCount_10 : decode gc_JI_bitCount 10 = .ok (.iload_n 0, 1) := by decide +kernel
theorem dq_JI_bitCount_11 : decode gc_JI_bitCount 11 = .ok (.ldc_w 266, 3) := by decide +kernel
theorem dq_JI_bitCount_14 : decode gc_JI_bitCount 14 = .ok (.iand, 1) := by decide +kernel
theorem dq_JI_bitCount_15 : decode gc_JI_bitCount 15 = .ok (.iload_n 0, 1) := by decide +kernel
theorem dq_JI_bitCount_16 : decode gc_JI_bitCount 16 = .ok (.iconst 2, 1) := by decide +kernel
theorem dq_JI_bitCount_17 : decode gc_JI_bitCount 17 = .ok (.iushr, 1) := by decide +kernel
theorem dq_JI_bitCount_18 : decode gc_JI_bitCount 18 = .ok (.ldc_w 266, 3) := by decide +kernel
theorem dq_JI_bitCount_21 : decode gc_JI_bitCount 21 = .ok (.iand, 1) := by decide +kernel
theorem dq_JI_bitCount_22 : decode gc_JI_bitCount 22 = .ok (.iadd, 1) := by decide +kernel
theorem dq_JI_bitCount_23 : decode gc_JI_bitCount 23 = .ok (.istore_n 0, 1) := by decide +kernel
theorem dq_JI_bitCount_24 : decode gc_JI_bitCount 24 = .ok (.iload_n 0, 1) := by decide +kernel
theorem dq_JI_bitCount_25 : decode gc_JI_bitCount 25 = .ok (.iload_n 0, 1) := by decide +kernel
theorem dq_JI_bitCount_26 : decode gc_JI_bitCount 26 = .ok (.iconst 4, 1) := by decide +kernel
theorem dq_JI_bitCount_27 : decode gc_JI_bitCount 27 = .ok (.iushr, 1) := by decide +kernel
theorem dq_JI_bitCount_28 : decode gc_JI_bitCount 28 = .ok (.iadd, 1) := by decide +kernel
theorem dq_JI_bitCount_29 : decode gc_JI_bitCount 29 = .ok (.ldc_w 267, 3) := by decide +kernel
theorem dq_JI_bitCount_32 : decode gc_JI_bitCount 32 = .ok (.iand, 1) := by decide +kernel
theorem dq_JI_bitCount_33 : decode gc_JI_bitCount 33 = .ok (.istore_n 0, 1) := by decide +kernel
theorem dq_JI_bitCount_34 : decode gc_JI_bitCount 34 = .ok (.iload_n 0, 1) := by decide +kernel
theorem dq_JI_bitCount_35 : decode gc_JI_bitCount 35 = .ok (.iload_n 0, 1) := by decide +kernel
theorem dq_JI_bitCount_36 : decode gc_JI_bitCount 36 = .ok (.bipush 8, 2) := by decide +kernel
theorem dq_JI_bitCount_38 : decode gc_JI_bitCount 38 = .ok (.iushr, 1) := by decide +kernel
theorem dq_JI_bitCount_39 : decode gc_JI_bitCount 39 = .ok (.iadd, 1) := by decide +kernel
theorem dq_JI_bitCount_40 : decode gc_JI_bitCount 40 = .ok (.istore_n 0, 1) := by decide +kernel
theorem dq_JI_bitCount_41 : decode gc_JI_bitCount 41 = .ok (.iload_n 0, 1) := by decide +kernel
theorem dq_JI_bitCount_42 : decode gc_JI_bitCount 42 = .ok (.iload_n 0, 1) := by decide +kernel
theorem dq_JI_bitCount_43 : decode gc_JI_bitCount 43 = .ok (.bipush 16, 2) := by decide +kernel
theorem dq_JI_bitCount_45 : decode gc_JI_bitCount 45 = .ok (.iushr, 1) := by decide +kernel
theorem dq_JI_bitCount_46 : decode gc_JI_bitCount 46 = .ok (.iadd, 1) := by decide +kernel
theorem dq_JI_bitCount_47 : decode gc_JI_bitCount 47 = .ok (.istore_n 0, 1) := by decide +kernel
theorem dq_JI_bitCount_48 : decode gc_JI_bitCount 48 = .ok (.iload_n 0, 1) := by decide +kernel
theorem dq_JI_bitCount_49 : decode gc_JI_bitCount 49 = .ok (.bipush 63, 2) := by decide +kernel
theorem dq_JI_bitCount_51 : decode gc_JI_bitCount 51 = .ok (.iand, 1) := by decide +kernel
theorem dq_JI_bitCount_52 : decode gc_JI_bitCount 52 = .ok (.ireturn, 1) := by decide +kernel
abbrev gm_JI_bitCount : gM := (gc_JI_bitCount, "java/lang/Integer", 0, 0, 1)
theorem gk_JI_265 : Cond.constant "java/lang/Integer" 265 (Int32.ofInt 1431655765) ∈ gtbl := (gtab_at 483 (by decide +kernel) rfl)
theorem gk_JI_266 : Cond.constant "java/lang/Integer" 266 (Int32.ofInt 858993459) ∈ gtbl := (gtab_at 484 (by decide +kernel) rfl)
theorem gk_JI_267 : Cond.constant "java/lang/Integer" 267 (Int32.ofInt 252645135) ∈ gtbl := (gtab_at 485 (by decide +kernel) rfl)
def f_JI_bitCount (a0 : Int) (h : gH) : Option gO := some (h, (gand (gadd (gadd (gand (gadd (gadd (gand (gsub a0 (gand (gushr a0 1) 1431655765)) 858993459) (gand (gushr (gsub a0 (gand (gushr a0 1) 1431655765)) 2) 858993459)) (gushr (gadd (gand (gsub a0 (gand (gushr a0 1) 1431655765)) 858993459) (gand (gushr (gsub a0 (gand (gushr a0 1) 1431655765)) 2) 858993459)) 4)) 252645135) (gushr (gand (gadd (gadd (gand (gsub a0 (gand (gushr a0 1) 1431655765)) 858993459) (gand (gushr (gsub a0 (gand (gushr a0 1) 1431655765)) 2) 858993459)) (gushr (gadd (gand (gsub a0 (gand (gushr a0 1) 1431655765)) 858993459) (gand (gushr (gsub a0 (gand (gushr a0 1) 1431655765)) 2) 858993459)) 4)) 252645135) 8)) (gushr (gadd (gand (gadd (gadd (gand (gsub a0 (gand (gushr a0 1) 1431655765)) 858993459) (gand (gushr (gsub a0 (gand (gushr a0 1) 1431655765)) 2) 858993459)) (gushr (gadd (gand (gsub a0 (gand (gushr a0 1) 1431655765)) 858993459) (gand (gushr (gsub a0 (gand (gushr a0 1) 1431655765)) 2) 858993459)) 4)) 252645135) (gushr (gand (gadd (gadd (gand (gsub a0 (gand (gushr a0 1) 1431655765)) 858993459) (gand (gushr (gsub a0 (gand (gushr a0 1) 1431655765)) 2) 858993459)) (gushr (gadd (gand (gsub a0 (gand (gushr a0 1) 1431655765)) 858993459) (gand (gushr (gsub a0 (gand (gushr a0 1) 1431655765)) 2) 858993459)) 4)) 252645135) 8)) 16)) 63))
theorem c_JI_bitCount {Z : gZ} (hL : gLive Z) (hn : (zL Z).Nodup) {a0 : Int}  {h : gH} {o : gO} (hg : gRg h) (ha : gRl [.inl a0]) (hx : f_JI_bitCount a0 h = some o) : gC Z gy_JI_bitCount gc_JI_bitCount 1 (some .int) 0 0 [.inl a0] h o := by
  unfold f_JI_bitCount at hx
  refine gC_of (lv := [(0, .inl a0)]) (own := "java/lang/Integer") (by decide +kernel) rfl (Nat.le_of_ble_eq_true rfl) rfl rfl hn hg ha hx (fun X hZ hF => ?_)
  subst hZ
  show gr _ o gm_JI_bitCount X h 0 _ _
  refine gr_iload_n (M := gm_JI_bitCount) dq_JI_bitCount_0 rfl 0 rfl 1 rfl ?_
  refine gr_iload_n (M := gm_JI_bitCount) dq_JI_bitCount_1 rfl 0 rfl 2 rfl ?_
  refine gr_iconst (M := gm_JI_bitCount) (v := 1) dq_JI_bitCount_2 rfl ⟨by decide, by decide⟩ 3 rfl ?_
  refine gr_iushr (M := gm_JI_bitCount) dq_JI_bitCount_3 4 rfl ?_
  refine gr_ldc_w (M := gm_JI_bitCount) (v := 1431655765) dq_JI_bitCount_4 gk_JI_265 ⟨by decide, by decide⟩ 7 rfl ?_
  refine gr_iand (M := gm_JI_bitCount) dq_JI_bitCount_7 8 rfl ?_
  refine gr_isub (M := gm_JI_bitCount) dq_JI_bitCount_8 9 rfl ?_
  refine gr_istore_n (M := gm_JI_bitCount) (lv' := [(0, .inl (gsub a0 (gand (gushr a0 1) 1431655765)))]) dq_JI_bitCount_9 rfl (by decide) rfl 10 rfl ?_
  refine gr_iload_n (M := gm_JI_bitCount) dq_JI_bitCount_10 rfl 0 rfl 11 rfl ?_
  refine gr_ldc_w (M := gm_JI_bitCount) (v := 858993459) dq_JI_bitCount_11 gk_JI_266 ⟨by decide, by decide⟩ 14 rfl ?_
  refine gr_iand (M := gm_JI_bitCount) dq_JI_bitCount_14 15 rfl ?_
  refine gr_iload_n (M := gm_JI_bitCount) dq_JI_bitCount_15 rfl 0 rfl 16 rfl ?_
  refine gr_iconst (M := gm_JI_bitCount) (v := 2) dq_JI_bitCount_16 rfl ⟨by decide, by decide⟩ 17 rfl ?_
  refine gr_iushr (M := gm_JI_bitCount) dq_JI_bitCount_17 18 rfl ?_
  refine gr_ldc_w (M := gm_JI_bitCount) (v := 858993459) dq_JI_bitCount_18 gk_JI_266 ⟨by decide, by decide⟩ 21 rfl ?_
  refine gr_iand (M := gm_JI_bitCount) dq_JI_bitCount_21 22 rfl ?_
  refine gr_iadd (M := gm_JI_bitCount) dq_JI_bitCount_22 23 rfl ?_
  refine gr_istore_n (M := gm_JI_bitCount) (lv' := [(0, .inl (gadd (gand (gsub a0 (gand (gushr a0 1) 1431655765)) 858993459) (gand (gushr (gsub a0 (gand (gushr a0 1) 1431655765)) 2) 858993459)))]) dq_JI_bitCount_23 rfl (by decide) rfl 24 rfl ?_
  refine gr_iload_n (M := gm_JI_bitCount) dq_JI_bitCount_24 rfl 0 rfl 25 rfl ?_
  refine gr_iload_n (M := gm_JI_bitCount) dq_JI_bitCount_25 rfl 0 rfl 26 rfl ?_
  refine gr_iconst (M := gm_JI_bitCount) (v := 4) dq_JI_bitCount_26 rfl ⟨by decide, by decide⟩ 27 rfl ?_
  refine gr_iushr (M := gm_JI_bitCount) dq_JI_bitCount_27 28 rfl ?_
  refine gr_iadd (M := gm_JI_bitCount) dq_JI_bitCount_28 29 rfl ?_
  refine gr_ldc_w (M := gm_JI_bitCount) (v := 252645135) dq_JI_bitCount_29 gk_JI_267 ⟨by decide, by decide⟩ 32 rfl ?_
  refine gr_iand (M := gm_JI_bitCount) dq_JI_bitCount_32 33 rfl ?_
  refine gr_istore_n (M := gm_JI_bitCount) (lv' := [(0, .inl (gand (gadd (gadd (gand (gsub a0 (gand (gushr a0 1) 1431655765)) 858993459) (gand (gushr (gsub a0 (gand (gushr a0 1) 1431655765)) 2) 858993459)) (gushr (gadd (gand (gsub a0 (gand (gushr a0 1) 1431655765)) 858993459) (gand (gushr (gsub a0 (gand (gushr a0 1) 1431655765)) 2) 858993459)) 4)) 252645135))]) dq_JI_bitCount_33 rfl (by decide) rfl 34 rfl ?_
  refine gr_iload_n (M := gm_JI_bitCount) dq_JI_bitCount_34 rfl 0 rfl 35 rfl ?_
  refine gr_iload_n (M := gm_JI_bitCount) dq_JI_bitCount_35 rfl 0 rfl 36 rfl ?_
  refine gr_bipush (M := gm_JI_bitCount) (v := 8) dq_JI_bitCount_36 (by decide) ⟨by decide, by decide⟩ 38 rfl ?_
  refine gr_iushr (M := gm_JI_bitCount) dq_JI_bitCount_38 39 rfl ?_
  refine gr_iadd (M := gm_JI_bitCount) dq_JI_bitCount_39 40 rfl ?_
  refine gr_istore_n (M := gm_JI_bitCount) (lv' := [(0, .inl (gadd (gand (gadd (gadd (gand (gsub a0 (gand (gushr a0 1) 1431655765)) 858993459) (gand (gushr (gsub a0 (gand (gushr a0 1) 1431655765)) 2) 858993459)) (gushr (gadd (gand (gsub a0 (gand (gushr a0 1) 1431655765)) 858993459) (gand (gushr (gsub a0 (gand (gushr a0 1) 1431655765)) 2) 858993459)) 4)) 252645135) (gushr (gand (gadd (gadd (gand (gsub a0 (gand (gushr a0 1) 1431655765)) 858993459) (gand (gushr (gsub a0 (gand (gushr a0 1) 1431655765)) 2) 858993459)) (gushr (gadd (gand (gsub a0 (gand (gushr a0 1) 1431655765)) 858993459) (gand (gushr (gsub a0 (gand (gushr a0 1) 1431655765)) 2) 858993459)) 4)) 252645135) 8)))]) dq_JI_bitCount_40 rfl (by decide) rfl 41 rfl ?_
  refine gr_iload_n (M := gm_JI_bitCount) dq_JI_bitCount_41 rfl 0 rfl 42 rfl ?_
  refine gr_iload_n (M := gm_JI_bitCount) dq_JI_bitCount_42 rfl 0 rfl 43 rfl ?_
  refine gr_bipush (M := gm_JI_bitCount) (v := 16) dq_JI_bitCount_43 (by decide) ⟨by decide, by decide⟩ 45 rfl ?_
  refine gr_iushr (M := gm_JI_bitCount) dq_JI_bitCount_45 46 rfl ?_
  refine gr_iadd (M := gm_JI_bitCount) dq_JI_bitCount_46 47 rfl ?_
  refine gr_istore_n (M := gm_JI_bitCount) (lv' := [(0, .inl (gadd (gadd (gand (gadd (gadd (gand (gsub a0 (gand (gushr a0 1) 1431655765)) 858993459) (gand (gushr (gsub a0 (gand (gushr a0 1) 1431655765)) 2) 858993459)) (gushr (gadd (gand (gsub a0 (gand (gushr a0 1) 1431655765)) 858993459) (gand (gushr (gsub a0 (gand (gushr a0 1) 1431655765)) 2) 858993459)) 4)) 252645135) (gushr (gand (gadd (gadd (gand (gsub a0 (gand (gushr a0 1) 1431655765)) 858993459) (gand (gushr (gsub a0 (gand (gushr a0 1) 1431655765)) 2) 858993459)) (gushr (gadd (gand (gsub a0 (gand (gushr a0 1) 1431655765)) 858993459) (gand (gushr (gsub a0 (gand (gushr a0 1) 1431655765)) 2) 858993459)) 4)) 252645135) 8)) (gushr (gadd (gand (gadd (gadd (gand (gsub a0 (gand (gushr a0 1) 1431655765)) 858993459) (gand (gushr (gsub a0 (gand (gushr a0 1) 1431655765)) 2) 858993459)) (gushr (gadd (gand (gsub a0 (gand (gushr a0 1) 1431655765)) 858993459) (gand (gushr (gsub a0 (gand (gushr a0 1) 1431655765)) 2) 858993459)) 4)) 252645135) (gushr (gand (gadd (gadd (gand (gsub a0 (gand (gushr a0 1) 1431655765)) 858993459) (gand (gushr (gsub a0 (gand (gushr a0 1) 1431655765)) 2) 858993459)) (gushr (gadd (gand (gsub a0 (gand (gushr a0 1) 1431655765)) 858993459) (gand (gushr (gsub a0 (gand (gushr a0 1) 1431655765)) 2) 858993459)) 4)) 252645135) 8)) 16)))]) dq_JI_bitCount_47 rfl (by decide) rfl 48 rfl ?_
  refine gr_iload_n (M := gm_JI_bitCount) dq_JI_bitCount_48 rfl 0 rfl 49 rfl ?_
  refine gr_bipush (M := gm_JI_bitCount) (v := 63) dq_JI_bitCount_49 (by decide) ⟨by decide, by decide⟩ 51 rfl ?_
  refine gr_iand (M := gm_JI_bitCount) dq_JI_bitCount_51 52 rfl ?_
  exact gr_ireturn (M := gm_JI_bitCount) dq_JI_bitCount_52 hF

