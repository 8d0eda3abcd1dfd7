def gI0 : gH := fun _ _ => 0
abbrev gI1 : gH := gup gI0 0 0 ((1 : Nat) : Int)
abbrev gI2 : gH := gup gI1 0 1 ((13 : Nat) : Int)
abbrev gI3 : gH := gup gI2 25 1 (-1)
def gN0 : Nat → Nat → Bool := fun _ _ => true
theorem gdf_0 : ∀ j, j < 15 → defaultValue (gt_0 j) = if ((gfk 0).getD j (0, 0)).1 = 0 then .int 0 else .null := by decide +kernel
theorem gdf_1 : ∀ j, j < 4 → defaultValue (gt_1 j) = if ((gfk 1).getD j (0, 0)).1 = 0 then .int 0 else .null := by decide +kernel
theorem gdf_2 : ∀ j, j < 6 → defaultValue (gt_2 j) = if ((gfk 2).getD j (0, 0)).1 = 0 then .int 0 else .null := by decide +kernel
theorem gdf_3 : ∀ j, j < 6 → defaultValue (gt_3 j) = if ((gfk 3).getD j (0, 0)).1 = 0 then .int 0 else .null := by decide +kernel
theorem gdf_4 : ∀ j, j < 12 → defaultValue (gt_4 j) = if ((gfk 4).getD j (0, 0)).1 = 0 then .int 0 else .null := by decide +kernel
theorem gdf_5 : ∀ j, j < 3 → defaultValue (gt_5 j) = if ((gfk 5).getD j (0, 0)).1 = 0 then .int 0 else .null := by decide +kernel
theorem gdf_6 : ∀ j, j < 11 → defaultValue (gt_6 j) = if ((gfk 6).getD j (0, 0)).1 = 0 then .int 0 else .null := by decide +kernel
theorem gdf_7 : ∀ j, j < 47 → defaultValue (gt_7 j) = if ((gfk 7).getD j (0, 0)).1 = 0 then .int 0 else .null := by decide +kernel
theorem gcityF {nl : Nat → Nat → Bool} (h1 : ∀ k, k < 15 → 4 ≤ k → nl 1 k = false) (h2 : ∀ k, k < 15 → 4 ≤ k → nl 13 k = false) : ∀ i, 1 ≤ i → i < 25 → ∀ (G : gG) (b : Nat) (h : gH), g2E G b h nl i = gE G b h i := by
  intro i hi1 hi2 G b h
  have hk : ∀ k q, (gfk 0)[k]? = some q → 2 ≤ q.1 → k < 15 ∧ 4 ≤ k := by
    intro k q hq h2
    have hl : k < 15 := (List.getElem?_eq_some_iff.mp hq).1
    have h3 : ∀ k, k < 15 → 2 ≤ ((gfk 0).getD k (0, 0)).1 → 4 ≤ k := by decide +kernel
    refine ⟨hl, h3 k hl ?_⟩
    rw [List.getD_eq_getElem?_getD, hq]
    exact h2
  have hcase : i = 1 ∨ i = 13 ∨ ∃ n, gsh i = .inl (0, n) := by
    have h4 : ∀ i, i < 25 → 1 ≤ i → i = 1 ∨ i = 13 ∨ gia i = true := by decide +kernel
    rcases h4 i hi2 hi1 with r | r | r
    · exact Or.inl r
    · exact Or.inr (Or.inl r)
    · exact Or.inr (Or.inr ⟨_, giaE r⟩)
  rcases hcase with rfl | rfl | ⟨n, hn⟩
  · exact g2E_full gsh_1 (fun k q hq h2 => h1 k (hk k q hq h2).1 (hk k q hq h2).2)
  · exact g2E_full gsh_13 (fun k q hq h3 => h2 k (hk k q hq h3).1 (hk k q hq h3).2)
  · exact gfullA hn
abbrev gN1 : Nat → Nat → Bool := gclr gN0 1 [4, 5, 6, 7, 8, 9, 10, 11, 12, 13, 14]
abbrev gN2 : Nat → Nat → Bool := gclr gN1 13 [4, 5, 6, 7, 8, 9, 10, 11, 12, 13, 14]
abbrev gN3 : Nat → Nat → Bool := gclr gN2 25 [2]
abbrev gN4 : Nat → Nat → Bool := gnu gN3 0 2
abbrev gN5 : Nat → Nat → Bool := gclr gN4 27 [3, 4, 5, 6, 7, 8, 9, 10, 11]
abbrev gN6 : Nat → Nat → Bool := gnu gN5 0 3
abbrev gN7 : Nat → Nat → Bool := gclr gN6 37 [3, 4, 5, 6, 7, 8, 9, 10, 11]
abbrev gN8 : Nat → Nat → Bool := gnu gN7 0 4
abbrev gN9 : Nat → Nat → Bool := gclr gN8 48 [3, 4, 5, 6, 7, 8, 9, 10, 11]
abbrev gN10 : Nat → Nat → Bool := gnu gN9 47 0
abbrev gN11 : Nat → Nat → Bool := gclr gN10 58 [3, 4, 5, 6, 7, 8, 9, 10, 11]
abbrev gN12 : Nat → Nat → Bool := gnu gN11 47 1
abbrev gN13 : Nat → Nat → Bool := gnu gN12 0 5
abbrev gN14 : Nat → Nat → Bool := gnu gN13 0 6
abbrev gN15 : Nat → Nat → Bool := gclr gN14 69 [0, 1, 2]
abbrev gN16 : Nat → Nat → Bool := gnu gN15 0 7
abbrev gN17 : Nat → Nat → Bool := gclr gN16 72 [1, 2, 3, 4]
abbrev gN18 : Nat → Nat → Bool := gnu gN17 0 8
abbrev gN19 : Nat → Nat → Bool := gclr gN18 75 [1, 2, 3]
abbrev gN20 : Nat → Nat → Bool := gnu gN19 0 9
abbrev gN21 : Nat → Nat → Bool := gclr gN20 79 [1, 2, 3]
abbrev gN22 : Nat → Nat → Bool := gnu gN21 0 10
theorem dq_DS_init_0 : decode gc_DS_init 0 = .ok (.aload_n 0, 1) := by decide +kernel
theorem dq_DS_init_1 : decode gc_DS_init 1 = .ok (.invokespecial 1, 3) := by decide +kernel
theorem dq_DS_init_4 : decode gc_DS_init 4 = .ok (.aload_n 0, 1) := by decide +kernel
theorem dq_DS_init_5 : decode gc_DS_init 5 = .ok (.new 7, 3) := by decide +kernel
theorem dq_DS_init_8 : decode gc_DS_init 8 = .ok (.dup, 1) := by decide +kernel
theorem dq_DS_init_9 : decode gc_DS_init 9 = .ok (.invokespecial 9, 3) := by decide +kernel
theorem dq_DS_init_12 : decode gc_DS_init 12 = .ok (.putfield 10, 3) := by decide +kernel
theorem dq_DS_init_15 : decode gc_DS_init 15 = .ok (.aload_n 0, 1) := by decide +kernel
theorem dq_DS_init_16 : decode gc_DS_init 16 = .ok (.new 7, 3) := by decide +kernel
theorem dq_DS_init_19 : decode gc_DS_init 19 = .ok (.dup, 1) := by decide +kernel
theorem dq_DS_init_20 : decode gc_DS_init 20 = .ok (.invokespecial 9, 3) := by decide +kernel
theorem dq_DS_init_23 : decode gc_DS_init 23 = .ok (.putfield 16, 3) := by decide +kernel
theorem dq_DS_init_26 : decode gc_DS_init 26 = .ok (.aload_n 0, 1) := by decide +kernel
theorem dq_DS_init_27 : decode gc_DS_init 27 = .ok (.new 19, 3) := by decide +kernel
theorem dq_DS_init_30 : decode gc_DS_init 30 = .ok (.dup, 1) := by decide +kernel
theorem dq_DS_init_31 : decode gc_DS_init 31 = .ok (.invokespecial 21, 3) := by decide +kernel
theorem dq_DS_init_34 : decode gc_DS_init 34 = .ok (.putfield 22, 3) := by decide +kernel
theorem dq_DS_init_37 : decode gc_DS_init 37 = .ok (.aload_n 0, 1) := by decide +kernel
theorem dq_DS_init_38 : decode gc_DS_init 38 = .ok (.new 26, 3) := by decide +kernel
theorem dq_DS_init_41 : decode gc_DS_init 41 = .ok (.dup, 1) := by decide +kernel
theorem dq_DS_init_42 : decode gc_DS_init 42 = .ok (.aload_n 0, 1) := by decide +kernel
theorem dq_DS_init_43 : decode gc_DS_init 43 = .ok (.getfield 10, 3) := by decide +kernel
theorem dq_DS_init_46 : decode gc_DS_init 46 = .ok (.invokespecial 28, 3) := by decide +kernel
theorem dq_DS_init_49 : decode gc_DS_init 49 = .ok (.putfield 31, 3) := by decide +kernel
theorem dq_DS_init_52 : decode gc_DS_init 52 = .ok (.aload_n 0, 1) := by decide +kernel
theorem dq_DS_init_53 : decode gc_DS_init 53 = .ok (.new 26, 3) := by decide +kernel
theorem dq_DS_init_56 : decode gc_DS_init 56 = .ok (.dup, 1) := by decide +kernel
theorem dq_DS_init_57 : decode gc_DS_init 57 = .ok (.aload_n 0, 1) := by decide +kernel
theorem dq_DS_init_58 : decode gc_DS_init 58 = .ok (.getfield 10, 3) := by decide +kernel
theorem dq_DS_init_61 : decode gc_DS_init 61 = .ok (.invokespecial 28, 3) := by decide +kernel
theorem dq_DS_init_64 : decode gc_DS_init 64 = .ok (.putfield 35, 3) := by decide +kernel
theorem dq_DS_init_67 : decode gc_DS_init 67 = .ok (.aload_n 0, 1) := by decide +kernel
theorem dq_DS_init_68 : decode gc_DS_init 68 = .ok (.iconst 2, 1) := by decide +kernel
theorem dq_DS_init_69 : decode gc_DS_init 69 = .ok (.anewarray 26, 3) := by decide +kernel
theorem dq_DS_init_72 : decode gc_DS_init 72 = .ok (.dup, 1) := by decide +kernel
theorem dq_DS_init_73 : decode gc_DS_init 73 = .ok (.iconst 0, 1) := by decide +kernel
theorem dq_DS_init_74 : decode gc_DS_init 74 = .ok (.new 26, 3) := by decide +kernel
theorem dq_DS_init_77 : decode gc_DS_init 77 = .ok (.dup, 1) := by decide +kernel
theorem dq_DS_init_78 : decode gc_DS_init 78 = .ok (.aload_n 0, 1) := by decide +kernel
theorem dq_DS_init_79 : decode gc_DS_init 79 = .ok (.getfield 10, 3) := by decide +kernel
theorem dq_DS_init_82 : decode gc_DS_init 82 = .ok (.invokespecial 28, 3) := by decide +kernel
theorem dq_DS_init_85 : decode gc_DS_init 85 = .ok (.aastore, 1) := by decide +kernel
theorem dq_DS_init_86 : decode gc_DS_init 86 = .ok (.dup, 1) := by decide +kernel
theorem dq_DS_init_87 : decode gc_DS_init 87 = .ok (.iconst 1, 1) := by decide +kernel
theorem dq_DS_init_88 : decode gc_DS_init 88 = .ok (.new 26, 3) := by decide +kernel
theorem dq_DS_init_91 : decode gc_DS_init 91 = .ok (.dup, 1) := by decide +kernel
theorem dq_DS_init_92 : decode gc_DS_init 92 = .ok (.aload_n 0, 1) := by decide +kernel
theorem dq_DS_init_93 : decode gc_DS_init 93 = .ok (.getfield 10, 3) := by decide +kernel
theorem dq_DS_init_96 : decode gc_DS_init 96 = .ok (.invokespecial 28, 3) := by decide +kernel
theorem dq_DS_init_99 : decode gc_DS_init 99 = .ok (.aastore, 1) := by decide +kernel
theorem dq_DS_init_100 : decode gc_DS_init 100 = .ok (.putfield 38, 3) := by decide +kernel
theorem dq_DS_init_103 : decode gc_DS_init 103 = .ok (.aload_n 0, 1) := by decide +kernel
theorem dq_DS_init_104 : decode gc_DS_init 104 = .ok (.iconst 2, 1) := by decide +kernel
theorem dq_DS_init_105 : decode gc_DS_init 105 = .ok (.newarray .boolean, 2) := by decide +kernel
theorem dq_DS_init_107 : decode gc_DS_init 107 = .ok (.putfield 42, 3) := by decide +kernel
theorem dq_DS_init_110 : decode gc_DS_init 110 = .ok (.aload_n 0, 1) := by decide +kernel
theorem dq_DS_init_111 : decode gc_DS_init 111 = .ok (.new 46, 3) := by decide +kernel
theorem dq_DS_init_114 : decode gc_DS_init 114 = .ok (.dup, 1) := by decide +kernel
theorem dq_DS_init_115 : decode gc_DS_init 115 = .ok (.aload_n 0, 1) := by decide +kernel
theorem dq_DS_init_116 : decode gc_DS_init 116 = .ok (.getfield 31, 3) := by decide +kernel
theorem dq_DS_init_119 : decode gc_DS_init 119 = .ok (.invokespecial 48, 3) := by decide +kernel
theorem dq_DS_init_122 : decode gc_DS_init 122 = .ok (.putfield 51, 3) := by decide +kernel
theorem dq_DS_init_125 : decode gc_DS_init 125 = .ok (.aload_n 0, 1) := by decide +kernel
theorem dq_DS_init_126 : decode gc_DS_init 126 = .ok (.new 55, 3) := by decide +kernel
theorem dq_DS_init_129 : decode gc_DS_init 129 = .ok (.dup, 1) := by decide +kernel
theorem dq_DS_init_130 : decode gc_DS_init 130 = .ok (.aload_n 0, 1) := by decide +kernel
theorem dq_DS_init_131 : decode gc_DS_init 131 = .ok (.getfield 31, 3) := by decide +kernel
theorem dq_DS_init_134 : decode gc_DS_init 134 = .ok (.aload_n 0, 1) := by decide +kernel
theorem dq_DS_init_135 : decode gc_DS_init 135 = .ok (.getfield 35, 3) := by decide +kernel
theorem dq_DS_init_138 : decode gc_DS_init 138 = .ok (.invokespecial 57, 3) := by decide +kernel
theorem dq_DS_init_141 : decode gc_DS_init 141 = .ok (.putfield 60, 3) := by decide +kernel
theorem dq_DS_init_144 : decode gc_DS_init 144 = .ok (.aload_n 0, 1) := by decide +kernel
theorem dq_DS_init_145 : decode gc_DS_init 145 = .ok (.new 64, 3) := by decide +kernel
theorem dq_DS_init_148 : decode gc_DS_init 148 = .ok (.dup, 1) := by decide +kernel
theorem dq_DS_init_149 : decode gc_DS_init 149 = .ok (.bipush 8, 2) := by decide +kernel
theorem dq_DS_init_151 : decode gc_DS_init 151 = .ok (.invokespecial 66, 3) := by decide +kernel
theorem dq_DS_init_154 : decode gc_DS_init 154 = .ok (.putfield 69, 3) := by decide +kernel
theorem dq_DS_init_157 : decode gc_DS_init 157 = .ok (.aload_n 0, 1) := by decide +kernel
theorem dq_DS_init_158 : decode gc_DS_init 158 = .ok (.new 64, 3) := by decide +kernel
theorem dq_DS_init_161 : decode gc_DS_init 161 = .ok (.dup, 1) := by decide +kernel
theorem dq_DS_init_162 : decode gc_DS_init 162 = .ok (.bipush 15, 2) := by decide +kernel
theorem dq_DS_init_164 : decode gc_DS_init 164 = .ok (.invokespecial 66, 3) := by decide +kernel
theorem dq_DS_init_167 : decode gc_DS_init 167 = .ok (.putfield 73, 3) := by decide +kernel
theorem dq_DS_init_170 : decode gc_DS_init 170 = .ok (.return_, 1) := by decide +kernel
abbrev gm_DS_init : gM := (gc_DS_init, gR_6, 2, 43, 1)
theorem gol_DS : Cond.methodLink gR_6 1 Lib.objectInit ∈ gtbl := (gtab_at 17 (by decide +kernel) rfl)
theorem gcl_DS_7 : Cond.classLink gR_6 7 gR_0 ∈ gtbl := (gtab_at 20 (by decide +kernel) rfl)
theorem gis_0 : Cond.instantiable gR_0 15 ∈ gtbl := (gtab_at 21 (by decide +kernel) rfl)
theorem gii_0 : Cond.initialized gR_0 ∈ gtbl := (gtab_at 2 (by decide +kernel) rfl)
set_option maxRecDepth 20000 in
theorem gcy_DS_9 : gCy gR_6 9 gy_City_init gc_City_init 1 none 0 := ⟨(gtab_at 22 (by decide +kernel) rfl), (gtab_at 2 (by decide +kernel) rfl), (gtab_at 24 rfl rfl), by decide, by decide, by decide +kernel⟩
theorem gim_City_init : Cond.instanceMethod gy_City_init ∈ gtbl := (gtab_at 23 (by decide +kernel) rfl)
theorem gcl_DS_19 : Cond.classLink gR_6 19 gR_2 ∈ gtbl := (gtab_at 115 (by decide +kernel) rfl)
theorem gis_2 : Cond.instantiable gR_2 6 ∈ gtbl := (gtab_at 116 (by decide +kernel) rfl)
theorem gii_2 : Cond.initialized gR_2 ∈ gtbl := (gtab_at 3 (by decide +kernel) rfl)
set_option maxRecDepth 20000 in
theorem gcy_DS_21 : gCy gR_6 21 gy_Reader_init gc_Reader_init 1 none 0 := ⟨(gtab_at 117 (by decide +kernel) rfl), (gtab_at 3 (by decide +kernel) rfl), (gtab_at 119 rfl rfl), by decide, by decide, by decide +kernel⟩
theorem gim_Reader_init : Cond.instanceMethod gy_Reader_init ∈ gtbl := (gtab_at 118 (by decide +kernel) rfl)
theorem gff_DS_22 : gFf gR_6 22 6 2 (.object "DecreedStreets$Reader") := ⟨_, _, _, gt_6, rfl, by decide, (gtab_at 274 (by decide +kernel) rfl), gin_6, gto_6, gnm_6, rfl, rfl, by decide +kernel⟩
theorem gcl_DS_26 : Cond.classLink gR_6 26 gR_4 ∈ gtbl := (gtab_at 142 (by decide +kernel) rfl)
theorem gis_4 : Cond.instantiable gR_4 12 ∈ gtbl := (gtab_at 143 (by decide +kernel) rfl)
theorem gii_4 : Cond.initialized gR_4 ∈ gtbl := (gtab_at 4 (by decide +kernel) rfl)
set_option maxRecDepth 20000 in
theorem gcy_DS_28 : gCy gR_6 28 gy_Traffic_init gc_Traffic_init 2 none 1 := ⟨(gtab_at 144 (by decide +kernel) rfl), (gtab_at 4 (by decide +kernel) rfl), (gtab_at 146 rfl rfl), by decide, by decide, by decide +kernel⟩
theorem gim_Traffic_init : Cond.instanceMethod gy_Traffic_init ∈ gtbl := (gtab_at 145 (by decide +kernel) rfl)
theorem gff_DS_31 : gFf gR_6 31 6 3 (.object "DecreedStreets$Traffic") := ⟨_, _, _, gt_6, rfl, by decide, (gtab_at 275 (by decide +kernel) rfl), gin_6, gto_6, gnm_6, rfl, rfl, by decide +kernel⟩
theorem gff_DS_35 : gFf gR_6 35 6 4 (.object "DecreedStreets$Traffic") := ⟨_, _, _, gt_6, rfl, by decide, (gtab_at 276 (by decide +kernel) rfl), gin_6, gto_6, gnm_6, rfl, rfl, by decide +kernel⟩
theorem gff_DS_38 : gFf gR_6 38 6 5 (.array (.object "DecreedStreets$Traffic")) := ⟨_, _, _, gt_6, rfl, by decide, (gtab_at 277 (by decide +kernel) rfl), gin_6, gto_6, gnm_6, rfl, rfl, by decide +kernel⟩
theorem gff_DS_42 : gFf gR_6 42 6 6 (.array .boolean) := ⟨_, _, _, gt_6, rfl, by decide, (gtab_at 278 (by decide +kernel) rfl), gin_6, gto_6, gnm_6, rfl, rfl, by decide +kernel⟩
theorem gcl_DS_46 : Cond.classLink gR_6 46 gR_5 ∈ gtbl := (gtab_at 205 (by decide +kernel) rfl)
theorem gis_5 : Cond.instantiable gR_5 3 ∈ gtbl := (gtab_at 206 (by decide +kernel) rfl)
theorem gii_5 : Cond.initialized gR_5 ∈ gtbl := (gtab_at 5 (by decide +kernel) rfl)
set_option maxRecDepth 20000 in
theorem gcy_DS_48 : gCy gR_6 48 gy_Way_init gc_Way_init 2 none 1 := ⟨(gtab_at 207 (by decide +kernel) rfl), (gtab_at 5 (by decide +kernel) rfl), (gtab_at 209 rfl rfl), by decide, by decide, by decide +kernel⟩
theorem gim_Way_init : Cond.instanceMethod gy_Way_init ∈ gtbl := (gtab_at 208 (by decide +kernel) rfl)
theorem gff_DS_51 : gFf gR_6 51 6 7 (.object "DecreedStreets$Way") := ⟨_, _, _, gt_6, rfl, by decide, (gtab_at 279 (by decide +kernel) rfl), gin_6, gto_6, gnm_6, rfl, rfl, by decide +kernel⟩
theorem gcl_DS_55 : Cond.classLink gR_6 55 gR_3 ∈ gtbl := (gtab_at 223 (by decide +kernel) rfl)
theorem gis_3 : Cond.instantiable gR_3 6 ∈ gtbl := (gtab_at 224 (by decide +kernel) rfl)
theorem gii_3 : Cond.initialized gR_3 ∈ gtbl := (gtab_at 6 (by decide +kernel) rfl)
set_option maxRecDepth 20000 in
theorem gcy_DS_57 : gCy gR_6 57 gy_Shuffle_init gc_Shuffle_init 3 none 2 := ⟨(gtab_at 225 (by decide +kernel) rfl), (gtab_at 6 (by decide +kernel) rfl), (gtab_at 227 rfl rfl), by decide, by decide, by decide +kernel⟩
theorem gim_Shuffle_init : Cond.instanceMethod gy_Shuffle_init ∈ gtbl := (gtab_at 226 (by decide +kernel) rfl)
theorem gff_DS_60 : gFf gR_6 60 6 8 (.object "DecreedStreets$Shuffle") := ⟨_, _, _, gt_6, rfl, by decide, (gtab_at 280 (by decide +kernel) rfl), gin_6, gto_6, gnm_6, rfl, rfl, by decide +kernel⟩
theorem gcl_DS_64 : Cond.classLink gR_6 64 gR_1 ∈ gtbl := (gtab_at 250 (by decide +kernel) rfl)
theorem gis_1 : Cond.instantiable gR_1 4 ∈ gtbl := (gtab_at 251 (by decide +kernel) rfl)
theorem gii_1 : Cond.initialized gR_1 ∈ gtbl := (gtab_at 7 (by decide +kernel) rfl)
set_option maxRecDepth 20000 in
theorem gcy_DS_66 : gCy gR_6 66 gy_Notes_init gc_Notes_init 2 none 1 := ⟨(gtab_at 252 (by decide +kernel) rfl), (gtab_at 7 (by decide +kernel) rfl), (gtab_at 254 rfl rfl), by decide, by decide, by decide +kernel⟩
theorem gim_Notes_init : Cond.instanceMethod gy_Notes_init ∈ gtbl := (gtab_at 253 (by decide +kernel) rfl)
theorem gff_DS_69 : gFf gR_6 69 6 9 (.object "DecreedStreets$Notes") := ⟨_, _, _, gt_6, rfl, by decide, (gtab_at 281 (by decide +kernel) rfl), gin_6, gto_6, gnm_6, rfl, rfl, by decide +kernel⟩
theorem gff_DS_73 : gFf gR_6 73 6 10 (.object "DecreedStreets$Notes") := ⟨_, _, _, gt_6, rfl, by decide, (gtab_at 282 (by decide +kernel) rfl), gin_6, gto_6, gnm_6, rfl, rfl, by decide +kernel⟩
theorem c2_DS {Z : gZ} {o1 o2 o3 o4 : gO} (hg0 : gRg gI3) (hx1 : f_Traffic_begin 27 1 gI3 = some o1) (ho1 : ∀ i, i ∉ gBL 27 → o1.1 i = gI3 i) (hg1 : gRg o1.1) (hx2 : f_Traffic_begin 37 1 o1.1 = some o2) (ho2 : ∀ i, i ∉ gBL 37 → o2.1 i = o1.1 i) (hg2 : gRg o2.1) (hx3 : f_Traffic_begin 48 1 o2.1 = some o3) (ho3 : ∀ i, i ∉ gBL 48 → o3.1 i = o2.1 i) (hg3 : gRg o3.1) (hx4 : f_Traffic_begin 58 1 o3.1 = some o4) (ho4 : ∀ i, i ∉ gBL 58 → o4.1 i = o3.1 i) : gC2 Z gy_DS_init gc_DS_init 1 2 43 [.ref (zb Z + 0)] 1 gI0 gN0 83 o4.1 gN22 := by
  refine gC2_of (own := gR_6) (by decide +kernel) rfl rfl (Nat.le_of_ble_eq_true rfl) rfl (fun X hZ hin hsl hce hF => ?_)
  subst hZ
  show gk gm_DS_init X 1 gI0 gN0 0 [(0, .ref (zb (xZ X) + 0))] []
  have n0 : ∀ j, 1 ≤ j → ∀ k, gN0 j k = true := fun _ _ _ => rfl
  have z0 : ∀ j, 1 ≤ j → ∀ k, gI0 j k = 0 := fun _ _ _ => rfl
  refine k_aload_n (M := gm_DS_init) dq_DS_init_0 rfl 0 rfl 1 rfl ?_
  refine k_objInit (M := gm_DS_init) dq_DS_init_1 gol_DS goi_i goi_c ⟨by decide, by decide⟩ (Nat.le_of_ble_eq_true rfl) 4 rfl ?_
  refine k_aload_n (M := gm_DS_init) dq_DS_init_4 rfl 0 rfl 5 rfl ?_
  refine k_new (M := gm_DS_init) gt_0 dq_DS_init_5 gcl_DS_7 gis_0 gii_0 gsh_1 rfl gin_0 gto_0 rfl gdf_0 (z0 1 (by decide)) (n0 1 (by decide)) 2 rfl (by rw [hsl]; decide) 8 rfl ?_
  refine k_dup (M := gm_DS_init) dq_DS_init_8 rfl 9 rfl ?_
  refine k_callI (M := gm_DS_init) (as := []) dq_DS_init_9 rfl gcy_DS_9 rfl gim_City_init ⟨by decide, by decide⟩ (Nat.le_of_ble_eq_true rfl) (by decide) (by rw [hsl]; decide) (c2_City_1 (fun j hj => z0 j (by omega)) (fun j hj => n0 j (by omega))) 12 rfl ?_
  have n1 : ∀ j, 13 ≤ j → ∀ k, gN1 j k = true := fun j hj k => (gclr_ne _ (by omega)).trans (n0 j (by omega) k)
  refine k_put (M := gm_DS_init) (v := ((1 : Nat) : Int)) dq_DS_init_12 gfp_DS_10 gsh_0 rfl (by decide) (by decide) rfl rfl rfl 15 rfl ?_
  have z2 : ∀ j, 13 ≤ j → ∀ k, gI1 j k = 0 := fun j hj k => (gup_ne (fun q => by omega)).trans (z0 j (by omega) k)
  refine k_aload_n (M := gm_DS_init) dq_DS_init_15 rfl 0 rfl 16 rfl ?_
  refine k_new (M := gm_DS_init) gt_0 dq_DS_init_16 gcl_DS_7 gis_0 gii_0 gsh_13 rfl gin_0 gto_0 rfl gdf_0 (z2 13 (by decide)) (n1 13 (by decide)) 14 rfl (by rw [hsl]; decide) 19 rfl ?_
  refine k_dup (M := gm_DS_init) dq_DS_init_19 rfl 20 rfl ?_
  refine k_callI (M := gm_DS_init) (as := []) dq_DS_init_20 rfl gcy_DS_9 rfl gim_City_init ⟨by decide, by decide⟩ (Nat.le_of_ble_eq_true rfl) (by decide) (by rw [hsl]; decide) (c2_City_13 (fun j hj => z2 j (by omega)) (fun j hj => n1 j (by omega))) 23 rfl ?_
  have n3 : ∀ j, 25 ≤ j → ∀ k, gN2 j k = true := fun j hj k => (gclr_ne _ (by omega)).trans (n1 j (by omega) k)
  refine k_put (M := gm_DS_init) (v := ((13 : Nat) : Int)) dq_DS_init_23 gfp_DS_16 gsh_0 rfl (by decide) (by decide) rfl rfl rfl 26 rfl ?_
  have z4 : ∀ j, 25 ≤ j → ∀ k, gI2 j k = 0 := fun j hj k => (gup_ne (fun q => by omega)).trans (z2 j (by omega) k)
  refine k_aload_n (M := gm_DS_init) dq_DS_init_26 rfl 0 rfl 27 rfl ?_
  refine k_new (M := gm_DS_init) gt_2 dq_DS_init_27 gcl_DS_19 gis_2 gii_2 gsh_25 rfl gin_2 gto_2 rfl gdf_2 (z4 25 (by decide)) (n3 25 (by decide)) 26 rfl (by rw [hsl]; decide) 30 rfl ?_
  refine k_dup (M := gm_DS_init) dq_DS_init_30 rfl 31 rfl ?_
  refine k_callI (M := gm_DS_init) (as := []) dq_DS_init_31 rfl gcy_DS_21 rfl gim_Reader_init ⟨by decide, by decide⟩ (Nat.le_of_ble_eq_true rfl) (by decide) (by rw [hsl]; decide) (c2_Reader_25 (fun j hj => z4 j (by omega)) (fun j hj => n3 j (by omega))) 34 rfl ?_
  have n5 : ∀ j, 27 ≤ j → ∀ k, gN3 j k = true := fun j hj k => (gclr_ne _ (by omega)).trans (n3 j (by omega) k)
  have zr : ∀ j, 27 ≤ j → ∀ k, gI3 j k = 0 := fun j hj k => (gup_ne (fun q => by omega)).trans (z4 j (by omega) k)
  refine k_putF (M := gm_DS_init) dq_DS_init_34 gff_DS_22 hin gsh_0 rfl (by decide) (Or.inr ⟨rfl, rfl⟩) (fun _ => rfl) (fun _ => rfl) 37 rfl ?_
  have n6 : ∀ j, 27 ≤ j → ∀ k, gN4 j k = true := fun j hj k => (if_neg (fun q => by omega)).trans (n5 j (by omega) k)
  refine k_aload_n (M := gm_DS_init) dq_DS_init_37 rfl 0 rfl 38 rfl ?_
  refine k_new (M := gm_DS_init) gt_4 dq_DS_init_38 gcl_DS_26 gis_4 gii_4 gsh_27 rfl gin_4 gto_4 rfl gdf_4 (zr 27 (by decide)) (n6 27 (by decide)) 28 rfl (by rw [hsl]; decide) 41 rfl ?_
  refine k_dup (M := gm_DS_init) dq_DS_init_41 rfl 42 rfl ?_
  refine k_aload_n (M := gm_DS_init) dq_DS_init_42 rfl 0 rfl 43 rfl ?_
  refine k_get (M := gm_DS_init) (.ref (zb (xZ X) + 1)) dq_DS_init_43 gfl_DS_10 gsh_0 rfl (by decide) (g2v_d (v := 1) rfl (by decide)) 46 rfl ?_
  refine k_callI (M := gm_DS_init) (as := [.ref (zb (xZ X) + 1)]) dq_DS_init_46 rfl gcy_DS_28 rfl gim_Traffic_init ⟨by decide, by decide⟩ (Nat.le_of_ble_eq_true rfl) (by decide) (by rw [hsl]; decide) (c2_Traffic_27 (fun j hj => zr j (by omega)) (fun j hj => n6 j (by omega)) (gcityF (by decide +kernel) (by decide +kernel)) hg0 hx1 ho1) 49 rfl ?_
  have n7 : ∀ j, 37 ≤ j → ∀ k, gN5 j k = true := fun j hj k => (gclr_ne _ (by omega)).trans (n6 j (by omega) k)
  have zt1 : ∀ j, 37 ≤ j → ∀ k, o1.1 j k = 0 := fun j hj k => by rw [ho1 j (fun hq => by rcases gBL_in hq with q | q <;> omega)]; exact zr j (by omega) k
  have y1 : o1.1 0 0 = ((1 : Nat) : Int) := by rw [ho1 0 (fun hq => by rcases gBL_in hq with q | q <;> omega)]; exact rfl
  refine k_putF (M := gm_DS_init) dq_DS_init_49 gff_DS_31 hin gsh_0 rfl (by decide) (Or.inr ⟨rfl, rfl⟩) (fun _ => rfl) (fun _ => rfl) 52 rfl ?_
  have n8 : ∀ j, 37 ≤ j → ∀ k, gN6 j k = true := fun j hj k => (if_neg (fun q => by omega)).trans (n7 j (by omega) k)
  refine k_aload_n (M := gm_DS_init) dq_DS_init_52 rfl 0 rfl 53 rfl ?_
  refine k_new (M := gm_DS_init) gt_4 dq_DS_init_53 gcl_DS_26 gis_4 gii_4 gsh_37 rfl gin_4 gto_4 rfl gdf_4 (zt1 37 (by decide)) (n8 37 (by decide)) 38 rfl (by rw [hsl]; decide) 56 rfl ?_
  refine k_dup (M := gm_DS_init) dq_DS_init_56 rfl 57 rfl ?_
  refine k_aload_n (M := gm_DS_init) dq_DS_init_57 rfl 0 rfl 58 rfl ?_
  refine k_get (M := gm_DS_init) (.ref (zb (xZ X) + 1)) dq_DS_init_58 gfl_DS_10 gsh_0 rfl (by decide) (g2v_d (v := 1) y1 (by decide)) 61 rfl ?_
  refine k_callI (M := gm_DS_init) (as := [.ref (zb (xZ X) + 1)]) dq_DS_init_61 rfl gcy_DS_28 rfl gim_Traffic_init ⟨by decide, by decide⟩ (Nat.le_of_ble_eq_true rfl) (by decide) (by rw [hsl]; decide) (c2_Traffic_37 (fun j hj => zt1 j (by omega)) (fun j hj => n8 j (by omega)) (gcityF (by decide +kernel) (by decide +kernel)) hg1 hx2 ho2) 64 rfl ?_
  have n9 : ∀ j, 47 ≤ j → ∀ k, gN7 j k = true := fun j hj k => (gclr_ne _ (by omega)).trans (n8 j (by omega) k)
  have zt2 : ∀ j, 47 ≤ j → ∀ k, o2.1 j k = 0 := fun j hj k => by rw [ho2 j (fun hq => by rcases gBL_in hq with q | q <;> omega)]; exact zt1 j (by omega) k
  have y2 : o2.1 0 0 = ((1 : Nat) : Int) := by rw [ho2 0 (fun hq => by rcases gBL_in hq with q | q <;> omega)]; exact y1
  refine k_putF (M := gm_DS_init) dq_DS_init_64 gff_DS_35 hin gsh_0 rfl (by decide) (Or.inr ⟨rfl, rfl⟩) (fun _ => rfl) (fun _ => rfl) 67 rfl ?_
  have n10 : ∀ j, 47 ≤ j → ∀ k, gN8 j k = true := fun j hj k => (if_neg (fun q => by omega)).trans (n9 j (by omega) k)
  refine k_aload_n (M := gm_DS_init) dq_DS_init_67 rfl 0 rfl 68 rfl ?_
  refine k_iconst (M := gm_DS_init) (Int32.ofInt 2) dq_DS_init_68 rfl 69 rfl ?_
  refine k_newq (M := gm_DS_init) dq_DS_init_69 gcl_DS_26 gsh_47 (fun k _ => n10 47 (by decide) k) (by decide) (by decide) (by decide) 48 rfl (by rw [hsl]; decide) 72 rfl ?_
  refine k_dup (M := gm_DS_init) dq_DS_init_72 rfl 73 rfl ?_
  refine k_iconst (M := gm_DS_init) (Int32.ofInt 0) dq_DS_init_73 rfl 74 rfl ?_
  refine k_new (M := gm_DS_init) gt_4 dq_DS_init_74 gcl_DS_26 gis_4 gii_4 gsh_48 rfl gin_4 gto_4 rfl gdf_4 (zt2 48 (by decide)) (n10 48 (by decide)) 49 rfl (by rw [hsl]; decide) 77 rfl ?_
  refine k_dup (M := gm_DS_init) dq_DS_init_77 rfl 78 rfl ?_
  refine k_aload_n (M := gm_DS_init) dq_DS_init_78 rfl 0 rfl 79 rfl ?_
  refine k_get (M := gm_DS_init) (.ref (zb (xZ X) + 1)) dq_DS_init_79 gfl_DS_10 gsh_0 rfl (by decide) (g2v_d (v := 1) y2 (by decide)) 82 rfl ?_
  refine k_callI (M := gm_DS_init) (as := [.ref (zb (xZ X) + 1)]) dq_DS_init_82 rfl gcy_DS_28 rfl gim_Traffic_init ⟨by decide, by decide⟩ (Nat.le_of_ble_eq_true rfl) (by decide) (by rw [hsl]; decide) (c2_Traffic_48 (fun j hj => zt2 j (by omega)) (fun j hj => n10 j (by omega)) (gcityF (by decide +kernel) (by decide +kernel)) hg2 hx3 ho3) 85 rfl ?_
  have n11 : ∀ j, 58 ≤ j → ∀ k, gN9 j k = true := fun j hj k => (gclr_ne _ (by omega)).trans (n10 j (by omega) k)
  have zt3 : ∀ j, 58 ≤ j → ∀ k, o3.1 j k = 0 := fun j hj k => by rw [ho3 j (fun hq => by rcases gBL_in hq with q | q <;> omega)]; exact zt2 j (by omega) k
  have y3 : o3.1 0 0 = ((1 : Nat) : Int) := by rw [ho3 0 (fun hq => by rcases gBL_in hq with q | q <;> omega)]; exact y2
  refine k_aast (M := gm_DS_init) (j := 0) dq_DS_init_85 gsh_47 (by decide) (by decide) gsh_48 rfl (by decide) (by decide) rfl 86 rfl ?_
  have n12 : ∀ j, 58 ≤ j → ∀ k, gN10 j k = true := fun j hj k => (if_neg (fun q => by omega)).trans (n11 j (by omega) k)
  refine k_dup (M := gm_DS_init) dq_DS_init_86 rfl 87 rfl ?_
  refine k_iconst (M := gm_DS_init) (Int32.ofInt 1) dq_DS_init_87 rfl 88 rfl ?_
  refine k_new (M := gm_DS_init) gt_4 dq_DS_init_88 gcl_DS_26 gis_4 gii_4 gsh_58 rfl gin_4 gto_4 rfl gdf_4 (zt3 58 (by decide)) (n12 58 (by decide)) 59 rfl (by rw [hsl]; decide) 91 rfl ?_
  refine k_dup (M := gm_DS_init) dq_DS_init_91 rfl 92 rfl ?_
  refine k_aload_n (M := gm_DS_init) dq_DS_init_92 rfl 0 rfl 93 rfl ?_
  refine k_get (M := gm_DS_init) (.ref (zb (xZ X) + 1)) dq_DS_init_93 gfl_DS_10 gsh_0 rfl (by decide) (g2v_d (v := 1) y3 (by decide)) 96 rfl ?_
  refine k_callI (M := gm_DS_init) (as := [.ref (zb (xZ X) + 1)]) dq_DS_init_96 rfl gcy_DS_28 rfl gim_Traffic_init ⟨by decide, by decide⟩ (Nat.le_of_ble_eq_true rfl) (by decide) (by rw [hsl]; decide) (c2_Traffic_58 (fun j hj => zt3 j (by omega)) (fun j hj => n12 j (by omega)) (gcityF (by decide +kernel) (by decide +kernel)) hg3 hx4 ho4) 99 rfl ?_
  have n13 : ∀ j, 68 ≤ j → ∀ k, gN11 j k = true := fun j hj k => (gclr_ne _ (by omega)).trans (n12 j (by omega) k)
  have zt4 : ∀ j, 68 ≤ j → ∀ k, o4.1 j k = 0 := fun j hj k => by rw [ho4 j (fun hq => by rcases gBL_in hq with q | q <;> omega)]; exact zt3 j (by omega) k
  have y4 : o4.1 0 0 = ((1 : Nat) : Int) := by rw [ho4 0 (fun hq => by rcases gBL_in hq with q | q <;> omega)]; exact y3
  refine k_aast (M := gm_DS_init) (j := 1) dq_DS_init_99 gsh_47 (by decide) (by decide) gsh_58 rfl (by decide) (by decide) rfl 100 rfl ?_
  have n14 : ∀ j, 68 ≤ j → ∀ k, gN12 j k = true := fun j hj k => (if_neg (fun q => by omega)).trans (n13 j (by omega) k)
  refine k_putF (M := gm_DS_init) dq_DS_init_100 gff_DS_38 hin gsh_0 rfl (by decide) (Or.inr ⟨rfl, rfl⟩) (fun _ => rfl) (fun _ => rfl) 103 rfl ?_
  have n15 : ∀ j, 68 ≤ j → ∀ k, gN13 j k = true := fun j hj k => (if_neg (fun q => by omega)).trans (n14 j (by omega) k)
  refine k_aload_n (M := gm_DS_init) dq_DS_init_103 rfl 0 rfl 104 rfl ?_
  refine k_iconst (M := gm_DS_init) (Int32.ofInt 2) dq_DS_init_104 rfl 105 rfl ?_
  refine k_newz (M := gm_DS_init) dq_DS_init_105 gac_bool gsh_68 (zt4 68 (by decide)) (by decide) (by decide) (by decide) 69 rfl (by rw [hsl]; decide) 107 rfl ?_
  refine k_putF (M := gm_DS_init) dq_DS_init_107 gff_DS_42 hin gsh_0 rfl (by decide) (Or.inr ⟨rfl, rfl⟩) (fun _ => rfl) (fun _ => rfl) 110 rfl ?_
  have n16 : ∀ j, 69 ≤ j → ∀ k, gN14 j k = true := fun j hj k => (if_neg (fun q => by omega)).trans (n15 j (by omega) k)
  refine k_aload_n (M := gm_DS_init) dq_DS_init_110 rfl 0 rfl 111 rfl ?_
  refine k_new (M := gm_DS_init) gt_5 dq_DS_init_111 gcl_DS_46 gis_5 gii_5 gsh_69 rfl gin_5 gto_5 rfl gdf_5 (zt4 69 (by decide)) (n16 69 (by decide)) 70 rfl (by rw [hsl]; decide) 114 rfl ?_
  refine k_dup (M := gm_DS_init) dq_DS_init_114 rfl 115 rfl ?_
  refine k_aload_n (M := gm_DS_init) dq_DS_init_115 rfl 0 rfl 116 rfl ?_
  refine k_get (M := gm_DS_init) (.ref (zb (xZ X) + 27)) dq_DS_init_116 gfl_DS_31 gsh_0 rfl (by decide) (g2v_s (by decide +kernel)) 119 rfl ?_
  refine k_callI (M := gm_DS_init) (as := [.ref (zb (xZ X) + 27)]) dq_DS_init_119 rfl gcy_DS_48 rfl gim_Way_init ⟨by decide, by decide⟩ (Nat.le_of_ble_eq_true rfl) (by decide) (by rw [hsl]; decide) (c2_Way_69 (fun j hj => zt4 j (by omega)) (fun j hj => n16 j (by omega))) 122 rfl ?_
  have n17 : ∀ j, 72 ≤ j → ∀ k, gN15 j k = true := fun j hj k => (gclr_ne _ (by omega)).trans (n16 j (by omega) k)
  refine k_putF (M := gm_DS_init) dq_DS_init_122 gff_DS_51 hin gsh_0 rfl (by decide) (Or.inr ⟨rfl, rfl⟩) (fun _ => rfl) (fun _ => rfl) 125 rfl ?_
  have n18 : ∀ j, 72 ≤ j → ∀ k, gN16 j k = true := fun j hj k => (if_neg (fun q => by omega)).trans (n17 j (by omega) k)
  refine k_aload_n (M := gm_DS_init) dq_DS_init_125 rfl 0 rfl 126 rfl ?_
  refine k_new (M := gm_DS_init) gt_3 dq_DS_init_126 gcl_DS_55 gis_3 gii_3 gsh_72 rfl gin_3 gto_3 rfl gdf_3 (zt4 72 (by decide)) (n18 72 (by decide)) 73 rfl (by rw [hsl]; decide) 129 rfl ?_
  refine k_dup (M := gm_DS_init) dq_DS_init_129 rfl 130 rfl ?_
  refine k_aload_n (M := gm_DS_init) dq_DS_init_130 rfl 0 rfl 131 rfl ?_
  refine k_get (M := gm_DS_init) (.ref (zb (xZ X) + 27)) dq_DS_init_131 gfl_DS_31 gsh_0 rfl (by decide) (g2v_s (by decide +kernel)) 134 rfl ?_
  refine k_aload_n (M := gm_DS_init) dq_DS_init_134 rfl 0 rfl 135 rfl ?_
  refine k_get (M := gm_DS_init) (.ref (zb (xZ X) + 37)) dq_DS_init_135 gfl_DS_35 gsh_0 rfl (by decide) (g2v_s (by decide +kernel)) 138 rfl ?_
  refine k_callI (M := gm_DS_init) (as := [.ref (zb (xZ X) + 27), .ref (zb (xZ X) + 37)]) dq_DS_init_138 rfl gcy_DS_57 rfl gim_Shuffle_init ⟨by decide, by decide⟩ (Nat.le_of_ble_eq_true rfl) (by decide) (by rw [hsl]; decide) (c2_Shuffle_72 (fun j hj => zt4 j (by omega)) (fun j hj => n18 j (by omega))) 141 rfl ?_
  have n19 : ∀ j, 75 ≤ j → ∀ k, gN17 j k = true := fun j hj k => (gclr_ne _ (by omega)).trans (n18 j (by omega) k)
  refine k_putF (M := gm_DS_init) dq_DS_init_141 gff_DS_60 hin gsh_0 rfl (by decide) (Or.inr ⟨rfl, rfl⟩) (fun _ => rfl) (fun _ => rfl) 144 rfl ?_
  have n20 : ∀ j, 75 ≤ j → ∀ k, gN18 j k = true := fun j hj k => (if_neg (fun q => by omega)).trans (n19 j (by omega) k)
  refine k_aload_n (M := gm_DS_init) dq_DS_init_144 rfl 0 rfl 145 rfl ?_
  refine k_new (M := gm_DS_init) gt_1 dq_DS_init_145 gcl_DS_64 gis_1 gii_1 gsh_75 rfl gin_1 gto_1 rfl gdf_1 (zt4 75 (by decide)) (n20 75 (by decide)) 76 rfl (by rw [hsl]; decide) 148 rfl ?_
  refine k_dup (M := gm_DS_init) dq_DS_init_148 rfl 149 rfl ?_
  refine k_bipush (M := gm_DS_init) (Int32.ofInt 8) dq_DS_init_149 (by decide) 151 rfl ?_
  refine k_callI (M := gm_DS_init) (as := [.int (Int32.ofInt 8)]) dq_DS_init_151 rfl gcy_DS_66 rfl gim_Notes_init ⟨by decide, by decide⟩ (Nat.le_of_ble_eq_true rfl) (by decide) (by rw [hsl]; decide) (c2_Notes_75 (fun j hj => zt4 j (by omega)) (fun j hj => n20 j (by omega))) 154 rfl ?_
  have n21 : ∀ j, 79 ≤ j → ∀ k, gN19 j k = true := fun j hj k => (gclr_ne _ (by omega)).trans (n20 j (by omega) k)
  refine k_putF (M := gm_DS_init) dq_DS_init_154 gff_DS_69 hin gsh_0 rfl (by decide) (Or.inr ⟨rfl, rfl⟩) (fun _ => rfl) (fun _ => rfl) 157 rfl ?_
  have n22 : ∀ j, 79 ≤ j → ∀ k, gN20 j k = true := fun j hj k => (if_neg (fun q => by omega)).trans (n21 j (by omega) k)
  refine k_aload_n (M := gm_DS_init) dq_DS_init_157 rfl 0 rfl 158 rfl ?_
  refine k_new (M := gm_DS_init) gt_1 dq_DS_init_158 gcl_DS_64 gis_1 gii_1 gsh_79 rfl gin_1 gto_1 rfl gdf_1 (zt4 79 (by decide)) (n22 79 (by decide)) 80 rfl (by rw [hsl]; decide) 161 rfl ?_
  refine k_dup (M := gm_DS_init) dq_DS_init_161 rfl 162 rfl ?_
  refine k_bipush (M := gm_DS_init) (Int32.ofInt 15) dq_DS_init_162 (by decide) 164 rfl ?_
  refine k_callI (M := gm_DS_init) (as := [.int (Int32.ofInt 15)]) dq_DS_init_164 rfl gcy_DS_66 rfl gim_Notes_init ⟨by decide, by decide⟩ (Nat.le_of_ble_eq_true rfl) (by decide) (by rw [hsl]; decide) (c2_Notes_79 (fun j hj => zt4 j (by omega)) (fun j hj => n22 j (by omega))) 167 rfl ?_
  have n23 : ∀ j, 83 ≤ j → ∀ k, gN21 j k = true := fun j hj k => (gclr_ne _ (by omega)).trans (n22 j (by omega) k)
  refine k_putF (M := gm_DS_init) dq_DS_init_167 gff_DS_73 hin gsh_0 rfl (by decide) (Or.inr ⟨rfl, rfl⟩) (fun _ => rfl) (fun _ => rfl) 170 rfl ?_
  have n24 : ∀ j, 83 ≤ j → ∀ k, gN22 j k = true := fun j hj k => (if_neg (fun q => by omega)).trans (n23 j (by omega) k)
  exact k_ret (M := gm_DS_init) dq_DS_init_170 (fun _ => rfl) hF

