def gclr (nl : Nat → Nat → Bool) (t : Nat) (ks : List Nat) : Nat → Nat → Bool := ks.foldl (fun m k => gnu m t k) nl
theorem gclr_ne {nl : Nat → Nat → Bool} {t : Nat} (ks : List Nat) {x y : Nat} (hx : x ≠ t) : gclr nl t ks x y = nl x y := by
  unfold gclr
  induction ks generalizing nl with
  | nil => rfl
  | cons k ks ih =>
    rw [List.foldl_cons, ih]
    exact if_neg (fun z => hx z.1)
theorem gclr_f {nl : Nat → Nat → Bool} {t : Nat} (ks : List Nat) {x y : Nat} (h0 : nl x y = false) : gclr nl t ks x y = false := by
  unfold gclr
  induction ks generalizing nl with
  | nil => exact h0
  | cons k ks ih =>
    rw [List.foldl_cons]
    refine ih ?_
    unfold gnu
    split
    · rfl
    · exact h0
theorem gclr_in {nl : Nat → Nat → Bool} {t : Nat} (ks : List Nat) {y : Nat} (hy : y ∈ ks) : gclr nl t ks t y = false := by
  unfold gclr
  induction ks generalizing nl with
  | nil => cases hy
  | cons k ks ih =>
    rw [List.foldl_cons]
    rcases List.mem_cons.mp hy with e | h
    · subst e
      exact gclr_f (nl := gnu nl t y) ks (gnu_at nl t y)
    · exact ih h
def gBL (t : Nat) : List Nat := (List.range 10).map (fun k => t + k) ++ (List.range 24).map (fun k => 1 + k)
theorem gfullA {G : gG} {b : Nat} {h : gH} {nl : Nat → Nat → Bool} {i n : Nat} (hs : gsh i = .inl (0, n)) : g2E G b h nl i = gE G b h i := by rw [g2E_i hs, gE_i hs]
theorem gfullZ {G : gG} {b : Nat} {h : gH} {nl : Nat → Nat → Bool} {i n : Nat} (hs : gsh i = .inl (1, n)) : g2E G b h nl i = gE G b h i := by rw [g2E_z hs, gE_z hs]
theorem gkindT : ∀ k, k < 12 → ∀ q, (gfk 4)[k]? = some q → 2 ≤ q.1 → k ∈ [3, 4, 5, 6, 7, 8, 9, 10, 11] := by
  intro k hk q hq h2
  have h1 : ∀ k, k < 12 → 2 ≤ ((gfk 4).getD k (0, 0)).1 → k ∈ [3, 4, 5, 6, 7, 8, 9, 10, 11] := by decide +kernel
  refine h1 k hk ?_
  rw [List.getD_eq_getElem?_getD, hq]
  exact h2
theorem gBL_in {t i : Nat} (hi : i ∈ gBL t) : (t ≤ i ∧ i < t + 10) ∨ (1 ≤ i ∧ i < 25) := by
  rcases List.mem_append.mp hi with h | h
  · obtain ⟨k, hk, rfl⟩ := List.mem_map.mp h
    have := List.mem_range.mp hk
    exact Or.inl ⟨by omega, by omega⟩
  · obtain ⟨k, hk, rfl⟩ := List.mem_map.mp h
    have := List.mem_range.mp hk
    exact Or.inr ⟨by omega, by omega⟩
theorem gBL_t {t : Nat} : ∀ k, k < 10 → t + k ∈ gBL t := fun k hk => List.mem_append_left _ (List.mem_map.mpr ⟨k, List.mem_range.mpr hk, rfl⟩)
theorem gBL_c {t : Nat} : ∀ c, gsh c = .inr 0 → ∀ k, k < 12 → c + k ∈ gBL t := by
  intro c hc k hk
  have h1 : ∀ c, c < gN → gsh c = .inr 0 → c = 1 ∨ c = 13 := by decide +kernel
  rcases h1 c (gsh_lt hc (by intro q; cases q)) hc with rfl | rfl
  · exact List.mem_append_right _ (List.mem_map.mpr ⟨k, List.mem_range.mpr (by omega), rfl⟩)
  · exact List.mem_append_right _ (List.mem_map.mpr ⟨12 + k, List.mem_range.mpr (by omega), by omega⟩)
theorem gBL_full {t : Nat} {nl : Nat → Nat → Bool} (ht : gsh t = .inr 4) (hc : ∀ i, 1 ≤ i → i < 25 → ∀ (G : gG) (b : Nat) (h : gH), g2E G b h nl i = gE G b h i) : ∀ i ∈ gBL t, ∀ (G : gG) (b : Nat) (h : gH), g2E G b h (gclr nl t [3, 4, 5, 6, 7, 8, 9, 10, 11]) i = gE G b h i := by
  intro i hi G b h
  by_cases e : i = t
  · subst e
    refine g2E_full ht (fun k q hq h2 => gclr_in _ (gkindT k ?_ q hq h2))
    have := (List.getElem?_eq_some_iff.mp hq).1
    exact this
  · have e2 : g2E G b h (gclr nl t [3, 4, 5, 6, 7, 8, 9, 10, 11]) i = g2E G b h nl i := g2E_congr (fun _ => rfl) (fun y => gclr_ne _ e)
    rw [e2]
    rcases gBL_in hi with h1 | h1
    · have hr : i = t + 1 ∨ i = t + 2 ∨ i = t + 3 ∨ i = t + 4 ∨ i = t + 5 ∨ i = t + 6 ∨ i = t + 7 ∨ i = t + 8 ∨ i = t + 9 := by omega
      rcases hr with r | r | r | r | r | r | r | r | r
      · rw [r]; exact gfullA (gsT_1 ht)
      · rw [r]; exact gfullA (gsT_2 ht)
      · rw [r]; exact gfullA (gsT_3 ht)
      · rw [r]; exact gfullA (gsT_4 ht)
      · rw [r]; exact gfullA (gsT_5 ht)
      · rw [r]; exact gfullA (gsT_6 ht)
      · rw [r]; exact gfullA (gsT_7 ht)
      · rw [r]; exact gfullA (gsT_8 ht)
      · rw [r]; exact gfullA (gsT_9 ht)
    · exact hc i h1.1 h1.2 G b h
theorem g2v_d {b i k z : Nat} {h : gH} {nl : Nat → Nat → Bool} {v : Nat} (e : h i k = ((v : Nat) : Int)) (hv : v ≠ 0) : g2v b i h nl k (1, z) = .ref (b + v) := by
  unfold g2v gfv
  rw [if_neg (fun q => by have := q.2; simp at this)]
  show (if h i k = 0 then Value.null else Value.ref (b + (h i k).toNat)) = _
  rw [e, if_neg (by omega)]
  rfl
theorem g2v_s {b i k z : Nat} {h : gH} {nl : Nat → Nat → Bool} (e : nl i k = false) : g2v b i h nl k (3, z) = .ref (b + z) := by
  unfold g2v
  rw [e, if_neg (fun q => by cases q.1)]
  rfl
theorem goi_i : Cond.instanceMethod Lib.objectInit ∈ gtbl := (gtab_at 18 (by decide +kernel) rfl)
theorem goi_c : Cond.code Lib.objectInit ⟨#[0xb1]⟩ 1 none ∈ gtbl := (gtab_at 19 rfl rfl)
theorem gac_int : Cond.arrayClass .int ∈ gtbl := (gtab_at 114 (by decide +kernel) rfl)
theorem gac_bool : Cond.arrayClass .boolean ∈ gtbl := (gtab_at 222 (by decide +kernel) rfl)
theorem dq_City_init_0 : decode gc_City_init 0 = .ok (.aload_n 0, 1) := by decide +kernel
theorem dq_City_init_1 : decode gc_City_init 1 = .ok (.invokespecial 3, 3) := by decide +kernel
theorem dq_City_init_4 : decode gc_City_init 4 = .ok (.aload_n 0, 1) := by decide +kernel
theorem dq_City_init_5 : decode gc_City_init 5 = .ok (.bipush 9, 2) := by decide +kernel
theorem dq_City_init_7 : decode gc_City_init 7 = .ok (.newarray .int, 2) := by decide +kernel
theorem dq_City_init_9 : decode gc_City_init 9 = .ok (.putfield 11, 3) := by decide +kernel
theorem dq_City_init_12 : decode gc_City_init 12 = .ok (.aload_n 0, 1) := by decide +kernel
theorem dq_City_init_13 : decode gc_City_init 13 = .ok (.bipush 9, 2) := by decide +kernel
theorem dq_City_init_15 : decode gc_City_init 15 = .ok (.newarray .int, 2) := by decide +kernel
theorem dq_City_init_17 : decode gc_City_init 17 = .ok (.putfield 15, 3) := by decide +kernel
theorem dq_City_init_20 : decode gc_City_init 20 = .ok (.aload_n 0, 1) := by decide +kernel
theorem dq_City_init_21 : decode gc_City_init 21 = .ok (.bipush 9, 2) := by decide +kernel
theorem dq_City_init_23 : decode gc_City_init 23 = .ok (.newarray .int, 2) := by decide +kernel
theorem dq_City_init_25 : decode gc_City_init 25 = .ok (.putfield 18, 3) := by decide +kernel
theorem dq_City_init_28 : decode gc_City_init 28 = .ok (.aload_n 0, 1) := by decide +kernel
theorem dq_City_init_29 : decode gc_City_init 29 = .ok (.bipush 9, 2) := by decide +kernel
theorem dq_City_init_31 : decode gc_City_init 31 = .ok (.newarray .int, 2) := by decide +kernel
theorem dq_City_init_33 : decode gc_City_init 33 = .ok (.putfield 21, 3) := by decide +kernel
theorem dq_City_init_36 : decode gc_City_init 36 = .ok (.aload_n 0, 1) := by decide +kernel
theorem dq_City_init_37 : decode gc_City_init 37 = .ok (.bipush 6, 2) := by decide +kernel
theorem dq_City_init_39 : decode gc_City_init 39 = .ok (.newarray .int, 2) := by decide +kernel
theorem dq_City_init_41 : decode gc_City_init 41 = .ok (.putfield 24, 3) := by decide +kernel
theorem dq_City_init_44 : decode gc_City_init 44 = .ok (.aload_n 0, 1) := by decide +kernel
theorem dq_City_init_45 : decode gc_City_init 45 = .ok (.bipush 6, 2) := by decide +kernel
theorem dq_City_init_47 : decode gc_City_init 47 = .ok (.newarray .int, 2) := by decide +kernel
theorem dq_City_init_49 : decode gc_City_init 49 = .ok (.putfield 27, 3) := by decide +kernel
theorem dq_City_init_52 : decode gc_City_init 52 = .ok (.aload_n 0, 1) := by decide +kernel
theorem dq_City_init_53 : decode gc_City_init 53 = .ok (.bipush 6, 2) := by decide +kernel
theorem dq_City_init_55 : decode gc_City_init 55 = .ok (.newarray .int, 2) := by decide +kernel
theorem dq_City_init_57 : decode gc_City_init 57 = .ok (.putfield 30, 3) := by decide +kernel
theorem dq_City_init_60 : decode gc_City_init 60 = .ok (.aload_n 0, 1) := by decide +kernel
theorem dq_City_init_61 : decode gc_City_init 61 = .ok (.bipush 6, 2) := by decide +kernel
theorem dq_City_init_63 : decode gc_City_init 63 = .ok (.newarray .int, 2) := by decide +kernel
theorem dq_City_init_65 : decode gc_City_init 65 = .ok (.putfield 33, 3) := by decide +kernel
theorem dq_City_init_68 : decode gc_City_init 68 = .ok (.aload_n 0, 1) := by decide +kernel
theorem dq_City_init_69 : decode gc_City_init 69 = .ok (.bipush 6, 2) := by decide +kernel
theorem dq_City_init_71 : decode gc_City_init 71 = .ok (.newarray .int, 2) := by decide +kernel
theorem dq_City_init_73 : decode gc_City_init 73 = .ok (.putfield 36, 3) := by decide +kernel
theorem dq_City_init_76 : decode gc_City_init 76 = .ok (.aload_n 0, 1) := by decide +kernel
theorem dq_City_init_77 : decode gc_City_init 77 = .ok (.bipush 49, 2) := by decide +kernel
theorem dq_City_init_79 : decode gc_City_init 79 = .ok (.newarray .int, 2) := by decide +kernel
theorem dq_City_init_81 : decode gc_City_init 81 = .ok (.putfield 39, 3) := by decide +kernel
theorem dq_City_init_84 : decode gc_City_init 84 = .ok (.aload_n 0, 1) := by decide +kernel
theorem dq_City_init_85 : decode gc_City_init 85 = .ok (.bipush 49, 2) := by decide +kernel
theorem dq_City_init_87 : decode gc_City_init 87 = .ok (.newarray .int, 2) := by decide +kernel
theorem dq_City_init_89 : decode gc_City_init 89 = .ok (.putfield 42, 3) := by decide +kernel
theorem dq_City_init_92 : decode gc_City_init 92 = .ok (.return_, 1) := by decide +kernel
abbrev gm_City_init : gM := (gc_City_init, gR_0, 1, 20, 1)
theorem gol_City : Cond.methodLink gR_0 3 Lib.objectInit ∈ gtbl := (gtab_at 25 (by decide +kernel) rfl)
theorem gff_City_11 : gFf gR_0 11 0 4 (.array .int) := ⟨_, _, _, gt_0, rfl, by decide, (gtab_at 44 (by decide +kernel) rfl), gin_0, gto_0, gnm_0, rfl, rfl, by decide +kernel⟩
theorem gff_City_15 : gFf gR_0 15 0 5 (.array .int) := ⟨_, _, _, gt_0, rfl, by decide, (gtab_at 49 (by decide +kernel) rfl), gin_0, gto_0, gnm_0, rfl, rfl, by decide +kernel⟩
theorem gff_City_18 : gFf gR_0 18 0 6 (.array .int) := ⟨_, _, _, gt_0, rfl, by decide, (gtab_at 54 (by decide +kernel) rfl), gin_0, gto_0, gnm_0, rfl, rfl, by decide +kernel⟩
theorem gff_City_21 : gFf gR_0 21 0 7 (.array .int) := ⟨_, _, _, gt_0, rfl, by decide, (gtab_at 59 (by decide +kernel) rfl), gin_0, gto_0, gnm_0, rfl, rfl, by decide +kernel⟩
theorem gff_City_24 : gFf gR_0 24 0 8 (.array .int) := ⟨_, _, _, gt_0, rfl, by decide, (gtab_at 62 (by decide +kernel) rfl), gin_0, gto_0, gnm_0, rfl, rfl, by decide +kernel⟩
theorem gff_City_27 : gFf gR_0 27 0 9 (.array .int) := ⟨_, _, _, gt_0, rfl, by decide, (gtab_at 66 (by decide +kernel) rfl), gin_0, gto_0, gnm_0, rfl, rfl, by decide +kernel⟩
theorem gff_City_30 : gFf gR_0 30 0 10 (.array .int) := ⟨_, _, _, gt_0, rfl, by decide, (gtab_at 70 (by decide +kernel) rfl), gin_0, gto_0, gnm_0, rfl, rfl, by decide +kernel⟩
theorem gff_City_33 : gFf gR_0 33 0 11 (.array .int) := ⟨_, _, _, gt_0, rfl, by decide, (gtab_at 74 (by decide +kernel) rfl), gin_0, gto_0, gnm_0, rfl, rfl, by decide +kernel⟩
theorem gff_City_36 : gFf gR_0 36 0 12 (.array .int) := ⟨_, _, _, gt_0, rfl, by decide, (gtab_at 77 (by decide +kernel) rfl), gin_0, gto_0, gnm_0, rfl, rfl, by decide +kernel⟩
theorem gff_City_39 : gFf gR_0 39 0 13 (.array .int) := ⟨_, _, _, gt_0, rfl, by decide, (gtab_at 81 (by decide +kernel) rfl), gin_0, gto_0, gnm_0, rfl, rfl, by decide +kernel⟩
theorem gff_City_42 : gFf gR_0 42 0 14 (.array .int) := ⟨_, _, _, gt_0, rfl, by decide, (gtab_at 82 (by decide +kernel) rfl), gin_0, gto_0, gnm_0, rfl, rfl, by decide +kernel⟩
theorem c2_City_1 {Z : gZ} {h : gH} {nl : Nat → Nat → Bool} (hz : ∀ j, 1 < j → ∀ k, h j k = 0) (hnl : ∀ j, 1 ≤ j → ∀ k, nl j k = true)  : gC2 Z gy_City_init gc_City_init 1 1 20 [.ref (zb Z + 1)] 2 h nl 13 h (gclr nl 1 [4, 5, 6, 7, 8, 9, 10, 11, 12, 13, 14]) := by
  refine gC2_of (own := gR_0) (by decide +kernel) rfl rfl (Nat.le_of_ble_eq_true rfl) rfl (fun X hZ hin hsl hce hF => ?_)
  subst hZ
  show gk gm_City_init X 2 h nl 0 [(0, .ref (zb (xZ X) + 1))] []
  refine k_aload_n (M := gm_City_init) dq_City_init_0 rfl 0 rfl 1 rfl ?_
  refine k_objInit (M := gm_City_init) dq_City_init_1 gol_City goi_i goi_c ⟨by decide, by decide⟩ (Nat.le_of_ble_eq_true rfl) 4 rfl ?_
  refine k_aload_n (M := gm_City_init) dq_City_init_4 rfl 0 rfl 5 rfl ?_
  refine k_bipush (M := gm_City_init) (Int32.ofInt 9) dq_City_init_5 (by decide) 7 rfl ?_
  refine k_newi (M := gm_City_init) dq_City_init_7 gac_int gsh_2 (hz 2 (by decide)) (by decide) (by decide) (by decide) 3 rfl (by rw [hsl]; decide) 9 rfl ?_
  refine k_putF (M := gm_City_init) dq_City_init_9 gff_City_11 hin gsh_1 rfl (by decide) (Or.inl ⟨rfl, rfl⟩) (fun _ => rfl) (fun _ => rfl) 12 rfl ?_
  refine k_aload_n (M := gm_City_init) dq_City_init_12 rfl 0 rfl 13 rfl ?_
  refine k_bipush (M := gm_City_init) (Int32.ofInt 9) dq_City_init_13 (by decide) 15 rfl ?_
  refine k_newi (M := gm_City_init) dq_City_init_15 gac_int gsh_3 (hz 3 (by decide)) (by decide) (by decide) (by decide) 4 rfl (by rw [hsl]; decide) 17 rfl ?_
  refine k_putF (M := gm_City_init) dq_City_init_17 gff_City_15 hin gsh_1 rfl (by decide) (Or.inl ⟨rfl, rfl⟩) (fun _ => rfl) (fun _ => rfl) 20 rfl ?_
  refine k_aload_n (M := gm_City_init) dq_City_init_20 rfl 0 rfl 21 rfl ?_
  refine k_bipush (M := gm_City_init) (Int32.ofInt 9) dq_City_init_21 (by decide) 23 rfl ?_
  refine k_newi (M := gm_City_init) dq_City_init_23 gac_int gsh_4 (hz 4 (by decide)) (by decide) (by decide) (by decide) 5 rfl (by rw [hsl]; decide) 25 rfl ?_
  refine k_putF (M := gm_City_init) dq_City_init_25 gff_City_18 hin gsh_1 rfl (by decide) (Or.inl ⟨rfl, rfl⟩) (fun _ => rfl) (fun _ => rfl) 28 rfl ?_
  refine k_aload_n (M := gm_City_init) dq_City_init_28 rfl 0 rfl 29 rfl ?_
  refine k_bipush (M := gm_City_init) (Int32.ofInt 9) dq_City_init_29 (by decide) 31 rfl ?_
  refine k_newi (M := gm_City_init) dq_City_init_31 gac_int gsh_5 (hz 5 (by decide)) (by decide) (by decide) (by decide) 6 rfl (by rw [hsl]; decide) 33 rfl ?_
  refine k_putF (M := gm_City_init) dq_City_init_33 gff_City_21 hin gsh_1 rfl (by decide) (Or.inl ⟨rfl, rfl⟩) (fun _ => rfl) (fun _ => rfl) 36 rfl ?_
  refine k_aload_n (M := gm_City_init) dq_City_init_36 rfl 0 rfl 37 rfl ?_
  refine k_bipush (M := gm_City_init) (Int32.ofInt 6) dq_City_init_37 (by decide) 39 rfl ?_
  refine k_newi (M := gm_City_init) dq_City_init_39 gac_int gsh_6 (hz 6 (by decide)) (by decide) (by decide) (by decide) 7 rfl (by rw [hsl]; decide) 41 rfl ?_
  refine k_putF (M := gm_City_init) dq_City_init_41 gff_City_24 hin gsh_1 rfl (by decide) (Or.inl ⟨rfl, rfl⟩) (fun _ => rfl) (fun _ => rfl) 44 rfl ?_
  refine k_aload_n (M := gm_City_init) dq_City_init_44 rfl 0 rfl 45 rfl ?_
  refine k_bipush (M := gm_City_init) (Int32.ofInt 6) dq_City_init_45 (by decide) 47 rfl ?_
  refine k_newi (M := gm_City_init) dq_City_init_47 gac_int gsh_7 (hz 7 (by decide)) (by decide) (by decide) (by decide) 8 rfl (by rw [hsl]; decide) 49 rfl ?_
  refine k_putF (M := gm_City_init) dq_City_init_49 gff_City_27 hin gsh_1 rfl (by decide) (Or.inl ⟨rfl, rfl⟩) (fun _ => rfl) (fun _ => rfl) 52 rfl ?_
  refine k_aload_n (M := gm_City_init) dq_City_init_52 rfl 0 rfl 53 rfl ?_
  refine k_bipush (M := gm_City_init) (Int32.ofInt 6) dq_City_init_53 (by decide) 55 rfl ?_
  refine k_newi (M := gm_City_init) dq_City_init_55 gac_int gsh_8 (hz 8 (by decide)) (by decide) (by decide) (by decide) 9 rfl (by rw [hsl]; decide) 57 rfl ?_
  refine k_putF (M := gm_City_init) dq_City_init_57 gff_City_30 hin gsh_1 rfl (by decide) (Or.inl ⟨rfl, rfl⟩) (fun _ => rfl) (fun _ => rfl) 60 rfl ?_
  refine k_aload_n (M := gm_City_init) dq_City_init_60 rfl 0 rfl 61 rfl ?_
  refine k_bipush (M := gm_City_init) (Int32.ofInt 6) dq_City_init_61 (by decide) 63 rfl ?_
  refine k_newi (M := gm_City_init) dq_City_init_63 gac_int gsh_9 (hz 9 (by decide)) (by decide) (by decide) (by decide) 10 rfl (by rw [hsl]; decide) 65 rfl ?_
  refine k_putF (M := gm_City_init) dq_City_init_65 gff_City_33 hin gsh_1 rfl (by decide) (Or.inl ⟨rfl, rfl⟩) (fun _ => rfl) (fun _ => rfl) 68 rfl ?_
  refine k_aload_n (M := gm_City_init) dq_City_init_68 rfl 0 rfl 69 rfl ?_
  refine k_bipush (M := gm_City_init) (Int32.ofInt 6) dq_City_init_69 (by decide) 71 rfl ?_
  refine k_newi (M := gm_City_init) dq_City_init_71 gac_int gsh_10 (hz 10 (by decide)) (by decide) (by decide) (by decide) 11 rfl (by rw [hsl]; decide) 73 rfl ?_
  refine k_putF (M := gm_City_init) dq_City_init_73 gff_City_36 hin gsh_1 rfl (by decide) (Or.inl ⟨rfl, rfl⟩) (fun _ => rfl) (fun _ => rfl) 76 rfl ?_
  refine k_aload_n (M := gm_City_init) dq_City_init_76 rfl 0 rfl 77 rfl ?_
  refine k_bipush (M := gm_City_init) (Int32.ofInt 49) dq_City_init_77 (by decide) 79 rfl ?_
  refine k_newi (M := gm_City_init) dq_City_init_79 gac_int gsh_11 (hz 11 (by decide)) (by decide) (by decide) (by decide) 12 rfl (by rw [hsl]; decide) 81 rfl ?_
  refine k_putF (M := gm_City_init) dq_City_init_81 gff_City_39 hin gsh_1 rfl (by decide) (Or.inl ⟨rfl, rfl⟩) (fun _ => rfl) (fun _ => rfl) 84 rfl ?_
  refine k_aload_n (M := gm_City_init) dq_City_init_84 rfl 0 rfl 85 rfl ?_
  refine k_bipush (M := gm_City_init) (Int32.ofInt 49) dq_City_init_85 (by decide) 87 rfl ?_
  refine k_newi (M := gm_City_init) dq_City_init_87 gac_int gsh_12 (hz 12 (by decide)) (by decide) (by decide) (by decide) 13 rfl (by rw [hsl]; decide) 89 rfl ?_
  refine k_putF (M := gm_City_init) dq_City_init_89 gff_City_42 hin gsh_1 rfl (by decide) (Or.inl ⟨rfl, rfl⟩) (fun _ => rfl) (fun _ => rfl) 92 rfl ?_
  exact k_ret (M := gm_City_init) dq_City_init_92 (fun _ => rfl) hF

theorem c2_City_13 {Z : gZ} {h : gH} {nl : Nat → Nat → Bool} (hz : ∀ j, 13 < j → ∀ k, h j k = 0) (hnl : ∀ j, 13 ≤ j → ∀ k, nl j k = true)  : gC2 Z gy_City_init gc_City_init 1 1 20 [.ref (zb Z + 13)] 14 h nl 25 h (gclr nl 13 [4, 5, 6, 7, 8, 9, 10, 11, 12, 13, 14]) := by
  refine gC2_of (own := gR_0) (by decide +kernel) rfl rfl (Nat.le_of_ble_eq_true rfl) rfl (fun X hZ hin hsl hce hF => ?_)
  subst hZ
  show gk gm_City_init X 14 h nl 0 [(0, .ref (zb (xZ X) + 13))] []
  refine k_aload_n (M := gm_City_init) dq_City_init_0 rfl 0 rfl 1 rfl ?_
  refine k_objInit (M := gm_City_init) dq_City_init_1 gol_City goi_i goi_c ⟨by decide, by decide⟩ (Nat.le_of_ble_eq_true rfl) 4 rfl ?_
  refine k_aload_n (M := gm_City_init) dq_City_init_4 rfl 0 rfl 5 rfl ?_
  refine k_bipush (M := gm_City_init) (Int32.ofInt 9) dq_City_init_5 (by decide) 7 rfl ?_
  refine k_newi (M := gm_City_init) dq_City_init_7 gac_int gsh_14 (hz 14 (by decide)) (by decide) (by decide) (by decide) 15 rfl (by rw [hsl]; decide) 9 rfl ?_
  refine k_putF (M := gm_City_init) dq_City_init_9 gff_City_11 hin gsh_13 rfl (by decide) (Or.inl ⟨rfl, rfl⟩) (fun _ => rfl) (fun _ => rfl) 12 rfl ?_
  refine k_aload_n (M := gm_City_init) dq_City_init_12 rfl 0 rfl 13 rfl ?_
  refine k_bipush (M := gm_City_init) (Int32.ofInt 9) dq_City_init_13 (by decide) 15 rfl ?_
  refine k_newi (M := gm_City_init) dq_City_init_15 gac_int gsh_15 (hz 15 (by decide)) (by decide) (by decide) (by decide) 16 rfl (by rw [hsl]; decide) 17 rfl ?_
  refine k_putF (M := gm_City_init) dq_City_init_17 gff_City_15 hin gsh_13 rfl (by decide) (Or.inl ⟨rfl, rfl⟩) (fun _ => rfl) (fun _ => rfl) 20 rfl ?_
  refine k_aload_n (M := gm_City_init) dq_City_init_20 rfl 0 rfl 21 rfl ?_
  refine k_bipush (M := gm_City_init) (Int32.ofInt 9) dq_City_init_21 (by decide) 23 rfl ?_
  refine k_newi (M := gm_City_init) dq_City_init_23 gac_int gsh_16 (hz 16 (by decide)) (by decide) (by decide) (by decide) 17 rfl (by rw [hsl]; decide) 25 rfl ?_
  refine k_putF (M := gm_City_init) dq_City_init_25 gff_City_18 hin gsh_13 rfl (by decide) (Or.inl ⟨rfl, rfl⟩) (fun _ => rfl) (fun _ => rfl) 28 rfl ?_
  refine k_aload_n (M := gm_City_init) dq_City_init_28 rfl 0 rfl 29 rfl ?_
  refine k_bipush (M := gm_City_init) (Int32.ofInt 9) dq_City_init_29 (by decide) 31 rfl ?_
  refine k_newi (M := gm_City_init) dq_City_init_31 gac_int gsh_17 (hz 17 (by decide)) (by decide) (by decide) (by decide) 18 rfl (by rw [hsl]; decide) 33 rfl ?_
  refine k_putF (M := gm_City_init) dq_City_init_33 gff_City_21 hin gsh_13 rfl (by decide) (Or.inl ⟨rfl, rfl⟩) (fun _ => rfl) (fun _ => rfl) 36 rfl ?_
  refine k_aload_n (M := gm_City_init) dq_City_init_36 rfl 0 rfl 37 rfl ?_
  refine k_bipush (M := gm_City_init) (Int32.ofInt 6) dq_City_init_37 (by decide) 39 rfl ?_
  refine k_newi (M := gm_City_init) dq_City_init_39 gac_int gsh_18 (hz 18 (by decide)) (by decide) (by decide) (by decide) 19 rfl (by rw [hsl]; decide) 41 rfl ?_
  refine k_putF (M := gm_City_init) dq_City_init_41 gff_City_24 hin gsh_13 rfl (by decide) (Or.inl ⟨rfl, rfl⟩) (fun _ => rfl) (fun _ => rfl) 44 rfl ?_
  refine k_aload_n (M := gm_City_init) dq_City_init_44 rfl 0 rfl 45 rfl ?_
  refine k_bipush (M := gm_City_init) (Int32.ofInt 6) dq_City_init_45 (by decide) 47 rfl ?_
  refine k_newi (M := gm_City_init) dq_City_init_47 gac_int gsh_19 (hz 19 (by decide)) (by decide) (by decide) (by decide) 20 rfl (by rw [hsl]; decide) 49 rfl ?_
  refine k_putF (M := gm_City_init) dq_City_init_49 gff_City_27 hin gsh_13 rfl (by decide) (Or.inl ⟨rfl, rfl⟩) (fun _ => rfl) (fun _ => rfl) 52 rfl ?_
  refine k_aload_n (M := gm_City_init) dq_City_init_52 rfl 0 rfl 53 rfl ?_
  refine k_bipush (M := gm_City_init) (Int32.ofInt 6) dq_City_init_53 (by decide) 55 rfl ?_
  refine k_newi (M := gm_City_init) dq_City_init_55 gac_int gsh_20 (hz 20 (by decide)) (by decide) (by decide) (by decide) 21 rfl (by rw [hsl]; decide) 57 rfl ?_
  refine k_putF (M := gm_City_init) dq_City_init_57 gff_City_30 hin gsh_13 rfl (by decide) (Or.inl ⟨rfl, rfl⟩) (fun _ => rfl) (fun _ => rfl) 60 rfl ?_
  refine k_aload_n (M := gm_City_init) dq_City_init_60 rfl 0 rfl 61 rfl ?_
  refine k_bipush (M := gm_City_init) (Int32.ofInt 6) dq_City_init_61 (by decide) 63 rfl ?_
  refine k_newi (M := gm_City_init) dq_City_init_63 gac_int gsh_21 (hz 21 (by decide)) (by decide) (by decide) (by decide) 22 rfl (by rw [hsl]; decide) 65 rfl ?_
  refine k_putF (M := gm_City_init) dq_City_init_65 gff_City_33 hin gsh_13 rfl (by decide) (Or.inl ⟨rfl, rfl⟩) (fun _ => rfl) (fun _ => rfl) 68 rfl ?_
  refine k_aload_n (M := gm_City_init) dq_City_init_68 rfl 0 rfl 69 rfl ?_
  refine k_bipush (M := gm_City_init) (Int32.ofInt 6) dq_City_init_69 (by decide) 71 rfl ?_
  refine k_newi (M := gm_City_init) dq_City_init_71 gac_int gsh_22 (hz 22 (by decide)) (by decide) (by decide) (by decide) 23 rfl (by rw [hsl]; decide) 73 rfl ?_
  refine k_putF (M := gm_City_init) dq_City_init_73 gff_City_36 hin gsh_13 rfl (by decide) (Or.inl ⟨rfl, rfl⟩) (fun _ => rfl) (fun _ => rfl) 76 rfl ?_
  refine k_aload_n (M := gm_City_init) dq_City_init_76 rfl 0 rfl 77 rfl ?_
  refine k_bipush (M := gm_City_init) (Int32.ofInt 49) dq_City_init_77 (by decide) 79 rfl ?_
  refine k_newi (M := gm_City_init) dq_City_init_79 gac_int gsh_23 (hz 23 (by decide)) (by decide) (by decide) (by decide) 24 rfl (by rw [hsl]; decide) 81 rfl ?_
  refine k_putF (M := gm_City_init) dq_City_init_81 gff_City_39 hin gsh_13 rfl (by decide) (Or.inl ⟨rfl, rfl⟩) (fun _ => rfl) (fun _ => rfl) 84 rfl ?_
  refine k_aload_n (M := gm_City_init) dq_City_init_84 rfl 0 rfl 85 rfl ?_
  refine k_bipush (M := gm_City_init) (Int32.ofInt 49) dq_City_init_85 (by decide) 87 rfl ?_
  refine k_newi (M := gm_City_init) dq_City_init_87 gac_int gsh_24 (hz 24 (by decide)) (by decide) (by decide) (by decide) 25 rfl (by rw [hsl]; decide) 89 rfl ?_
  refine k_putF (M := gm_City_init) dq_City_init_89 gff_City_42 hin gsh_13 rfl (by decide) (Or.inl ⟨rfl, rfl⟩) (fun _ => rfl) (fun _ => rfl) 92 rfl ?_
  exact k_ret (M := gm_City_init) dq_City_init_92 (fun _ => rfl) hF

theorem dq_Reader_init_0 : decode gc_Reader_init 0 = .ok (.aload_n 0, 1) := by decide +kernel
theorem dq_Reader_init_1 : decode gc_Reader_init 1 = .ok (.invokespecial 3, 3) := by decide +kernel
theorem dq_Reader_init_4 : decode gc_Reader_init 4 = .ok (.aload_n 0, 1) := by decide +kernel
theorem dq_Reader_init_5 : decode gc_Reader_init 5 = .ok (.iconst (-1), 1) := by decide +kernel
theorem dq_Reader_init_6 : decode gc_Reader_init 6 = .ok (.putfield 9, 3) := by decide +kernel
theorem dq_Reader_init_9 : decode gc_Reader_init 9 = .ok (.aload_n 0, 1) := by decide +kernel
theorem dq_Reader_init_10 : decode gc_Reader_init 10 = .ok (.sipush 250, 3) := by decide +kernel
theorem dq_Reader_init_13 : decode gc_Reader_init 13 = .ok (.newarray .int, 2) := by decide +kernel
theorem dq_Reader_init_15 : decode gc_Reader_init 15 = .ok (.putfield 15, 3) := by decide +kernel
theorem dq_Reader_init_18 : decode gc_Reader_init 18 = .ok (.return_, 1) := by decide +kernel
abbrev gm_Reader_init : gM := (gc_Reader_init, gR_2, 1, 20, 1)
theorem gol_Reader : Cond.methodLink gR_2 3 Lib.objectInit ∈ gtbl := (gtab_at 120 (by decide +kernel) rfl)
theorem gff_Reader_15 : gFf gR_2 15 2 2 (.array .int) := ⟨_, _, _, gt_2, rfl, by decide, (gtab_at 125 (by decide +kernel) rfl), gin_2, gto_2, gnm_2, rfl, rfl, by decide +kernel⟩
theorem c2_Reader_25 {Z : gZ} {h : gH} {nl : Nat → Nat → Bool} (hz : ∀ j, 25 < j → ∀ k, h j k = 0) (hnl : ∀ j, 25 ≤ j → ∀ k, nl j k = true)  : gC2 Z gy_Reader_init gc_Reader_init 1 1 20 [.ref (zb Z + 25)] 26 h nl 27 (gup h 25 1 (-1)) (gclr nl 25 [2]) := by
  refine gC2_of (own := gR_2) (by decide +kernel) rfl rfl (Nat.le_of_ble_eq_true rfl) rfl (fun X hZ hin hsl hce hF => ?_)
  subst hZ
  show gk gm_Reader_init X 26 h nl 0 [(0, .ref (zb (xZ X) + 25))] []
  refine k_aload_n (M := gm_Reader_init) dq_Reader_init_0 rfl 0 rfl 1 rfl ?_
  refine k_objInit (M := gm_Reader_init) dq_Reader_init_1 gol_Reader goi_i goi_c ⟨by decide, by decide⟩ (Nat.le_of_ble_eq_true rfl) 4 rfl ?_
  refine k_aload_n (M := gm_Reader_init) dq_Reader_init_4 rfl 0 rfl 5 rfl ?_
  refine k_iconst (M := gm_Reader_init) (Int32.ofInt (-1)) dq_Reader_init_5 rfl 6 rfl ?_
  refine k_put (M := gm_Reader_init) (v := (-1)) dq_Reader_init_6 gfp_Reader_9 gsh_25 rfl (by decide) (by decide) rfl rfl rfl 9 rfl ?_
  have hz : ∀ j, 25 < j → ∀ k, (gup h 25 1 (-1)) j k = 0 := fun j hj k => (gup_ne (fun q => by omega)).trans (hz j hj k)
  refine k_aload_n (M := gm_Reader_init) dq_Reader_init_9 rfl 0 rfl 10 rfl ?_
  refine k_sipush (M := gm_Reader_init) (Int32.ofInt 250) dq_Reader_init_10 (by decide) 13 rfl ?_
  refine k_newi (M := gm_Reader_init) dq_Reader_init_13 gac_int gsh_26 (hz 26 (by decide)) (by decide) (by decide) (by decide) 27 rfl (by rw [hsl]; decide) 15 rfl ?_
  refine k_putF (M := gm_Reader_init) dq_Reader_init_15 gff_Reader_15 hin gsh_25 rfl (by decide) (Or.inl ⟨rfl, rfl⟩) (fun _ => rfl) (fun _ => rfl) 18 rfl ?_
  exact k_ret (M := gm_Reader_init) dq_Reader_init_18 (fun _ => rfl) hF

theorem dq_Traffic_init_0 : decode gc_Traffic_init 0 = .ok (.aload_n 0, 1) := by decide +kernel
theorem dq_Traffic_init_1 : decode gc_Traffic_init 1 = .ok (.invokespecial 3, 3) := by decide +kernel
theorem dq_Traffic_init_4 : decode gc_Traffic_init 4 = .ok (.aload_n 0, 1) := by decide +kernel
theorem dq_Traffic_init_5 : decode gc_Traffic_init 5 = .ok (.bipush 9, 2) := by decide +kernel
theorem dq_Traffic_init_7 : decode gc_Traffic_init 7 = .ok (.newarray .int, 2) := by decide +kernel
theorem dq_Traffic_init_9 : decode gc_Traffic_init 9 = .ok (.putfield 11, 3) := by decide +kernel
theorem dq_Traffic_init_12 : decode gc_Traffic_init 12 = .ok (.aload_n 0, 1) := by decide +kernel
theorem dq_Traffic_init_13 : decode gc_Traffic_init 13 = .ok (.bipush 9, 2) := by decide +kernel
theorem dq_Traffic_init_15 : decode gc_Traffic_init 15 = .ok (.newarray .int, 2) := by decide +kernel
theorem dq_Traffic_init_17 : decode gc_Traffic_init 17 = .ok (.putfield 17, 3) := by decide +kernel
theorem dq_Traffic_init_20 : decode gc_Traffic_init 20 = .ok (.aload_n 0, 1) := by decide +kernel
theorem dq_Traffic_init_21 : decode gc_Traffic_init 21 = .ok (.bipush 9, 2) := by decide +kernel
theorem dq_Traffic_init_23 : decode gc_Traffic_init 23 = .ok (.newarray .int, 2) := by decide +kernel
theorem dq_Traffic_init_25 : decode gc_Traffic_init 25 = .ok (.putfield 20, 3) := by decide +kernel
theorem dq_Traffic_init_28 : decode gc_Traffic_init 28 = .ok (.aload_n 0, 1) := by decide +kernel
theorem dq_Traffic_init_29 : decode gc_Traffic_init 29 = .ok (.bipush 18, 2) := by decide +kernel
theorem dq_Traffic_init_31 : decode gc_Traffic_init 31 = .ok (.newarray .int, 2) := by decide +kernel
theorem dq_Traffic_init_33 : decode gc_Traffic_init 33 = .ok (.putfield 23, 3) := by decide +kernel
theorem dq_Traffic_init_36 : decode gc_Traffic_init 36 = .ok (.aload_n 0, 1) := by decide +kernel
theorem dq_Traffic_init_37 : decode gc_Traffic_init 37 = .ok (.bipush 6, 2) := by decide +kernel
theorem dq_Traffic_init_39 : decode gc_Traffic_init 39 = .ok (.newarray .int, 2) := by decide +kernel
theorem dq_Traffic_init_41 : decode gc_Traffic_init 41 = .ok (.putfield 26, 3) := by decide +kernel
theorem dq_Traffic_init_44 : decode gc_Traffic_init 44 = .ok (.aload_n 0, 1) := by decide +kernel
theorem dq_Traffic_init_45 : decode gc_Traffic_init 45 = .ok (.bipush 6, 2) := by decide +kernel
theorem dq_Traffic_init_47 : decode gc_Traffic_init 47 = .ok (.newarray .int, 2) := by decide +kernel
theorem dq_Traffic_init_49 : decode gc_Traffic_init 49 = .ok (.putfield 29, 3) := by decide +kernel
theorem dq_Traffic_init_52 : decode gc_Traffic_init 52 = .ok (.aload_n 0, 1) := by decide +kernel
theorem dq_Traffic_init_53 : decode gc_Traffic_init 53 = .ok (.bipush 6, 2) := by decide +kernel
theorem dq_Traffic_init_55 : decode gc_Traffic_init 55 = .ok (.newarray .int, 2) := by decide +kernel
theorem dq_Traffic_init_57 : decode gc_Traffic_init 57 = .ok (.putfield 32, 3) := by decide +kernel
theorem dq_Traffic_init_60 : decode gc_Traffic_init 60 = .ok (.aload_n 0, 1) := by decide +kernel
theorem dq_Traffic_init_61 : decode gc_Traffic_init 61 = .ok (.bipush 6, 2) := by decide +kernel
theorem dq_Traffic_init_63 : decode gc_Traffic_init 63 = .ok (.newarray .int, 2) := by decide +kernel
theorem dq_Traffic_init_65 : decode gc_Traffic_init 65 = .ok (.putfield 35, 3) := by decide +kernel
theorem dq_Traffic_init_68 : decode gc_Traffic_init 68 = .ok (.aload_n 0, 1) := by decide +kernel
theorem dq_Traffic_init_69 : decode gc_Traffic_init 69 = .ok (.bipush 6, 2) := by decide +kernel
theorem dq_Traffic_init_71 : decode gc_Traffic_init 71 = .ok (.newarray .int, 2) := by decide +kernel
theorem dq_Traffic_init_73 : decode gc_Traffic_init 73 = .ok (.putfield 38, 3) := by decide +kernel
theorem dq_Traffic_init_76 : decode gc_Traffic_init 76 = .ok (.aload_n 0, 1) := by decide +kernel
theorem dq_Traffic_init_77 : decode gc_Traffic_init 77 = .ok (.aload_n 1, 1) := by decide +kernel
theorem dq_Traffic_init_78 : decode gc_Traffic_init 78 = .ok (.invokevirtual 41, 3) := by decide +kernel
theorem dq_Traffic_init_81 : decode gc_Traffic_init 81 = .ok (.return_, 1) := by decide +kernel
abbrev gm_Traffic_init : gM := (gc_Traffic_init, gR_4, 1, 22, 2)
theorem gol_Traffic : Cond.methodLink gR_4 3 Lib.objectInit ∈ gtbl := (gtab_at 147 (by decide +kernel) rfl)
theorem gff_Traffic_11 : gFf gR_4 11 4 3 (.array .int) := ⟨_, _, _, gt_4, rfl, by decide, (gtab_at 159 (by decide +kernel) rfl), gin_4, gto_4, gnm_4, rfl, rfl, by decide +kernel⟩
theorem gff_Traffic_17 : gFf gR_4 17 4 4 (.array .int) := ⟨_, _, _, gt_4, rfl, by decide, (gtab_at 162 (by decide +kernel) rfl), gin_4, gto_4, gnm_4, rfl, rfl, by decide +kernel⟩
theorem gff_Traffic_20 : gFf gR_4 20 4 5 (.array .int) := ⟨_, _, _, gt_4, rfl, by decide, (gtab_at 164 (by decide +kernel) rfl), gin_4, gto_4, gnm_4, rfl, rfl, by decide +kernel⟩
theorem gff_Traffic_23 : gFf gR_4 23 4 6 (.array .int) := ⟨_, _, _, gt_4, rfl, by decide, (gtab_at 166 (by decide +kernel) rfl), gin_4, gto_4, gnm_4, rfl, rfl, by decide +kernel⟩
theorem gff_Traffic_26 : gFf gR_4 26 4 7 (.array .int) := ⟨_, _, _, gt_4, rfl, by decide, (gtab_at 168 (by decide +kernel) rfl), gin_4, gto_4, gnm_4, rfl, rfl, by decide +kernel⟩
theorem gff_Traffic_29 : gFf gR_4 29 4 8 (.array .int) := ⟨_, _, _, gt_4, rfl, by decide, (gtab_at 171 (by decide +kernel) rfl), gin_4, gto_4, gnm_4, rfl, rfl, by decide +kernel⟩
theorem gff_Traffic_32 : gFf gR_4 32 4 9 (.array .int) := ⟨_, _, _, gt_4, rfl, by decide, (gtab_at 173 (by decide +kernel) rfl), gin_4, gto_4, gnm_4, rfl, rfl, by decide +kernel⟩
theorem gff_Traffic_35 : gFf gR_4 35 4 10 (.array .int) := ⟨_, _, _, gt_4, rfl, by decide, (gtab_at 175 (by decide +kernel) rfl), gin_4, gto_4, gnm_4, rfl, rfl, by decide +kernel⟩
theorem gff_Traffic_38 : gFf gR_4 38 4 11 (.array .int) := ⟨_, _, _, gt_4, rfl, by decide, (gtab_at 177 (by decide +kernel) rfl), gin_4, gto_4, gnm_4, rfl, rfl, by decide +kernel⟩
set_option maxRecDepth 20000 in
theorem gcy_Traffic_41 : gCy gR_4 41 gy_Traffic_begin gc_Traffic_begin 3 none 1 := ⟨(gtab_at 148 (by decide +kernel) rfl), (gtab_at 4 (by decide +kernel) rfl), (gtab_at 151 rfl rfl), by decide, by decide, by decide +kernel⟩
theorem c2_Traffic_27 {Z : gZ} {h : gH} {nl : Nat → Nat → Bool} (hz : ∀ j, 27 < j → ∀ k, h j k = 0) (hnl : ∀ j, 27 ≤ j → ∀ k, nl j k = true) {o : gO} (hc : ∀ i, 1 ≤ i → i < 25 → ∀ (G : gG) (b : Nat) (h : gH), g2E G b h nl i = gE G b h i) (hg : gRg h) (hx : f_Traffic_begin 27 1 h = some o) (ho : ∀ i, i ∉ gBL 27 → o.1 i = h i) : gC2 Z gy_Traffic_init gc_Traffic_init 2 1 22 [.ref (zb Z + 27), .ref (zb Z + 1)] 28 h nl 37 o.1 (gclr nl 27 [3, 4, 5, 6, 7, 8, 9, 10, 11]) := by
  refine gC2_of (own := gR_4) (by decide +kernel) rfl rfl (Nat.le_of_ble_eq_true rfl) rfl (fun X hZ hin hsl hce hF => ?_)
  subst hZ
  show gk gm_Traffic_init X 28 h nl 0 [(0, .ref (zb (xZ X) + 27)), (1, .ref (zb (xZ X) + 1))] []
  refine k_aload_n (M := gm_Traffic_init) dq_Traffic_init_0 rfl 0 rfl 1 rfl ?_
  refine k_objInit (M := gm_Traffic_init) dq_Traffic_init_1 gol_Traffic goi_i goi_c ⟨by decide, by decide⟩ (Nat.le_of_ble_eq_true rfl) 4 rfl ?_
  refine k_aload_n (M := gm_Traffic_init) dq_Traffic_init_4 rfl 0 rfl 5 rfl ?_
  refine k_bipush (M := gm_Traffic_init) (Int32.ofInt 9) dq_Traffic_init_5 (by decide) 7 rfl ?_
  refine k_newi (M := gm_Traffic_init) dq_Traffic_init_7 gac_int gsh_28 (hz 28 (by decide)) (by decide) (by decide) (by decide) 29 rfl (by rw [hsl]; decide) 9 rfl ?_
  refine k_putF (M := gm_Traffic_init) dq_Traffic_init_9 gff_Traffic_11 hin gsh_27 rfl (by decide) (Or.inl ⟨rfl, rfl⟩) (fun _ => rfl) (fun _ => rfl) 12 rfl ?_
  refine k_aload_n (M := gm_Traffic_init) dq_Traffic_init_12 rfl 0 rfl 13 rfl ?_
  refine k_bipush (M := gm_Traffic_init) (Int32.ofInt 9) dq_Traffic_init_13 (by decide) 15 rfl ?_
  refine k_newi (M := gm_Traffic_init) dq_Traffic_init_15 gac_int gsh_29 (hz 29 (by decide)) (by decide) (by decide) (by decide) 30 rfl (by rw [hsl]; decide) 17 rfl ?_
  refine k_putF (M := gm_Traffic_init) dq_Traffic_init_17 gff_Traffic_17 hin gsh_27 rfl (by decide) (Or.inl ⟨rfl, rfl⟩) (fun _ => rfl) (fun _ => rfl) 20 rfl ?_
  refine k_aload_n (M := gm_Traffic_init) dq_Traffic_init_20 rfl 0 rfl 21 rfl ?_
  refine k_bipush (M := gm_Traffic_init) (Int32.ofInt 9) dq_Traffic_init_21 (by decide) 23 rfl ?_
  refine k_newi (M := gm_Traffic_init) dq_Traffic_init_23 gac_int gsh_30 (hz 30 (by decide)) (by decide) (by decide) (by decide) 31 rfl (by rw [hsl]; decide) 25 rfl ?_
  refine k_putF (M := gm_Traffic_init) dq_Traffic_init_25 gff_Traffic_20 hin gsh_27 rfl (by decide) (Or.inl ⟨rfl, rfl⟩) (fun _ => rfl) (fun _ => rfl) 28 rfl ?_
  refine k_aload_n (M := gm_Traffic_init) dq_Traffic_init_28 rfl 0 rfl 29 rfl ?_
  refine k_bipush (M := gm_Traffic_init) (Int32.ofInt 18) dq_Traffic_init_29 (by decide) 31 rfl ?_
  refine k_newi (M := gm_Traffic_init) dq_Traffic_init_31 gac_int gsh_31 (hz 31 (by decide)) (by decide) (by decide) (by decide) 32 rfl (by rw [hsl]; decide) 33 rfl ?_
  refine k_putF (M := gm_Traffic_init) dq_Traffic_init_33 gff_Traffic_23 hin gsh_27 rfl (by decide) (Or.inl ⟨rfl, rfl⟩) (fun _ => rfl) (fun _ => rfl) 36 rfl ?_
  refine k_aload_n (M := gm_Traffic_init) dq_Traffic_init_36 rfl 0 rfl 37 rfl ?_
  refine k_bipush (M := gm_Traffic_init) (Int32.ofInt 6) dq_Traffic_init_37 (by decide) 39 rfl ?_
  refine k_newi (M := gm_Traffic_init) dq_Traffic_init_39 gac_int gsh_32 (hz 32 (by decide)) (by decide) (by decide) (by decide) 33 rfl (by rw [hsl]; decide) 41 rfl ?_
  refine k_putF (M := gm_Traffic_init) dq_Traffic_init_41 gff_Traffic_26 hin gsh_27 rfl (by decide) (Or.inl ⟨rfl, rfl⟩) (fun _ => rfl) (fun _ => rfl) 44 rfl ?_
  refine k_aload_n (M := gm_Traffic_init) dq_Traffic_init_44 rfl 0 rfl 45 rfl ?_
  refine k_bipush (M := gm_Traffic_init) (Int32.ofInt 6) dq_Traffic_init_45 (by decide) 47 rfl ?_
  refine k_newi (M := gm_Traffic_init) dq_Traffic_init_47 gac_int gsh_33 (hz 33 (by decide)) (by decide) (by decide) (by decide) 34 rfl (by rw [hsl]; decide) 49 rfl ?_
  refine k_putF (M := gm_Traffic_init) dq_Traffic_init_49 gff_Traffic_29 hin gsh_27 rfl (by decide) (Or.inl ⟨rfl, rfl⟩) (fun _ => rfl) (fun _ => rfl) 52 rfl ?_
  refine k_aload_n (M := gm_Traffic_init) dq_Traffic_init_52 rfl 0 rfl 53 rfl ?_
  refine k_bipush (M := gm_Traffic_init) (Int32.ofInt 6) dq_Traffic_init_53 (by decide) 55 rfl ?_
  refine k_newi (M := gm_Traffic_init) dq_Traffic_init_55 gac_int gsh_34 (hz 34 (by decide)) (by decide) (by decide) (by decide) 35 rfl (by rw [hsl]; decide) 57 rfl ?_
  refine k_putF (M := gm_Traffic_init) dq_Traffic_init_57 gff_Traffic_32 hin gsh_27 rfl (by decide) (Or.inl ⟨rfl, rfl⟩) (fun _ => rfl) (fun _ => rfl) 60 rfl ?_
  refine k_aload_n (M := gm_Traffic_init) dq_Traffic_init_60 rfl 0 rfl 61 rfl ?_
  refine k_bipush (M := gm_Traffic_init) (Int32.ofInt 6) dq_Traffic_init_61 (by decide) 63 rfl ?_
  refine k_newi (M := gm_Traffic_init) dq_Traffic_init_63 gac_int gsh_35 (hz 35 (by decide)) (by decide) (by decide) (by decide) 36 rfl (by rw [hsl]; decide) 65 rfl ?_
  refine k_putF (M := gm_Traffic_init) dq_Traffic_init_65 gff_Traffic_35 hin gsh_27 rfl (by decide) (Or.inl ⟨rfl, rfl⟩) (fun _ => rfl) (fun _ => rfl) 68 rfl ?_
  refine k_aload_n (M := gm_Traffic_init) dq_Traffic_init_68 rfl 0 rfl 69 rfl ?_
  refine k_bipush (M := gm_Traffic_init) (Int32.ofInt 6) dq_Traffic_init_69 (by decide) 71 rfl ?_
  refine k_newi (M := gm_Traffic_init) dq_Traffic_init_71 gac_int gsh_36 (hz 36 (by decide)) (by decide) (by decide) (by decide) 37 rfl (by rw [hsl]; decide) 73 rfl ?_
  refine k_putF (M := gm_Traffic_init) dq_Traffic_init_73 gff_Traffic_38 hin gsh_27 rfl (by decide) (Or.inl ⟨rfl, rfl⟩) (fun _ => rfl) (fun _ => rfl) 76 rfl ?_
  refine k_aload_n (M := gm_Traffic_init) dq_Traffic_init_76 rfl 0 rfl 77 rfl ?_
  refine k_aload_n (M := gm_Traffic_init) dq_Traffic_init_77 rfl 1 rfl 78 rfl ?_
  refine k_begin (M := gm_Traffic_init) (gBL 27) (by decide +kernel) (by decide +kernel) gBL_t gBL_c (gBL_full gsh_27 hc) dq_Traffic_init_78 gcy_Traffic_41 gim_Traffic_begin gse_Traffic_begin ⟨by decide, by decide⟩ (Nat.le_of_ble_eq_true rfl) (by rw [hsl]; decide) gsh_27 gsh_1 hg hx ho 81 rfl ?_
  exact k_ret (M := gm_Traffic_init) dq_Traffic_init_81 (fun _ => rfl) hF

theorem c2_Traffic_37 {Z : gZ} {h : gH} {nl : Nat → Nat → Bool} (hz : ∀ j, 37 < j → ∀ k, h j k = 0) (hnl : ∀ j, 37 ≤ j → ∀ k, nl j k = true) {o : gO} (hc : ∀ i, 1 ≤ i → i < 25 → ∀ (G : gG) (b : Nat) (h : gH), g2E G b h nl i = gE G b h i) (hg : gRg h) (hx : f_Traffic_begin 37 1 h = some o) (ho : ∀ i, i ∉ gBL 37 → o.1 i = h i) : gC2 Z gy_Traffic_init gc_Traffic_init 2 1 22 [.ref (zb Z + 37), .ref (zb Z + 1)] 38 h nl 47 o.1 (gclr nl 37 [3, 4, 5, 6, 7, 8, 9, 10, 11]) := by
  refine gC2_of (own := gR_4) (by decide +kernel) rfl rfl (Nat.le_of_ble_eq_true rfl) rfl (fun X hZ hin hsl hce hF => ?_)
  subst hZ
  show gk gm_Traffic_init X 38 h nl 0 [(0, .ref (zb (xZ X) + 37)), (1, .ref (zb (xZ X) + 1))] []
  refine k_aload_n (M := gm_Traffic_init) dq_Traffic_init_0 rfl 0 rfl 1 rfl ?_
  refine k_objInit (M := gm_Traffic_init) dq_Traffic_init_1 gol_Traffic goi_i goi_c ⟨by decide, by decide⟩ (Nat.le_of_ble_eq_true rfl) 4 rfl ?_
  refine k_aload_n (M := gm_Traffic_init) dq_Traffic_init_4 rfl 0 rfl 5 rfl ?_
  refine k_bipush (M := gm_Traffic_init) (Int32.ofInt 9) dq_Traffic_init_5 (by decide) 7 rfl ?_
  refine k_newi (M := gm_Traffic_init) dq_Traffic_init_7 gac_int gsh_38 (hz 38 (by decide)) (by decide) (by decide) (by decide) 39 rfl (by rw [hsl]; decide) 9 rfl ?_
  refine k_putF (M := gm_Traffic_init) dq_Traffic_init_9 gff_Traffic_11 hin gsh_37 rfl (by decide) (Or.inl ⟨rfl, rfl⟩) (fun _ => rfl) (fun _ => rfl) 12 rfl ?_
  refine k_aload_n (M := gm_Traffic_init) dq_Traffic_init_12 rfl 0 rfl 13 rfl ?_
  refine k_bipush (M := gm_Traffic_init) (Int32.ofInt 9) dq_Traffic_init_13 (by decide) 15 rfl ?_
  refine k_newi (M := gm_Traffic_init) dq_Traffic_init_15 gac_int gsh_39 (hz 39 (by decide)) (by decide) (by decide) (by decide) 40 rfl (by rw [hsl]; decide) 17 rfl ?_
  refine k_putF (M := gm_Traffic_init) dq_Traffic_init_17 gff_Traffic_17 hin gsh_37 rfl (by decide) (Or.inl ⟨rfl, rfl⟩) (fun _ => rfl) (fun _ => rfl) 20 rfl ?_
  refine k_aload_n (M := gm_Traffic_init) dq_Traffic_init_20 rfl 0 rfl 21 rfl ?_
  refine k_bipush (M := gm_Traffic_init) (Int32.ofInt 9) dq_Traffic_init_21 (by decide) 23 rfl ?_
  refine k_newi (M := gm_Traffic_init) dq_Traffic_init_23 gac_int gsh_40 (hz 40 (by decide)) (by decide) (by decide) (by decide) 41 rfl (by rw [hsl]; decide) 25 rfl ?_
  refine k_putF (M := gm_Traffic_init) dq_Traffic_init_25 gff_Traffic_20 hin gsh_37 rfl (by decide) (Or.inl ⟨rfl, rfl⟩) (fun _ => rfl) (fun _ => rfl) 28 rfl ?_
  refine k_aload_n (M := gm_Traffic_init) dq_Traffic_init_28 rfl 0 rfl 29 rfl ?_
  refine k_bipush (M := gm_Traffic_init) (Int32.ofInt 18) dq_Traffic_init_29 (by decide) 31 rfl ?_
  refine k_newi (M := gm_Traffic_init) dq_Traffic_init_31 gac_int gsh_41 (hz 41 (by decide)) (by decide) (by decide) (by decide) 42 rfl (by rw [hsl]; decide) 33 rfl ?_
  refine k_putF (M := gm_Traffic_init) dq_Traffic_init_33 gff_Traffic_23 hin gsh_37 rfl (by decide) (Or.inl ⟨rfl, rfl⟩) (fun _ => rfl) (fun _ => rfl) 36 rfl ?_
  refine k_aload_n (M := gm_Traffic_init) dq_Traffic_init_36 rfl 0 rfl 37 rfl ?_
  refine k_bipush (M := gm_Traffic_init) (Int32.ofInt 6) dq_Traffic_init_37 (by decide) 39 rfl ?_
  refine k_newi (M := gm_Traffic_init) dq_Traffic_init_39 gac_int gsh_42 (hz 42 (by decide)) (by decide) (by decide) (by decide) 43 rfl (by rw [hsl]; decide) 41 rfl ?_
  refine k_putF (M := gm_Traffic_init) dq_Traffic_init_41 gff_Traffic_26 hin gsh_37 rfl (by decide) (Or.inl ⟨rfl, rfl⟩) (fun _ => rfl) (fun _ => rfl) 44 rfl ?_
  refine k_aload_n (M := gm_Traffic_init) dq_Traffic_init_44 rfl 0 rfl 45 rfl ?_
  refine k_bipush (M := gm_Traffic_init) (Int32.ofInt 6) dq_Traffic_init_45 (by decide) 47 rfl ?_
  refine k_newi (M := gm_Traffic_init) dq_Traffic_init_47 gac_int gsh_43 (hz 43 (by decide)) (by decide) (by decide) (by decide) 44 rfl (by rw [hsl]; decide) 49 rfl ?_
  refine k_putF (M := gm_Traffic_init) dq_Traffic_init_49 gff_Traffic_29 hin gsh_37 rfl (by decide) (Or.inl ⟨rfl, rfl⟩) (fun _ => rfl) (fun _ => rfl) 52 rfl ?_
  refine k_aload_n (M := gm_Traffic_init) dq_Traffic_init_52 rfl 0 rfl 53 rfl ?_
  refine k_bipush (M := gm_Traffic_init) (Int32.ofInt 6) dq_Traffic_init_53 (by decide) 55 rfl ?_
  refine k_newi (M := gm_Traffic_init) dq_Traffic_init_55 gac_int gsh_44 (hz 44 (by decide)) (by decide) (by decide) (by decide) 45 rfl (by rw [hsl]; decide) 57 rfl ?_
  refine k_putF (M := gm_Traffic_init) dq_Traffic_init_57 gff_Traffic_32 hin gsh_37 rfl (by decide) (Or.inl ⟨rfl, rfl⟩) (fun _ => rfl) (fun _ => rfl) 60 rfl ?_
  refine k_aload_n (M := gm_Traffic_init) dq_Traffic_init_60 rfl 0 rfl 61 rfl ?_
  refine k_bipush (M := gm_Traffic_init) (Int32.ofInt 6) dq_Traffic_init_61 (by decide) 63 rfl ?_
  refine k_newi (M := gm_Traffic_init) dq_Traffic_init_63 gac_int gsh_45 (hz 45 (by decide)) (by decide) (by decide) (by decide) 46 rfl (by rw [hsl]; decide) 65 rfl ?_
  refine k_putF (M := gm_Traffic_init) dq_Traffic_init_65 gff_Traffic_35 hin gsh_37 rfl (by decide) (Or.inl ⟨rfl, rfl⟩) (fun _ => rfl) (fun _ => rfl) 68 rfl ?_
  refine k_aload_n (M := gm_Traffic_init) dq_Traffic_init_68 rfl 0 rfl 69 rfl ?_
  refine k_bipush (M := gm_Traffic_init) (Int32.ofInt 6) dq_Traffic_init_69 (by decide) 71 rfl ?_
  refine k_newi (M := gm_Traffic_init) dq_Traffic_init_71 gac_int gsh_46 (hz 46 (by decide)) (by decide) (by decide) (by decide) 47 rfl (by rw [hsl]; decide) 73 rfl ?_
  refine k_putF (M := gm_Traffic_init) dq_Traffic_init_73 gff_Traffic_38 hin gsh_37 rfl (by decide) (Or.inl ⟨rfl, rfl⟩) (fun _ => rfl) (fun _ => rfl) 76 rfl ?_
  refine k_aload_n (M := gm_Traffic_init) dq_Traffic_init_76 rfl 0 rfl 77 rfl ?_
  refine k_aload_n (M := gm_Traffic_init) dq_Traffic_init_77 rfl 1 rfl 78 rfl ?_
  refine k_begin (M := gm_Traffic_init) (gBL 37) (by decide +kernel) (by decide +kernel) gBL_t gBL_c (gBL_full gsh_37 hc) dq_Traffic_init_78 gcy_Traffic_41 gim_Traffic_begin gse_Traffic_begin ⟨by decide, by decide⟩ (Nat.le_of_ble_eq_true rfl) (by rw [hsl]; decide) gsh_37 gsh_1 hg hx ho 81 rfl ?_
  exact k_ret (M := gm_Traffic_init) dq_Traffic_init_81 (fun _ => rfl) hF

theorem c2_Traffic_48 {Z : gZ} {h : gH} {nl : Nat → Nat → Bool} (hz : ∀ j, 48 < j → ∀ k, h j k = 0) (hnl : ∀ j, 48 ≤ j → ∀ k, nl j k = true) {o : gO} (hc : ∀ i, 1 ≤ i → i < 25 → ∀ (G : gG) (b : Nat) (h : gH), g2E G b h nl i = gE G b h i) (hg : gRg h) (hx : f_Traffic_begin 48 1 h = some o) (ho : ∀ i, i ∉ gBL 48 → o.1 i = h i) : gC2 Z gy_Traffic_init gc_Traffic_init 2 1 22 [.ref (zb Z + 48), .ref (zb Z + 1)] 49 h nl 58 o.1 (gclr nl 48 [3, 4, 5, 6, 7, 8, 9, 10, 11]) := by
  refine gC2_of (own := gR_4) (by decide +kernel) rfl rfl (Nat.le_of_ble_eq_true rfl) rfl (fun X hZ hin hsl hce hF => ?_)
  subst hZ
  show gk gm_Traffic_init X 49 h nl 0 [(0, .ref (zb (xZ X) + 48)), (1, .ref (zb (xZ X) + 1))] []
  refine k_aload_n (M := gm_Traffic_init) dq_Traffic_init_0 rfl 0 rfl 1 rfl ?_
  refine k_objInit (M := gm_Traffic_init) dq_Traffic_init_1 gol_Traffic goi_i goi_c ⟨by decide, by decide⟩ (Nat.le_of_ble_eq_true rfl) 4 rfl ?_
  refine k_aload_n (M := gm_Traffic_init) dq_Traffic_init_4 rfl 0 rfl 5 rfl ?_
  refine k_bipush (M := gm_Traffic_init) (Int32.ofInt 9) dq_Traffic_init_5 (by decide) 7 rfl ?_
  refine k_newi (M := gm_Traffic_init) dq_Traffic_init_7 gac_int gsh_49 (hz 49 (by decide)) (by decide) (by decide) (by decide) 50 rfl (by rw [hsl]; decide) 9 rfl ?_
  refine k_putF (M := gm_Traffic_init) dq_Traffic_init_9 gff_Traffic_11 hin gsh_48 rfl (by decide) (Or.inl ⟨rfl, rfl⟩) (fun _ => rfl) (fun _ => rfl) 12 rfl ?_
  refine k_aload_n (M := gm_Traffic_init) dq_Traffic_init_12 rfl 0 rfl 13 rfl ?_
  refine k_bipush (M := gm_Traffic_init) (Int32.ofInt 9) dq_Traffic_init_13 (by decide) 15 rfl ?_
  refine k_newi (M := gm_Traffic_init) dq_Traffic_init_15 gac_int gsh_50 (hz 50 (by decide)) (by decide) (by decide) (by decide) 51 rfl (by rw [hsl]; decide) 17 rfl ?_
  refine k_putF (M := gm_Traffic_init) dq_Traffic_init_17 gff_Traffic_17 hin gsh_48 rfl (by decide) (Or.inl ⟨rfl, rfl⟩) (fun _ => rfl) (fun _ => rfl) 20 rfl ?_
  refine k_aload_n (M := gm_Traffic_init) dq_Traffic_init_20 rfl 0 rfl 21 rfl ?_
  refine k_bipush (M := gm_Traffic_init) (Int32.ofInt 9) dq_Traffic_init_21 (by decide) 23 rfl ?_
  refine k_newi (M := gm_Traffic_init) dq_Traffic_init_23 gac_int gsh_51 (hz 51 (by decide)) (by decide) (by decide) (by decide) 52 rfl (by rw [hsl]; decide) 25 rfl ?_
  refine k_putF (M := gm_Traffic_init) dq_Traffic_init_25 gff_Traffic_20 hin gsh_48 rfl (by decide) (Or.inl ⟨rfl, rfl⟩) (fun _ => rfl) (fun _ => rfl) 28 rfl ?_
  refine k_aload_n (M := gm_Traffic_init) dq_Traffic_init_28 rfl 0 rfl 29 rfl ?_
  refine k_bipush (M := gm_Traffic_init) (Int32.ofInt 18) dq_Traffic_init_29 (by decide) 31 rfl ?_
  refine k_newi (M := gm_Traffic_init) dq_Traffic_init_31 gac_int gsh_52 (hz 52 (by decide)) (by decide) (by decide) (by decide) 53 rfl (by rw [hsl]; decide) 33 rfl ?_
  refine k_putF (M := gm_Traffic_init) dq_Traffic_init_33 gff_Traffic_23 hin gsh_48 rfl (by decide) (Or.inl ⟨rfl, rfl⟩) (fun _ => rfl) (fun _ => rfl) 36 rfl ?_
  refine k_aload_n (M := gm_Traffic_init) dq_Traffic_init_36 rfl 0 rfl 37 rfl ?_
  refine k_bipush (M := gm_Traffic_init) (Int32.ofInt 6) dq_Traffic_init_37 (by decide) 39 rfl ?_
  refine k_newi (M := gm_Traffic_init) dq_Traffic_init_39 gac_int gsh_53 (hz 53 (by decide)) (by decide) (by decide) (by decide) 54 rfl (by rw [hsl]; decide) 41 rfl ?_
  refine k_putF (M := gm_Traffic_init) dq_Traffic_init_41 gff_Traffic_26 hin gsh_48 rfl (by decide) (Or.inl ⟨rfl, rfl⟩) (fun _ => rfl) (fun _ => rfl) 44 rfl ?_
  refine k_aload_n (M := gm_Traffic_init) dq_Traffic_init_44 rfl 0 rfl 45 rfl ?_
  refine k_bipush (M := gm_Traffic_init) (Int32.ofInt 6) dq_Traffic_init_45 (by decide) 47 rfl ?_
  refine k_newi (M := gm_Traffic_init) dq_Traffic_init_47 gac_int gsh_54 (hz 54 (by decide)) (by decide) (by decide) (by decide) 55 rfl (by rw [hsl]; decide) 49 rfl ?_
  refine k_putF (M := gm_Traffic_init) dq_Traffic_init_49 gff_Traffic_29 hin gsh_48 rfl (by decide) (Or.inl ⟨rfl, rfl⟩) (fun _ => rfl) (fun _ => rfl) 52 rfl ?_
  refine k_aload_n (M := gm_Traffic_init) dq_Traffic_init_52 rfl 0 rfl 53 rfl ?_
  refine k_bipush (M := gm_Traffic_init) (Int32.ofInt 6) dq_Traffic_init_53 (by decide) 55 rfl ?_
  refine k_newi (M := gm_Traffic_init) dq_Traffic_init_55 gac_int gsh_55 (hz 55 (by decide)) (by decide) (by decide) (by decide) 56 rfl (by rw [hsl]; decide) 57 rfl ?_
  refine k_putF (M := gm_Traffic_init) dq_Traffic_init_57 gff_Traffic_32 hin gsh_48 rfl (by decide) (Or.inl ⟨rfl, rfl⟩) (fun _ => rfl) (fun _ => rfl) 60 rfl ?_
  refine k_aload_n (M := gm_Traffic_init) dq_Traffic_init_60 rfl 0 rfl 61 rfl ?_
  refine k_bipush (M := gm_Traffic_init) (Int32.ofInt 6) dq_Traffic_init_61 (by decide) 63 rfl ?_
  refine k_newi (M := gm_Traffic_init) dq_Traffic_init_63 gac_int gsh_56 (hz 56 (by decide)) (by decide) (by decide) (by decide) 57 rfl (by rw [hsl]; decide) 65 rfl ?_
  refine k_putF (M := gm_Traffic_init) dq_Traffic_init_65 gff_Traffic_35 hin gsh_48 rfl (by decide) (Or.inl ⟨rfl, rfl⟩) (fun _ => rfl) (fun _ => rfl) 68 rfl ?_
  refine k_aload_n (M := gm_Traffic_init) dq_Traffic_init_68 rfl 0 rfl 69 rfl ?_
  refine k_bipush (M := gm_Traffic_init) (Int32.ofInt 6) dq_Traffic_init_69 (by decide) 71 rfl ?_
  refine k_newi (M := gm_Traffic_init) dq_Traffic_init_71 gac_int gsh_57 (hz 57 (by decide)) (by decide) (by decide) (by decide) 58 rfl (by rw [hsl]; decide) 73 rfl ?_
  refine k_putF (M := gm_Traffic_init) dq_Traffic_init_73 gff_Traffic_38 hin gsh_48 rfl (by decide) (Or.inl ⟨rfl, rfl⟩) (fun _ => rfl) (fun _ => rfl) 76 rfl ?_
  refine k_aload_n (M := gm_Traffic_init) dq_Traffic_init_76 rfl 0 rfl 77 rfl ?_
  refine k_aload_n (M := gm_Traffic_init) dq_Traffic_init_77 rfl 1 rfl 78 rfl ?_
  refine k_begin (M := gm_Traffic_init) (gBL 48) (by decide +kernel) (by decide +kernel) gBL_t gBL_c (gBL_full gsh_48 hc) dq_Traffic_init_78 gcy_Traffic_41 gim_Traffic_begin gse_Traffic_begin ⟨by decide, by decide⟩ (Nat.le_of_ble_eq_true rfl) (by rw [hsl]; decide) gsh_48 gsh_1 hg hx ho 81 rfl ?_
  exact k_ret (M := gm_Traffic_init) dq_Traffic_init_81 (fun _ => rfl) hF

theorem c2_Traffic_58 {Z : gZ} {h : gH} {nl : Nat → Nat → Bool} (hz : ∀ j, 58 < j → ∀ k, h j k = 0) (hnl : ∀ j, 58 ≤ j → ∀ k, nl j k = true) {o : gO} (hc : ∀ i, 1 ≤ i → i < 25 → ∀ (G : gG) (b : Nat) (h : gH), g2E G b h nl i = gE G b h i) (hg : gRg h) (hx : f_Traffic_begin 58 1 h = some o) (ho : ∀ i, i ∉ gBL 58 → o.1 i = h i) : gC2 Z gy_Traffic_init gc_Traffic_init 2 1 22 [.ref (zb Z + 58), .ref (zb Z + 1)] 59 h nl 68 o.1 (gclr nl 58 [3, 4, 5, 6, 7, 8, 9, 10, 11]) := by
  refine gC2_of (own := gR_4) (by decide +kernel) rfl rfl (Nat.le_of_ble_eq_true rfl) rfl (fun X hZ hin hsl hce hF => ?_)
  subst hZ
  show gk gm_Traffic_init X 59 h nl 0 [(0, .ref (zb (xZ X) + 58)), (1, .ref (zb (xZ X) + 1))] []
  refine k_aload_n (M := gm_Traffic_init) dq_Traffic_init_0 rfl 0 rfl 1 rfl ?_
  refine k_objInit (M := gm_Traffic_init) dq_Traffic_init_1 gol_Traffic goi_i goi_c ⟨by decide, by decide⟩ (Nat.le_of_ble_eq_true rfl) 4 rfl ?_
  refine k_aload_n (M := gm_Traffic_init) dq_Traffic_init_4 rfl 0 rfl 5 rfl ?_
  refine k_bipush (M := gm_Traffic_init) (Int32.ofInt 9) dq_Traffic_init_5 (by decide) 7 rfl ?_
  refine k_newi (M := gm_Traffic_init) dq_Traffic_init_7 gac_int gsh_59 (hz 59 (by decide)) (by decide) (by decide) (by decide) 60 rfl (by rw [hsl]; decide) 9 rfl ?_
  refine k_putF (M := gm_Traffic_init) dq_Traffic_init_9 gff_Traffic_11 hin gsh_58 rfl (by decide) (Or.inl ⟨rfl, rfl⟩) (fun _ => rfl) (fun _ => rfl) 12 rfl ?_
  refine k_aload_n (M := gm_Traffic_init) dq_Traffic_init_12 rfl 0 rfl 13 rfl ?_
  refine k_bipush (M := gm_Traffic_init) (Int32.ofInt 9) dq_Traffic_init_13 (by decide) 15 rfl ?_
  refine k_newi (M := gm_Traffic_init) dq_Traffic_init_15 gac_int gsh_60 (hz 60 (by decide)) (by decide) (by decide) (by decide) 61 rfl (by rw [hsl]; decide) 17 rfl ?_
  refine k_putF (M := gm_Traffic_init) dq_Traffic_init_17 gff_Traffic_17 hin gsh_58 rfl (by decide) (Or.inl ⟨rfl, rfl⟩) (fun _ => rfl) (fun _ => rfl) 20 rfl ?_
  refine k_aload_n (M := gm_Traffic_init) dq_Traffic_init_20 rfl 0 rfl 21 rfl ?_
  refine k_bipush (M := gm_Traffic_init) (Int32.ofInt 9) dq_Traffic_init_21 (by decide) 23 rfl ?_
  refine k_newi (M := gm_Traffic_init) dq_Traffic_init_23 gac_int gsh_61 (hz 61 (by decide)) (by decide) (by decide) (by decide) 62 rfl (by rw [hsl]; decide) 25 rfl ?_
  refine k_putF (M := gm_Traffic_init) dq_Traffic_init_25 gff_Traffic_20 hin gsh_58 rfl (by decide) (Or.inl ⟨rfl, rfl⟩) (fun _ => rfl) (fun _ => rfl) 28 rfl ?_
  refine k_aload_n (M := gm_Traffic_init) dq_Traffic_init_28 rfl 0 rfl 29 rfl ?_
  refine k_bipush (M := gm_Traffic_init) (Int32.ofInt 18) dq_Traffic_init_29 (by decide) 31 rfl ?_
  refine k_newi (M := gm_Traffic_init) dq_Traffic_init_31 gac_int gsh_62 (hz 62 (by decide)) (by decide) (by decide) (by decide) 63 rfl (by rw [hsl]; decide) 33 rfl ?_
  refine k_putF (M := gm_Traffic_init) dq_Traffic_init_33 gff_Traffic_23 hin gsh_58 rfl (by decide) (Or.inl ⟨rfl, rfl⟩) (fun _ => rfl) (fun _ => rfl) 36 rfl ?_
  refine k_aload_n (M := gm_Traffic_init) dq_Traffic_init_36 rfl 0 rfl 37 rfl ?_
  refine k_bipush (M := gm_Traffic_init) (Int32.ofInt 6) dq_Traffic_init_37 (by decide) 39 rfl ?_
  refine k_newi (M := gm_Traffic_init) dq_Traffic_init_39 gac_int gsh_63 (hz 63 (by decide)) (by decide) (by decide) (by decide) 64 rfl (by rw [hsl]; decide) 41 rfl ?_
  refine k_putF (M := gm_Traffic_init) dq_Traffic_init_41 gff_Traffic_26 hin gsh_58 rfl (by decide) (Or.inl ⟨rfl, rfl⟩) (fun _ => rfl) (fun _ => rfl) 44 rfl ?_
  refine k_aload_n (M := gm_Traffic_init) dq_Traffic_init_44 rfl 0 rfl 45 rfl ?_
  refine k_bipush (M := gm_Traffic_init) (Int32.ofInt 6) dq_Traffic_init_45 (by decide) 47 rfl ?_
  refine k_newi (M := gm_Traffic_init) dq_Traffic_init_47 gac_int gsh_64 (hz 64 (by decide)) (by decide) (by decide) (by decide) 65 rfl (by rw [hsl]; decide) 49 rfl ?_
  refine k_putF (M := gm_Traffic_init) dq_Traffic_init_49 gff_Traffic_29 hin gsh_58 rfl (by decide) (Or.inl ⟨rfl, rfl⟩) (fun _ => rfl) (fun _ => rfl) 52 rfl ?_
  refine k_aload_n (M := gm_Traffic_init) dq_Traffic_init_52 rfl 0 rfl 53 rfl ?_
  refine k_bipush (M := gm_Traffic_init) (Int32.ofInt 6) dq_Traffic_init_53 (by decide) 55 rfl ?_
  refine k_newi (M := gm_Traffic_init) dq_Traffic_init_55 gac_int gsh_65 (hz 65 (by decide)) (by decide) (by decide) (by decide) 66 rfl (by rw [hsl]; decide) 57 rfl ?_
  refine k_putF (M := gm_Traffic_init) dq_Traffic_init_57 gff_Traffic_32 hin gsh_58 rfl (by decide) (Or.inl ⟨rfl, rfl⟩) (fun _ => rfl) (fun _ => rfl) 60 rfl ?_
  refine k_aload_n (M := gm_Traffic_init) dq_Traffic_init_60 rfl 0 rfl 61 rfl ?_
  refine k_bipush (M := gm_Traffic_init) (Int32.ofInt 6) dq_Traffic_init_61 (by decide) 63 rfl ?_
  refine k_newi (M := gm_Traffic_init) dq_Traffic_init_63 gac_int gsh_66 (hz 66 (by decide)) (by decide) (by decide) (by decide) 67 rfl (by rw [hsl]; decide) 65 rfl ?_
  refine k_putF (M := gm_Traffic_init) dq_Traffic_init_65 gff_Traffic_35 hin gsh_58 rfl (by decide) (Or.inl ⟨rfl, rfl⟩) (fun _ => rfl) (fun _ => rfl) 68 rfl ?_
  refine k_aload_n (M := gm_Traffic_init) dq_Traffic_init_68 rfl 0 rfl 69 rfl ?_
  refine k_bipush (M := gm_Traffic_init) (Int32.ofInt 6) dq_Traffic_init_69 (by decide) 71 rfl ?_
  refine k_newi (M := gm_Traffic_init) dq_Traffic_init_71 gac_int gsh_67 (hz 67 (by decide)) (by decide) (by decide) (by decide) 68 rfl (by rw [hsl]; decide) 73 rfl ?_
  refine k_putF (M := gm_Traffic_init) dq_Traffic_init_73 gff_Traffic_38 hin gsh_58 rfl (by decide) (Or.inl ⟨rfl, rfl⟩) (fun _ => rfl) (fun _ => rfl) 76 rfl ?_
  refine k_aload_n (M := gm_Traffic_init) dq_Traffic_init_76 rfl 0 rfl 77 rfl ?_
  refine k_aload_n (M := gm_Traffic_init) dq_Traffic_init_77 rfl 1 rfl 78 rfl ?_
  refine k_begin (M := gm_Traffic_init) (gBL 58) (by decide +kernel) (by decide +kernel) gBL_t gBL_c (gBL_full gsh_58 hc) dq_Traffic_init_78 gcy_Traffic_41 gim_Traffic_begin gse_Traffic_begin ⟨by decide, by decide⟩ (Nat.le_of_ble_eq_true rfl) (by rw [hsl]; decide) gsh_58 gsh_1 hg hx ho 81 rfl ?_
  exact k_ret (M := gm_Traffic_init) dq_Traffic_init_81 (fun _ => rfl) hF

theorem dq_Way_init_0 : decode gc_Way_init 0 = .ok (.aload_n 0, 1) := by decide +kernel
theorem dq_Way_init_1 : decode gc_Way_init 1 = .ok (.invokespecial 3, 3) := by decide +kernel
theorem dq_Way_init_4 : decode gc_Way_init 4 = .ok (.aload_n 0, 1) := by decide +kernel
theorem dq_Way_init_5 : decode gc_Way_init 5 = .ok (.bipush 7, 2) := by decide +kernel
theorem dq_Way_init_7 : decode gc_Way_init 7 = .ok (.newarray .int, 2) := by decide +kernel
theorem dq_Way_init_9 : decode gc_Way_init 9 = .ok (.putfield 11, 3) := by decide +kernel
theorem dq_Way_init_12 : decode gc_Way_init 12 = .ok (.aload_n 0, 1) := by decide +kernel
theorem dq_Way_init_13 : decode gc_Way_init 13 = .ok (.bipush 7, 2) := by decide +kernel
theorem dq_Way_init_15 : decode gc_Way_init 15 = .ok (.newarray .int, 2) := by decide +kernel
theorem dq_Way_init_17 : decode gc_Way_init 17 = .ok (.putfield 17, 3) := by decide +kernel
theorem dq_Way_init_20 : decode gc_Way_init 20 = .ok (.aload_n 0, 1) := by decide +kernel
theorem dq_Way_init_21 : decode gc_Way_init 21 = .ok (.aload_n 1, 1) := by decide +kernel
theorem dq_Way_init_22 : decode gc_Way_init 22 = .ok (.putfield 20, 3) := by decide +kernel
theorem dq_Way_init_25 : decode gc_Way_init 25 = .ok (.return_, 1) := by decide +kernel
abbrev gm_Way_init : gM := (gc_Way_init, gR_5, 1, 20, 2)
theorem gol_Way : Cond.methodLink gR_5 3 Lib.objectInit ∈ gtbl := (gtab_at 210 (by decide +kernel) rfl)
theorem gff_Way_11 : gFf gR_5 11 5 0 (.array .int) := ⟨_, _, _, gt_5, rfl, by decide, (gtab_at 211 (by decide +kernel) rfl), gin_5, gto_5, gnm_5, rfl, rfl, by decide +kernel⟩
theorem gff_Way_17 : gFf gR_5 17 5 1 (.array .int) := ⟨_, _, _, gt_5, rfl, by decide, (gtab_at 213 (by decide +kernel) rfl), gin_5, gto_5, gnm_5, rfl, rfl, by decide +kernel⟩
theorem gff_Way_20 : gFf gR_5 20 5 2 (.object "DecreedStreets$Traffic") := ⟨_, _, _, gt_5, rfl, by decide, (gtab_at 214 (by decide +kernel) rfl), gin_5, gto_5, gnm_5, rfl, rfl, by decide +kernel⟩
theorem c2_Way_69 {Z : gZ} {h : gH} {nl : Nat → Nat → Bool} (hz : ∀ j, 69 < j → ∀ k, h j k = 0) (hnl : ∀ j, 69 ≤ j → ∀ k, nl j k = true)  : gC2 Z gy_Way_init gc_Way_init 2 1 20 [.ref (zb Z + 69), .ref (zb Z + 27)] 70 h nl 72 h (gclr nl 69 [0, 1, 2]) := by
  refine gC2_of (own := gR_5) (by decide +kernel) rfl rfl (Nat.le_of_ble_eq_true rfl) rfl (fun X hZ hin hsl hce hF => ?_)
  subst hZ
  show gk gm_Way_init X 70 h nl 0 [(0, .ref (zb (xZ X) + 69)), (1, .ref (zb (xZ X) + 27))] []
  refine k_aload_n (M := gm_Way_init) dq_Way_init_0 rfl 0 rfl 1 rfl ?_
  refine k_objInit (M := gm_Way_init) dq_Way_init_1 gol_Way goi_i goi_c ⟨by decide, by decide⟩ (Nat.le_of_ble_eq_true rfl) 4 rfl ?_
  refine k_aload_n (M := gm_Way_init) dq_Way_init_4 rfl 0 rfl 5 rfl ?_
  refine k_bipush (M := gm_Way_init) (Int32.ofInt 7) dq_Way_init_5 (by decide) 7 rfl ?_
  refine k_newi (M := gm_Way_init) dq_Way_init_7 gac_int gsh_70 (hz 70 (by decide)) (by decide) (by decide) (by decide) 71 rfl (by rw [hsl]; decide) 9 rfl ?_
  refine k_putF (M := gm_Way_init) dq_Way_init_9 gff_Way_11 hin gsh_69 rfl (by decide) (Or.inl ⟨rfl, rfl⟩) (fun _ => rfl) (fun _ => rfl) 12 rfl ?_
  refine k_aload_n (M := gm_Way_init) dq_Way_init_12 rfl 0 rfl 13 rfl ?_
  refine k_bipush (M := gm_Way_init) (Int32.ofInt 7) dq_Way_init_13 (by decide) 15 rfl ?_
  refine k_newi (M := gm_Way_init) dq_Way_init_15 gac_int gsh_71 (hz 71 (by decide)) (by decide) (by decide) (by decide) 72 rfl (by rw [hsl]; decide) 17 rfl ?_
  refine k_putF (M := gm_Way_init) dq_Way_init_17 gff_Way_17 hin gsh_69 rfl (by decide) (Or.inl ⟨rfl, rfl⟩) (fun _ => rfl) (fun _ => rfl) 20 rfl ?_
  refine k_aload_n (M := gm_Way_init) dq_Way_init_20 rfl 0 rfl 21 rfl ?_
  refine k_aload_n (M := gm_Way_init) dq_Way_init_21 rfl 1 rfl 22 rfl ?_
  refine k_putF (M := gm_Way_init) dq_Way_init_22 gff_Way_20 hin gsh_69 rfl (by decide) (Or.inr ⟨rfl, rfl⟩) (fun _ => rfl) (fun _ => rfl) 25 rfl ?_
  exact k_ret (M := gm_Way_init) dq_Way_init_25 (fun _ => rfl) hF

theorem dq_Shuffle_init_0 : decode gc_Shuffle_init 0 = .ok (.aload_n 0, 1) := by decide +kernel
theorem dq_Shuffle_init_1 : decode gc_Shuffle_init 1 = .ok (.invokespecial 3, 3) := by decide +kernel
theorem dq_Shuffle_init_4 : decode gc_Shuffle_init 4 = .ok (.aload_n 0, 1) := by decide +kernel
theorem dq_Shuffle_init_5 : decode gc_Shuffle_init 5 = .ok (.bipush 6, 2) := by decide +kernel
theorem dq_Shuffle_init_7 : decode gc_Shuffle_init 7 = .ok (.newarray .int, 2) := by decide +kernel
theorem dq_Shuffle_init_9 : decode gc_Shuffle_init 9 = .ok (.putfield 11, 3) := by decide +kernel
theorem dq_Shuffle_init_12 : decode gc_Shuffle_init 12 = .ok (.aload_n 0, 1) := by decide +kernel
theorem dq_Shuffle_init_13 : decode gc_Shuffle_init 13 = .ok (.bipush 6, 2) := by decide +kernel
theorem dq_Shuffle_init_15 : decode gc_Shuffle_init 15 = .ok (.newarray .int, 2) := by decide +kernel
theorem dq_Shuffle_init_17 : decode gc_Shuffle_init 17 = .ok (.putfield 17, 3) := by decide +kernel
theorem dq_Shuffle_init_20 : decode gc_Shuffle_init 20 = .ok (.aload_n 0, 1) := by decide +kernel
theorem dq_Shuffle_init_21 : decode gc_Shuffle_init 21 = .ok (.aload_n 1, 1) := by decide +kernel
theorem dq_Shuffle_init_22 : decode gc_Shuffle_init 22 = .ok (.putfield 20, 3) := by decide +kernel
theorem dq_Shuffle_init_25 : decode gc_Shuffle_init 25 = .ok (.aload_n 0, 1) := by decide +kernel
theorem dq_Shuffle_init_26 : decode gc_Shuffle_init 26 = .ok (.aload_n 2, 1) := by decide +kernel
theorem dq_Shuffle_init_27 : decode gc_Shuffle_init 27 = .ok (.putfield 24, 3) := by decide +kernel
theorem dq_Shuffle_init_30 : decode gc_Shuffle_init 30 = .ok (.return_, 1) := by decide +kernel
abbrev gm_Shuffle_init : gM := (gc_Shuffle_init, gR_3, 1, 20, 3)
theorem gol_Shuffle : Cond.methodLink gR_3 3 Lib.objectInit ∈ gtbl := (gtab_at 228 (by decide +kernel) rfl)
theorem gff_Shuffle_11 : gFf gR_3 11 3 1 (.array .int) := ⟨_, _, _, gt_3, rfl, by decide, (gtab_at 231 (by decide +kernel) rfl), gin_3, gto_3, gnm_3, rfl, rfl, by decide +kernel⟩
theorem gff_Shuffle_17 : gFf gR_3 17 3 2 (.array .int) := ⟨_, _, _, gt_3, rfl, by decide, (gtab_at 233 (by decide +kernel) rfl), gin_3, gto_3, gnm_3, rfl, rfl, by decide +kernel⟩
theorem gff_Shuffle_20 : gFf gR_3 20 3 3 (.object "DecreedStreets$Traffic") := ⟨_, _, _, gt_3, rfl, by decide, (gtab_at 234 (by decide +kernel) rfl), gin_3, gto_3, gnm_3, rfl, rfl, by decide +kernel⟩
theorem gff_Shuffle_24 : gFf gR_3 24 3 4 (.object "DecreedStreets$Traffic") := ⟨_, _, _, gt_3, rfl, by decide, (gtab_at 235 (by decide +kernel) rfl), gin_3, gto_3, gnm_3, rfl, rfl, by decide +kernel⟩
theorem c2_Shuffle_72 {Z : gZ} {h : gH} {nl : Nat → Nat → Bool} (hz : ∀ j, 72 < j → ∀ k, h j k = 0) (hnl : ∀ j, 72 ≤ j → ∀ k, nl j k = true)  : gC2 Z gy_Shuffle_init gc_Shuffle_init 3 1 20 [.ref (zb Z + 72), .ref (zb Z + 27), .ref (zb Z + 37)] 73 h nl 75 h (gclr nl 72 [1, 2, 3, 4]) := by
  refine gC2_of (own := gR_3) (by decide +kernel) rfl rfl (Nat.le_of_ble_eq_true rfl) rfl (fun X hZ hin hsl hce hF => ?_)
  subst hZ
  show gk gm_Shuffle_init X 73 h nl 0 [(0, .ref (zb (xZ X) + 72)), (1, .ref (zb (xZ X) + 27)), (2, .ref (zb (xZ X) + 37))] []
  refine k_aload_n (M := gm_Shuffle_init) dq_Shuffle_init_0 rfl 0 rfl 1 rfl ?_
  refine k_objInit (M := gm_Shuffle_init) dq_Shuffle_init_1 gol_Shuffle goi_i goi_c ⟨by decide, by decide⟩ (Nat.le_of_ble_eq_true rfl) 4 rfl ?_
  refine k_aload_n (M := gm_Shuffle_init) dq_Shuffle_init_4 rfl 0 rfl 5 rfl ?_
  refine k_bipush (M := gm_Shuffle_init) (Int32.ofInt 6) dq_Shuffle_init_5 (by decide) 7 rfl ?_
  refine k_newi (M := gm_Shuffle_init) dq_Shuffle_init_7 gac_int gsh_73 (hz 73 (by decide)) (by decide) (by decide) (by decide) 74 rfl (by rw [hsl]; decide) 9 rfl ?_
  refine k_putF (M := gm_Shuffle_init) dq_Shuffle_init_9 gff_Shuffle_11 hin gsh_72 rfl (by decide) (Or.inl ⟨rfl, rfl⟩) (fun _ => rfl) (fun _ => rfl) 12 rfl ?_
  refine k_aload_n (M := gm_Shuffle_init) dq_Shuffle_init_12 rfl 0 rfl 13 rfl ?_
  refine k_bipush (M := gm_Shuffle_init) (Int32.ofInt 6) dq_Shuffle_init_13 (by decide) 15 rfl ?_
  refine k_newi (M := gm_Shuffle_init) dq_Shuffle_init_15 gac_int gsh_74 (hz 74 (by decide)) (by decide) (by decide) (by decide) 75 rfl (by rw [hsl]; decide) 17 rfl ?_
  refine k_putF (M := gm_Shuffle_init) dq_Shuffle_init_17 gff_Shuffle_17 hin gsh_72 rfl (by decide) (Or.inl ⟨rfl, rfl⟩) (fun _ => rfl) (fun _ => rfl) 20 rfl ?_
  refine k_aload_n (M := gm_Shuffle_init) dq_Shuffle_init_20 rfl 0 rfl 21 rfl ?_
  refine k_aload_n (M := gm_Shuffle_init) dq_Shuffle_init_21 rfl 1 rfl 22 rfl ?_
  refine k_putF (M := gm_Shuffle_init) dq_Shuffle_init_22 gff_Shuffle_20 hin gsh_72 rfl (by decide) (Or.inr ⟨rfl, rfl⟩) (fun _ => rfl) (fun _ => rfl) 25 rfl ?_
  refine k_aload_n (M := gm_Shuffle_init) dq_Shuffle_init_25 rfl 0 rfl 26 rfl ?_
  refine k_aload_n (M := gm_Shuffle_init) dq_Shuffle_init_26 rfl 2 rfl 27 rfl ?_
  refine k_putF (M := gm_Shuffle_init) dq_Shuffle_init_27 gff_Shuffle_24 hin gsh_72 rfl (by decide) (Or.inr ⟨rfl, rfl⟩) (fun _ => rfl) (fun _ => rfl) 30 rfl ?_
  exact k_ret (M := gm_Shuffle_init) dq_Shuffle_init_30 (fun _ => rfl) hF

theorem dq_Notes_init_0 : decode gc_Notes_init 0 = .ok (.aload_n 0, 1) := by decide +kernel
theorem dq_Notes_init_1 : decode gc_Notes_init 1 = .ok (.invokespecial 1, 3) := by decide +kernel
theorem dq_Notes_init_4 : decode gc_Notes_init 4 = .ok (.aload_n 0, 1) := by decide +kernel
theorem dq_Notes_init_5 : decode gc_Notes_init 5 = .ok (.iload_n 1, 1) := by decide +kernel
theorem dq_Notes_init_6 : decode gc_Notes_init 6 = .ok (.newarray .int, 2) := by decide +kernel
theorem dq_Notes_init_8 : decode gc_Notes_init 8 = .ok (.putfield 7, 3) := by decide +kernel
theorem dq_Notes_init_11 : decode gc_Notes_init 11 = .ok (.aload_n 0, 1) := by decide +kernel
theorem dq_Notes_init_12 : decode gc_Notes_init 12 = .ok (.iload_n 1, 1) := by decide +kernel
theorem dq_Notes_init_13 : decode gc_Notes_init 13 = .ok (.newarray .int, 2) := by decide +kernel
theorem dq_Notes_init_15 : decode gc_Notes_init 15 = .ok (.putfield 13, 3) := by decide +kernel
theorem dq_Notes_init_18 : decode gc_Notes_init 18 = .ok (.aload_n 0, 1) := by decide +kernel
theorem dq_Notes_init_19 : decode gc_Notes_init 19 = .ok (.iload_n 1, 1) := by decide +kernel
theorem dq_Notes_init_20 : decode gc_Notes_init 20 = .ok (.newarray .int, 2) := by decide +kernel
theorem dq_Notes_init_22 : decode gc_Notes_init 22 = .ok (.putfield 16, 3) := by decide +kernel
theorem dq_Notes_init_25 : decode gc_Notes_init 25 = .ok (.return_, 1) := by decide +kernel
abbrev gm_Notes_init : gM := (gc_Notes_init, gR_1, 1, 20, 2)
theorem gol_Notes : Cond.methodLink gR_1 1 Lib.objectInit ∈ gtbl := (gtab_at 255 (by decide +kernel) rfl)
theorem gff_Notes_7 : gFf gR_1 7 1 1 (.array .int) := ⟨_, _, _, gt_1, rfl, by decide, (gtab_at 258 (by decide +kernel) rfl), gin_1, gto_1, gnm_1, rfl, rfl, by decide +kernel⟩
theorem gff_Notes_13 : gFf gR_1 13 1 2 (.array .int) := ⟨_, _, _, gt_1, rfl, by decide, (gtab_at 260 (by decide +kernel) rfl), gin_1, gto_1, gnm_1, rfl, rfl, by decide +kernel⟩
theorem gff_Notes_16 : gFf gR_1 16 1 3 (.array .int) := ⟨_, _, _, gt_1, rfl, by decide, (gtab_at 262 (by decide +kernel) rfl), gin_1, gto_1, gnm_1, rfl, rfl, by decide +kernel⟩
theorem c2_Notes_75 {Z : gZ} {h : gH} {nl : Nat → Nat → Bool} (hz : ∀ j, 75 < j → ∀ k, h j k = 0) (hnl : ∀ j, 75 ≤ j → ∀ k, nl j k = true)  : gC2 Z gy_Notes_init gc_Notes_init 2 1 20 [.ref (zb Z + 75), .int (Int32.ofInt 8)] 76 h nl 79 h (gclr nl 75 [1, 2, 3]) := by
  refine gC2_of (own := gR_1) (by decide +kernel) rfl rfl (Nat.le_of_ble_eq_true rfl) rfl (fun X hZ hin hsl hce hF => ?_)
  subst hZ
  show gk gm_Notes_init X 76 h nl 0 [(0, .ref (zb (xZ X) + 75)), (1, .int (Int32.ofInt 8))] []
  refine k_aload_n (M := gm_Notes_init) dq_Notes_init_0 rfl 0 rfl 1 rfl ?_
  refine k_objInit (M := gm_Notes_init) dq_Notes_init_1 gol_Notes goi_i goi_c ⟨by decide, by decide⟩ (Nat.le_of_ble_eq_true rfl) 4 rfl ?_
  refine k_aload_n (M := gm_Notes_init) dq_Notes_init_4 rfl 0 rfl 5 rfl ?_
  refine k_iload_n (M := gm_Notes_init) dq_Notes_init_5 rfl 1 rfl 6 rfl ?_
  refine k_newi (M := gm_Notes_init) dq_Notes_init_6 gac_int gsh_76 (hz 76 (by decide)) (by decide) (by decide) (by decide) 77 rfl (by rw [hsl]; decide) 8 rfl ?_
  refine k_putF (M := gm_Notes_init) dq_Notes_init_8 gff_Notes_7 hin gsh_75 rfl (by decide) (Or.inl ⟨rfl, rfl⟩) (fun _ => rfl) (fun _ => rfl) 11 rfl ?_
  refine k_aload_n (M := gm_Notes_init) dq_Notes_init_11 rfl 0 rfl 12 rfl ?_
  refine k_iload_n (M := gm_Notes_init) dq_Notes_init_12 rfl 1 rfl 13 rfl ?_
  refine k_newi (M := gm_Notes_init) dq_Notes_init_13 gac_int gsh_77 (hz 77 (by decide)) (by decide) (by decide) (by decide) 78 rfl (by rw [hsl]; decide) 15 rfl ?_
  refine k_putF (M := gm_Notes_init) dq_Notes_init_15 gff_Notes_13 hin gsh_75 rfl (by decide) (Or.inl ⟨rfl, rfl⟩) (fun _ => rfl) (fun _ => rfl) 18 rfl ?_
  refine k_aload_n (M := gm_Notes_init) dq_Notes_init_18 rfl 0 rfl 19 rfl ?_
  refine k_iload_n (M := gm_Notes_init) dq_Notes_init_19 rfl 1 rfl 20 rfl ?_
  refine k_newi (M := gm_Notes_init) dq_Notes_init_20 gac_int gsh_78 (hz 78 (by decide)) (by decide) (by decide) (by decide) 79 rfl (by rw [hsl]; decide) 22 rfl ?_
  refine k_putF (M := gm_Notes_init) dq_Notes_init_22 gff_Notes_16 hin gsh_75 rfl (by decide) (Or.inl ⟨rfl, rfl⟩) (fun _ => rfl) (fun _ => rfl) 25 rfl ?_
  exact k_ret (M := gm_Notes_init) dq_Notes_init_25 (fun _ => rfl) hF

theorem c2_Notes_79 {Z : gZ} {h : gH} {nl : Nat → Nat → Bool} (hz : ∀ j, 79 < j → ∀ k, h j k = 0) (hnl : ∀ j, 79 ≤ j → ∀ k, nl j k = true)  : gC2 Z gy_Notes_init gc_Notes_init 2 1 20 [.ref (zb Z + 79), .int (Int32.ofInt 15)] 80 h nl 83 h (gclr nl 79 [1, 2, 3]) := by
  refine gC2_of (own := gR_1) (by decide +kernel) rfl rfl (Nat.le_of_ble_eq_true rfl) rfl (fun X hZ hin hsl hce hF => ?_)
  subst hZ
  show gk gm_Notes_init X 80 h nl 0 [(0, .ref (zb (xZ X) + 79)), (1, .int (Int32.ofInt 15))] []
  refine k_aload_n (M := gm_Notes_init) dq_Notes_init_0 rfl 0 rfl 1 rfl ?_
  refine k_objInit (M := gm_Notes_init) dq_Notes_init_1 gol_Notes goi_i goi_c ⟨by decide, by decide⟩ (Nat.le_of_ble_eq_true rfl) 4 rfl ?_
  refine k_aload_n (M := gm_Notes_init) dq_Notes_init_4 rfl 0 rfl 5 rfl ?_
  refine k_iload_n (M := gm_Notes_init) dq_Notes_init_5 rfl 1 rfl 6 rfl ?_
  refine k_newi (M := gm_Notes_init) dq_Notes_init_6 gac_int gsh_80 (hz 80 (by decide)) (by decide) (by decide) (by decide) 81 rfl (by rw [hsl]; decide) 8 rfl ?_
  refine k_putF (M := gm_Notes_init) dq_Notes_init_8 gff_Notes_7 hin gsh_79 rfl (by decide) (Or.inl ⟨rfl, rfl⟩) (fun _ => rfl) (fun _ => rfl) 11 rfl ?_
  refine k_aload_n (M := gm_Notes_init) dq_Notes_init_11 rfl 0 rfl 12 rfl ?_
  refine k_iload_n (M := gm_Notes_init) dq_Notes_init_12 rfl 1 rfl 13 rfl ?_
  refine k_newi (M := gm_Notes_init) dq_Notes_init_13 gac_int gsh_81 (hz 81 (by decide)) (by decide) (by decide) (by decide) 82 rfl (by rw [hsl]; decide) 15 rfl ?_
  refine k_putF (M := gm_Notes_init) dq_Notes_init_15 gff_Notes_13 hin gsh_79 rfl (by decide) (Or.inl ⟨rfl, rfl⟩) (fun _ => rfl) (fun _ => rfl) 18 rfl ?_
  refine k_aload_n (M := gm_Notes_init) dq_Notes_init_18 rfl 0 rfl 19 rfl ?_
  refine k_iload_n (M := gm_Notes_init) dq_Notes_init_19 rfl 1 rfl 20 rfl ?_
  refine k_newi (M := gm_Notes_init) dq_Notes_init_20 gac_int gsh_82 (hz 82 (by decide)) (by decide) (by decide) (by decide) 83 rfl (by rw [hsl]; decide) 22 rfl ?_
  refine k_putF (M := gm_Notes_init) dq_Notes_init_22 gff_Notes_16 hin gsh_79 rfl (by decide) (Or.inl ⟨rfl, rfl⟩) (fun _ => rfl) (fun _ => rfl) 25 rfl ?_
  exact k_ret (M := gm_Notes_init) dq_Notes_init_25 (fun _ => rfl) hF

theorem dq_Mo_init_0 : decode gc_Mo_init 0 = .ok (.aload_n 0, 1) := by decide +kernel
theorem dq_Mo_init_1 : decode gc_Mo_init 1 = .ok (.invokespecial 1, 3) := by decide +kernel
theorem dq_Mo_init_4 : decode gc_Mo_init 4 = .ok (.aload_n 0, 1) := by decide +kernel
theorem dq_Mo_init_5 : decode gc_Mo_init 5 = .ok (.bipush 9, 2) := by decide +kernel
theorem dq_Mo_init_7 : decode gc_Mo_init 7 = .ok (.newarray .int, 2) := by decide +kernel
theorem dq_Mo_init_9 : decode gc_Mo_init 9 = .ok (.putfield 7, 3) := by decide +kernel
theorem dq_Mo_init_12 : decode gc_Mo_init 12 = .ok (.aload_n 0, 1) := by decide +kernel
theorem dq_Mo_init_13 : decode gc_Mo_init 13 = .ok (.bipush 9, 2) := by decide +kernel
theorem dq_Mo_init_15 : decode gc_Mo_init 15 = .ok (.newarray .int, 2) := by decide +kernel
theorem dq_Mo_init_17 : decode gc_Mo_init 17 = .ok (.putfield 13, 3) := by decide +kernel
theorem dq_Mo_init_20 : decode gc_Mo_init 20 = .ok (.aload_n 0, 1) := by decide +kernel
theorem dq_Mo_init_21 : decode gc_Mo_init 21 = .ok (.bipush 9, 2) := by decide +kernel
theorem dq_Mo_init_23 : decode gc_Mo_init 23 = .ok (.newarray .int, 2) := by decide +kernel
theorem dq_Mo_init_25 : decode gc_Mo_init 25 = .ok (.putfield 16, 3) := by decide +kernel
theorem dq_Mo_init_28 : decode gc_Mo_init 28 = .ok (.aload_n 0, 1) := by decide +kernel
theorem dq_Mo_init_29 : decode gc_Mo_init 29 = .ok (.bipush 6, 2) := by decide +kernel
theorem dq_Mo_init_31 : decode gc_Mo_init 31 = .ok (.newarray .int, 2) := by decide +kernel
theorem dq_Mo_init_33 : decode gc_Mo_init 33 = .ok (.putfield 19, 3) := by decide +kernel
theorem dq_Mo_init_36 : decode gc_Mo_init 36 = .ok (.aload_n 0, 1) := by decide +kernel
theorem dq_Mo_init_37 : decode gc_Mo_init 37 = .ok (.bipush 6, 2) := by decide +kernel
theorem dq_Mo_init_39 : decode gc_Mo_init 39 = .ok (.newarray .int, 2) := by decide +kernel
theorem dq_Mo_init_41 : decode gc_Mo_init 41 = .ok (.putfield 22, 3) := by decide +kernel
theorem dq_Mo_init_44 : decode gc_Mo_init 44 = .ok (.aload_n 0, 1) := by decide +kernel
theorem dq_Mo_init_45 : decode gc_Mo_init 45 = .ok (.bipush 6, 2) := by decide +kernel
theorem dq_Mo_init_47 : decode gc_Mo_init 47 = .ok (.newarray .int, 2) := by decide +kernel
theorem dq_Mo_init_49 : decode gc_Mo_init 49 = .ok (.putfield 25, 3) := by decide +kernel
theorem dq_Mo_init_52 : decode gc_Mo_init 52 = .ok (.aload_n 0, 1) := by decide +kernel
theorem dq_Mo_init_53 : decode gc_Mo_init 53 = .ok (.bipush 6, 2) := by decide +kernel
theorem dq_Mo_init_55 : decode gc_Mo_init 55 = .ok (.newarray .int, 2) := by decide +kernel
theorem dq_Mo_init_57 : decode gc_Mo_init 57 = .ok (.putfield 28, 3) := by decide +kernel
theorem dq_Mo_init_60 : decode gc_Mo_init 60 = .ok (.aload_n 0, 1) := by decide +kernel
theorem dq_Mo_init_61 : decode gc_Mo_init 61 = .ok (.bipush 49, 2) := by decide +kernel
theorem dq_Mo_init_63 : decode gc_Mo_init 63 = .ok (.newarray .int, 2) := by decide +kernel
theorem dq_Mo_init_65 : decode gc_Mo_init 65 = .ok (.putfield 31, 3) := by decide +kernel
theorem dq_Mo_init_68 : decode gc_Mo_init 68 = .ok (.aload_n 0, 1) := by decide +kernel
theorem dq_Mo_init_69 : decode gc_Mo_init 69 = .ok (.bipush 50, 2) := by decide +kernel
theorem dq_Mo_init_71 : decode gc_Mo_init 71 = .ok (.newarray .int, 2) := by decide +kernel
theorem dq_Mo_init_73 : decode gc_Mo_init 73 = .ok (.putfield 34, 3) := by decide +kernel
theorem dq_Mo_init_76 : decode gc_Mo_init 76 = .ok (.aload_n 0, 1) := by decide +kernel
theorem dq_Mo_init_77 : decode gc_Mo_init 77 = .ok (.sipush 250, 3) := by decide +kernel
theorem dq_Mo_init_80 : decode gc_Mo_init 80 = .ok (.newarray .int, 2) := by decide +kernel
theorem dq_Mo_init_82 : decode gc_Mo_init 82 = .ok (.putfield 37, 3) := by decide +kernel
theorem dq_Mo_init_85 : decode gc_Mo_init 85 = .ok (.aload_n 0, 1) := by decide +kernel
theorem dq_Mo_init_86 : decode gc_Mo_init 86 = .ok (.iconst (-1), 1) := by decide +kernel
theorem dq_Mo_init_87 : decode gc_Mo_init 87 = .ok (.putfield 40, 3) := by decide +kernel
theorem dq_Mo_init_90 : decode gc_Mo_init 90 = .ok (.aload_n 0, 1) := by decide +kernel
theorem dq_Mo_init_91 : decode gc_Mo_init 91 = .ok (.iconst 2, 1) := by decide +kernel
theorem dq_Mo_init_92 : decode gc_Mo_init 92 = .ok (.newarray .int, 2) := by decide +kernel
theorem dq_Mo_init_94 : decode gc_Mo_init 94 = .ok (.putfield 44, 3) := by decide +kernel
theorem dq_Mo_init_97 : decode gc_Mo_init 97 = .ok (.aload_n 0, 1) := by decide +kernel
theorem dq_Mo_init_98 : decode gc_Mo_init 98 = .ok (.bipush 9, 2) := by decide +kernel
theorem dq_Mo_init_100 : decode gc_Mo_init 100 = .ok (.newarray .int, 2) := by decide +kernel
theorem dq_Mo_init_102 : decode gc_Mo_init 102 = .ok (.putfield 47, 3) := by decide +kernel
theorem dq_Mo_init_105 : decode gc_Mo_init 105 = .ok (.aload_n 0, 1) := by decide +kernel
theorem dq_Mo_init_106 : decode gc_Mo_init 106 = .ok (.bipush 9, 2) := by decide +kernel
theorem dq_Mo_init_108 : decode gc_Mo_init 108 = .ok (.newarray .int, 2) := by decide +kernel
theorem dq_Mo_init_110 : decode gc_Mo_init 110 = .ok (.putfield 50, 3) := by decide +kernel
theorem dq_Mo_init_113 : decode gc_Mo_init 113 = .ok (.aload_n 0, 1) := by decide +kernel
theorem dq_Mo_init_114 : decode gc_Mo_init 114 = .ok (.bipush 9, 2) := by decide +kernel
theorem dq_Mo_init_116 : decode gc_Mo_init 116 = .ok (.newarray .int, 2) := by decide +kernel
theorem dq_Mo_init_118 : decode gc_Mo_init 118 = .ok (.putfield 53, 3) := by decide +kernel
theorem dq_Mo_init_121 : decode gc_Mo_init 121 = .ok (.aload_n 0, 1) := by decide +kernel
theorem dq_Mo_init_122 : decode gc_Mo_init 122 = .ok (.bipush 9, 2) := by decide +kernel
theorem dq_Mo_init_124 : decode gc_Mo_init 124 = .ok (.newarray .int, 2) := by decide +kernel
theorem dq_Mo_init_126 : decode gc_Mo_init 126 = .ok (.putfield 56, 3) := by decide +kernel
theorem dq_Mo_init_129 : decode gc_Mo_init 129 = .ok (.aload_n 0, 1) := by decide +kernel
theorem dq_Mo_init_130 : decode gc_Mo_init 130 = .ok (.bipush 6, 2) := by decide +kernel
theorem dq_Mo_init_132 : decode gc_Mo_init 132 = .ok (.newarray .int, 2) := by decide +kernel
theorem dq_Mo_init_134 : decode gc_Mo_init 134 = .ok (.putfield 59, 3) := by decide +kernel
theorem dq_Mo_init_137 : decode gc_Mo_init 137 = .ok (.aload_n 0, 1) := by decide +kernel
theorem dq_Mo_init_138 : decode gc_Mo_init 138 = .ok (.bipush 6, 2) := by decide +kernel
theorem dq_Mo_init_140 : decode gc_Mo_init 140 = .ok (.newarray .int, 2) := by decide +kernel
theorem dq_Mo_init_142 : decode gc_Mo_init 142 = .ok (.putfield 62, 3) := by decide +kernel
theorem dq_Mo_init_145 : decode gc_Mo_init 145 = .ok (.aload_n 0, 1) := by decide +kernel
theorem dq_Mo_init_146 : decode gc_Mo_init 146 = .ok (.bipush 6, 2) := by decide +kernel
theorem dq_Mo_init_148 : decode gc_Mo_init 148 = .ok (.newarray .int, 2) := by decide +kernel
theorem dq_Mo_init_150 : decode gc_Mo_init 150 = .ok (.putfield 65, 3) := by decide +kernel
theorem dq_Mo_init_153 : decode gc_Mo_init 153 = .ok (.aload_n 0, 1) := by decide +kernel
theorem dq_Mo_init_154 : decode gc_Mo_init 154 = .ok (.bipush 6, 2) := by decide +kernel
theorem dq_Mo_init_156 : decode gc_Mo_init 156 = .ok (.newarray .int, 2) := by decide +kernel
theorem dq_Mo_init_158 : decode gc_Mo_init 158 = .ok (.putfield 68, 3) := by decide +kernel
theorem dq_Mo_init_161 : decode gc_Mo_init 161 = .ok (.aload_n 0, 1) := by decide +kernel
theorem dq_Mo_init_162 : decode gc_Mo_init 162 = .ok (.bipush 6, 2) := by decide +kernel
theorem dq_Mo_init_164 : decode gc_Mo_init 164 = .ok (.newarray .int, 2) := by decide +kernel
theorem dq_Mo_init_166 : decode gc_Mo_init 166 = .ok (.putfield 71, 3) := by decide +kernel
theorem dq_Mo_init_169 : decode gc_Mo_init 169 = .ok (.aload_n 0, 1) := by decide +kernel
theorem dq_Mo_init_170 : decode gc_Mo_init 170 = .ok (.iconst (-1), 1) := by decide +kernel
theorem dq_Mo_init_171 : decode gc_Mo_init 171 = .ok (.putfield 74, 3) := by decide +kernel
theorem dq_Mo_init_174 : decode gc_Mo_init 174 = .ok (.aload_n 0, 1) := by decide +kernel
theorem dq_Mo_init_175 : decode gc_Mo_init 175 = .ok (.bipush 50, 2) := by decide +kernel
theorem dq_Mo_init_177 : decode gc_Mo_init 177 = .ok (.newarray .int, 2) := by decide +kernel
theorem dq_Mo_init_179 : decode gc_Mo_init 179 = .ok (.putfield 77, 3) := by decide +kernel
theorem dq_Mo_init_182 : decode gc_Mo_init 182 = .ok (.aload_n 0, 1) := by decide +kernel
theorem dq_Mo_init_183 : decode gc_Mo_init 183 = .ok (.bipush 7, 2) := by decide +kernel
theorem dq_Mo_init_185 : decode gc_Mo_init 185 = .ok (.newarray .int, 2) := by decide +kernel
theorem dq_Mo_init_187 : decode gc_Mo_init 187 = .ok (.putfield 80, 3) := by decide +kernel
theorem dq_Mo_init_190 : decode gc_Mo_init 190 = .ok (.aload_n 0, 1) := by decide +kernel
theorem dq_Mo_init_191 : decode gc_Mo_init 191 = .ok (.sipush 2107, 3) := by decide +kernel
theorem dq_Mo_init_194 : decode gc_Mo_init 194 = .ok (.newarray .int, 2) := by decide +kernel
theorem dq_Mo_init_196 : decode gc_Mo_init 196 = .ok (.putfield 83, 3) := by decide +kernel
theorem dq_Mo_init_199 : decode gc_Mo_init 199 = .ok (.aload_n 0, 1) := by decide +kernel
theorem dq_Mo_init_200 : decode gc_Mo_init 200 = .ok (.bipush 6, 2) := by decide +kernel
theorem dq_Mo_init_202 : decode gc_Mo_init 202 = .ok (.newarray .int, 2) := by decide +kernel
theorem dq_Mo_init_204 : decode gc_Mo_init 204 = .ok (.putfield 86, 3) := by decide +kernel
theorem dq_Mo_init_207 : decode gc_Mo_init 207 = .ok (.aload_n 0, 1) := by decide +kernel
theorem dq_Mo_init_208 : decode gc_Mo_init 208 = .ok (.bipush 6, 2) := by decide +kernel
theorem dq_Mo_init_210 : decode gc_Mo_init 210 = .ok (.newarray .int, 2) := by decide +kernel
theorem dq_Mo_init_212 : decode gc_Mo_init 212 = .ok (.putfield 89, 3) := by decide +kernel
theorem dq_Mo_init_215 : decode gc_Mo_init 215 = .ok (.aload_n 0, 1) := by decide +kernel
theorem dq_Mo_init_216 : decode gc_Mo_init 216 = .ok (.bipush 8, 2) := by decide +kernel
theorem dq_Mo_init_218 : decode gc_Mo_init 218 = .ok (.newarray .int, 2) := by decide +kernel
theorem dq_Mo_init_220 : decode gc_Mo_init 220 = .ok (.putfield 92, 3) := by decide +kernel
theorem dq_Mo_init_223 : decode gc_Mo_init 223 = .ok (.aload_n 0, 1) := by decide +kernel
theorem dq_Mo_init_224 : decode gc_Mo_init 224 = .ok (.bipush 8, 2) := by decide +kernel
theorem dq_Mo_init_226 : decode gc_Mo_init 226 = .ok (.newarray .int, 2) := by decide +kernel
theorem dq_Mo_init_228 : decode gc_Mo_init 228 = .ok (.putfield 95, 3) := by decide +kernel
theorem dq_Mo_init_231 : decode gc_Mo_init 231 = .ok (.aload_n 0, 1) := by decide +kernel
theorem dq_Mo_init_232 : decode gc_Mo_init 232 = .ok (.bipush 8, 2) := by decide +kernel
theorem dq_Mo_init_234 : decode gc_Mo_init 234 = .ok (.newarray .int, 2) := by decide +kernel
theorem dq_Mo_init_236 : decode gc_Mo_init 236 = .ok (.putfield 98, 3) := by decide +kernel
theorem dq_Mo_init_239 : decode gc_Mo_init 239 = .ok (.aload_n 0, 1) := by decide +kernel
theorem dq_Mo_init_240 : decode gc_Mo_init 240 = .ok (.bipush 15, 2) := by decide +kernel
theorem dq_Mo_init_242 : decode gc_Mo_init 242 = .ok (.newarray .int, 2) := by decide +kernel
theorem dq_Mo_init_244 : decode gc_Mo_init 244 = .ok (.putfield 101, 3) := by decide +kernel
theorem dq_Mo_init_247 : decode gc_Mo_init 247 = .ok (.aload_n 0, 1) := by decide +kernel
theorem dq_Mo_init_248 : decode gc_Mo_init 248 = .ok (.bipush 15, 2) := by decide +kernel
theorem dq_Mo_init_250 : decode gc_Mo_init 250 = .ok (.newarray .int, 2) := by decide +kernel
theorem dq_Mo_init_252 : decode gc_Mo_init 252 = .ok (.putfield 104, 3) := by decide +kernel
theorem dq_Mo_init_255 : decode gc_Mo_init 255 = .ok (.aload_n 0, 1) := by decide +kernel
theorem dq_Mo_init_256 : decode gc_Mo_init 256 = .ok (.bipush 102, 2) := by decide +kernel
theorem dq_Mo_init_258 : decode gc_Mo_init 258 = .ok (.newarray .int, 2) := by decide +kernel
theorem dq_Mo_init_260 : decode gc_Mo_init 260 = .ok (.putfield 107, 3) := by decide +kernel
theorem dq_Mo_init_263 : decode gc_Mo_init 263 = .ok (.aload_n 0, 1) := by decide +kernel
theorem dq_Mo_init_264 : decode gc_Mo_init 264 = .ok (.iconst 2, 1) := by decide +kernel
theorem dq_Mo_init_265 : decode gc_Mo_init 265 = .ok (.newarray .boolean, 2) := by decide +kernel
theorem dq_Mo_init_267 : decode gc_Mo_init 267 = .ok (.putfield 110, 3) := by decide +kernel
theorem dq_Mo_init_270 : decode gc_Mo_init 270 = .ok (.aload_n 0, 1) := by decide +kernel
theorem dq_Mo_init_271 : decode gc_Mo_init 271 = .ok (.iconst 0, 1) := by decide +kernel
theorem dq_Mo_init_272 : decode gc_Mo_init 272 = .ok (.putfield 114, 3) := by decide +kernel
theorem dq_Mo_init_275 : decode gc_Mo_init 275 = .ok (.return_, 1) := by decide +kernel
abbrev gm_Mo_init : gM := (gc_Mo_init, gR_7, 1, 20, 1)
theorem gol_Mo : Cond.methodLink gR_7 1 Lib.objectInit ∈ gtbl := (gtab_at 733 (by decide +kernel) rfl)
theorem gff_Mo_7 : gFf gR_7 7 7 3 (.array .int) := ⟨_, _, _, gt_7, rfl, by decide, (gtab_at 737 (by decide +kernel) rfl), gin_7, gto_7, gnm_7, rfl, rfl, by decide +kernel⟩
theorem gff_Mo_13 : gFf gR_7 13 7 4 (.array .int) := ⟨_, _, _, gt_7, rfl, by decide, (gtab_at 738 (by decide +kernel) rfl), gin_7, gto_7, gnm_7, rfl, rfl, by decide +kernel⟩
theorem gff_Mo_16 : gFf gR_7 16 7 5 (.array .int) := ⟨_, _, _, gt_7, rfl, by decide, (gtab_at 739 (by decide +kernel) rfl), gin_7, gto_7, gnm_7, rfl, rfl, by decide +kernel⟩
theorem gff_Mo_19 : gFf gR_7 19 7 7 (.array .int) := ⟨_, _, _, gt_7, rfl, by decide, (gtab_at 741 (by decide +kernel) rfl), gin_7, gto_7, gnm_7, rfl, rfl, by decide +kernel⟩
theorem gff_Mo_22 : gFf gR_7 22 7 8 (.array .int) := ⟨_, _, _, gt_7, rfl, by decide, (gtab_at 742 (by decide +kernel) rfl), gin_7, gto_7, gnm_7, rfl, rfl, by decide +kernel⟩
theorem gff_Mo_25 : gFf gR_7 25 7 9 (.array .int) := ⟨_, _, _, gt_7, rfl, by decide, (gtab_at 743 (by decide +kernel) rfl), gin_7, gto_7, gnm_7, rfl, rfl, by decide +kernel⟩
theorem gff_Mo_28 : gFf gR_7 28 7 10 (.array .int) := ⟨_, _, _, gt_7, rfl, by decide, (gtab_at 744 (by decide +kernel) rfl), gin_7, gto_7, gnm_7, rfl, rfl, by decide +kernel⟩
theorem gff_Mo_31 : gFf gR_7 31 7 11 (.array .int) := ⟨_, _, _, gt_7, rfl, by decide, (gtab_at 745 (by decide +kernel) rfl), gin_7, gto_7, gnm_7, rfl, rfl, by decide +kernel⟩
theorem gff_Mo_34 : gFf gR_7 34 7 12 (.array .int) := ⟨_, _, _, gt_7, rfl, by decide, (gtab_at 746 (by decide +kernel) rfl), gin_7, gto_7, gnm_7, rfl, rfl, by decide +kernel⟩
theorem gff_Mo_37 : gFf gR_7 37 7 14 (.array .int) := ⟨_, _, _, gt_7, rfl, by decide, (gtab_at 748 (by decide +kernel) rfl), gin_7, gto_7, gnm_7, rfl, rfl, by decide +kernel⟩
theorem gff_Mo_44 : gFf gR_7 44 7 20 (.array .int) := ⟨_, _, _, gt_7, rfl, by decide, (gtab_at 754 (by decide +kernel) rfl), gin_7, gto_7, gnm_7, rfl, rfl, by decide +kernel⟩
theorem gff_Mo_47 : gFf gR_7 47 7 22 (.array .int) := ⟨_, _, _, gt_7, rfl, by decide, (gtab_at 756 (by decide +kernel) rfl), gin_7, gto_7, gnm_7, rfl, rfl, by decide +kernel⟩
theorem gff_Mo_50 : gFf gR_7 50 7 23 (.array .int) := ⟨_, _, _, gt_7, rfl, by decide, (gtab_at 757 (by decide +kernel) rfl), gin_7, gto_7, gnm_7, rfl, rfl, by decide +kernel⟩
theorem gff_Mo_53 : gFf gR_7 53 7 24 (.array .int) := ⟨_, _, _, gt_7, rfl, by decide, (gtab_at 758 (by decide +kernel) rfl), gin_7, gto_7, gnm_7, rfl, rfl, by decide +kernel⟩
theorem gff_Mo_56 : gFf gR_7 56 7 25 (.array .int) := ⟨_, _, _, gt_7, rfl, by decide, (gtab_at 759 (by decide +kernel) rfl), gin_7, gto_7, gnm_7, rfl, rfl, by decide +kernel⟩
theorem gff_Mo_59 : gFf gR_7 59 7 27 (.array .int) := ⟨_, _, _, gt_7, rfl, by decide, (gtab_at 761 (by decide +kernel) rfl), gin_7, gto_7, gnm_7, rfl, rfl, by decide +kernel⟩
theorem gff_Mo_62 : gFf gR_7 62 7 28 (.array .int) := ⟨_, _, _, gt_7, rfl, by decide, (gtab_at 762 (by decide +kernel) rfl), gin_7, gto_7, gnm_7, rfl, rfl, by decide +kernel⟩
theorem gff_Mo_65 : gFf gR_7 65 7 29 (.array .int) := ⟨_, _, _, gt_7, rfl, by decide, (gtab_at 763 (by decide +kernel) rfl), gin_7, gto_7, gnm_7, rfl, rfl, by decide +kernel⟩
theorem gff_Mo_68 : gFf gR_7 68 7 30 (.array .int) := ⟨_, _, _, gt_7, rfl, by decide, (gtab_at 764 (by decide +kernel) rfl), gin_7, gto_7, gnm_7, rfl, rfl, by decide +kernel⟩
theorem gff_Mo_71 : gFf gR_7 71 7 31 (.array .int) := ⟨_, _, _, gt_7, rfl, by decide, (gtab_at 765 (by decide +kernel) rfl), gin_7, gto_7, gnm_7, rfl, rfl, by decide +kernel⟩
theorem gff_Mo_77 : gFf gR_7 77 7 33 (.array .int) := ⟨_, _, _, gt_7, rfl, by decide, (gtab_at 767 (by decide +kernel) rfl), gin_7, gto_7, gnm_7, rfl, rfl, by decide +kernel⟩
theorem gff_Mo_80 : gFf gR_7 80 7 34 (.array .int) := ⟨_, _, _, gt_7, rfl, by decide, (gtab_at 768 (by decide +kernel) rfl), gin_7, gto_7, gnm_7, rfl, rfl, by decide +kernel⟩
theorem gff_Mo_83 : gFf gR_7 83 7 35 (.array .int) := ⟨_, _, _, gt_7, rfl, by decide, (gtab_at 769 (by decide +kernel) rfl), gin_7, gto_7, gnm_7, rfl, rfl, by decide +kernel⟩
theorem gff_Mo_86 : gFf gR_7 86 7 36 (.array .int) := ⟨_, _, _, gt_7, rfl, by decide, (gtab_at 770 (by decide +kernel) rfl), gin_7, gto_7, gnm_7, rfl, rfl, by decide +kernel⟩
theorem gff_Mo_89 : gFf gR_7 89 7 37 (.array .int) := ⟨_, _, _, gt_7, rfl, by decide, (gtab_at 771 (by decide +kernel) rfl), gin_7, gto_7, gnm_7, rfl, rfl, by decide +kernel⟩
theorem gff_Mo_92 : gFf gR_7 92 7 39 (.array .int) := ⟨_, _, _, gt_7, rfl, by decide, (gtab_at 773 (by decide +kernel) rfl), gin_7, gto_7, gnm_7, rfl, rfl, by decide +kernel⟩
theorem gff_Mo_95 : gFf gR_7 95 7 40 (.array .int) := ⟨_, _, _, gt_7, rfl, by decide, (gtab_at 774 (by decide +kernel) rfl), gin_7, gto_7, gnm_7, rfl, rfl, by decide +kernel⟩
theorem gff_Mo_98 : gFf gR_7 98 7 41 (.array .int) := ⟨_, _, _, gt_7, rfl, by decide, (gtab_at 775 (by decide +kernel) rfl), gin_7, gto_7, gnm_7, rfl, rfl, by decide +kernel⟩
theorem gff_Mo_101 : gFf gR_7 101 7 43 (.array .int) := ⟨_, _, _, gt_7, rfl, by decide, (gtab_at 777 (by decide +kernel) rfl), gin_7, gto_7, gnm_7, rfl, rfl, by decide +kernel⟩
theorem gff_Mo_104 : gFf gR_7 104 7 44 (.array .int) := ⟨_, _, _, gt_7, rfl, by decide, (gtab_at 778 (by decide +kernel) rfl), gin_7, gto_7, gnm_7, rfl, rfl, by decide +kernel⟩
theorem gff_Mo_107 : gFf gR_7 107 7 45 (.array .int) := ⟨_, _, _, gt_7, rfl, by decide, (gtab_at 779 (by decide +kernel) rfl), gin_7, gto_7, gnm_7, rfl, rfl, by decide +kernel⟩
theorem gff_Mo_110 : gFf gR_7 110 7 46 (.array .boolean) := ⟨_, _, _, gt_7, rfl, by decide, (gtab_at 780 (by decide +kernel) rfl), gin_7, gto_7, gnm_7, rfl, rfl, by decide +kernel⟩
theorem c2_Mo_83 {Z : gZ} {h : gH} {nl : Nat → Nat → Bool} (hz : ∀ j, 83 < j → ∀ k, h j k = 0) (hnl : ∀ j, 83 ≤ j → ∀ k, nl j k = true)  : gC2 Z gy_Mo_init gc_Mo_init 1 1 20 [.ref (zb Z + 83)] 84 h nl 116 (gup (gup (gup h 83 16 (-1)) 83 32 (-1)) 83 0 0) (gclr nl 83 [3, 4, 5, 7, 8, 9, 10, 11, 12, 14, 20, 22, 23, 24, 25, 27, 28, 29, 30, 31, 33, 34, 35, 36, 37, 39, 40, 41, 43, 44, 45, 46]) := by
  refine gC2_of (own := gR_7) (by decide +kernel) rfl rfl (Nat.le_of_ble_eq_true rfl) rfl (fun X hZ hin hsl hce hF => ?_)
  subst hZ
  show gk gm_Mo_init X 84 h nl 0 [(0, .ref (zb (xZ X) + 83))] []
  refine k_aload_n (M := gm_Mo_init) dq_Mo_init_0 rfl 0 rfl 1 rfl ?_
  refine k_objInit (M := gm_Mo_init) dq_Mo_init_1 gol_Mo goi_i goi_c ⟨by decide, by decide⟩ (Nat.le_of_ble_eq_true rfl) 4 rfl ?_
  refine k_aload_n (M := gm_Mo_init) dq_Mo_init_4 rfl 0 rfl 5 rfl ?_
  refine k_bipush (M := gm_Mo_init) (Int32.ofInt 9) dq_Mo_init_5 (by decide) 7 rfl ?_
  refine k_newi (M := gm_Mo_init) dq_Mo_init_7 gac_int gsh_84 (hz 84 (by decide)) (by decide) (by decide) (by decide) 85 rfl (by rw [hsl]; decide) 9 rfl ?_
  refine k_putF (M := gm_Mo_init) dq_Mo_init_9 gff_Mo_7 hin gsh_83 rfl (by decide) (Or.inl ⟨rfl, rfl⟩) (fun _ => rfl) (fun _ => rfl) 12 rfl ?_
  refine k_aload_n (M := gm_Mo_init) dq_Mo_init_12 rfl 0 rfl 13 rfl ?_
  refine k_bipush (M := gm_Mo_init) (Int32.ofInt 9) dq_Mo_init_13 (by decide) 15 rfl ?_
  refine k_newi (M := gm_Mo_init) dq_Mo_init_15 gac_int gsh_85 (hz 85 (by decide)) (by decide) (by decide) (by decide) 86 rfl (by rw [hsl]; decide) 17 rfl ?_
  refine k_putF (M := gm_Mo_init) dq_Mo_init_17 gff_Mo_13 hin gsh_83 rfl (by decide) (Or.inl ⟨rfl, rfl⟩) (fun _ => rfl) (fun _ => rfl) 20 rfl ?_
  refine k_aload_n (M := gm_Mo_init) dq_Mo_init_20 rfl 0 rfl 21 rfl ?_
  refine k_bipush (M := gm_Mo_init) (Int32.ofInt 9) dq_Mo_init_21 (by decide) 23 rfl ?_
  refine k_newi (M := gm_Mo_init) dq_Mo_init_23 gac_int gsh_86 (hz 86 (by decide)) (by decide) (by decide) (by decide) 87 rfl (by rw [hsl]; decide) 25 rfl ?_
  refine k_putF (M := gm_Mo_init) dq_Mo_init_25 gff_Mo_16 hin gsh_83 rfl (by decide) (Or.inl ⟨rfl, rfl⟩) (fun _ => rfl) (fun _ => rfl) 28 rfl ?_
  refine k_aload_n (M := gm_Mo_init) dq_Mo_init_28 rfl 0 rfl 29 rfl ?_
  refine k_bipush (M := gm_Mo_init) (Int32.ofInt 6) dq_Mo_init_29 (by decide) 31 rfl ?_
  refine k_newi (M := gm_Mo_init) dq_Mo_init_31 gac_int gsh_87 (hz 87 (by decide)) (by decide) (by decide) (by decide) 88 rfl (by rw [hsl]; decide) 33 rfl ?_
  refine k_putF (M := gm_Mo_init) dq_Mo_init_33 gff_Mo_19 hin gsh_83 rfl (by decide) (Or.inl ⟨rfl, rfl⟩) (fun _ => rfl) (fun _ => rfl) 36 rfl ?_
  refine k_aload_n (M := gm_Mo_init) dq_Mo_init_36 rfl 0 rfl 37 rfl ?_
  refine k_bipush (M := gm_Mo_init) (Int32.ofInt 6) dq_Mo_init_37 (by decide) 39 rfl ?_
  refine k_newi (M := gm_Mo_init) dq_Mo_init_39 gac_int gsh_88 (hz 88 (by decide)) (by decide) (by decide) (by decide) 89 rfl (by rw [hsl]; decide) 41 rfl ?_
  refine k_putF (M := gm_Mo_init) dq_Mo_init_41 gff_Mo_22 hin gsh_83 rfl (by decide) (Or.inl ⟨rfl, rfl⟩) (fun _ => rfl) (fun _ => rfl) 44 rfl ?_
  refine k_aload_n (M := gm_Mo_init) dq_Mo_init_44 rfl 0 rfl 45 rfl ?_
  refine k_bipush (M := gm_Mo_init) (Int32.ofInt 6) dq_Mo_init_45 (by decide) 47 rfl ?_
  refine k_newi (M := gm_Mo_init) dq_Mo_init_47 gac_int gsh_89 (hz 89 (by decide)) (by decide) (by decide) (by decide) 90 rfl (by rw [hsl]; decide) 49 rfl ?_
  refine k_putF (M := gm_Mo_init) dq_Mo_init_49 gff_Mo_25 hin gsh_83 rfl (by decide) (Or.inl ⟨rfl, rfl⟩) (fun _ => rfl) (fun _ => rfl) 52 rfl ?_
  refine k_aload_n (M := gm_Mo_init) dq_Mo_init_52 rfl 0 rfl 53 rfl ?_
  refine k_bipush (M := gm_Mo_init) (Int32.ofInt 6) dq_Mo_init_53 (by decide) 55 rfl ?_
  refine k_newi (M := gm_Mo_init) dq_Mo_init_55 gac_int gsh_90 (hz 90 (by decide)) (by decide) (by decide) (by decide) 91 rfl (by rw [hsl]; decide) 57 rfl ?_
  refine k_putF (M := gm_Mo_init) dq_Mo_init_57 gff_Mo_28 hin gsh_83 rfl (by decide) (Or.inl ⟨rfl, rfl⟩) (fun _ => rfl) (fun _ => rfl) 60 rfl ?_
  refine k_aload_n (M := gm_Mo_init) dq_Mo_init_60 rfl 0 rfl 61 rfl ?_
  refine k_bipush (M := gm_Mo_init) (Int32.ofInt 49) dq_Mo_init_61 (by decide) 63 rfl ?_
  refine k_newi (M := gm_Mo_init) dq_Mo_init_63 gac_int gsh_91 (hz 91 (by decide)) (by decide) (by decide) (by decide) 92 rfl (by rw [hsl]; decide) 65 rfl ?_
  refine k_putF (M := gm_Mo_init) dq_Mo_init_65 gff_Mo_31 hin gsh_83 rfl (by decide) (Or.inl ⟨rfl, rfl⟩) (fun _ => rfl) (fun _ => rfl) 68 rfl ?_
  refine k_aload_n (M := gm_Mo_init) dq_Mo_init_68 rfl 0 rfl 69 rfl ?_
  refine k_bipush (M := gm_Mo_init) (Int32.ofInt 50) dq_Mo_init_69 (by decide) 71 rfl ?_
  refine k_newi (M := gm_Mo_init) dq_Mo_init_71 gac_int gsh_92 (hz 92 (by decide)) (by decide) (by decide) (by decide) 93 rfl (by rw [hsl]; decide) 73 rfl ?_
  refine k_putF (M := gm_Mo_init) dq_Mo_init_73 gff_Mo_34 hin gsh_83 rfl (by decide) (Or.inl ⟨rfl, rfl⟩) (fun _ => rfl) (fun _ => rfl) 76 rfl ?_
  refine k_aload_n (M := gm_Mo_init) dq_Mo_init_76 rfl 0 rfl 77 rfl ?_
  refine k_sipush (M := gm_Mo_init) (Int32.ofInt 250) dq_Mo_init_77 (by decide) 80 rfl ?_
  refine k_newi (M := gm_Mo_init) dq_Mo_init_80 gac_int gsh_93 (hz 93 (by decide)) (by decide) (by decide) (by decide) 94 rfl (by rw [hsl]; decide) 82 rfl ?_
  refine k_putF (M := gm_Mo_init) dq_Mo_init_82 gff_Mo_37 hin gsh_83 rfl (by decide) (Or.inl ⟨rfl, rfl⟩) (fun _ => rfl) (fun _ => rfl) 85 rfl ?_
  refine k_aload_n (M := gm_Mo_init) dq_Mo_init_85 rfl 0 rfl 86 rfl ?_
  refine k_iconst (M := gm_Mo_init) (Int32.ofInt (-1)) dq_Mo_init_86 rfl 87 rfl ?_
  refine k_put (M := gm_Mo_init) (v := (-1)) dq_Mo_init_87 gfp_Mo_40 gsh_83 rfl (by decide) (by decide) rfl rfl rfl 90 rfl ?_
  have hz : ∀ j, 83 < j → ∀ k, (gup h 83 16 (-1)) j k = 0 := fun j hj k => (gup_ne (fun q => by omega)).trans (hz j hj k)
  refine k_aload_n (M := gm_Mo_init) dq_Mo_init_90 rfl 0 rfl 91 rfl ?_
  refine k_iconst (M := gm_Mo_init) (Int32.ofInt 2) dq_Mo_init_91 rfl 92 rfl ?_
  refine k_newi (M := gm_Mo_init) dq_Mo_init_92 gac_int gsh_94 (hz 94 (by decide)) (by decide) (by decide) (by decide) 95 rfl (by rw [hsl]; decide) 94 rfl ?_
  refine k_putF (M := gm_Mo_init) dq_Mo_init_94 gff_Mo_44 hin gsh_83 rfl (by decide) (Or.inl ⟨rfl, rfl⟩) (fun _ => rfl) (fun _ => rfl) 97 rfl ?_
  refine k_aload_n (M := gm_Mo_init) dq_Mo_init_97 rfl 0 rfl 98 rfl ?_
  refine k_bipush (M := gm_Mo_init) (Int32.ofInt 9) dq_Mo_init_98 (by decide) 100 rfl ?_
  refine k_newi (M := gm_Mo_init) dq_Mo_init_100 gac_int gsh_95 (hz 95 (by decide)) (by decide) (by decide) (by decide) 96 rfl (by rw [hsl]; decide) 102 rfl ?_
  refine k_putF (M := gm_Mo_init) dq_Mo_init_102 gff_Mo_47 hin gsh_83 rfl (by decide) (Or.inl ⟨rfl, rfl⟩) (fun _ => rfl) (fun _ => rfl) 105 rfl ?_
  refine k_aload_n (M := gm_Mo_init) dq_Mo_init_105 rfl 0 rfl 106 rfl ?_
  refine k_bipush (M := gm_Mo_init) (Int32.ofInt 9) dq_Mo_init_106 (by decide) 108 rfl ?_
  refine k_newi (M := gm_Mo_init) dq_Mo_init_108 gac_int gsh_96 (hz 96 (by decide)) (by decide) (by decide) (by decide) 97 rfl (by rw [hsl]; decide) 110 rfl ?_
  refine k_putF (M := gm_Mo_init) dq_Mo_init_110 gff_Mo_50 hin gsh_83 rfl (by decide) (Or.inl ⟨rfl, rfl⟩) (fun _ => rfl) (fun _ => rfl) 113 rfl ?_
  refine k_aload_n (M := gm_Mo_init) dq_Mo_init_113 rfl 0 rfl 114 rfl ?_
  refine k_bipush (M := gm_Mo_init) (Int32.ofInt 9) dq_Mo_init_114 (by decide) 116 rfl ?_
  refine k_newi (M := gm_Mo_init) dq_Mo_init_116 gac_int gsh_97 (hz 97 (by decide)) (by decide) (by decide) (by decide) 98 rfl (by rw [hsl]; decide) 118 rfl ?_
  refine k_putF (M := gm_Mo_init) dq_Mo_init_118 gff_Mo_53 hin gsh_83 rfl (by decide) (Or.inl ⟨rfl, rfl⟩) (fun _ => rfl) (fun _ => rfl) 121 rfl ?_
  refine k_aload_n (M := gm_Mo_init) dq_Mo_init_121 rfl 0 rfl 122 rfl ?_
  refine k_bipush (M := gm_Mo_init) (Int32.ofInt 9) dq_Mo_init_122 (by decide) 124 rfl ?_
  refine k_newi (M := gm_Mo_init) dq_Mo_init_124 gac_int gsh_98 (hz 98 (by decide)) (by decide) (by decide) (by decide) 99 rfl (by rw [hsl]; decide) 126 rfl ?_
  refine k_putF (M := gm_Mo_init) dq_Mo_init_126 gff_Mo_56 hin gsh_83 rfl (by decide) (Or.inl ⟨rfl, rfl⟩) (fun _ => rfl) (fun _ => rfl) 129 rfl ?_
  refine k_aload_n (M := gm_Mo_init) dq_Mo_init_129 rfl 0 rfl 130 rfl ?_
  refine k_bipush (M := gm_Mo_init) (Int32.ofInt 6) dq_Mo_init_130 (by decide) 132 rfl ?_
  refine k_newi (M := gm_Mo_init) dq_Mo_init_132 gac_int gsh_99 (hz 99 (by decide)) (by decide) (by decide) (by decide) 100 rfl (by rw [hsl]; decide) 134 rfl ?_
  refine k_putF (M := gm_Mo_init) dq_Mo_init_134 gff_Mo_59 hin gsh_83 rfl (by decide) (Or.inl ⟨rfl, rfl⟩) (fun _ => rfl) (fun _ => rfl) 137 rfl ?_
  refine k_aload_n (M := gm_Mo_init) dq_Mo_init_137 rfl 0 rfl 138 rfl ?_
  refine k_bipush (M := gm_Mo_init) (Int32.ofInt 6) dq_Mo_init_138 (by decide) 140 rfl ?_
  refine k_newi (M := gm_Mo_init) dq_Mo_init_140 gac_int gsh_100 (hz 100 (by decide)) (by decide) (by decide) (by decide) 101 rfl (by rw [hsl]; decide) 142 rfl ?_
  refine k_putF (M := gm_Mo_init) dq_Mo_init_142 gff_Mo_62 hin gsh_83 rfl (by decide) (Or.inl ⟨rfl, rfl⟩) (fun _ => rfl) (fun _ => rfl) 145 rfl ?_
  refine k_aload_n (M := gm_Mo_init) dq_Mo_init_145 rfl 0 rfl 146 rfl ?_
  refine k_bipush (M := gm_Mo_init) (Int32.ofInt 6) dq_Mo_init_146 (by decide) 148 rfl ?_
  refine k_newi (M := gm_Mo_init) dq_Mo_init_148 gac_int gsh_101 (hz 101 (by decide)) (by decide) (by decide) (by decide) 102 rfl (by rw [hsl]; decide) 150 rfl ?_
  refine k_putF (M := gm_Mo_init) dq_Mo_init_150 gff_Mo_65 hin gsh_83 rfl (by decide) (Or.inl ⟨rfl, rfl⟩) (fun _ => rfl) (fun _ => rfl) 153 rfl ?_
  refine k_aload_n (M := gm_Mo_init) dq_Mo_init_153 rfl 0 rfl 154 rfl ?_
  refine k_bipush (M := gm_Mo_init) (Int32.ofInt 6) dq_Mo_init_154 (by decide) 156 rfl ?_
  refine k_newi (M := gm_Mo_init) dq_Mo_init_156 gac_int gsh_102 (hz 102 (by decide)) (by decide) (by decide) (by decide) 103 rfl (by rw [hsl]; decide) 158 rfl ?_
  refine k_putF (M := gm_Mo_init) dq_Mo_init_158 gff_Mo_68 hin gsh_83 rfl (by decide) (Or.inl ⟨rfl, rfl⟩) (fun _ => rfl) (fun _ => rfl) 161 rfl ?_
  refine k_aload_n (M := gm_Mo_init) dq_Mo_init_161 rfl 0 rfl 162 rfl ?_
  refine k_bipush (M := gm_Mo_init) (Int32.ofInt 6) dq_Mo_init_162 (by decide) 164 rfl ?_
  refine k_newi (M := gm_Mo_init) dq_Mo_init_164 gac_int gsh_103 (hz 103 (by decide)) (by decide) (by decide) (by decide) 104 rfl (by rw [hsl]; decide) 166 rfl ?_
  refine k_putF (M := gm_Mo_init) dq_Mo_init_166 gff_Mo_71 hin gsh_83 rfl (by decide) (Or.inl ⟨rfl, rfl⟩) (fun _ => rfl) (fun _ => rfl) 169 rfl ?_
  refine k_aload_n (M := gm_Mo_init) dq_Mo_init_169 rfl 0 rfl 170 rfl ?_
  refine k_iconst (M := gm_Mo_init) (Int32.ofInt (-1)) dq_Mo_init_170 rfl 171 rfl ?_
  refine k_put (M := gm_Mo_init) (v := (-1)) dq_Mo_init_171 gfp_Mo_74 gsh_83 rfl (by decide) (by decide) rfl rfl rfl 174 rfl ?_
  have hz : ∀ j, 83 < j → ∀ k, (gup (gup h 83 16 (-1)) 83 32 (-1)) j k = 0 := fun j hj k => (gup_ne (fun q => by omega)).trans (hz j hj k)
  refine k_aload_n (M := gm_Mo_init) dq_Mo_init_174 rfl 0 rfl 175 rfl ?_
  refine k_bipush (M := gm_Mo_init) (Int32.ofInt 50) dq_Mo_init_175 (by decide) 177 rfl ?_
  refine k_newi (M := gm_Mo_init) dq_Mo_init_177 gac_int gsh_104 (hz 104 (by decide)) (by decide) (by decide) (by decide) 105 rfl (by rw [hsl]; decide) 179 rfl ?_
  refine k_putF (M := gm_Mo_init) dq_Mo_init_179 gff_Mo_77 hin gsh_83 rfl (by decide) (Or.inl ⟨rfl, rfl⟩) (fun _ => rfl) (fun _ => rfl) 182 rfl ?_
  refine k_aload_n (M := gm_Mo_init) dq_Mo_init_182 rfl 0 rfl 183 rfl ?_
  refine k_bipush (M := gm_Mo_init) (Int32.ofInt 7) dq_Mo_init_183 (by decide) 185 rfl ?_
  refine k_newi (M := gm_Mo_init) dq_Mo_init_185 gac_int gsh_105 (hz 105 (by decide)) (by decide) (by decide) (by decide) 106 rfl (by rw [hsl]; decide) 187 rfl ?_
  refine k_putF (M := gm_Mo_init) dq_Mo_init_187 gff_Mo_80 hin gsh_83 rfl (by decide) (Or.inl ⟨rfl, rfl⟩) (fun _ => rfl) (fun _ => rfl) 190 rfl ?_
  refine k_aload_n (M := gm_Mo_init) dq_Mo_init_190 rfl 0 rfl 191 rfl ?_
  refine k_sipush (M := gm_Mo_init) (Int32.ofInt 2107) dq_Mo_init_191 (by decide) 194 rfl ?_
  refine k_newi (M := gm_Mo_init) dq_Mo_init_194 gac_int gsh_106 (hz 106 (by decide)) (by decide) (by decide) (by decide) 107 rfl (by rw [hsl]; decide) 196 rfl ?_
  refine k_putF (M := gm_Mo_init) dq_Mo_init_196 gff_Mo_83 hin gsh_83 rfl (by decide) (Or.inl ⟨rfl, rfl⟩) (fun _ => rfl) (fun _ => rfl) 199 rfl ?_
  refine k_aload_n (M := gm_Mo_init) dq_Mo_init_199 rfl 0 rfl 200 rfl ?_
  refine k_bipush (M := gm_Mo_init) (Int32.ofInt 6) dq_Mo_init_200 (by decide) 202 rfl ?_
  refine k_newi (M := gm_Mo_init) dq_Mo_init_202 gac_int gsh_107 (hz 107 (by decide)) (by decide) (by decide) (by decide) 108 rfl (by rw [hsl]; decide) 204 rfl ?_
  refine k_putF (M := gm_Mo_init) dq_Mo_init_204 gff_Mo_86 hin gsh_83 rfl (by decide) (Or.inl ⟨rfl, rfl⟩) (fun _ => rfl) (fun _ => rfl) 207 rfl ?_
  refine k_aload_n (M := gm_Mo_init) dq_Mo_init_207 rfl 0 rfl 208 rfl ?_
  refine k_bipush (M := gm_Mo_init) (Int32.ofInt 6) dq_Mo_init_208 (by decide) 210 rfl ?_
  refine k_newi (M := gm_Mo_init) dq_Mo_init_210 gac_int gsh_108 (hz 108 (by decide)) (by decide) (by decide) (by decide) 109 rfl (by rw [hsl]; decide) 212 rfl ?_
  refine k_putF (M := gm_Mo_init) dq_Mo_init_212 gff_Mo_89 hin gsh_83 rfl (by decide) (Or.inl ⟨rfl, rfl⟩) (fun _ => rfl) (fun _ => rfl) 215 rfl ?_
  refine k_aload_n (M := gm_Mo_init) dq_Mo_init_215 rfl 0 rfl 216 rfl ?_
  refine k_bipush (M := gm_Mo_init) (Int32.ofInt 8) dq_Mo_init_216 (by decide) 218 rfl ?_
  refine k_newi (M := gm_Mo_init) dq_Mo_init_218 gac_int gsh_109 (hz 109 (by decide)) (by decide) (by decide) (by decide) 110 rfl (by rw [hsl]; decide) 220 rfl ?_
  refine k_putF (M := gm_Mo_init) dq_Mo_init_220 gff_Mo_92 hin gsh_83 rfl (by decide) (Or.inl ⟨rfl, rfl⟩) (fun _ => rfl) (fun _ => rfl) 223 rfl ?_
  refine k_aload_n (M := gm_Mo_init) dq_Mo_init_223 rfl 0 rfl 224 rfl ?_
  refine k_bipush (M := gm_Mo_init) (Int32.ofInt 8) dq_Mo_init_224 (by decide) 226 rfl ?_
  refine k_newi (M := gm_Mo_init) dq_Mo_init_226 gac_int gsh_110 (hz 110 (by decide)) (by decide) (by decide) (by decide) 111 rfl (by rw [hsl]; decide) 228 rfl ?_
  refine k_putF (M := gm_Mo_init) dq_Mo_init_228 gff_Mo_95 hin gsh_83 rfl (by decide) (Or.inl ⟨rfl, rfl⟩) (fun _ => rfl) (fun _ => rfl) 231 rfl ?_
  refine k_aload_n (M := gm_Mo_init) dq_Mo_init_231 rfl 0 rfl 232 rfl ?_
  refine k_bipush (M := gm_Mo_init) (Int32.ofInt 8) dq_Mo_init_232 (by decide) 234 rfl ?_
  refine k_newi (M := gm_Mo_init) dq_Mo_init_234 gac_int gsh_111 (hz 111 (by decide)) (by decide) (by decide) (by decide) 112 rfl (by rw [hsl]; decide) 236 rfl ?_
  refine k_putF (M := gm_Mo_init) dq_Mo_init_236 gff_Mo_98 hin gsh_83 rfl (by decide) (Or.inl ⟨rfl, rfl⟩) (fun _ => rfl) (fun _ => rfl) 239 rfl ?_
  refine k_aload_n (M := gm_Mo_init) dq_Mo_init_239 rfl 0 rfl 240 rfl ?_
  refine k_bipush (M := gm_Mo_init) (Int32.ofInt 15) dq_Mo_init_240 (by decide) 242 rfl ?_
  refine k_newi (M := gm_Mo_init) dq_Mo_init_242 gac_int gsh_112 (hz 112 (by decide)) (by decide) (by decide) (by decide) 113 rfl (by rw [hsl]; decide) 244 rfl ?_
  refine k_putF (M := gm_Mo_init) dq_Mo_init_244 gff_Mo_101 hin gsh_83 rfl (by decide) (Or.inl ⟨rfl, rfl⟩) (fun _ => rfl) (fun _ => rfl) 247 rfl ?_
  refine k_aload_n (M := gm_Mo_init) dq_Mo_init_247 rfl 0 rfl 248 rfl ?_
  refine k_bipush (M := gm_Mo_init) (Int32.ofInt 15) dq_Mo_init_248 (by decide) 250 rfl ?_
  refine k_newi (M := gm_Mo_init) dq_Mo_init_250 gac_int gsh_113 (hz 113 (by decide)) (by decide) (by decide) (by decide) 114 rfl (by rw [hsl]; decide) 252 rfl ?_
  refine k_putF (M := gm_Mo_init) dq_Mo_init_252 gff_Mo_104 hin gsh_83 rfl (by decide) (Or.inl ⟨rfl, rfl⟩) (fun _ => rfl) (fun _ => rfl) 255 rfl ?_
  refine k_aload_n (M := gm_Mo_init) dq_Mo_init_255 rfl 0 rfl 256 rfl ?_
  refine k_bipush (M := gm_Mo_init) (Int32.ofInt 102) dq_Mo_init_256 (by decide) 258 rfl ?_
  refine k_newi (M := gm_Mo_init) dq_Mo_init_258 gac_int gsh_114 (hz 114 (by decide)) (by decide) (by decide) (by decide) 115 rfl (by rw [hsl]; decide) 260 rfl ?_
  refine k_putF (M := gm_Mo_init) dq_Mo_init_260 gff_Mo_107 hin gsh_83 rfl (by decide) (Or.inl ⟨rfl, rfl⟩) (fun _ => rfl) (fun _ => rfl) 263 rfl ?_
  refine k_aload_n (M := gm_Mo_init) dq_Mo_init_263 rfl 0 rfl 264 rfl ?_
  refine k_iconst (M := gm_Mo_init) (Int32.ofInt 2) dq_Mo_init_264 rfl 265 rfl ?_
  refine k_newz (M := gm_Mo_init) dq_Mo_init_265 gac_bool gsh_115 (hz 115 (by decide)) (by decide) (by decide) (by decide) 116 rfl (by rw [hsl]; decide) 267 rfl ?_
  refine k_putF (M := gm_Mo_init) dq_Mo_init_267 gff_Mo_110 hin gsh_83 rfl (by decide) (Or.inl ⟨rfl, rfl⟩) (fun _ => rfl) (fun _ => rfl) 270 rfl ?_
  refine k_aload_n (M := gm_Mo_init) dq_Mo_init_270 rfl 0 rfl 271 rfl ?_
  refine k_iconst (M := gm_Mo_init) (Int32.ofInt 0) dq_Mo_init_271 rfl 272 rfl ?_
  refine k_put (M := gm_Mo_init) (v := 0) dq_Mo_init_272 gfp_Mo_114 gsh_83 rfl (by decide) (by decide) rfl rfl rfl 275 rfl ?_
  have hz : ∀ j, 83 < j → ∀ k, (gup (gup (gup h 83 16 (-1)) 83 32 (-1)) 83 0 0) j k = 0 := fun j hj k => (gup_ne (fun q => by omega)).trans (hz j hj k)
  exact k_ret (M := gm_Mo_init) dq_Mo_init_275 (fun _ => rfl) hF

