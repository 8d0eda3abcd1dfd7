-- Notes_add
theorem dq_Notes_add_0 : decode gc_Notes_add 0 = .ok (.aload_n 0, 1) := by decide +kernel
theorem dq_Notes_add_1 : decode gc_Notes_add 1 = .ok (.getfield 19, 3) := by decide +kernel
theorem dq_Notes_add_4 : decode gc_Notes_add 4 = .ok (.aload_n 0, 1) := by decide +kernel
theorem dq_Notes_add_5 : decode gc_Notes_add 5 = .ok (.getfield 7, 3) := by decide +kernel
theorem dq_Notes_add_8 : decode gc_Notes_add 8 = .ok (.arraylength, 1) := by decide +kernel
theorem dq_Notes_add_9 : decode gc_Notes_add 9 = .ok (.if_icmp .lt 5, 3) := by decide +kernel
theorem dq_Notes_add_12 : decode gc_Notes_add 12 = .ok (.iconst 0, 1) := by decide +kernel
theorem dq_Notes_add_13 : decode gc_Notes_add 13 = .ok (.ireturn, 1) := by decide +kernel
theorem dq_Notes_add_14 : decode gc_Notes_add 14 = .ok (.aload_n 0, 1) := by decide +kernel
theorem dq_Notes_add_15 : decode gc_Notes_add 15 = .ok (.getfield 7, 3) := by decide +kernel
theorem dq_Notes_add_18 : decode gc_Notes_add 18 = .ok (.aload_n 0, 1) := by decide +kernel
theorem dq_Notes_add_19 : decode gc_Notes_add 19 = .ok (.getfield 19, 3) := by decide +kernel
theorem dq_Notes_add_22 : decode gc_Notes_add 22 = .ok (.iload_n 1, 1) := by decide +kernel
theorem dq_Notes_add_23 : decode gc_Notes_add 23 = .ok (.iastore, 1) := by decide +kernel
theorem dq_Notes_add_24 : decode gc_Notes_add 24 = .ok (.aload_n 0, 1) := by decide +kernel
theorem dq_Notes_add_25 : decode gc_Notes_add 25 = .ok (.getfield 13, 3) := by decide +kernel
theorem dq_Notes_add_28 : decode gc_Notes_add 28 = .ok (.aload_n 0, 1) := by decide +kernel
theorem dq_Notes_add_29 : decode gc_Notes_add 29 = .ok (.getfield 19, 3) := by decide +kernel
theorem dq_Notes_add_32 : decode gc_Notes_add 32 = .ok (.iload_n 2, 1) := by decide +kernel
theorem dq_Notes_add_33 : decode gc_Notes_add 33 = .ok (.iastore, 1) := by decide +kernel
theorem dq_Notes_add_34 : decode gc_Notes_add 34 = .ok (.aload_n 0, 1) := by decide +kernel
theorem dq_Notes_add_35 : decode gc_Notes_add 35 = .ok (.getfield 16, 3) := by decide +kernel
theorem dq_Notes_add_38 : decode gc_Notes_add 38 = .ok (.aload_n 0, 1) := by decide +kernel
theorem dq_Notes_add_39 : decode gc_Notes_add 39 = .ok (.getfield 19, 3) := by decide +kernel
theorem dq_Notes_add_42 : decode gc_Notes_add 42 = .ok (.iload_n 3, 1) := by decide +kernel
theorem dq_Notes_add_43 : decode gc_Notes_add 43 = .ok (.iastore, 1) := by decide +kernel
theorem dq_Notes_add_44 : decode gc_Notes_add 44 = .ok (.aload_n 0, 1) := by decide +kernel
theorem dq_Notes_add_45 : decode gc_Notes_add 45 = .ok (.dup, 1) := by decide +kernel
theorem dq_Notes_add_46 : decode gc_Notes_add 46 = .ok (.getfield 19, 3) := by decide +kernel
theorem dq_Notes_add_49 : decode gc_Notes_add 49 = .ok (.iconst 1, 1) := by decide +kernel
theorem dq_Notes_add_50 : decode gc_Notes_add 50 = .ok (.iadd, 1) := by decide +kernel
theorem dq_Notes_add_51 : decode gc_Notes_add 51 = .ok (.putfield 19, 3) := by decide +kernel
theorem dq_Notes_add_54 : decode gc_Notes_add 54 = .ok (.iconst 1, 1) := by decide +kernel
theorem dq_Notes_add_55 : decode gc_Notes_add 55 = .ok (.ireturn, 1) := by decide +kernel
abbrev gm_Notes_add : gM := (gc_Notes_add, gR_1, 0, 0, 4)
theorem gfl_Notes_19 : gFl gR_1 19 1 0 := ⟨_, _, _, rfl, by decide, (gtab_at 256 (by decide +kernel) rfl), gin_1⟩
theorem gfl_Notes_7 : gFl gR_1 7 1 1 := ⟨_, _, _, rfl, by decide, (gtab_at 258 (by decide +kernel) rfl), gin_1⟩
theorem gfl_Notes_13 : gFl gR_1 13 1 2 := ⟨_, _, _, rfl, by decide, (gtab_at 260 (by decide +kernel) rfl), gin_1⟩
theorem gfl_Notes_16 : gFl gR_1 16 1 3 := ⟨_, _, _, rfl, by decide, (gtab_at 262 (by decide +kernel) rfl), gin_1⟩
theorem gfp_Notes_19 : gFp gR_1 19 1 0 .int := ⟨_, _, _, gt_1, rfl, by decide, (gtab_at 256 (by decide +kernel) rfl), gin_1, gto_1, gnm_1, rfl, by decide +kernel⟩
def f_Notes_add (t : Nat) (a1 : Int) (a2 : Int) (a3 : Int) (h : gH) : Option gO := if (h t 0) < ((gln (t + 1) : Nat) : Int) then (gd (gix (gln (t + 1)) (h t 0)) (gs (gup h (t + 1) (h t 0).toNat a1) (fun h2 => gd (gix (gln (t + 2)) (h2 t 0)) (gs (gup h2 (t + 2) (h2 t 0).toNat a2) (fun h3 => gd (gix (gln (t + 3)) (h3 t 0)) (gs (gup h3 (t + 3) (h3 t 0).toNat a3) (fun h4 => gs (gup h4 t 0 (gadd (h4 t 0) 1)) (fun h5 => gd (gz 1) (some (h5, 1)))))))))) else (gd (gz 0) (some (h, 0)))
theorem c_Notes_add {Z : gZ} (hL : gLive Z) (hn : (zL Z).Nodup) {t : Nat} {a1 : Int} {a2 : Int} {a3 : Int} (ht : gsh t = .inr 1) {h : gH} {o : gO} (hg : gRg h) (ha : gRl [.inr (.inr t), .inl a1, .inl a2, .inl a3]) (hx : f_Notes_add t a1 a2 a3 h = some o) : gC Z gy_Notes_add gc_Notes_add 4 (some .boolean) 0 0 [.inr (.inr t), .inl a1, .inl a2, .inl a3] h o := by
  unfold f_Notes_add at hx
  refine gC_of (lv := [(0, .inr (.inr t)), (1, .inl a1), (2, .inl a2), (3, .inl a3)]) (own := gR_1) (by decide +kernel) rfl (Nat.le_of_ble_eq_true rfl) rfl rfl hn hg ha hx (fun X hZ hF => ?_)
  subst hZ
  show gr _ o gm_Notes_add X h 0 _ _
  refine gr_aload_n (M := gm_Notes_add) dq_Notes_add_0 rfl 0 rfl 1 rfl ?_
  refine gr_geti (M := gm_Notes_add) dq_Notes_add_1 4 rfl gfl_Notes_19 ht rfl (gli hL ht) ?_
  refine gr_aload_n (M := gm_Notes_add) dq_Notes_add_4 rfl 0 rfl 5 rfl ?_
  refine gr_getr (M := gm_Notes_add) dq_Notes_add_5 8 rfl gfl_Notes_7 ht rfl (gli hL ht) (t + 1) rfl ?_
  refine gr_alenP (M := gm_Notes_add) dq_Notes_add_8 9 rfl (gsN_1 ht) hL ?_
  refine gr_icmp_lt (M := gm_Notes_add) dq_Notes_add_9 14 12 rfl rfl (fun c1 => ?_) (fun c1 => ?_)
  · refine gr_aload_n (M := gm_Notes_add) dq_Notes_add_14 rfl 0 rfl 15 rfl ?_
    refine gr_getr (M := gm_Notes_add) dq_Notes_add_15 18 rfl gfl_Notes_7 ht rfl (gli hL ht) (t + 1) rfl ?_
    refine gr_aload_n (M := gm_Notes_add) dq_Notes_add_18 rfl 0 rfl 19 rfl ?_
    refine gr_geti (M := gm_Notes_add) dq_Notes_add_19 22 rfl gfl_Notes_19 ht rfl (gli hL ht) ?_
    refine gr_iload_n (M := gm_Notes_add) dq_Notes_add_22 rfl 1 rfl 23 rfl ?_
    refine gr_iastP (M := gm_Notes_add) dq_Notes_add_23 24 rfl (gsN_1 ht) hL (fun h2 _ => ?_)
    refine gr_aload_n (M := gm_Notes_add) dq_Notes_add_24 rfl 0 rfl 25 rfl ?_
    refine gr_getr (M := gm_Notes_add) dq_Notes_add_25 28 rfl gfl_Notes_13 ht rfl (gli hL ht) (t + 2) rfl ?_
    refine gr_aload_n (M := gm_Notes_add) dq_Notes_add_28 rfl 0 rfl 29 rfl ?_
    refine gr_geti (M := gm_Notes_add) dq_Notes_add_29 32 rfl gfl_Notes_19 ht rfl (gli hL ht) ?_
    refine gr_iload_n (M := gm_Notes_add) dq_Notes_add_32 rfl 2 rfl 33 rfl ?_
    refine gr_iastP (M := gm_Notes_add) dq_Notes_add_33 34 rfl (gsN_2 ht) hL (fun h3 _ => ?_)
    refine gr_aload_n (M := gm_Notes_add) dq_Notes_add_34 rfl 0 rfl 35 rfl ?_
    refine gr_getr (M := gm_Notes_add) dq_Notes_add_35 38 rfl gfl_Notes_16 ht rfl (gli hL ht) (t + 3) rfl ?_
    refine gr_aload_n (M := gm_Notes_add) dq_Notes_add_38 rfl 0 rfl 39 rfl ?_
    refine gr_geti (M := gm_Notes_add) dq_Notes_add_39 42 rfl gfl_Notes_19 ht rfl (gli hL ht) ?_
    refine gr_iload_n (M := gm_Notes_add) dq_Notes_add_42 rfl 3 rfl 43 rfl ?_
    refine gr_iastP (M := gm_Notes_add) dq_Notes_add_43 44 rfl (gsN_3 ht) hL (fun h4 _ => ?_)
    refine gr_aload_n (M := gm_Notes_add) dq_Notes_add_44 rfl 0 rfl 45 rfl ?_
    refine gr_dup (M := gm_Notes_add) dq_Notes_add_45 (fun _ q => by cases q) 46 rfl ?_
    refine gr_geti (M := gm_Notes_add) dq_Notes_add_46 49 rfl gfl_Notes_19 ht rfl (gli hL ht) ?_
    refine gr_iconst (M := gm_Notes_add) (v := 1) dq_Notes_add_49 rfl ⟨by decide, by decide⟩ 50 rfl ?_
    refine gr_iadd (M := gm_Notes_add) dq_Notes_add_50 51 rfl ?_
    refine gr_puti (M := gm_Notes_add) dq_Notes_add_51 54 rfl gfp_Notes_19 ht rfl (gli hL ht) (fun h5 _ => ?_)
    refine gr_iconst (M := gm_Notes_add) (v := 1) dq_Notes_add_54 rfl ⟨by decide, by decide⟩ 55 rfl ?_
    exact gr_zreturn (M := gm_Notes_add) dq_Notes_add_55 hF
  refine gr_iconst (M := gm_Notes_add) (v := 0) dq_Notes_add_12 rfl ⟨by decide, by decide⟩ 13 rfl ?_
  exact gr_zreturn (M := gm_Notes_add) dq_Notes_add_13 hF

-- Notes_minutesOf
theorem dq_Notes_minutesOf_0 : decode gc_Notes_minutesOf 0 = .ok (.iconst 0, 1) := by decide +kernel
theorem dq_Notes_minutesOf_1 : decode gc_Notes_minutesOf 1 = .ok (.istore_n 2, 1) := by decide +kernel
theorem dq_Notes_minutesOf_2 : decode gc_Notes_minutesOf 2 = .ok (.iconst 0, 1) := by decide +kernel
theorem dq_Notes_minutesOf_3 : decode gc_Notes_minutesOf 3 = .ok (.istore_n 3, 1) := by decide +kernel
theorem dq_Notes_minutesOf_4 : decode gc_Notes_minutesOf 4 = .ok (.iload_n 3, 1) := by decide +kernel
theorem dq_Notes_minutesOf_5 : decode gc_Notes_minutesOf 5 = .ok (.aload_n 0, 1) := by decide +kernel
theorem dq_Notes_minutesOf_6 : decode gc_Notes_minutesOf 6 = .ok (.getfield 19, 3) := by decide +kernel
theorem dq_Notes_minutesOf_9 : decode gc_Notes_minutesOf 9 = .ok (.if_icmp .ge 32, 3) := by decide +kernel
theorem dq_Notes_minutesOf_12 : decode gc_Notes_minutesOf 12 = .ok (.aload_n 0, 1) := by decide +kernel
theorem dq_Notes_minutesOf_13 : decode gc_Notes_minutesOf 13 = .ok (.getfield 7, 3) := by decide +kernel
theorem dq_Notes_minutesOf_16 : decode gc_Notes_minutesOf 16 = .ok (.iload_n 3, 1) := by decide +kernel
theorem dq_Notes_minutesOf_17 : decode gc_Notes_minutesOf 17 = .ok (.iaload, 1) := by decide +kernel
theorem dq_Notes_minutesOf_18 : decode gc_Notes_minutesOf 18 = .ok (.iload_n 1, 1) := by decide +kernel
theorem dq_Notes_minutesOf_19 : decode gc_Notes_minutesOf 19 = .ok (.if_icmp .ne 16, 3) := by decide +kernel
theorem dq_Notes_minutesOf_22 : decode gc_Notes_minutesOf 22 = .ok (.iload_n 2, 1) := by decide +kernel
theorem dq_Notes_minutesOf_23 : decode gc_Notes_minutesOf 23 = .ok (.aload_n 0, 1) := by decide +kernel
theorem dq_Notes_minutesOf_24 : decode gc_Notes_minutesOf 24 = .ok (.getfield 13, 3) := by decide +kernel
theorem dq_Notes_minutesOf_27 : decode gc_Notes_minutesOf 27 = .ok (.iload_n 3, 1) := by decide +kernel
theorem dq_Notes_minutesOf_28 : decode gc_Notes_minutesOf 28 = .ok (.iaload, 1) := by decide +kernel
theorem dq_Notes_minutesOf_29 : decode gc_Notes_minutesOf 29 = .ok (.iconst 1, 1) := by decide +kernel
theorem dq_Notes_minutesOf_30 : decode gc_Notes_minutesOf 30 = .ok (.iadd, 1) := by decide +kernel
theorem dq_Notes_minutesOf_31 : decode gc_Notes_minutesOf 31 = .ok (.invokestatic 23, 3) := by decide +kernel
theorem dq_Notes_minutesOf_34 : decode gc_Notes_minutesOf 34 = .ok (.istore_n 2, 1) := by decide +kernel
theorem dq_Notes_minutesOf_35 : decode gc_Notes_minutesOf 35 = .ok (.iinc 3 1, 3) := by decide +kernel
theorem dq_Notes_minutesOf_38 : decode gc_Notes_minutesOf 38 = .ok (.goto (-34), 3) := by decide +kernel
theorem dq_Notes_minutesOf_41 : decode gc_Notes_minutesOf 41 = .ok (.iload_n 2, 1) := by decide +kernel
theorem dq_Notes_minutesOf_42 : decode gc_Notes_minutesOf 42 = .ok (.ireturn, 1) := by decide +kernel
abbrev gm_Notes_minutesOf : gM := (gc_Notes_minutesOf, gR_1, 1, 21, 4)
theorem gmm_i : Cond.initialized "java/lang/Math" ∈ gtbl := (gtab_at 10 (by decide +kernel) rfl)
theorem gmm_smax : Cond.static Lib.Math.max.name ∈ gtbl := (gtab_at 498 (by decide +kernel) rfl)
theorem gmm_cmax : Cond.code Lib.Math.max.name Lib.Math.max.code 2 (some .int) ∈ gtbl := (gtab_at 499 (by decide +kernel) rfl)
theorem gml_Notes_23 : Cond.methodLink gR_1 23 Lib.Math.max.name ∈ gtbl := (gtab_at 698 (by decide +kernel) rfl)
def f_Notes_minutesOf_J35 (t : Nat) (k4 : Int → Int → gH → Option gO) (v1 : Int) (v2 : Int) (v3 : Int) (h : gH) : Option gO := k4 v2 (gadd v3 1) h
theorem w_Notes_minutesOf_J35 {o : gO} {X : gX} (hL : gLive (xZ X)) (hn : (zL (xZ X)).Nodup) (hF : gFin X (some .int) o) {t : Nat} (ht : gsh t = .inr 1)  {k4 : Int → Int → gH → Option gO} {v1 : Int} {v2 : Int} {v3 : Int} {h : gH} (hk4 : ∀ (v2 : Int) (v3 : Int) (h : gH), gr (k4 v2 v3 h) o gm_Notes_minutesOf X h 4 [(0, .inr (.inr t)), (1, .inl v1), (2, .inl v2), (3, .inl v3)] []) : gr (f_Notes_minutesOf_J35 t k4 v1 v2 v3 h) o gm_Notes_minutesOf X h 35 [(0, .inr (.inr t)), (1, .inl v1), (2, .inl v2), (3, .inl v3)] [] := by
  unfold f_Notes_minutesOf_J35
  refine gr_iinc (M := gm_Notes_minutesOf) (lv' := [(3, .inl (gadd v3 1)), (0, .inr (.inr t)), (1, .inl v1), (2, .inl v2)]) dq_Notes_minutesOf_35 3 rfl rfl (by decide) rfl 38 rfl ?_
  refine gr_goto (M := gm_Notes_minutesOf) dq_Notes_minutesOf_38 4 rfl ?_
  refine gr_sub (M := gm_Notes_minutesOf) (lv' := [(0, .inr (.inr t)), (1, .inl v1), (2, .inl v2), (3, .inl (gadd v3 1))]) [1, 2, 3, 0] rfl ?_
  exact hk4 _ _ _

def f_Notes_minutesOf_L4 (t : Nat) (v1 : Int) (k41 : Int → gH → Option gO) : Nat → Int → Int → gH → Option gO
  | 0, _, _, _ => none
  | n + 1, v2, v3, h => if (h t 0) ≤ v3 then (k41 v2 h) else (gd (gix (gln (t + 1)) v3) (if (h (t + 1) v3.toNat) = v1 then (gd (gix (gln (t + 2)) v3) (f_Notes_minutesOf_J35 t (f_Notes_minutesOf_L4 t v1 k41 n) v1 (gmax v2 (gadd (h (t + 2) v3.toNat) 1)) v3 h)) else (f_Notes_minutesOf_J35 t (f_Notes_minutesOf_L4 t v1 k41 n) v1 v2 v3 h)))
theorem w_Notes_minutesOf_L4 {o : gO} {X : gX} (hL : gLive (xZ X)) (hn : (zL (xZ X)).Nodup) (hF : gFin X (some .int) o) {t : Nat} {v1 : Int} (ht : gsh t = .inr 1)  {k41 : Int → gH → Option gO} (hk41 : ∀ (v2 : Int) (h : gH), gr (k41 v2 h) o gm_Notes_minutesOf X h 41 [(2, .inl v2)] []) : ∀ (n : Nat) (v2 : Int) (v3 : Int) (h : gH), gr (f_Notes_minutesOf_L4 t v1 k41 n v2 v3 h) o gm_Notes_minutesOf X h 4 [(0, .inr (.inr t)), (1, .inl v1), (2, .inl v2), (3, .inl v3)] [] := by
  intro n
  induction n with
  | zero => intros; exact gr_none
  | succ n ih =>
    intro v2 v3 h
    unfold f_Notes_minutesOf_L4
    refine gr_iload_n (M := gm_Notes_minutesOf) dq_Notes_minutesOf_4 rfl 3 rfl 5 rfl ?_
    refine gr_aload_n (M := gm_Notes_minutesOf) dq_Notes_minutesOf_5 rfl 0 rfl 6 rfl ?_
    refine gr_geti (M := gm_Notes_minutesOf) dq_Notes_minutesOf_6 9 rfl gfl_Notes_19 ht rfl (gli hL ht) ?_
    refine gr_icmp_ge (M := gm_Notes_minutesOf) dq_Notes_minutesOf_9 41 12 rfl rfl (fun c1 => ?_) (fun c1 => ?_)
    · refine gr_sub (M := gm_Notes_minutesOf) (lv' := [(2, .inl v2)]) [2] rfl ?_
      exact hk41 _ _
    refine gr_aload_n (M := gm_Notes_minutesOf) dq_Notes_minutesOf_12 rfl 0 rfl 13 rfl ?_
    refine gr_getr (M := gm_Notes_minutesOf) dq_Notes_minutesOf_13 16 rfl gfl_Notes_7 ht rfl (gli hL ht) (t + 1) rfl ?_
    refine gr_iload_n (M := gm_Notes_minutesOf) dq_Notes_minutesOf_16 rfl 3 rfl 17 rfl ?_
    refine gr_ialdP (M := gm_Notes_minutesOf) dq_Notes_minutesOf_17 18 rfl (gsN_1 ht) hL ?_
    refine gr_iload_n (M := gm_Notes_minutesOf) dq_Notes_minutesOf_18 rfl 1 rfl 19 rfl ?_
    refine gr_icmp_ne (M := gm_Notes_minutesOf) dq_Notes_minutesOf_19 35 22 rfl rfl (fun c2 => ?_) (fun c2 => ?_)
    · exact w_Notes_minutesOf_J35 hL hn hF ht  ih
    refine gr_iload_n (M := gm_Notes_minutesOf) dq_Notes_minutesOf_22 rfl 2 rfl 23 rfl ?_
    refine gr_aload_n (M := gm_Notes_minutesOf) dq_Notes_minutesOf_23 rfl 0 rfl 24 rfl ?_
    refine gr_getr (M := gm_Notes_minutesOf) dq_Notes_minutesOf_24 27 rfl gfl_Notes_13 ht rfl (gli hL ht) (t + 2) rfl ?_
    refine gr_iload_n (M := gm_Notes_minutesOf) dq_Notes_minutesOf_27 rfl 3 rfl 28 rfl ?_
    refine gr_ialdP (M := gm_Notes_minutesOf) dq_Notes_minutesOf_28 29 rfl (gsN_2 ht) hL ?_
    refine gr_iconst (M := gm_Notes_minutesOf) (v := 1) dq_Notes_minutesOf_29 rfl ⟨by decide, by decide⟩ 30 rfl ?_
    refine gr_iadd (M := gm_Notes_minutesOf) dq_Notes_minutesOf_30 31 rfl ?_
    refine gr_mmax (M := gm_Notes_minutesOf) dq_Notes_minutesOf_31 34 rfl gml_Notes_23 gmm_smax gmm_i gmm_cmax ⟨by decide, by decide⟩ (Nat.le_of_ble_eq_true rfl) ?_
    refine gr_istore_n (M := gm_Notes_minutesOf) (lv' := [(2, .inl (gmax v2 (gadd (h (t + 2) v3.toNat) 1))), (0, .inr (.inr t)), (1, .inl v1), (3, .inl v3)]) dq_Notes_minutesOf_34 rfl (by decide) rfl 35 rfl ?_
    refine gr_sub (M := gm_Notes_minutesOf) (lv' := [(0, .inr (.inr t)), (1, .inl v1), (2, .inl (gmax v2 (gadd (h (t + 2) v3.toNat) 1))), (3, .inl v3)]) [1, 2, 0, 3] rfl ?_
    exact w_Notes_minutesOf_J35 hL hn hF ht  ih

def f_Notes_minutesOf (t : Nat) (a1 : Int) (h : gH) : Option gO := f_Notes_minutesOf_L4 t a1 (fun v3 h4 => some (h4, v3)) 50000 0 0 h
theorem c_Notes_minutesOf {Z : gZ} (hL : gLive Z) (hn : (zL Z).Nodup) {t : Nat} {a1 : Int} (ht : gsh t = .inr 1) {h : gH} {o : gO} (hg : gRg h) (ha : gRl [.inr (.inr t), .inl a1]) (hx : f_Notes_minutesOf t a1 h = some o) : gC Z gy_Notes_minutesOf gc_Notes_minutesOf 4 (some .int) 1 21 [.inr (.inr t), .inl a1] h o := by
  unfold f_Notes_minutesOf at hx
  refine gC_of (lv := [(0, .inr (.inr t)), (1, .inl a1)]) (own := gR_1) (by decide +kernel) rfl (Nat.le_of_ble_eq_true rfl) rfl rfl hn hg ha hx (fun X hZ hF => ?_)
  subst hZ
  show gr _ o gm_Notes_minutesOf X h 0 _ _
  refine gr_iconst (M := gm_Notes_minutesOf) (v := 0) dq_Notes_minutesOf_0 rfl ⟨by decide, by decide⟩ 1 rfl ?_
  refine gr_istore_n (M := gm_Notes_minutesOf) (lv' := [(2, .inl 0), (0, .inr (.inr t)), (1, .inl a1)]) dq_Notes_minutesOf_1 rfl (by decide) rfl 2 rfl ?_
  refine gr_iconst (M := gm_Notes_minutesOf) (v := 0) dq_Notes_minutesOf_2 rfl ⟨by decide, by decide⟩ 3 rfl ?_
  refine gr_istore_n (M := gm_Notes_minutesOf) (lv' := [(3, .inl 0), (2, .inl 0), (0, .inr (.inr t)), (1, .inl a1)]) dq_Notes_minutesOf_3 rfl (by decide) rfl 4 rfl ?_
  refine gr_sub (M := gm_Notes_minutesOf) (lv' := [(0, .inr (.inr t)), (1, .inl a1), (2, .inl 0), (3, .inl 0)]) [2, 3, 1, 0] rfl ?_
  refine w_Notes_minutesOf_L4 hL hn hF ht  (fun v3 h4 => ?_) 50000 _ _ _
  refine gr_iload_n (M := gm_Notes_minutesOf) dq_Notes_minutesOf_41 rfl 0 rfl 42 rfl ?_
  exact gr_ireturn (M := gm_Notes_minutesOf) dq_Notes_minutesOf_42 hF

-- Notes_agree
theorem dq_Notes_agree_0 : decode gc_Notes_agree 0 = .ok (.iconst 0, 1) := by decide +kernel
theorem dq_Notes_agree_1 : decode gc_Notes_agree 1 = .ok (.istore 4, 2) := by decide +kernel
theorem dq_Notes_agree_3 : decode gc_Notes_agree 3 = .ok (.iload 4, 2) := by decide +kernel
theorem dq_Notes_agree_5 : decode gc_Notes_agree 5 = .ok (.aload_n 0, 1) := by decide +kernel
theorem dq_Notes_agree_6 : decode gc_Notes_agree 6 = .ok (.getfield 19, 3) := by decide +kernel
theorem dq_Notes_agree_9 : decode gc_Notes_agree 9 = .ok (.if_icmp .ge 44, 3) := by decide +kernel
theorem dq_Notes_agree_12 : decode gc_Notes_agree 12 = .ok (.aload_n 0, 1) := by decide +kernel
theorem dq_Notes_agree_13 : decode gc_Notes_agree 13 = .ok (.getfield 7, 3) := by decide +kernel
theorem dq_Notes_agree_16 : decode gc_Notes_agree 16 = .ok (.iload 4, 2) := by decide +kernel
theorem dq_Notes_agree_18 : decode gc_Notes_agree 18 = .ok (.iaload, 1) := by decide +kernel
theorem dq_Notes_agree_19 : decode gc_Notes_agree 19 = .ok (.iload_n 1, 1) := by decide +kernel
theorem dq_Notes_agree_20 : decode gc_Notes_agree 20 = .ok (.if_icmp .ne 27, 3) := by decide +kernel
theorem dq_Notes_agree_23 : decode gc_Notes_agree 23 = .ok (.aload_n 0, 1) := by decide +kernel
theorem dq_Notes_agree_24 : decode gc_Notes_agree 24 = .ok (.getfield 13, 3) := by decide +kernel
theorem dq_Notes_agree_27 : decode gc_Notes_agree 27 = .ok (.iload 4, 2) := by decide +kernel
theorem dq_Notes_agree_29 : decode gc_Notes_agree 29 = .ok (.iaload, 1) := by decide +kernel
theorem dq_Notes_agree_30 : decode gc_Notes_agree 30 = .ok (.iload_n 2, 1) := by decide +kernel
theorem dq_Notes_agree_31 : decode gc_Notes_agree 31 = .ok (.if_icmp .ne 16, 3) := by decide +kernel
theorem dq_Notes_agree_34 : decode gc_Notes_agree 34 = .ok (.aload_n 0, 1) := by decide +kernel
theorem dq_Notes_agree_35 : decode gc_Notes_agree 35 = .ok (.getfield 16, 3) := by decide +kernel
theorem dq_Notes_agree_38 : decode gc_Notes_agree 38 = .ok (.iload 4, 2) := by decide +kernel
theorem dq_Notes_agree_40 : decode gc_Notes_agree 40 = .ok (.iaload, 1) := by decide +kernel
theorem dq_Notes_agree_41 : decode gc_Notes_agree 41 = .ok (.iload_n 3, 1) := by decide +kernel
theorem dq_Notes_agree_42 : decode gc_Notes_agree 42 = .ok (.if_icmp .eq 5, 3) := by decide +kernel
theorem dq_Notes_agree_45 : decode gc_Notes_agree 45 = .ok (.iconst 0, 1) := by decide +kernel
theorem dq_Notes_agree_46 : decode gc_Notes_agree 46 = .ok (.ireturn, 1) := by decide +kernel
theorem dq_Notes_agree_47 : decode gc_Notes_agree 47 = .ok (.iinc 4 1, 3) := by decide +kernel
theorem dq_Notes_agree_50 : decode gc_Notes_agree 50 = .ok (.goto (-47), 3) := by decide +kernel
theorem dq_Notes_agree_53 : decode gc_Notes_agree 53 = .ok (.iconst 1, 1) := by decide +kernel
theorem dq_Notes_agree_54 : decode gc_Notes_agree 54 = .ok (.ireturn, 1) := by decide +kernel
abbrev gm_Notes_agree : gM := (gc_Notes_agree, gR_1, 0, 0, 5)
def f_Notes_agree_J47 (t : Nat) (k3 : Int → gH → Option gO) (v1 : Int) (v2 : Int) (v3 : Int) (v4 : Int) (h : gH) : Option gO := k3 (gadd v4 1) h
theorem w_Notes_agree_J47 {o : gO} {X : gX} (hL : gLive (xZ X)) (hn : (zL (xZ X)).Nodup) (hF : gFin X (some .boolean) o) {t : Nat} (ht : gsh t = .inr 1)  {k3 : Int → gH → Option gO} {v1 : Int} {v2 : Int} {v3 : Int} {v4 : Int} {h : gH} (hk3 : ∀ (v4 : Int) (h : gH), gr (k3 v4 h) o gm_Notes_agree X h 3 [(0, .inr (.inr t)), (1, .inl v1), (2, .inl v2), (3, .inl v3), (4, .inl v4)] []) : gr (f_Notes_agree_J47 t k3 v1 v2 v3 v4 h) o gm_Notes_agree X h 47 [(0, .inr (.inr t)), (1, .inl v1), (2, .inl v2), (3, .inl v3), (4, .inl v4)] [] := by
  unfold f_Notes_agree_J47
  refine gr_iinc (M := gm_Notes_agree) (lv' := [(4, .inl (gadd v4 1)), (0, .inr (.inr t)), (1, .inl v1), (2, .inl v2), (3, .inl v3)]) dq_Notes_agree_47 4 rfl rfl (by decide) rfl 50 rfl ?_
  refine gr_goto (M := gm_Notes_agree) dq_Notes_agree_50 3 rfl ?_
  refine gr_sub (M := gm_Notes_agree) (lv' := [(0, .inr (.inr t)), (1, .inl v1), (2, .inl v2), (3, .inl v3), (4, .inl (gadd v4 1))]) [1, 2, 3, 4, 0] rfl ?_
  exact hk3 _ _

def f_Notes_agree_L3 (t : Nat) (v1 : Int) (v2 : Int) (v3 : Int) (k53 : gH → Option gO) : Nat → Int → gH → Option gO
  | 0, _, _ => none
  | n + 1, v4, h => if (h t 0) ≤ v4 then (k53  h) else (gd (gix (gln (t + 1)) v4) (if (h (t + 1) v4.toNat) = v1 then (gd (gix (gln (t + 2)) v4) (if (h (t + 2) v4.toNat) = v2 then (gd (gix (gln (t + 3)) v4) (if (h (t + 3) v4.toNat) = v3 then (f_Notes_agree_J47 t (f_Notes_agree_L3 t v1 v2 v3 k53 n) v1 v2 v3 v4 h) else (gd (gz 0) (some (h, 0))))) else (f_Notes_agree_J47 t (f_Notes_agree_L3 t v1 v2 v3 k53 n) v1 v2 v3 v4 h))) else (f_Notes_agree_J47 t (f_Notes_agree_L3 t v1 v2 v3 k53 n) v1 v2 v3 v4 h)))
theorem w_Notes_agree_L3 {o : gO} {X : gX} (hL : gLive (xZ X)) (hn : (zL (xZ X)).Nodup) (hF : gFin X (some .boolean) o) {t : Nat} {v1 : Int} {v2 : Int} {v3 : Int} (ht : gsh t = .inr 1)  {k53 : gH → Option gO} (hk53 : ∀ (h : gH), gr (k53 h) o gm_Notes_agree X h 53 [] []) : ∀ (n : Nat) (v4 : Int) (h : gH), gr (f_Notes_agree_L3 t v1 v2 v3 k53 n v4 h) o gm_Notes_agree X h 3 [(0, .inr (.inr t)), (1, .inl v1), (2, .inl v2), (3, .inl v3), (4, .inl v4)] [] := by
  intro n
  induction n with
  | zero => intros; exact gr_none
  | succ n ih =>
    intro v4 h
    unfold f_Notes_agree_L3
    refine gr_iload (M := gm_Notes_agree) dq_Notes_agree_3 4 rfl 5 rfl ?_
    refine gr_aload_n (M := gm_Notes_agree) dq_Notes_agree_5 rfl 0 rfl 6 rfl ?_
    refine gr_geti (M := gm_Notes_agree) dq_Notes_agree_6 9 rfl gfl_Notes_19 ht rfl (gli hL ht) ?_
    refine gr_icmp_ge (M := gm_Notes_agree) dq_Notes_agree_9 53 12 rfl rfl (fun c1 => ?_) (fun c1 => ?_)
    · refine gr_sub (M := gm_Notes_agree) (lv' := []) [] rfl ?_
      exact hk53  _
    refine gr_aload_n (M := gm_Notes_agree) dq_Notes_agree_12 rfl 0 rfl 13 rfl ?_
    refine gr_getr (M := gm_Notes_agree) dq_Notes_agree_13 16 rfl gfl_Notes_7 ht rfl (gli hL ht) (t + 1) rfl ?_
    refine gr_iload (M := gm_Notes_agree) dq_Notes_agree_16 4 rfl 18 rfl ?_
    refine gr_ialdP (M := gm_Notes_agree) dq_Notes_agree_18 19 rfl (gsN_1 ht) hL ?_
    refine gr_iload_n (M := gm_Notes_agree) dq_Notes_agree_19 rfl 1 rfl 20 rfl ?_
    refine gr_icmp_ne (M := gm_Notes_agree) dq_Notes_agree_20 47 23 rfl rfl (fun c2 => ?_) (fun c2 => ?_)
    · exact w_Notes_agree_J47 hL hn hF ht  ih
    refine gr_aload_n (M := gm_Notes_agree) dq_Notes_agree_23 rfl 0 rfl 24 rfl ?_
    refine gr_getr (M := gm_Notes_agree) dq_Notes_agree_24 27 rfl gfl_Notes_13 ht rfl (gli hL ht) (t + 2) rfl ?_
    refine gr_iload (M := gm_Notes_agree) dq_Notes_agree_27 4 rfl 29 rfl ?_
    refine gr_ialdP (M := gm_Notes_agree) dq_Notes_agree_29 30 rfl (gsN_2 ht) hL ?_
    refine gr_iload_n (M := gm_Notes_agree) dq_Notes_agree_30 rfl 2 rfl 31 rfl ?_
    refine gr_icmp_ne (M := gm_Notes_agree) dq_Notes_agree_31 47 34 rfl rfl (fun c3 => ?_) (fun c3 => ?_)
    · exact w_Notes_agree_J47 hL hn hF ht  ih
    refine gr_aload_n (M := gm_Notes_agree) dq_Notes_agree_34 rfl 0 rfl 35 rfl ?_
    refine gr_getr (M := gm_Notes_agree) dq_Notes_agree_35 38 rfl gfl_Notes_16 ht rfl (gli hL ht) (t + 3) rfl ?_
    refine gr_iload (M := gm_Notes_agree) dq_Notes_agree_38 4 rfl 40 rfl ?_
    refine gr_ialdP (M := gm_Notes_agree) dq_Notes_agree_40 41 rfl (gsN_3 ht) hL ?_
    refine gr_iload_n (M := gm_Notes_agree) dq_Notes_agree_41 rfl 3 rfl 42 rfl ?_
    refine gr_icmp_eq (M := gm_Notes_agree) dq_Notes_agree_42 47 45 rfl rfl (fun c4 => ?_) (fun c4 => ?_)
    · exact w_Notes_agree_J47 hL hn hF ht  ih
    refine gr_iconst (M := gm_Notes_agree) (v := 0) dq_Notes_agree_45 rfl ⟨by decide, by decide⟩ 46 rfl ?_
    exact gr_zreturn (M := gm_Notes_agree) dq_Notes_agree_46 hF

def f_Notes_agree (t : Nat) (a1 : Int) (a2 : Int) (a3 : Int) (h : gH) : Option gO := f_Notes_agree_L3 t a1 a2 a3 (fun  h5 => gd (gz 1) (some (h5, 1))) 50000 0 h
theorem c_Notes_agree {Z : gZ} (hL : gLive Z) (hn : (zL Z).Nodup) {t : Nat} {a1 : Int} {a2 : Int} {a3 : Int} (ht : gsh t = .inr 1) {h : gH} {o : gO} (hg : gRg h) (ha : gRl [.inr (.inr t), .inl a1, .inl a2, .inl a3]) (hx : f_Notes_agree t a1 a2 a3 h = some o) : gC Z gy_Notes_agree gc_Notes_agree 5 (some .boolean) 0 0 [.inr (.inr t), .inl a1, .inl a2, .inl a3] h o := by
  unfold f_Notes_agree at hx
  refine gC_of (lv := [(0, .inr (.inr t)), (1, .inl a1), (2, .inl a2), (3, .inl a3)]) (own := gR_1) (by decide +kernel) rfl (Nat.le_of_ble_eq_true rfl) rfl rfl hn hg ha hx (fun X hZ hF => ?_)
  subst hZ
  show gr _ o gm_Notes_agree X h 0 _ _
  refine gr_iconst (M := gm_Notes_agree) (v := 0) dq_Notes_agree_0 rfl ⟨by decide, by decide⟩ 1 rfl ?_
  refine gr_istore (M := gm_Notes_agree) (kk := 0) (lv' := [(4, .inl 0), (0, .inr (.inr t)), (1, .inl a1), (2, .inl a2), (3, .inl a3)]) dq_Notes_agree_1 (by decide) rfl 3 rfl ?_
  refine gr_sub (M := gm_Notes_agree) (lv' := [(0, .inr (.inr t)), (1, .inl a1), (2, .inl a2), (3, .inl a3), (4, .inl 0)]) [1, 2, 3, 4, 0] rfl ?_
  refine w_Notes_agree_L3 hL hn hF ht  (fun h5 => ?_) 50000 _ _
  refine gr_iconst (M := gm_Notes_agree) (v := 1) dq_Notes_agree_53 rfl ⟨by decide, by decide⟩ 54 rfl ?_
  exact gr_zreturn (M := gm_Notes_agree) dq_Notes_agree_54 hF

