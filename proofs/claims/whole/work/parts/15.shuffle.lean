-- Shuffle_forget
theorem dq_Shuffle_forget_0 : decode gc_Shuffle_forget 0 = .ok (.aload_n 0, 1) := by decide +kernel
theorem dq_Shuffle_forget_1 : decode gc_Shuffle_forget 1 = .ok (.iconst 0, 1) := by decide +kernel
theorem dq_Shuffle_forget_2 : decode gc_Shuffle_forget 2 = .ok (.putfield 27, 3) := by decide +kernel
theorem dq_Shuffle_forget_5 : decode gc_Shuffle_forget 5 = .ok (.return_, 1) := by decide +kernel
abbrev gm_Shuffle_forget : gM := (gc_Shuffle_forget, gR_3, 0, 0, 1)
theorem gfp_Shuffle_27 : gFp gR_3 27 3 5 .int := ⟨_, _, _, gt_3, rfl, by decide, (gtab_at 236 (by decide +kernel) rfl), gin_3, gto_3, gnm_3, rfl, by decide +kernel⟩
def f_Shuffle_forget  (h : gH) : Option gO := gs (gup h 72 5 0) (fun h1 => some (h1, 0))
theorem c_Shuffle_forget {Z : gZ} (hL : gLive Z) (hn : (zL Z).Nodup)   {h : gH} {o : gO} (hg : gRg h) (ha : gRl [.inr (.inr 72)]) (hx : f_Shuffle_forget  h = some o) : gC Z gy_Shuffle_forget gc_Shuffle_forget 1 none 0 0 [.inr (.inr 72)] h o := by
  unfold f_Shuffle_forget at hx
  refine gC_of (lv := [(0, .inr (.inr 72))]) (own := gR_3) (by decide +kernel) rfl (Nat.le_of_ble_eq_true rfl) rfl rfl hn hg ha hx (fun X hZ hF => ?_)
  subst hZ
  show gr _ o gm_Shuffle_forget X h 0 _ _
  refine gr_aload_n (M := gm_Shuffle_forget) dq_Shuffle_forget_0 rfl 0 rfl 1 rfl ?_
  refine gr_iconst (M := gm_Shuffle_forget) (v := 0) dq_Shuffle_forget_1 rfl ⟨by decide, by decide⟩ 2 rfl ?_
  refine gr_puti (M := gm_Shuffle_forget) dq_Shuffle_forget_2 5 rfl gfp_Shuffle_27 gsh_72 rfl (gli hL gsh_72) (fun h1 _ => ?_)
  exact gr_return (M := gm_Shuffle_forget) dq_Shuffle_forget_5 hF

-- Shuffle_sortRanks
theorem dq_Shuffle_sortRanks_0 : decode gc_Shuffle_sortRanks 0 = .ok (.iconst 0, 1) := by decide +kernel
theorem dq_Shuffle_sortRanks_1 : decode gc_Shuffle_sortRanks 1 = .ok (.istore_n 3, 1) := by decide +kernel
theorem dq_Shuffle_sortRanks_2 : decode gc_Shuffle_sortRanks 2 = .ok (.iload_n 3, 1) := by decide +kernel
theorem dq_Shuffle_sortRanks_3 : decode gc_Shuffle_sortRanks 3 = .ok (.iload_n 2, 1) := by decide +kernel
theorem dq_Shuffle_sortRanks_4 : decode gc_Shuffle_sortRanks 4 = .ok (.if_icmp .ge 64, 3) := by decide +kernel
theorem dq_Shuffle_sortRanks_7 : decode gc_Shuffle_sortRanks 7 = .ok (.iload_n 3, 1) := by decide +kernel
theorem dq_Shuffle_sortRanks_8 : decode gc_Shuffle_sortRanks 8 = .ok (.istore 4, 2) := by decide +kernel
theorem dq_Shuffle_sortRanks_10 : decode gc_Shuffle_sortRanks 10 = .ok (.iload 4, 2) := by decide +kernel
theorem dq_Shuffle_sortRanks_12 : decode gc_Shuffle_sortRanks 12 = .ok (.ifCond .le 40, 3) := by decide +kernel
theorem dq_Shuffle_sortRanks_15 : decode gc_Shuffle_sortRanks 15 = .ok (.aload_n 0, 1) := by decide +kernel
theorem dq_Shuffle_sortRanks_16 : decode gc_Shuffle_sortRanks 16 = .ok (.getfield 17, 3) := by decide +kernel
theorem dq_Shuffle_sortRanks_19 : decode gc_Shuffle_sortRanks 19 = .ok (.iload 4, 2) := by decide +kernel
theorem dq_Shuffle_sortRanks_21 : decode gc_Shuffle_sortRanks 21 = .ok (.iconst 1, 1) := by decide +kernel
theorem dq_Shuffle_sortRanks_22 : decode gc_Shuffle_sortRanks 22 = .ok (.isub, 1) := by decide +kernel
theorem dq_Shuffle_sortRanks_23 : decode gc_Shuffle_sortRanks 23 = .ok (.iaload, 1) := by decide +kernel
theorem dq_Shuffle_sortRanks_24 : decode gc_Shuffle_sortRanks 24 = .ok (.aload_n 1, 1) := by decide +kernel
theorem dq_Shuffle_sortRanks_25 : decode gc_Shuffle_sortRanks 25 = .ok (.iload_n 3, 1) := by decide +kernel
theorem dq_Shuffle_sortRanks_26 : decode gc_Shuffle_sortRanks 26 = .ok (.iaload, 1) := by decide +kernel
theorem dq_Shuffle_sortRanks_27 : decode gc_Shuffle_sortRanks 27 = .ok (.if_icmp .le 25, 3) := by decide +kernel
theorem dq_Shuffle_sortRanks_30 : decode gc_Shuffle_sortRanks 30 = .ok (.aload_n 0, 1) := by decide +kernel
theorem dq_Shuffle_sortRanks_31 : decode gc_Shuffle_sortRanks 31 = .ok (.getfield 17, 3) := by decide +kernel
theorem dq_Shuffle_sortRanks_34 : decode gc_Shuffle_sortRanks 34 = .ok (.iload 4, 2) := by decide +kernel
theorem dq_Shuffle_sortRanks_36 : decode gc_Shuffle_sortRanks 36 = .ok (.aload_n 0, 1) := by decide +kernel
theorem dq_Shuffle_sortRanks_37 : decode gc_Shuffle_sortRanks 37 = .ok (.getfield 17, 3) := by decide +kernel
theorem dq_Shuffle_sortRanks_40 : decode gc_Shuffle_sortRanks 40 = .ok (.iload 4, 2) := by decide +kernel
theorem dq_Shuffle_sortRanks_42 : decode gc_Shuffle_sortRanks 42 = .ok (.iconst 1, 1) := by decide +kernel
theorem dq_Shuffle_sortRanks_43 : decode gc_Shuffle_sortRanks 43 = .ok (.isub, 1) := by decide +kernel
theorem dq_Shuffle_sortRanks_44 : decode gc_Shuffle_sortRanks 44 = .ok (.iaload, 1) := by decide +kernel
theorem dq_Shuffle_sortRanks_45 : decode gc_Shuffle_sortRanks 45 = .ok (.iastore, 1) := by decide +kernel
theorem dq_Shuffle_sortRanks_46 : decode gc_Shuffle_sortRanks 46 = .ok (.iinc 4 (-1), 3) := by decide +kernel
theorem dq_Shuffle_sortRanks_49 : decode gc_Shuffle_sortRanks 49 = .ok (.goto (-39), 3) := by decide +kernel
theorem dq_Shuffle_sortRanks_52 : decode gc_Shuffle_sortRanks 52 = .ok (.aload_n 0, 1) := by decide +kernel
theorem dq_Shuffle_sortRanks_53 : decode gc_Shuffle_sortRanks 53 = .ok (.getfield 17, 3) := by decide +kernel
theorem dq_Shuffle_sortRanks_56 : decode gc_Shuffle_sortRanks 56 = .ok (.iload 4, 2) := by decide +kernel
theorem dq_Shuffle_sortRanks_58 : decode gc_Shuffle_sortRanks 58 = .ok (.aload_n 1, 1) := by decide +kernel
theorem dq_Shuffle_sortRanks_59 : decode gc_Shuffle_sortRanks 59 = .ok (.iload_n 3, 1) := by decide +kernel
theorem dq_Shuffle_sortRanks_60 : decode gc_Shuffle_sortRanks 60 = .ok (.iaload, 1) := by decide +kernel
theorem dq_Shuffle_sortRanks_61 : decode gc_Shuffle_sortRanks 61 = .ok (.iastore, 1) := by decide +kernel
theorem dq_Shuffle_sortRanks_62 : decode gc_Shuffle_sortRanks 62 = .ok (.iinc 3 1, 3) := by decide +kernel
theorem dq_Shuffle_sortRanks_65 : decode gc_Shuffle_sortRanks 65 = .ok (.goto (-63), 3) := by decide +kernel
theorem dq_Shuffle_sortRanks_68 : decode gc_Shuffle_sortRanks 68 = .ok (.return_, 1) := by decide +kernel
abbrev gm_Shuffle_sortRanks : gM := (gc_Shuffle_sortRanks, gR_3, 0, 0, 5)
theorem gfl_Shuffle_17 : gFl gR_3 17 3 2 := ⟨_, _, _, rfl, by decide, (gtab_at 233 (by decide +kernel) rfl), gin_3⟩
def f_Shuffle_sortRanks_L10 (p1 : Nat) (v2 : Int) (v3 : Int) (k52 : Int → gH → Option gO) : Nat → Int → gH → Option gO
  | 0, _, _ => none
  | n + 1, v4, h => if v4 ≤ 0 then (k52 v4 h) else (gd (gix 6 (gsub v4 1)) (gd (gix (gln p1) v3) (if (h 74 (gsub v4 1).toNat) ≤ (h p1 v3.toNat) then (k52 v4 h) else (gd (gix 6 (gsub v4 1)) (gd (gix 6 v4) (gs (gup h 74 v4.toNat (h 74 (gsub v4 1).toNat)) (fun h4 => f_Shuffle_sortRanks_L10 p1 v2 v3 k52 n (gadd v4 (-1)) h4)))))))
theorem w_Shuffle_sortRanks_L10 {o : gO} {X : gX} (hL : gLive (xZ X)) (hn : (zL (xZ X)).Nodup) (hF : gFin X none o) {p1 : Nat} {v2 : Int} {v3 : Int} (hp1 : gia p1 = true)  {k52 : Int → gH → Option gO} (hk52 : ∀ (v4 : Int) (h : gH), gr (k52 v4 h) o gm_Shuffle_sortRanks X h 52 [(0, .inr (.inr 72)), (1, .inr (.inr p1)), (2, .inl v2), (3, .inl v3), (4, .inl v4)] []) : ∀ (n : Nat) (v4 : Int) (h : gH), gr (f_Shuffle_sortRanks_L10 p1 v2 v3 k52 n v4 h) o gm_Shuffle_sortRanks X h 10 [(0, .inr (.inr 72)), (1, .inr (.inr p1)), (2, .inl v2), (3, .inl v3), (4, .inl v4)] [] := by
  intro n
  induction n with
  | zero => intros; exact gr_none
  | succ n ih =>
    intro v4 h
    unfold f_Shuffle_sortRanks_L10
    refine gr_iload (M := gm_Shuffle_sortRanks) dq_Shuffle_sortRanks_10 4 rfl 12 rfl ?_
    refine gr_if_le (M := gm_Shuffle_sortRanks) dq_Shuffle_sortRanks_12 52 15 rfl rfl (fun c2 => ?_) (fun c2 => ?_)
    · exact hk52 _ _
    refine gr_aload_n (M := gm_Shuffle_sortRanks) dq_Shuffle_sortRanks_15 rfl 0 rfl 16 rfl ?_
    refine gr_getr (M := gm_Shuffle_sortRanks) dq_Shuffle_sortRanks_16 19 rfl gfl_Shuffle_17 gsh_72 rfl (gli hL gsh_72) 74 rfl ?_
    refine gr_iload (M := gm_Shuffle_sortRanks) dq_Shuffle_sortRanks_19 4 rfl 21 rfl ?_
    refine gr_iconst (M := gm_Shuffle_sortRanks) (v := 1) dq_Shuffle_sortRanks_21 rfl ⟨by decide, by decide⟩ 22 rfl ?_
    refine gr_isub (M := gm_Shuffle_sortRanks) dq_Shuffle_sortRanks_22 23 rfl ?_
    refine gr_iald (M := gm_Shuffle_sortRanks) dq_Shuffle_sortRanks_23 24 rfl gsh_74 (glj hL gsh_74 (by decide)) ?_
    refine gr_aload_n (M := gm_Shuffle_sortRanks) dq_Shuffle_sortRanks_24 rfl 1 rfl 25 rfl ?_
    refine gr_iload_n (M := gm_Shuffle_sortRanks) dq_Shuffle_sortRanks_25 rfl 3 rfl 26 rfl ?_
    refine gr_ialdP (M := gm_Shuffle_sortRanks) dq_Shuffle_sortRanks_26 27 rfl hp1 hL ?_
    refine gr_icmp_le (M := gm_Shuffle_sortRanks) dq_Shuffle_sortRanks_27 52 30 rfl rfl (fun c3 => ?_) (fun c3 => ?_)
    · exact hk52 _ _
    refine gr_aload_n (M := gm_Shuffle_sortRanks) dq_Shuffle_sortRanks_30 rfl 0 rfl 31 rfl ?_
    refine gr_getr (M := gm_Shuffle_sortRanks) dq_Shuffle_sortRanks_31 34 rfl gfl_Shuffle_17 gsh_72 rfl (gli hL gsh_72) 74 rfl ?_
    refine gr_iload (M := gm_Shuffle_sortRanks) dq_Shuffle_sortRanks_34 4 rfl 36 rfl ?_
    refine gr_aload_n (M := gm_Shuffle_sortRanks) dq_Shuffle_sortRanks_36 rfl 0 rfl 37 rfl ?_
    refine gr_getr (M := gm_Shuffle_sortRanks) dq_Shuffle_sortRanks_37 40 rfl gfl_Shuffle_17 gsh_72 rfl (gli hL gsh_72) 74 rfl ?_
    refine gr_iload (M := gm_Shuffle_sortRanks) dq_Shuffle_sortRanks_40 4 rfl 42 rfl ?_
    refine gr_iconst (M := gm_Shuffle_sortRanks) (v := 1) dq_Shuffle_sortRanks_42 rfl ⟨by decide, by decide⟩ 43 rfl ?_
    refine gr_isub (M := gm_Shuffle_sortRanks) dq_Shuffle_sortRanks_43 44 rfl ?_
    refine gr_iald (M := gm_Shuffle_sortRanks) dq_Shuffle_sortRanks_44 45 rfl gsh_74 (glj hL gsh_74 (by decide)) ?_
    refine gr_iast (M := gm_Shuffle_sortRanks) dq_Shuffle_sortRanks_45 46 rfl gsh_74 (glj hL gsh_74 (by decide)) (fun h4 _ => ?_)
    refine gr_iinc (M := gm_Shuffle_sortRanks) (lv' := [(4, .inl (gadd v4 (-1))), (0, .inr (.inr 72)), (1, .inr (.inr p1)), (2, .inl v2), (3, .inl v3)]) dq_Shuffle_sortRanks_46 4 rfl rfl (by decide) rfl 49 rfl ?_
    refine gr_goto (M := gm_Shuffle_sortRanks) dq_Shuffle_sortRanks_49 10 rfl ?_
    refine gr_sub (M := gm_Shuffle_sortRanks) (lv' := [(0, .inr (.inr 72)), (1, .inr (.inr p1)), (2, .inl v2), (3, .inl v3), (4, .inl (gadd v4 (-1)))]) [1, 2, 3, 4, 0] rfl ?_
    exact ih _ _

def f_Shuffle_sortRanks_J52 (p1 : Nat) (k2 : Int → gH → Option gO) (v2 : Int) (v3 : Int) (v4 : Int) (h : gH) : Option gO := gd (gix (gln p1) v3) (gd (gix 6 v4) (gs (gup h 74 v4.toNat (h p1 v3.toNat)) (fun h7 => k2 (gadd v3 1) h7)))
theorem w_Shuffle_sortRanks_J52 {o : gO} {X : gX} (hL : gLive (xZ X)) (hn : (zL (xZ X)).Nodup) (hF : gFin X none o) {p1 : Nat} (hp1 : gia p1 = true)  {k2 : Int → gH → Option gO} {v2 : Int} {v3 : Int} {v4 : Int} {h : gH} (hk2 : ∀ (v3 : Int) (h : gH), gr (k2 v3 h) o gm_Shuffle_sortRanks X h 2 [(0, .inr (.inr 72)), (1, .inr (.inr p1)), (2, .inl v2), (3, .inl v3)] []) : gr (f_Shuffle_sortRanks_J52 p1 k2 v2 v3 v4 h) o gm_Shuffle_sortRanks X h 52 [(0, .inr (.inr 72)), (1, .inr (.inr p1)), (2, .inl v2), (3, .inl v3), (4, .inl v4)] [] := by
  unfold f_Shuffle_sortRanks_J52
  refine gr_aload_n (M := gm_Shuffle_sortRanks) dq_Shuffle_sortRanks_52 rfl 0 rfl 53 rfl ?_
  refine gr_getr (M := gm_Shuffle_sortRanks) dq_Shuffle_sortRanks_53 56 rfl gfl_Shuffle_17 gsh_72 rfl (gli hL gsh_72) 74 rfl ?_
  refine gr_iload (M := gm_Shuffle_sortRanks) dq_Shuffle_sortRanks_56 4 rfl 58 rfl ?_
  refine gr_aload_n (M := gm_Shuffle_sortRanks) dq_Shuffle_sortRanks_58 rfl 1 rfl 59 rfl ?_
  refine gr_iload_n (M := gm_Shuffle_sortRanks) dq_Shuffle_sortRanks_59 rfl 3 rfl 60 rfl ?_
  refine gr_ialdP (M := gm_Shuffle_sortRanks) dq_Shuffle_sortRanks_60 61 rfl hp1 hL ?_
  refine gr_iast (M := gm_Shuffle_sortRanks) dq_Shuffle_sortRanks_61 62 rfl gsh_74 (glj hL gsh_74 (by decide)) (fun h7 _ => ?_)
  refine gr_iinc (M := gm_Shuffle_sortRanks) (lv' := [(3, .inl (gadd v3 1)), (0, .inr (.inr 72)), (1, .inr (.inr p1)), (2, .inl v2), (4, .inl v4)]) dq_Shuffle_sortRanks_62 3 rfl rfl (by decide) rfl 65 rfl ?_
  refine gr_goto (M := gm_Shuffle_sortRanks) dq_Shuffle_sortRanks_65 2 rfl ?_
  refine gr_sub (M := gm_Shuffle_sortRanks) (lv' := [(0, .inr (.inr 72)), (1, .inr (.inr p1)), (2, .inl v2), (3, .inl (gadd v3 1))]) [1, 2, 3, 0] rfl ?_
  exact hk2 _ _

def f_Shuffle_sortRanks_L2 (p1 : Nat) (v2 : Int) (k68 : gH → Option gO) : Nat → Int → gH → Option gO
  | 0, _, _ => none
  | n + 1, v3, h => if v2 ≤ v3 then (k68  h) else (f_Shuffle_sortRanks_L10 p1 v2 v3 (fun v5 h6 => f_Shuffle_sortRanks_J52 p1 (f_Shuffle_sortRanks_L2 p1 v2 k68 n) v2 v3 v5 h6) 50000 v3 h)
theorem w_Shuffle_sortRanks_L2 {o : gO} {X : gX} (hL : gLive (xZ X)) (hn : (zL (xZ X)).Nodup) (hF : gFin X none o) {p1 : Nat} {v2 : Int} (hp1 : gia p1 = true)  {k68 : gH → Option gO} (hk68 : ∀ (h : gH), gr (k68 h) o gm_Shuffle_sortRanks X h 68 [] []) : ∀ (n : Nat) (v3 : Int) (h : gH), gr (f_Shuffle_sortRanks_L2 p1 v2 k68 n v3 h) o gm_Shuffle_sortRanks X h 2 [(0, .inr (.inr 72)), (1, .inr (.inr p1)), (2, .inl v2), (3, .inl v3)] [] := by
  intro n
  induction n with
  | zero => intros; exact gr_none
  | succ n ih =>
    intro v3 h
    unfold f_Shuffle_sortRanks_L2
    refine gr_iload_n (M := gm_Shuffle_sortRanks) dq_Shuffle_sortRanks_2 rfl 3 rfl 3 rfl ?_
    refine gr_iload_n (M := gm_Shuffle_sortRanks) dq_Shuffle_sortRanks_3 rfl 2 rfl 4 rfl ?_
    refine gr_icmp_ge (M := gm_Shuffle_sortRanks) dq_Shuffle_sortRanks_4 68 7 rfl rfl (fun c1 => ?_) (fun c1 => ?_)
    · refine gr_sub (M := gm_Shuffle_sortRanks) (lv' := []) [] rfl ?_
      exact hk68  _
    refine gr_iload_n (M := gm_Shuffle_sortRanks) dq_Shuffle_sortRanks_7 rfl 3 rfl 8 rfl ?_
    refine gr_istore (M := gm_Shuffle_sortRanks) (kk := 0) (lv' := [(4, .inl v3), (0, .inr (.inr 72)), (1, .inr (.inr p1)), (2, .inl v2), (3, .inl v3)]) dq_Shuffle_sortRanks_8 (by decide) rfl 10 rfl ?_
    refine gr_sub (M := gm_Shuffle_sortRanks) (lv' := [(0, .inr (.inr 72)), (1, .inr (.inr p1)), (2, .inl v2), (3, .inl v3), (4, .inl v3)]) [1, 2, 3, 4, 0] rfl ?_
    refine w_Shuffle_sortRanks_L10 hL hn hF hp1  (fun v5 h6 => ?_) 50000 _ _
    exact w_Shuffle_sortRanks_J52 hL hn hF hp1  ih

def f_Shuffle_sortRanks (p1 : Nat) (a2 : Int) (h : gH) : Option gO := f_Shuffle_sortRanks_L2 p1 a2 (fun  h8 => some (h8, 0)) 50000 0 h
theorem c_Shuffle_sortRanks {Z : gZ} (hL : gLive Z) (hn : (zL Z).Nodup) {p1 : Nat} {a2 : Int} (hp1 : gia p1 = true) {h : gH} {o : gO} (hg : gRg h) (ha : gRl [.inr (.inr 72), .inr (.inr p1), .inl a2]) (hx : f_Shuffle_sortRanks p1 a2 h = some o) : gC Z gy_Shuffle_sortRanks gc_Shuffle_sortRanks 5 none 0 0 [.inr (.inr 72), .inr (.inr p1), .inl a2] h o := by
  unfold f_Shuffle_sortRanks at hx
  refine gC_of (lv := [(0, .inr (.inr 72)), (1, .inr (.inr p1)), (2, .inl a2)]) (own := gR_3) (by decide +kernel) rfl (Nat.le_of_ble_eq_true rfl) rfl rfl hn hg ha hx (fun X hZ hF => ?_)
  subst hZ
  show gr _ o gm_Shuffle_sortRanks X h 0 _ _
  refine gr_iconst (M := gm_Shuffle_sortRanks) (v := 0) dq_Shuffle_sortRanks_0 rfl ⟨by decide, by decide⟩ 1 rfl ?_
  refine gr_istore_n (M := gm_Shuffle_sortRanks) (lv' := [(3, .inl 0), (0, .inr (.inr 72)), (1, .inr (.inr p1)), (2, .inl a2)]) dq_Shuffle_sortRanks_1 rfl (by decide) rfl 2 rfl ?_
  refine gr_sub (M := gm_Shuffle_sortRanks) (lv' := [(0, .inr (.inr 72)), (1, .inr (.inr p1)), (2, .inl a2), (3, .inl 0)]) [1, 2, 3, 0] rfl ?_
  refine w_Shuffle_sortRanks_L2 hL hn hF hp1  (fun h8 => ?_) 50000 _ _
  exact gr_return (M := gm_Shuffle_sortRanks) dq_Shuffle_sortRanks_68 hF

-- Shuffle_swap
theorem dq_Shuffle_swap_0 : decode gc_Shuffle_swap 0 = .ok (.aload_n 0, 1) := by decide +kernel
theorem dq_Shuffle_swap_1 : decode gc_Shuffle_swap 1 = .ok (.getfield 17, 3) := by decide +kernel
theorem dq_Shuffle_swap_4 : decode gc_Shuffle_swap 4 = .ok (.iload_n 1, 1) := by decide +kernel
theorem dq_Shuffle_swap_5 : decode gc_Shuffle_swap 5 = .ok (.iaload, 1) := by decide +kernel
theorem dq_Shuffle_swap_6 : decode gc_Shuffle_swap 6 = .ok (.istore_n 3, 1) := by decide +kernel
theorem dq_Shuffle_swap_7 : decode gc_Shuffle_swap 7 = .ok (.aload_n 0, 1) := by decide +kernel
theorem dq_Shuffle_swap_8 : decode gc_Shuffle_swap 8 = .ok (.getfield 17, 3) := by decide +kernel
theorem dq_Shuffle_swap_11 : decode gc_Shuffle_swap 11 = .ok (.iload_n 1, 1) := by decide +kernel
theorem dq_Shuffle_swap_12 : decode gc_Shuffle_swap 12 = .ok (.aload_n 0, 1) := by decide +kernel
theorem dq_Shuffle_swap_13 : decode gc_Shuffle_swap 13 = .ok (.getfield 17, 3) := by decide +kernel
theorem dq_Shuffle_swap_16 : decode gc_Shuffle_swap 16 = .ok (.iload_n 2, 1) := by decide +kernel
theorem dq_Shuffle_swap_17 : decode gc_Shuffle_swap 17 = .ok (.iaload, 1) := by decide +kernel
theorem dq_Shuffle_swap_18 : decode gc_Shuffle_swap 18 = .ok (.iastore, 1) := by decide +kernel
theorem dq_Shuffle_swap_19 : decode gc_Shuffle_swap 19 = .ok (.aload_n 0, 1) := by decide +kernel
theorem dq_Shuffle_swap_20 : decode gc_Shuffle_swap 20 = .ok (.getfield 17, 3) := by decide +kernel
theorem dq_Shuffle_swap_23 : decode gc_Shuffle_swap 23 = .ok (.iload_n 2, 1) := by decide +kernel
theorem dq_Shuffle_swap_24 : decode gc_Shuffle_swap 24 = .ok (.iload_n 3, 1) := by decide +kernel
theorem dq_Shuffle_swap_25 : decode gc_Shuffle_swap 25 = .ok (.iastore, 1) := by decide +kernel
theorem dq_Shuffle_swap_26 : decode gc_Shuffle_swap 26 = .ok (.return_, 1) := by decide +kernel
abbrev gm_Shuffle_swap : gM := (gc_Shuffle_swap, gR_3, 0, 0, 4)
def f_Shuffle_swap (a1 : Int) (a2 : Int) (h : gH) : Option gO := gd (gix 6 a1) (gd (gix 6 a2) (gd (gix 6 a1) (gs (gup h 74 a1.toNat (h 74 a2.toNat)) (fun h1 => gd (gix 6 a2) (gs (gup h1 74 a2.toNat (h 74 a1.toNat)) (fun h2 => some (h2, 0)))))))
theorem c_Shuffle_swap {Z : gZ} (hL : gLive Z) (hn : (zL Z).Nodup) {a1 : Int} {a2 : Int}  {h : gH} {o : gO} (hg : gRg h) (ha : gRl [.inr (.inr 72), .inl a1, .inl a2]) (hx : f_Shuffle_swap a1 a2 h = some o) : gC Z gy_Shuffle_swap gc_Shuffle_swap 4 none 0 0 [.inr (.inr 72), .inl a1, .inl a2] h o := by
  unfold f_Shuffle_swap at hx
  refine gC_of (lv := [(0, .inr (.inr 72)), (1, .inl a1), (2, .inl a2)]) (own := gR_3) (by decide +kernel) rfl (Nat.le_of_ble_eq_true rfl) rfl rfl hn hg ha hx (fun X hZ hF => ?_)
  subst hZ
  show gr _ o gm_Shuffle_swap X h 0 _ _
  refine gr_aload_n (M := gm_Shuffle_swap) dq_Shuffle_swap_0 rfl 0 rfl 1 rfl ?_
  refine gr_getr (M := gm_Shuffle_swap) dq_Shuffle_swap_1 4 rfl gfl_Shuffle_17 gsh_72 rfl (gli hL gsh_72) 74 rfl ?_
  refine gr_iload_n (M := gm_Shuffle_swap) dq_Shuffle_swap_4 rfl 1 rfl 5 rfl ?_
  refine gr_iald (M := gm_Shuffle_swap) dq_Shuffle_swap_5 6 rfl gsh_74 (glj hL gsh_74 (by decide)) ?_
  refine gr_istore_n (M := gm_Shuffle_swap) (lv' := [(3, .inl (h 74 a1.toNat)), (0, .inr (.inr 72)), (1, .inl a1), (2, .inl a2)]) dq_Shuffle_swap_6 rfl (by decide) rfl 7 rfl ?_
  refine gr_aload_n (M := gm_Shuffle_swap) dq_Shuffle_swap_7 rfl 1 rfl 8 rfl ?_
  refine gr_getr (M := gm_Shuffle_swap) dq_Shuffle_swap_8 11 rfl gfl_Shuffle_17 gsh_72 rfl (gli hL gsh_72) 74 rfl ?_
  refine gr_iload_n (M := gm_Shuffle_swap) dq_Shuffle_swap_11 rfl 2 rfl 12 rfl ?_
  refine gr_aload_n (M := gm_Shuffle_swap) dq_Shuffle_swap_12 rfl 1 rfl 13 rfl ?_
  refine gr_getr (M := gm_Shuffle_swap) dq_Shuffle_swap_13 16 rfl gfl_Shuffle_17 gsh_72 rfl (gli hL gsh_72) 74 rfl ?_
  refine gr_iload_n (M := gm_Shuffle_swap) dq_Shuffle_swap_16 rfl 3 rfl 17 rfl ?_
  refine gr_iald (M := gm_Shuffle_swap) dq_Shuffle_swap_17 18 rfl gsh_74 (glj hL gsh_74 (by decide)) ?_
  refine gr_iast (M := gm_Shuffle_swap) dq_Shuffle_swap_18 19 rfl gsh_74 (glj hL gsh_74 (by decide)) (fun h1 _ => ?_)
  refine gr_aload_n (M := gm_Shuffle_swap) dq_Shuffle_swap_19 rfl 1 rfl 20 rfl ?_
  refine gr_getr (M := gm_Shuffle_swap) dq_Shuffle_swap_20 23 rfl gfl_Shuffle_17 gsh_72 rfl (gli hL gsh_72) 74 rfl ?_
  refine gr_iload_n (M := gm_Shuffle_swap) dq_Shuffle_swap_23 rfl 3 rfl 24 rfl ?_
  refine gr_iload_n (M := gm_Shuffle_swap) dq_Shuffle_swap_24 rfl 0 rfl 25 rfl ?_
  refine gr_iast (M := gm_Shuffle_swap) dq_Shuffle_swap_25 26 rfl gsh_74 (glj hL gsh_74 (by decide)) (fun h2 _ => ?_)
  exact gr_return (M := gm_Shuffle_swap) dq_Shuffle_swap_26 hF

-- Shuffle_goOn
theorem dq_Shuffle_goOn_0 : decode gc_Shuffle_goOn 0 = .ok (.iload_n 1, 1) := by decide +kernel
theorem dq_Shuffle_goOn_1 : decode gc_Shuffle_goOn 1 = .ok (.iconst 2, 1) := by decide +kernel
theorem dq_Shuffle_goOn_2 : decode gc_Shuffle_goOn 2 = .ok (.isub, 1) := by decide +kernel
theorem dq_Shuffle_goOn_3 : decode gc_Shuffle_goOn 3 = .ok (.istore_n 2, 1) := by decide +kernel
theorem dq_Shuffle_goOn_4 : decode gc_Shuffle_goOn 4 = .ok (.iload_n 2, 1) := by decide +kernel
theorem dq_Shuffle_goOn_5 : decode gc_Shuffle_goOn 5 = .ok (.ifCond .lt 26, 3) := by decide +kernel
theorem dq_Shuffle_goOn_8 : decode gc_Shuffle_goOn 8 = .ok (.aload_n 0, 1) := by decide +kernel
theorem dq_Shuffle_goOn_9 : decode gc_Shuffle_goOn 9 = .ok (.getfield 17, 3) := by decide +kernel
theorem dq_Shuffle_goOn_12 : decode gc_Shuffle_goOn 12 = .ok (.iload_n 2, 1) := by decide +kernel
theorem dq_Shuffle_goOn_13 : decode gc_Shuffle_goOn 13 = .ok (.iaload, 1) := by decide +kernel
theorem dq_Shuffle_goOn_14 : decode gc_Shuffle_goOn 14 = .ok (.aload_n 0, 1) := by decide +kernel
theorem dq_Shuffle_goOn_15 : decode gc_Shuffle_goOn 15 = .ok (.getfield 17, 3) := by decide +kernel
theorem dq_Shuffle_goOn_18 : decode gc_Shuffle_goOn 18 = .ok (.iload_n 2, 1) := by decide +kernel
theorem dq_Shuffle_goOn_19 : decode gc_Shuffle_goOn 19 = .ok (.iconst 1, 1) := by decide +kernel
theorem dq_Shuffle_goOn_20 : decode gc_Shuffle_goOn 20 = .ok (.iadd, 1) := by decide +kernel
theorem dq_Shuffle_goOn_21 : decode gc_Shuffle_goOn 21 = .ok (.iaload, 1) := by decide +kernel
theorem dq_Shuffle_goOn_22 : decode gc_Shuffle_goOn 22 = .ok (.if_icmp .lt 9, 3) := by decide +kernel
theorem dq_Shuffle_goOn_25 : decode gc_Shuffle_goOn 25 = .ok (.iinc 2 (-1), 3) := by decide +kernel
theorem dq_Shuffle_goOn_28 : decode gc_Shuffle_goOn 28 = .ok (.goto (-24), 3) := by decide +kernel
theorem dq_Shuffle_goOn_31 : decode gc_Shuffle_goOn 31 = .ok (.iload_n 2, 1) := by decide +kernel
theorem dq_Shuffle_goOn_32 : decode gc_Shuffle_goOn 32 = .ok (.ifCond .ge 5, 3) := by decide +kernel
theorem dq_Shuffle_goOn_35 : decode gc_Shuffle_goOn 35 = .ok (.iconst 0, 1) := by decide +kernel
theorem dq_Shuffle_goOn_36 : decode gc_Shuffle_goOn 36 = .ok (.ireturn, 1) := by decide +kernel
theorem dq_Shuffle_goOn_37 : decode gc_Shuffle_goOn 37 = .ok (.iload_n 1, 1) := by decide +kernel
theorem dq_Shuffle_goOn_38 : decode gc_Shuffle_goOn 38 = .ok (.iconst 1, 1) := by decide +kernel
theorem dq_Shuffle_goOn_39 : decode gc_Shuffle_goOn 39 = .ok (.isub, 1) := by decide +kernel
theorem dq_Shuffle_goOn_40 : decode gc_Shuffle_goOn 40 = .ok (.istore_n 3, 1) := by decide +kernel
theorem dq_Shuffle_goOn_41 : decode gc_Shuffle_goOn 41 = .ok (.iload_n 3, 1) := by decide +kernel
theorem dq_Shuffle_goOn_42 : decode gc_Shuffle_goOn 42 = .ok (.iload_n 2, 1) := by decide +kernel
theorem dq_Shuffle_goOn_43 : decode gc_Shuffle_goOn 43 = .ok (.if_icmp .le 24, 3) := by decide +kernel
theorem dq_Shuffle_goOn_46 : decode gc_Shuffle_goOn 46 = .ok (.aload_n 0, 1) := by decide +kernel
theorem dq_Shuffle_goOn_47 : decode gc_Shuffle_goOn 47 = .ok (.getfield 17, 3) := by decide +kernel
theorem dq_Shuffle_goOn_50 : decode gc_Shuffle_goOn 50 = .ok (.iload_n 3, 1) := by decide +kernel
theorem dq_Shuffle_goOn_51 : decode gc_Shuffle_goOn 51 = .ok (.iaload, 1) := by decide +kernel
theorem dq_Shuffle_goOn_52 : decode gc_Shuffle_goOn 52 = .ok (.aload_n 0, 1) := by decide +kernel
theorem dq_Shuffle_goOn_53 : decode gc_Shuffle_goOn 53 = .ok (.getfield 17, 3) := by decide +kernel
theorem dq_Shuffle_goOn_56 : decode gc_Shuffle_goOn 56 = .ok (.iload_n 2, 1) := by decide +kernel
theorem dq_Shuffle_goOn_57 : decode gc_Shuffle_goOn 57 = .ok (.iaload, 1) := by decide +kernel
theorem dq_Shuffle_goOn_58 : decode gc_Shuffle_goOn 58 = .ok (.if_icmp .gt 9, 3) := by decide +kernel
theorem dq_Shuffle_goOn_61 : decode gc_Shuffle_goOn 61 = .ok (.iinc 3 (-1), 3) := by decide +kernel
theorem dq_Shuffle_goOn_64 : decode gc_Shuffle_goOn 64 = .ok (.goto (-23), 3) := by decide +kernel
theorem dq_Shuffle_goOn_67 : decode gc_Shuffle_goOn 67 = .ok (.aload_n 0, 1) := by decide +kernel
theorem dq_Shuffle_goOn_68 : decode gc_Shuffle_goOn 68 = .ok (.iload_n 2, 1) := by decide +kernel
theorem dq_Shuffle_goOn_69 : decode gc_Shuffle_goOn 69 = .ok (.iload_n 3, 1) := by decide +kernel
theorem dq_Shuffle_goOn_70 : decode gc_Shuffle_goOn 70 = .ok (.invokevirtual 73, 3) := by decide +kernel
theorem dq_Shuffle_goOn_73 : decode gc_Shuffle_goOn 73 = .ok (.iload_n 2, 1) := by decide +kernel
theorem dq_Shuffle_goOn_74 : decode gc_Shuffle_goOn 74 = .ok (.iconst 1, 1) := by decide +kernel
theorem dq_Shuffle_goOn_75 : decode gc_Shuffle_goOn 75 = .ok (.iadd, 1) := by decide +kernel
theorem dq_Shuffle_goOn_76 : decode gc_Shuffle_goOn 76 = .ok (.istore 4, 2) := by decide +kernel
theorem dq_Shuffle_goOn_78 : decode gc_Shuffle_goOn 78 = .ok (.iload_n 1, 1) := by decide +kernel
theorem dq_Shuffle_goOn_79 : decode gc_Shuffle_goOn 79 = .ok (.iconst 1, 1) := by decide +kernel
theorem dq_Shuffle_goOn_80 : decode gc_Shuffle_goOn 80 = .ok (.isub, 1) := by decide +kernel
theorem dq_Shuffle_goOn_81 : decode gc_Shuffle_goOn 81 = .ok (.istore 5, 2) := by decide +kernel
theorem dq_Shuffle_goOn_83 : decode gc_Shuffle_goOn 83 = .ok (.iload 4, 2) := by decide +kernel
theorem dq_Shuffle_goOn_85 : decode gc_Shuffle_goOn 85 = .ok (.iload 5, 2) := by decide +kernel
theorem dq_Shuffle_goOn_87 : decode gc_Shuffle_goOn 87 = .ok (.if_icmp .ge 20, 3) := by decide +kernel
theorem dq_Shuffle_goOn_90 : decode gc_Shuffle_goOn 90 = .ok (.aload_n 0, 1) := by decide +kernel
theorem dq_Shuffle_goOn_91 : decode gc_Shuffle_goOn 91 = .ok (.iload 4, 2) := by decide +kernel
theorem dq_Shuffle_goOn_93 : decode gc_Shuffle_goOn 93 = .ok (.iload 5, 2) := by decide +kernel
theorem dq_Shuffle_goOn_95 : decode gc_Shuffle_goOn 95 = .ok (.invokevirtual 73, 3) := by decide +kernel
theorem dq_Shuffle_goOn_98 : decode gc_Shuffle_goOn 98 = .ok (.iinc 4 1, 3) := by decide +kernel
theorem dq_Shuffle_goOn_101 : decode gc_Shuffle_goOn 101 = .ok (.iinc 5 (-1), 3) := by decide +kernel
theorem dq_Shuffle_goOn_104 : decode gc_Shuffle_goOn 104 = .ok (.goto (-21), 3) := by decide +kernel
theorem dq_Shuffle_goOn_107 : decode gc_Shuffle_goOn 107 = .ok (.iconst 1, 1) := by decide +kernel
theorem dq_Shuffle_goOn_108 : decode gc_Shuffle_goOn 108 = .ok (.ireturn, 1) := by decide +kernel
abbrev gm_Shuffle_goOn : gM := (gc_Shuffle_goOn, gR_3, 1, 23, 6)
set_option maxRecDepth 20000 in
theorem gcy_Shuffle_73 : gCy gR_3 73 gy_Shuffle_swap gc_Shuffle_swap 4 none 2 := ⟨(gtab_at 653 (by decide +kernel) rfl), (gtab_at 6 (by decide +kernel) rfl), (gtab_at 656 rfl rfl), by decide, by decide, by decide +kernel⟩
theorem gim_Shuffle_swap : Cond.instanceMethod gy_Shuffle_swap ∈ gtbl := (gtab_at 655 (by decide +kernel) rfl)
theorem gse_Shuffle_swap : Cond.selects gy_Shuffle_swap.cls gy_Shuffle_swap gy_Shuffle_swap ∈ gtbl := (by decide +kernel)
def f_Shuffle_goOn_L4 (v1 : Int) (k31 : Int → gH → Option gO) : Nat → Int → gH → Option gO
  | 0, _, _ => none
  | n + 1, v2, h => if v2 < 0 then (k31 v2 h) else (gd (gix 6 v2) (gd (gix 6 (gadd v2 1)) (if (h 74 v2.toNat) < (h 74 (gadd v2 1).toNat) then (k31 v2 h) else (f_Shuffle_goOn_L4 v1 k31 n (gadd v2 (-1)) h))))
theorem w_Shuffle_goOn_L4 {o : gO} {X : gX} (hL : gLive (xZ X)) (hn : (zL (xZ X)).Nodup) (hF : gFin X (some .boolean) o) {v1 : Int}   {k31 : Int → gH → Option gO} (hk31 : ∀ (v2 : Int) (h : gH), gr (k31 v2 h) o gm_Shuffle_goOn X h 31 [(0, .inr (.inr 72)), (1, .inl v1), (2, .inl v2)] []) : ∀ (n : Nat) (v2 : Int) (h : gH), gr (f_Shuffle_goOn_L4 v1 k31 n v2 h) o gm_Shuffle_goOn X h 4 [(0, .inr (.inr 72)), (1, .inl v1), (2, .inl v2)] [] := by
  intro n
  induction n with
  | zero => intros; exact gr_none
  | succ n ih =>
    intro v2 h
    unfold f_Shuffle_goOn_L4
    refine gr_iload_n (M := gm_Shuffle_goOn) dq_Shuffle_goOn_4 rfl 2 rfl 5 rfl ?_
    refine gr_if_lt (M := gm_Shuffle_goOn) dq_Shuffle_goOn_5 31 8 rfl rfl (fun c1 => ?_) (fun c1 => ?_)
    · exact hk31 _ _
    refine gr_aload_n (M := gm_Shuffle_goOn) dq_Shuffle_goOn_8 rfl 0 rfl 9 rfl ?_
    refine gr_getr (M := gm_Shuffle_goOn) dq_Shuffle_goOn_9 12 rfl gfl_Shuffle_17 gsh_72 rfl (gli hL gsh_72) 74 rfl ?_
    refine gr_iload_n (M := gm_Shuffle_goOn) dq_Shuffle_goOn_12 rfl 2 rfl 13 rfl ?_
    refine gr_iald (M := gm_Shuffle_goOn) dq_Shuffle_goOn_13 14 rfl gsh_74 (glj hL gsh_74 (by decide)) ?_
    refine gr_aload_n (M := gm_Shuffle_goOn) dq_Shuffle_goOn_14 rfl 0 rfl 15 rfl ?_
    refine gr_getr (M := gm_Shuffle_goOn) dq_Shuffle_goOn_15 18 rfl gfl_Shuffle_17 gsh_72 rfl (gli hL gsh_72) 74 rfl ?_
    refine gr_iload_n (M := gm_Shuffle_goOn) dq_Shuffle_goOn_18 rfl 2 rfl 19 rfl ?_
    refine gr_iconst (M := gm_Shuffle_goOn) (v := 1) dq_Shuffle_goOn_19 rfl ⟨by decide, by decide⟩ 20 rfl ?_
    refine gr_iadd (M := gm_Shuffle_goOn) dq_Shuffle_goOn_20 21 rfl ?_
    refine gr_iald (M := gm_Shuffle_goOn) dq_Shuffle_goOn_21 22 rfl gsh_74 (glj hL gsh_74 (by decide)) ?_
    refine gr_icmp_lt (M := gm_Shuffle_goOn) dq_Shuffle_goOn_22 31 25 rfl rfl (fun c2 => ?_) (fun c2 => ?_)
    · exact hk31 _ _
    refine gr_iinc (M := gm_Shuffle_goOn) (lv' := [(2, .inl (gadd v2 (-1))), (0, .inr (.inr 72)), (1, .inl v1)]) dq_Shuffle_goOn_25 2 rfl rfl (by decide) rfl 28 rfl ?_
    refine gr_goto (M := gm_Shuffle_goOn) dq_Shuffle_goOn_28 4 rfl ?_
    refine gr_sub (M := gm_Shuffle_goOn) (lv' := [(0, .inr (.inr 72)), (1, .inl v1), (2, .inl (gadd v2 (-1)))]) [1, 2, 0] rfl ?_
    exact ih _ _

def f_Shuffle_goOn_L41 (v1 : Int) (v2 : Int) (k67 : Int → gH → Option gO) : Nat → Int → gH → Option gO
  | 0, _, _ => none
  | n + 1, v3, h => if v3 ≤ v2 then (k67 v3 h) else (gd (gix 6 v3) (gd (gix 6 v2) (if (h 74 v2.toNat) < (h 74 v3.toNat) then (k67 v3 h) else (f_Shuffle_goOn_L41 v1 v2 k67 n (gadd v3 (-1)) h))))
theorem w_Shuffle_goOn_L41 {o : gO} {X : gX} (hL : gLive (xZ X)) (hn : (zL (xZ X)).Nodup) (hF : gFin X (some .boolean) o) {v1 : Int} {v2 : Int}   {k67 : Int → gH → Option gO} (hk67 : ∀ (v3 : Int) (h : gH), gr (k67 v3 h) o gm_Shuffle_goOn X h 67 [(0, .inr (.inr 72)), (1, .inl v1), (2, .inl v2), (3, .inl v3)] []) : ∀ (n : Nat) (v3 : Int) (h : gH), gr (f_Shuffle_goOn_L41 v1 v2 k67 n v3 h) o gm_Shuffle_goOn X h 41 [(0, .inr (.inr 72)), (1, .inl v1), (2, .inl v2), (3, .inl v3)] [] := by
  intro n
  induction n with
  | zero => intros; exact gr_none
  | succ n ih =>
    intro v3 h
    unfold f_Shuffle_goOn_L41
    refine gr_iload_n (M := gm_Shuffle_goOn) dq_Shuffle_goOn_41 rfl 3 rfl 42 rfl ?_
    refine gr_iload_n (M := gm_Shuffle_goOn) dq_Shuffle_goOn_42 rfl 2 rfl 43 rfl ?_
    refine gr_icmp_le (M := gm_Shuffle_goOn) dq_Shuffle_goOn_43 67 46 rfl rfl (fun c6 => ?_) (fun c6 => ?_)
    · exact hk67 _ _
    refine gr_aload_n (M := gm_Shuffle_goOn) dq_Shuffle_goOn_46 rfl 0 rfl 47 rfl ?_
    refine gr_getr (M := gm_Shuffle_goOn) dq_Shuffle_goOn_47 50 rfl gfl_Shuffle_17 gsh_72 rfl (gli hL gsh_72) 74 rfl ?_
    refine gr_iload_n (M := gm_Shuffle_goOn) dq_Shuffle_goOn_50 rfl 3 rfl 51 rfl ?_
    refine gr_iald (M := gm_Shuffle_goOn) dq_Shuffle_goOn_51 52 rfl gsh_74 (glj hL gsh_74 (by decide)) ?_
    refine gr_aload_n (M := gm_Shuffle_goOn) dq_Shuffle_goOn_52 rfl 0 rfl 53 rfl ?_
    refine gr_getr (M := gm_Shuffle_goOn) dq_Shuffle_goOn_53 56 rfl gfl_Shuffle_17 gsh_72 rfl (gli hL gsh_72) 74 rfl ?_
    refine gr_iload_n (M := gm_Shuffle_goOn) dq_Shuffle_goOn_56 rfl 2 rfl 57 rfl ?_
    refine gr_iald (M := gm_Shuffle_goOn) dq_Shuffle_goOn_57 58 rfl gsh_74 (glj hL gsh_74 (by decide)) ?_
    refine gr_icmp_gt (M := gm_Shuffle_goOn) dq_Shuffle_goOn_58 67 61 rfl rfl (fun c7 => ?_) (fun c7 => ?_)
    · exact hk67 _ _
    refine gr_iinc (M := gm_Shuffle_goOn) (lv' := [(3, .inl (gadd v3 (-1))), (0, .inr (.inr 72)), (1, .inl v1), (2, .inl v2)]) dq_Shuffle_goOn_61 3 rfl rfl (by decide) rfl 64 rfl ?_
    refine gr_goto (M := gm_Shuffle_goOn) dq_Shuffle_goOn_64 41 rfl ?_
    refine gr_sub (M := gm_Shuffle_goOn) (lv' := [(0, .inr (.inr 72)), (1, .inl v1), (2, .inl v2), (3, .inl (gadd v3 (-1)))]) [1, 2, 3, 0] rfl ?_
    exact ih _ _

def f_Shuffle_goOn_L83  (k107 : gH → Option gO) : Nat → Int → Int → gH → Option gO
  | 0, _, _, _ => none
  | n + 1, v4, v5, h => if v5 ≤ v4 then (k107  h) else (gb (f_Shuffle_swap v4 v5 h) (fun h13 r14 => f_Shuffle_goOn_L83 k107 n (gadd v4 1) (gadd v5 (-1)) h13))
theorem w_Shuffle_goOn_L83 {o : gO} {X : gX} (hL : gLive (xZ X)) (hn : (zL (xZ X)).Nodup) (hF : gFin X (some .boolean) o)    {k107 : gH → Option gO} (hk107 : ∀ (h : gH), gr (k107 h) o gm_Shuffle_goOn X h 107 [] []) : ∀ (n : Nat) (v4 : Int) (v5 : Int) (h : gH), gr (f_Shuffle_goOn_L83  k107 n v4 v5 h) o gm_Shuffle_goOn X h 83 [(0, .inr (.inr 72)), (4, .inl v4), (5, .inl v5)] [] := by
  intro n
  induction n with
  | zero => intros; exact gr_none
  | succ n ih =>
    intro v4 v5 h
    unfold f_Shuffle_goOn_L83
    refine gr_iload (M := gm_Shuffle_goOn) dq_Shuffle_goOn_83 1 rfl 85 rfl ?_
    refine gr_iload (M := gm_Shuffle_goOn) dq_Shuffle_goOn_85 2 rfl 87 rfl ?_
    refine gr_icmp_ge (M := gm_Shuffle_goOn) dq_Shuffle_goOn_87 107 90 rfl rfl (fun c12 => ?_) (fun c12 => ?_)
    · refine gr_sub (M := gm_Shuffle_goOn) (lv' := []) [] rfl ?_
      exact hk107  _
    refine gr_aload_n (M := gm_Shuffle_goOn) dq_Shuffle_goOn_90 rfl 0 rfl 91 rfl ?_
    refine gr_iload (M := gm_Shuffle_goOn) dq_Shuffle_goOn_91 1 rfl 93 rfl ?_
    refine gr_iload (M := gm_Shuffle_goOn) dq_Shuffle_goOn_93 2 rfl 95 rfl ?_
    refine gr_callVv (M := gm_Shuffle_goOn) (as := [.inl v4, .inl v5]) dq_Shuffle_goOn_95 98 rfl rfl gcy_Shuffle_73 gim_Shuffle_swap gse_Shuffle_swap ⟨by decide, by decide⟩ (Nat.le_of_ble_eq_true rfl) gsh_72 rfl (gli hL gsh_72) (fun o1 hg ha hx => c_Shuffle_swap hL hn  hg ha hx) (fun h13 r14 _ => ?_)
    refine gr_iinc (M := gm_Shuffle_goOn) (lv' := [(4, .inl (gadd v4 1)), (0, .inr (.inr 72)), (5, .inl v5)]) dq_Shuffle_goOn_98 1 rfl rfl (by decide) rfl 101 rfl ?_
    refine gr_iinc (M := gm_Shuffle_goOn) (lv' := [(5, .inl (gadd v5 (-1))), (4, .inl (gadd v4 1)), (0, .inr (.inr 72))]) dq_Shuffle_goOn_101 2 rfl rfl (by decide) rfl 104 rfl ?_
    refine gr_goto (M := gm_Shuffle_goOn) dq_Shuffle_goOn_104 83 rfl ?_
    refine gr_sub (M := gm_Shuffle_goOn) (lv' := [(0, .inr (.inr 72)), (4, .inl (gadd v4 1)), (5, .inl (gadd v5 (-1)))]) [2, 1, 0] rfl ?_
    exact ih _ _ _

def f_Shuffle_goOn_J67   (v1 : Int) (v2 : Int) (v3 : Int) (h : gH) : Option gO := gb (f_Shuffle_swap v2 v3 h) (fun h10 r11 => f_Shuffle_goOn_L83  (fun  h15 => gd (gz 1) (some (h15, 1))) 50000 (gadd v2 1) (gsub v1 1) h10)
theorem w_Shuffle_goOn_J67 {o : gO} {X : gX} (hL : gLive (xZ X)) (hn : (zL (xZ X)).Nodup) (hF : gFin X (some .boolean) o)     {v1 : Int} {v2 : Int} {v3 : Int} {h : gH}  : gr (f_Shuffle_goOn_J67   v1 v2 v3 h) o gm_Shuffle_goOn X h 67 [(0, .inr (.inr 72)), (1, .inl v1), (2, .inl v2), (3, .inl v3)] [] := by
  unfold f_Shuffle_goOn_J67
  refine gr_aload_n (M := gm_Shuffle_goOn) dq_Shuffle_goOn_67 rfl 0 rfl 68 rfl ?_
  refine gr_iload_n (M := gm_Shuffle_goOn) dq_Shuffle_goOn_68 rfl 2 rfl 69 rfl ?_
  refine gr_iload_n (M := gm_Shuffle_goOn) dq_Shuffle_goOn_69 rfl 3 rfl 70 rfl ?_
  refine gr_callVv (M := gm_Shuffle_goOn) (as := [.inl v2, .inl v3]) dq_Shuffle_goOn_70 73 rfl rfl gcy_Shuffle_73 gim_Shuffle_swap gse_Shuffle_swap ⟨by decide, by decide⟩ (Nat.le_of_ble_eq_true rfl) gsh_72 rfl (gli hL gsh_72) (fun o1 hg ha hx => c_Shuffle_swap hL hn  hg ha hx) (fun h10 r11 _ => ?_)
  refine gr_iload_n (M := gm_Shuffle_goOn) dq_Shuffle_goOn_73 rfl 2 rfl 74 rfl ?_
  refine gr_iconst (M := gm_Shuffle_goOn) (v := 1) dq_Shuffle_goOn_74 rfl ⟨by decide, by decide⟩ 75 rfl ?_
  refine gr_iadd (M := gm_Shuffle_goOn) dq_Shuffle_goOn_75 76 rfl ?_
  refine gr_istore (M := gm_Shuffle_goOn) (kk := 0) (lv' := [(4, .inl (gadd v2 1)), (0, .inr (.inr 72)), (1, .inl v1), (2, .inl v2), (3, .inl v3)]) dq_Shuffle_goOn_76 (by decide) rfl 78 rfl ?_
  refine gr_iload_n (M := gm_Shuffle_goOn) dq_Shuffle_goOn_78 rfl 2 rfl 79 rfl ?_
  refine gr_iconst (M := gm_Shuffle_goOn) (v := 1) dq_Shuffle_goOn_79 rfl ⟨by decide, by decide⟩ 80 rfl ?_
  refine gr_isub (M := gm_Shuffle_goOn) dq_Shuffle_goOn_80 81 rfl ?_
  refine gr_istore (M := gm_Shuffle_goOn) (kk := 0) (lv' := [(5, .inl (gsub v1 1)), (4, .inl (gadd v2 1)), (0, .inr (.inr 72)), (1, .inl v1), (2, .inl v2), (3, .inl v3)]) dq_Shuffle_goOn_81 (by decide) rfl 83 rfl ?_
  refine gr_sub (M := gm_Shuffle_goOn) (lv' := [(0, .inr (.inr 72)), (4, .inl (gadd v2 1)), (5, .inl (gsub v1 1))]) [2, 1, 0] rfl ?_
  refine w_Shuffle_goOn_L83 hL hn hF   (fun h15 => ?_) 50000 _ _ _
  refine gr_iconst (M := gm_Shuffle_goOn) (v := 1) dq_Shuffle_goOn_107 rfl ⟨by decide, by decide⟩ 108 rfl ?_
  exact gr_zreturn (M := gm_Shuffle_goOn) dq_Shuffle_goOn_108 hF

def f_Shuffle_goOn_J31   (v1 : Int) (v2 : Int) (h : gH) : Option gO := if 0 ≤ v2 then (f_Shuffle_goOn_L41 v1 v2 (fun v8 h9 => f_Shuffle_goOn_J67   v1 v2 v8 h9) 50000 (gsub v1 1) h) else (gd (gz 0) (some (h, 0)))
theorem w_Shuffle_goOn_J31 {o : gO} {X : gX} (hL : gLive (xZ X)) (hn : (zL (xZ X)).Nodup) (hF : gFin X (some .boolean) o)     {v1 : Int} {v2 : Int} {h : gH}  : gr (f_Shuffle_goOn_J31   v1 v2 h) o gm_Shuffle_goOn X h 31 [(0, .inr (.inr 72)), (1, .inl v1), (2, .inl v2)] [] := by
  unfold f_Shuffle_goOn_J31
  refine gr_iload_n (M := gm_Shuffle_goOn) dq_Shuffle_goOn_31 rfl 2 rfl 32 rfl ?_
  refine gr_if_ge (M := gm_Shuffle_goOn) dq_Shuffle_goOn_32 37 35 rfl rfl (fun c5 => ?_) (fun c5 => ?_)
  · refine gr_iload_n (M := gm_Shuffle_goOn) dq_Shuffle_goOn_37 rfl 1 rfl 38 rfl ?_
    refine gr_iconst (M := gm_Shuffle_goOn) (v := 1) dq_Shuffle_goOn_38 rfl ⟨by decide, by decide⟩ 39 rfl ?_
    refine gr_isub (M := gm_Shuffle_goOn) dq_Shuffle_goOn_39 40 rfl ?_
    refine gr_istore_n (M := gm_Shuffle_goOn) (lv' := [(3, .inl (gsub v1 1)), (0, .inr (.inr 72)), (1, .inl v1), (2, .inl v2)]) dq_Shuffle_goOn_40 rfl (by decide) rfl 41 rfl ?_
    refine gr_sub (M := gm_Shuffle_goOn) (lv' := [(0, .inr (.inr 72)), (1, .inl v1), (2, .inl v2), (3, .inl (gsub v1 1))]) [1, 2, 3, 0] rfl ?_
    refine w_Shuffle_goOn_L41 hL hn hF   (fun v8 h9 => ?_) 50000 _ _
    exact w_Shuffle_goOn_J67 hL hn hF   
  refine gr_iconst (M := gm_Shuffle_goOn) (v := 0) dq_Shuffle_goOn_35 rfl ⟨by decide, by decide⟩ 36 rfl ?_
  exact gr_zreturn (M := gm_Shuffle_goOn) dq_Shuffle_goOn_36 hF

def f_Shuffle_goOn (a1 : Int) (h : gH) : Option gO := f_Shuffle_goOn_L4 a1 (fun v3 h4 => f_Shuffle_goOn_J31   a1 v3 h4) 50000 (gsub a1 2) h
theorem c_Shuffle_goOn {Z : gZ} (hL : gLive Z) (hn : (zL Z).Nodup) {a1 : Int}  {h : gH} {o : gO} (hg : gRg h) (ha : gRl [.inr (.inr 72), .inl a1]) (hx : f_Shuffle_goOn a1 h = some o) : gC Z gy_Shuffle_goOn gc_Shuffle_goOn 6 (some .boolean) 1 23 [.inr (.inr 72), .inl a1] h o := by
  unfold f_Shuffle_goOn at hx
  refine gC_of (lv := [(0, .inr (.inr 72)), (1, .inl a1)]) (own := gR_3) (by decide +kernel) rfl (Nat.le_of_ble_eq_true rfl) rfl rfl hn hg ha hx (fun X hZ hF => ?_)
  subst hZ
  show gr _ o gm_Shuffle_goOn X h 0 _ _
  refine gr_iload_n (M := gm_Shuffle_goOn) dq_Shuffle_goOn_0 rfl 1 rfl 1 rfl ?_
  refine gr_iconst (M := gm_Shuffle_goOn) (v := 2) dq_Shuffle_goOn_1 rfl ⟨by decide, by decide⟩ 2 rfl ?_
  refine gr_isub (M := gm_Shuffle_goOn) dq_Shuffle_goOn_2 3 rfl ?_
  refine gr_istore_n (M := gm_Shuffle_goOn) (lv' := [(2, .inl (gsub a1 2)), (0, .inr (.inr 72)), (1, .inl a1)]) dq_Shuffle_goOn_3 rfl (by decide) rfl 4 rfl ?_
  refine gr_sub (M := gm_Shuffle_goOn) (lv' := [(0, .inr (.inr 72)), (1, .inl a1), (2, .inl (gsub a1 2))]) [1, 2, 0] rfl ?_
  refine w_Shuffle_goOn_L4 hL hn hF   (fun v3 h4 => ?_) 50000 _ _
  exact w_Shuffle_goOn_J31 hL hn hF   

-- Shuffle_find
theorem dq_Shuffle_find_0 : decode gc_Shuffle_find 0 = .ok (.aload_n 0, 1) := by decide +kernel
theorem dq_Shuffle_find_1 : decode gc_Shuffle_find 1 = .ok (.getfield 27, 3) := by decide +kernel
theorem dq_Shuffle_find_4 : decode gc_Shuffle_find 4 = .ok (.iload_n 1, 1) := by decide +kernel
theorem dq_Shuffle_find_5 : decode gc_Shuffle_find 5 = .ok (.if_icmp .ne 4, 3) := by decide +kernel
theorem dq_Shuffle_find_8 : decode gc_Shuffle_find 8 = .ok (.return_, 1) := by decide +kernel
theorem dq_Shuffle_find_9 : decode gc_Shuffle_find 9 = .ok (.aload_n 0, 1) := by decide +kernel
theorem dq_Shuffle_find_10 : decode gc_Shuffle_find 10 = .ok (.getfield 20, 3) := by decide +kernel
theorem dq_Shuffle_find_13 : decode gc_Shuffle_find 13 = .ok (.getfield 31, 3) := by decide +kernel
theorem dq_Shuffle_find_16 : decode gc_Shuffle_find 16 = .ok (.getfield 37, 3) := by decide +kernel
theorem dq_Shuffle_find_19 : decode gc_Shuffle_find 19 = .ok (.istore_n 2, 1) := by decide +kernel
theorem dq_Shuffle_find_20 : decode gc_Shuffle_find 20 = .ok (.aload_n 0, 1) := by decide +kernel
theorem dq_Shuffle_find_21 : decode gc_Shuffle_find 21 = .ok (.aload_n 0, 1) := by decide +kernel
theorem dq_Shuffle_find_22 : decode gc_Shuffle_find 22 = .ok (.getfield 20, 3) := by decide +kernel
theorem dq_Shuffle_find_25 : decode gc_Shuffle_find 25 = .ok (.getfield 40, 3) := by decide +kernel
theorem dq_Shuffle_find_28 : decode gc_Shuffle_find 28 = .ok (.iload_n 2, 1) := by decide +kernel
theorem dq_Shuffle_find_29 : decode gc_Shuffle_find 29 = .ok (.invokevirtual 43, 3) := by decide +kernel
theorem dq_Shuffle_find_32 : decode gc_Shuffle_find 32 = .ok (.aload_n 0, 1) := by decide +kernel
theorem dq_Shuffle_find_33 : decode gc_Shuffle_find 33 = .ok (.ldc 47, 2) := by decide +kernel
theorem dq_Shuffle_find_35 : decode gc_Shuffle_find 35 = .ok (.putfield 48, 3) := by decide +kernel
theorem dq_Shuffle_find_38 : decode gc_Shuffle_find 38 = .ok (.iconst 1, 1) := by decide +kernel
theorem dq_Shuffle_find_39 : decode gc_Shuffle_find 39 = .ok (.istore_n 3, 1) := by decide +kernel
theorem dq_Shuffle_find_40 : decode gc_Shuffle_find 40 = .ok (.iconst 0, 1) := by decide +kernel
theorem dq_Shuffle_find_41 : decode gc_Shuffle_find 41 = .ok (.istore 4, 2) := by decide +kernel
theorem dq_Shuffle_find_43 : decode gc_Shuffle_find 43 = .ok (.iload 4, 2) := by decide +kernel
theorem dq_Shuffle_find_45 : decode gc_Shuffle_find 45 = .ok (.sipush 720, 3) := by decide +kernel
theorem dq_Shuffle_find_48 : decode gc_Shuffle_find 48 = .ok (.if_icmp .ge 96, 3) := by decide +kernel
theorem dq_Shuffle_find_51 : decode gc_Shuffle_find 51 = .ok (.iload_n 3, 1) := by decide +kernel
theorem dq_Shuffle_find_52 : decode gc_Shuffle_find 52 = .ok (.ifCond .eq 92, 3) := by decide +kernel
theorem dq_Shuffle_find_55 : decode gc_Shuffle_find 55 = .ok (.aload_n 0, 1) := by decide +kernel
theorem dq_Shuffle_find_56 : decode gc_Shuffle_find 56 = .ok (.getfield 24, 3) := by decide +kernel
theorem dq_Shuffle_find_59 : decode gc_Shuffle_find 59 = .ok (.aload_n 0, 1) := by decide +kernel
theorem dq_Shuffle_find_60 : decode gc_Shuffle_find 60 = .ok (.getfield 20, 3) := by decide +kernel
theorem dq_Shuffle_find_63 : decode gc_Shuffle_find 63 = .ok (.invokevirtual 51, 3) := by decide +kernel
theorem dq_Shuffle_find_66 : decode gc_Shuffle_find 66 = .ok (.aload_n 0, 1) := by decide +kernel
theorem dq_Shuffle_find_67 : decode gc_Shuffle_find 67 = .ok (.getfield 17, 3) := by decide +kernel
theorem dq_Shuffle_find_70 : decode gc_Shuffle_find 70 = .ok (.iconst 0, 1) := by decide +kernel
theorem dq_Shuffle_find_71 : decode gc_Shuffle_find 71 = .ok (.aload_n 0, 1) := by decide +kernel
theorem dq_Shuffle_find_72 : decode gc_Shuffle_find 72 = .ok (.getfield 24, 3) := by decide +kernel
theorem dq_Shuffle_find_75 : decode gc_Shuffle_find 75 = .ok (.getfield 40, 3) := by decide +kernel
theorem dq_Shuffle_find_78 : decode gc_Shuffle_find 78 = .ok (.iconst 0, 1) := by decide +kernel
theorem dq_Shuffle_find_79 : decode gc_Shuffle_find 79 = .ok (.bipush 6, 2) := by decide +kernel
theorem dq_Shuffle_find_81 : decode gc_Shuffle_find 81 = .ok (.invokestatic 55, 3) := by decide +kernel
theorem dq_Shuffle_find_84 : decode gc_Shuffle_find 84 = .ok (.aload_n 0, 1) := by decide +kernel
theorem dq_Shuffle_find_85 : decode gc_Shuffle_find 85 = .ok (.getfield 24, 3) := by decide +kernel
theorem dq_Shuffle_find_88 : decode gc_Shuffle_find 88 = .ok (.iload_n 1, 1) := by decide +kernel
theorem dq_Shuffle_find_89 : decode gc_Shuffle_find 89 = .ok (.invokevirtual 61, 3) := by decide +kernel
theorem dq_Shuffle_find_92 : decode gc_Shuffle_find 92 = .ok (.aload_n 0, 1) := by decide +kernel
theorem dq_Shuffle_find_93 : decode gc_Shuffle_find 93 = .ok (.getfield 24, 3) := by decide +kernel
theorem dq_Shuffle_find_96 : decode gc_Shuffle_find 96 = .ok (.iconst (-1), 1) := by decide +kernel
theorem dq_Shuffle_find_97 : decode gc_Shuffle_find 97 = .ok (.invokevirtual 65, 3) := by decide +kernel
theorem dq_Shuffle_find_100 : decode gc_Shuffle_find 100 = .ok (.istore 5, 2) := by decide +kernel
theorem dq_Shuffle_find_102 : decode gc_Shuffle_find 102 = .ok (.iload 5, 2) := by decide +kernel
theorem dq_Shuffle_find_104 : decode gc_Shuffle_find 104 = .ok (.aload_n 0, 1) := by decide +kernel
theorem dq_Shuffle_find_105 : decode gc_Shuffle_find 105 = .ok (.getfield 48, 3) := by decide +kernel
theorem dq_Shuffle_find_108 : decode gc_Shuffle_find 108 = .ok (.if_icmp .ge 24, 3) := by decide +kernel
theorem dq_Shuffle_find_111 : decode gc_Shuffle_find 111 = .ok (.aload_n 0, 1) := by decide +kernel
theorem dq_Shuffle_find_112 : decode gc_Shuffle_find 112 = .ok (.iload 5, 2) := by decide +kernel
theorem dq_Shuffle_find_114 : decode gc_Shuffle_find 114 = .ok (.putfield 48, 3) := by decide +kernel
theorem dq_Shuffle_find_117 : decode gc_Shuffle_find 117 = .ok (.aload_n 0, 1) := by decide +kernel
theorem dq_Shuffle_find_118 : decode gc_Shuffle_find 118 = .ok (.getfield 17, 3) := by decide +kernel
theorem dq_Shuffle_find_121 : decode gc_Shuffle_find 121 = .ok (.iconst 0, 1) := by decide +kernel
theorem dq_Shuffle_find_122 : decode gc_Shuffle_find 122 = .ok (.aload_n 0, 1) := by decide +kernel
theorem dq_Shuffle_find_123 : decode gc_Shuffle_find 123 = .ok (.getfield 11, 3) := by decide +kernel
theorem dq_Shuffle_find_126 : decode gc_Shuffle_find 126 = .ok (.iconst 0, 1) := by decide +kernel
theorem dq_Shuffle_find_127 : decode gc_Shuffle_find 127 = .ok (.bipush 6, 2) := by decide +kernel
theorem dq_Shuffle_find_129 : decode gc_Shuffle_find 129 = .ok (.invokestatic 55, 3) := by decide +kernel
theorem dq_Shuffle_find_132 : decode gc_Shuffle_find 132 = .ok (.aload_n 0, 1) := by decide +kernel
theorem dq_Shuffle_find_133 : decode gc_Shuffle_find 133 = .ok (.iload_n 2, 1) := by decide +kernel
theorem dq_Shuffle_find_134 : decode gc_Shuffle_find 134 = .ok (.invokevirtual 69, 3) := by decide +kernel
theorem dq_Shuffle_find_137 : decode gc_Shuffle_find 137 = .ok (.istore_n 3, 1) := by decide +kernel
theorem dq_Shuffle_find_138 : decode gc_Shuffle_find 138 = .ok (.iinc 4 1, 3) := by decide +kernel
theorem dq_Shuffle_find_141 : decode gc_Shuffle_find 141 = .ok (.goto (-98), 3) := by decide +kernel
theorem dq_Shuffle_find_144 : decode gc_Shuffle_find 144 = .ok (.aload_n 0, 1) := by decide +kernel
theorem dq_Shuffle_find_145 : decode gc_Shuffle_find 145 = .ok (.iload_n 1, 1) := by decide +kernel
theorem dq_Shuffle_find_146 : decode gc_Shuffle_find 146 = .ok (.putfield 27, 3) := by decide +kernel
theorem dq_Shuffle_find_149 : decode gc_Shuffle_find 149 = .ok (.return_, 1) := by decide +kernel
abbrev gm_Shuffle_find : gM := (gc_Shuffle_find, gR_3, 5, 113, 6)
theorem gfl_Shuffle_27 : gFl gR_3 27 3 5 := ⟨_, _, _, rfl, by decide, (gtab_at 236 (by decide +kernel) rfl), gin_3⟩
theorem gfl_Shuffle_20 : gFl gR_3 20 3 3 := ⟨_, _, _, rfl, by decide, (gtab_at 234 (by decide +kernel) rfl), gin_3⟩
theorem gfl_Shuffle_31 : gFl gR_3 31 4 0 := ⟨_, _, _, rfl, by decide, (gtab_at 153 (by decide +kernel) rfl), gin_4⟩
theorem gfl_Shuffle_37 : gFl gR_3 37 0 3 := ⟨_, _, _, rfl, by decide, (gtab_at 40 (by decide +kernel) rfl), gin_0⟩
theorem gfl_Shuffle_40 : gFl gR_3 40 4 7 := ⟨_, _, _, rfl, by decide, (gtab_at 169 (by decide +kernel) rfl), gin_4⟩
set_option maxRecDepth 20000 in
theorem gcy_Shuffle_43 : gCy gR_3 43 gy_Shuffle_sortRanks gc_Shuffle_sortRanks 5 none 2 := ⟨(gtab_at 640 (by decide +kernel) rfl), (gtab_at 6 (by decide +kernel) rfl), (gtab_at 643 rfl rfl), by decide, by decide, by decide +kernel⟩
theorem gim_Shuffle_sortRanks : Cond.instanceMethod gy_Shuffle_sortRanks ∈ gtbl := (gtab_at 642 (by decide +kernel) rfl)
theorem gse_Shuffle_sortRanks : Cond.selects gy_Shuffle_sortRanks.cls gy_Shuffle_sortRanks gy_Shuffle_sortRanks ∈ gtbl := (by decide +kernel)
theorem gk_Shuffle_47 : Cond.constant gR_3 47 (Int32.ofInt 1000000000) ∈ gtbl := (gtab_at 644 (by decide +kernel) rfl)
theorem gfp_Shuffle_48 : gFp gR_3 48 3 0 .int := ⟨_, _, _, gt_3, rfl, by decide, (gtab_at 229 (by decide +kernel) rfl), gin_3, gto_3, gnm_3, rfl, by decide +kernel⟩
theorem gfl_Shuffle_24 : gFl gR_3 24 3 4 := ⟨_, _, _, rfl, by decide, (gtab_at 235 (by decide +kernel) rfl), gin_3⟩
set_option maxRecDepth 20000 in
theorem gcy_Shuffle_51 : gCy gR_3 51 gy_Traffic_copyFrom gc_Traffic_copyFrom 2 none 1 := ⟨(gtab_at 645 (by decide +kernel) rfl), (gtab_at 4 (by decide +kernel) rfl), (gtab_at 585 rfl rfl), by decide, by decide, by decide +kernel⟩
theorem gim_Traffic_copyFrom : Cond.instanceMethod gy_Traffic_copyFrom ∈ gtbl := (gtab_at 583 (by decide +kernel) rfl)
theorem gse_Traffic_copyFrom : Cond.selects gy_Traffic_copyFrom.cls gy_Traffic_copyFrom gy_Traffic_copyFrom ∈ gtbl := (gtab_at 584 (by decide +kernel) rfl)
theorem gml_Shuffle_55 : Cond.methodLink gR_3 55 arraycopyName ∈ gtbl := (gtab_at 646 (by decide +kernel) rfl)
set_option maxRecDepth 20000 in
theorem gcy_Shuffle_61 : gCy gR_3 61 gy_Traffic_pass gc_Traffic_pass 4 none 1 := ⟨(gtab_at 647 (by decide +kernel) rfl), (gtab_at 4 (by decide +kernel) rfl), (gtab_at 489 rfl rfl), by decide, by decide, by decide +kernel⟩
theorem gim_Traffic_pass : Cond.instanceMethod gy_Traffic_pass ∈ gtbl := (gtab_at 487 (by decide +kernel) rfl)
theorem gse_Traffic_pass : Cond.selects gy_Traffic_pass.cls gy_Traffic_pass gy_Traffic_pass ∈ gtbl := (gtab_at 488 (by decide +kernel) rfl)
set_option maxRecDepth 20000 in
theorem gcy_Shuffle_65 : gCy gR_3 65 gy_Traffic_together gc_Traffic_together 4 (some .int) 1 := ⟨(gtab_at 648 (by decide +kernel) rfl), (gtab_at 4 (by decide +kernel) rfl), (gtab_at 592 rfl rfl), by decide, by decide, by decide +kernel⟩
theorem gim_Traffic_together : Cond.instanceMethod gy_Traffic_together ∈ gtbl := (gtab_at 590 (by decide +kernel) rfl)
theorem gse_Traffic_together : Cond.selects gy_Traffic_together.cls gy_Traffic_together gy_Traffic_together ∈ gtbl := (gtab_at 591 (by decide +kernel) rfl)
theorem gfl_Shuffle_48 : gFl gR_3 48 3 0 := ⟨_, _, _, rfl, by decide, (gtab_at 229 (by decide +kernel) rfl), gin_3⟩
set_option maxRecDepth 20000 in
theorem gcy_Shuffle_69 : gCy gR_3 69 gy_Shuffle_goOn gc_Shuffle_goOn 6 (some .boolean) 1 := ⟨(gtab_at 649 (by decide +kernel) rfl), (gtab_at 6 (by decide +kernel) rfl), (gtab_at 652 rfl rfl), by decide, by decide, by decide +kernel⟩
theorem gim_Shuffle_goOn : Cond.instanceMethod gy_Shuffle_goOn ∈ gtbl := (gtab_at 651 (by decide +kernel) rfl)
theorem gse_Shuffle_goOn : Cond.selects gy_Shuffle_goOn.cls gy_Shuffle_goOn gy_Shuffle_goOn ∈ gtbl := (by decide +kernel)
theorem gfl_Shuffle_11 : gFl gR_3 11 3 1 := ⟨_, _, _, rfl, by decide, (gtab_at 231 (by decide +kernel) rfl), gin_3⟩
def f_Shuffle_find_J132  (k43 : Int → Int → gH → Option gO) (v1 : Int) (v2 : Int) (v4 : Int) (h : gH) : Option gO := gb (f_Shuffle_goOn v2 h) (fun h16 r17 => k43 r17 (gadd v4 1) h16)
theorem w_Shuffle_find_J132 {o : gO} {X : gX} (hL : gLive (xZ X)) (hn : (zL (xZ X)).Nodup) (hF : gFin X none o)    {k43 : Int → Int → gH → Option gO} {v1 : Int} {v2 : Int} {v4 : Int} {h : gH} (hk43 : ∀ (v3 : Int) (v4 : Int) (h : gH), gr (k43 v3 v4 h) o gm_Shuffle_find X h 43 [(0, .inr (.inr 72)), (1, .inl v1), (2, .inl v2), (3, .inl v3), (4, .inl v4)] []) : gr (f_Shuffle_find_J132  k43 v1 v2 v4 h) o gm_Shuffle_find X h 132 [(0, .inr (.inr 72)), (1, .inl v1), (2, .inl v2), (4, .inl v4)] [] := by
  unfold f_Shuffle_find_J132
  refine gr_aload_n (M := gm_Shuffle_find) dq_Shuffle_find_132 rfl 0 rfl 133 rfl ?_
  refine gr_iload_n (M := gm_Shuffle_find) dq_Shuffle_find_133 rfl 2 rfl 134 rfl ?_
  refine gr_callVi (M := gm_Shuffle_find) (as := [.inl v2]) dq_Shuffle_find_134 137 rfl rfl gcy_Shuffle_69 gim_Shuffle_goOn gse_Shuffle_goOn ⟨by decide, by decide⟩ (Nat.le_of_ble_eq_true rfl) gsh_72 rfl (gli hL gsh_72) (fun o1 hg ha hx => c_Shuffle_goOn hL hn  hg ha hx) (fun h16 r17 _ => ?_)
  refine gr_istore_n (M := gm_Shuffle_find) (lv' := [(3, .inl r17), (0, .inr (.inr 72)), (1, .inl v1), (2, .inl v2), (4, .inl v4)]) dq_Shuffle_find_137 rfl (by decide) rfl 138 rfl ?_
  refine gr_iinc (M := gm_Shuffle_find) (lv' := [(4, .inl (gadd v4 1)), (3, .inl r17), (0, .inr (.inr 72)), (1, .inl v1), (2, .inl v2)]) dq_Shuffle_find_138 4 rfl rfl (by decide) rfl 141 rfl ?_
  refine gr_goto (M := gm_Shuffle_find) dq_Shuffle_find_141 43 rfl ?_
  refine gr_sub (M := gm_Shuffle_find) (lv' := [(0, .inr (.inr 72)), (1, .inl v1), (2, .inl v2), (3, .inl r17), (4, .inl (gadd v4 1))]) [2, 3, 4, 1, 0] rfl ?_
  exact hk43 _ _ _

def f_Shuffle_find_L43 (v1 : Int) (v2 : Int) (k144 : gH → Option gO) : Nat → Int → Int → gH → Option gO
  | 0, _, _, _ => none
  | n + 1, v3, v4, h => if 720 ≤ v4 then (k144  h) else (if v3 = 0 then (k144  h) else (gb (f_Traffic_copyFrom 37 27 h) (fun h8 r9 => gd (gcpok 74 42 0 0 6) (gs (gcp h8 74 0 42 0 6) (fun h10 => gb (f_Traffic_pass 37 v1 h10) (fun h11 r12 => gb (f_Traffic_together 37 (-1) h11) (fun h13 r14 => if (h13 72 0) ≤ r14 then (f_Shuffle_find_J132  (f_Shuffle_find_L43 v1 v2 k144 n) v1 v2 v4 h13) else (gs (gup h13 72 0 r14) (fun h18 => gd (gcpok 74 73 0 0 6) (gs (gcp h18 74 0 73 0 6) (fun h19 => f_Shuffle_find_J132  (f_Shuffle_find_L43 v1 v2 k144 n) v1 v2 v4 h19)))))))))))
theorem w_Shuffle_find_L43 {o : gO} {X : gX} (hL : gLive (xZ X)) (hn : (zL (xZ X)).Nodup) (hF : gFin X none o) {v1 : Int} {v2 : Int}   {k144 : gH → Option gO} (hk144 : ∀ (h : gH), gr (k144 h) o gm_Shuffle_find X h 144 [(0, .inr (.inr 72)), (1, .inl v1)] []) : ∀ (n : Nat) (v3 : Int) (v4 : Int) (h : gH), gr (f_Shuffle_find_L43 v1 v2 k144 n v3 v4 h) o gm_Shuffle_find X h 43 [(0, .inr (.inr 72)), (1, .inl v1), (2, .inl v2), (3, .inl v3), (4, .inl v4)] [] := by
  intro n
  induction n with
  | zero => intros; exact gr_none
  | succ n ih =>
    intro v3 v4 h
    unfold f_Shuffle_find_L43
    refine gr_iload (M := gm_Shuffle_find) dq_Shuffle_find_43 4 rfl 45 rfl ?_
    refine gr_sipush (M := gm_Shuffle_find) (v := 720) dq_Shuffle_find_45 (by decide) ⟨by decide, by decide⟩ 48 rfl ?_
    refine gr_icmp_ge (M := gm_Shuffle_find) dq_Shuffle_find_48 144 51 rfl rfl (fun c6 => ?_) (fun c6 => ?_)
    · refine gr_sub (M := gm_Shuffle_find) (lv' := [(0, .inr (.inr 72)), (1, .inl v1)]) [0, 1] rfl ?_
      exact hk144  _
    refine gr_iload_n (M := gm_Shuffle_find) dq_Shuffle_find_51 rfl 3 rfl 52 rfl ?_
    refine gr_if_eq (M := gm_Shuffle_find) dq_Shuffle_find_52 144 55 rfl rfl (fun c7 => ?_) (fun c7 => ?_)
    · refine gr_sub (M := gm_Shuffle_find) (lv' := [(0, .inr (.inr 72)), (1, .inl v1)]) [0, 1] rfl ?_
      exact hk144  _
    refine gr_aload_n (M := gm_Shuffle_find) dq_Shuffle_find_55 rfl 0 rfl 56 rfl ?_
    refine gr_geta (M := gm_Shuffle_find) dq_Shuffle_find_56 59 rfl gfl_Shuffle_24 gsh_72 rfl (gli hL gsh_72) ?_
    refine gr_aload_n (M := gm_Shuffle_find) dq_Shuffle_find_59 rfl 0 rfl 60 rfl ?_
    refine gr_geta (M := gm_Shuffle_find) dq_Shuffle_find_60 63 rfl gfl_Shuffle_20 gsh_72 rfl (gli hL gsh_72) ?_
    refine gr_callVv (M := gm_Shuffle_find) (as := [.inr (.inr 27)]) dq_Shuffle_find_63 66 rfl rfl gcy_Shuffle_51 gim_Traffic_copyFrom gse_Traffic_copyFrom ⟨by decide, by decide⟩ (Nat.le_of_ble_eq_true rfl) gsh_37 rfl (gli hL gsh_37) (fun o1 hg ha hx => c_Traffic_copyFrom hL hn gsh_37 gsh_27 hg ha hx) (fun h8 r9 _ => ?_)
    refine gr_aload_n (M := gm_Shuffle_find) dq_Shuffle_find_66 rfl 0 rfl 67 rfl ?_
    refine gr_getr (M := gm_Shuffle_find) dq_Shuffle_find_67 70 rfl gfl_Shuffle_17 gsh_72 rfl (gli hL gsh_72) 74 rfl ?_
    refine gr_iconst (M := gm_Shuffle_find) (v := 0) dq_Shuffle_find_70 rfl ⟨by decide, by decide⟩ 71 rfl ?_
    refine gr_aload_n (M := gm_Shuffle_find) dq_Shuffle_find_71 rfl 0 rfl 72 rfl ?_
    refine gr_geta (M := gm_Shuffle_find) dq_Shuffle_find_72 75 rfl gfl_Shuffle_24 gsh_72 rfl (gli hL gsh_72) ?_
    refine gr_getr (M := gm_Shuffle_find) dq_Shuffle_find_75 78 rfl gfl_Shuffle_40 gsh_37 rfl (gli hL gsh_37) 42 rfl ?_
    refine gr_iconst (M := gm_Shuffle_find) (v := 0) dq_Shuffle_find_78 rfl ⟨by decide, by decide⟩ 79 rfl ?_
    refine gr_bipush (M := gm_Shuffle_find) (v := 6) dq_Shuffle_find_79 (by decide) ⟨by decide, by decide⟩ 81 rfl ?_
    refine gr_acopy (M := gm_Shuffle_find) dq_Shuffle_find_81 84 rfl gml_Shuffle_55 gac_n gac_s gac_i ⟨by decide, by decide⟩ (Nat.le_of_ble_eq_true rfl) gsh_74 gsh_42 (glj hL gsh_74 (by decide)) (glj hL gsh_42 (by decide)) (fun h10 _ => ?_)
    refine gr_aload_n (M := gm_Shuffle_find) dq_Shuffle_find_84 rfl 0 rfl 85 rfl ?_
    refine gr_geta (M := gm_Shuffle_find) dq_Shuffle_find_85 88 rfl gfl_Shuffle_24 gsh_72 rfl (gli hL gsh_72) ?_
    refine gr_iload_n (M := gm_Shuffle_find) dq_Shuffle_find_88 rfl 1 rfl 89 rfl ?_
    refine gr_callVv (M := gm_Shuffle_find) (as := [.inl v1]) dq_Shuffle_find_89 92 rfl rfl gcy_Shuffle_61 gim_Traffic_pass gse_Traffic_pass ⟨by decide, by decide⟩ (Nat.le_of_ble_eq_true rfl) gsh_37 rfl (gli hL gsh_37) (fun o1 hg ha hx => c_Traffic_pass hL hn gsh_37 hg ha hx) (fun h11 r12 _ => ?_)
    refine gr_aload_n (M := gm_Shuffle_find) dq_Shuffle_find_92 rfl 0 rfl 93 rfl ?_
    refine gr_geta (M := gm_Shuffle_find) dq_Shuffle_find_93 96 rfl gfl_Shuffle_24 gsh_72 rfl (gli hL gsh_72) ?_
    refine gr_iconst (M := gm_Shuffle_find) (v := (-1)) dq_Shuffle_find_96 rfl ⟨by decide, by decide⟩ 97 rfl ?_
    refine gr_callVi (M := gm_Shuffle_find) (as := [.inl (-1)]) dq_Shuffle_find_97 100 rfl rfl gcy_Shuffle_65 gim_Traffic_together gse_Traffic_together ⟨by decide, by decide⟩ (Nat.le_of_ble_eq_true rfl) gsh_37 rfl (gli hL gsh_37) (fun o1 hg ha hx => c_Traffic_together hL hn gsh_37 hg ha hx) (fun h13 r14 _ => ?_)
    refine gr_istore (M := gm_Shuffle_find) (kk := 0) (lv' := [(5, .inl r14), (0, .inr (.inr 72)), (1, .inl v1), (2, .inl v2), (3, .inl v3), (4, .inl v4)]) dq_Shuffle_find_100 (by decide) rfl 102 rfl ?_
    refine gr_iload (M := gm_Shuffle_find) dq_Shuffle_find_102 0 rfl 104 rfl ?_
    refine gr_aload_n (M := gm_Shuffle_find) dq_Shuffle_find_104 rfl 1 rfl 105 rfl ?_
    refine gr_geti (M := gm_Shuffle_find) dq_Shuffle_find_105 108 rfl gfl_Shuffle_48 gsh_72 rfl (gli hL gsh_72) ?_
    refine gr_icmp_ge (M := gm_Shuffle_find) dq_Shuffle_find_108 132 111 rfl rfl (fun c15 => ?_) (fun c15 => ?_)
    · refine gr_sub (M := gm_Shuffle_find) (lv' := [(0, .inr (.inr 72)), (1, .inl v1), (2, .inl v2), (4, .inl v4)]) [1, 2, 3, 5] rfl ?_
      exact w_Shuffle_find_J132 hL hn hF   ih
    refine gr_aload_n (M := gm_Shuffle_find) dq_Shuffle_find_111 rfl 1 rfl 112 rfl ?_
    refine gr_iload (M := gm_Shuffle_find) dq_Shuffle_find_112 0 rfl 114 rfl ?_
    refine gr_puti (M := gm_Shuffle_find) dq_Shuffle_find_114 117 rfl gfp_Shuffle_48 gsh_72 rfl (gli hL gsh_72) (fun h18 _ => ?_)
    refine gr_aload_n (M := gm_Shuffle_find) dq_Shuffle_find_117 rfl 1 rfl 118 rfl ?_
    refine gr_getr (M := gm_Shuffle_find) dq_Shuffle_find_118 121 rfl gfl_Shuffle_17 gsh_72 rfl (gli hL gsh_72) 74 rfl ?_
    refine gr_iconst (M := gm_Shuffle_find) (v := 0) dq_Shuffle_find_121 rfl ⟨by decide, by decide⟩ 122 rfl ?_
    refine gr_aload_n (M := gm_Shuffle_find) dq_Shuffle_find_122 rfl 1 rfl 123 rfl ?_
    refine gr_getr (M := gm_Shuffle_find) dq_Shuffle_find_123 126 rfl gfl_Shuffle_11 gsh_72 rfl (gli hL gsh_72) 73 rfl ?_
    refine gr_iconst (M := gm_Shuffle_find) (v := 0) dq_Shuffle_find_126 rfl ⟨by decide, by decide⟩ 127 rfl ?_
    refine gr_bipush (M := gm_Shuffle_find) (v := 6) dq_Shuffle_find_127 (by decide) ⟨by decide, by decide⟩ 129 rfl ?_
    refine gr_acopy (M := gm_Shuffle_find) dq_Shuffle_find_129 132 rfl gml_Shuffle_55 gac_n gac_s gac_i ⟨by decide, by decide⟩ (Nat.le_of_ble_eq_true rfl) gsh_74 gsh_73 (glj hL gsh_74 (by decide)) (glj hL gsh_73 (by decide)) (fun h19 _ => ?_)
    refine gr_sub (M := gm_Shuffle_find) (lv' := [(0, .inr (.inr 72)), (1, .inl v1), (2, .inl v2), (4, .inl v4)]) [1, 2, 3, 5] rfl ?_
    exact w_Shuffle_find_J132 hL hn hF   ih

def f_Shuffle_find_J144   (v1 : Int) (h : gH) : Option gO := gs (gup h 72 5 v1) (fun h21 => some (h21, 0))
theorem w_Shuffle_find_J144 {o : gO} {X : gX} (hL : gLive (xZ X)) (hn : (zL (xZ X)).Nodup) (hF : gFin X none o)     {v1 : Int} {h : gH}  : gr (f_Shuffle_find_J144   v1 h) o gm_Shuffle_find X h 144 [(0, .inr (.inr 72)), (1, .inl v1)] [] := by
  unfold f_Shuffle_find_J144
  refine gr_aload_n (M := gm_Shuffle_find) dq_Shuffle_find_144 rfl 0 rfl 145 rfl ?_
  refine gr_iload_n (M := gm_Shuffle_find) dq_Shuffle_find_145 rfl 1 rfl 146 rfl ?_
  refine gr_puti (M := gm_Shuffle_find) dq_Shuffle_find_146 149 rfl gfp_Shuffle_27 gsh_72 rfl (gli hL gsh_72) (fun h21 _ => ?_)
  exact gr_return (M := gm_Shuffle_find) dq_Shuffle_find_149 hF

def f_Shuffle_find (a1 : Int) (h : gH) : Option gO := if (h 72 5) = a1 then (some (h, 0)) else (gd (gcl ((h 27 0).toNat) 0) (gb (f_Shuffle_sortRanks 32 (h (h 27 0).toNat 3) h) (fun h3 r4 => gs (gup h3 72 0 1000000000) (fun h5 => f_Shuffle_find_L43 a1 (h (h 27 0).toNat 3) (fun  h20 => f_Shuffle_find_J144   a1 h20) 50000 1 0 h5))))
theorem c_Shuffle_find {Z : gZ} (hL : gLive Z) (hn : (zL Z).Nodup) {a1 : Int}  {h : gH} {o : gO} (hg : gRg h) (ha : gRl [.inr (.inr 72), .inl a1]) (hx : f_Shuffle_find a1 h = some o) : gC Z gy_Shuffle_find gc_Shuffle_find 6 none 5 113 [.inr (.inr 72), .inl a1] h o := by
  unfold f_Shuffle_find at hx
  refine gC_of (lv := [(0, .inr (.inr 72)), (1, .inl a1)]) (own := gR_3) (by decide +kernel) rfl (Nat.le_of_ble_eq_true rfl) rfl rfl hn hg ha hx (fun X hZ hF => ?_)
  subst hZ
  show gr _ o gm_Shuffle_find X h 0 _ _
  refine gr_aload_n (M := gm_Shuffle_find) dq_Shuffle_find_0 rfl 0 rfl 1 rfl ?_
  refine gr_geti (M := gm_Shuffle_find) dq_Shuffle_find_1 4 rfl gfl_Shuffle_27 gsh_72 rfl (gli hL gsh_72) ?_
  refine gr_iload_n (M := gm_Shuffle_find) dq_Shuffle_find_4 rfl 1 rfl 5 rfl ?_
  refine gr_icmp_ne (M := gm_Shuffle_find) dq_Shuffle_find_5 9 8 rfl rfl (fun c1 => ?_) (fun c1 => ?_)
  · refine gr_aload_n (M := gm_Shuffle_find) dq_Shuffle_find_9 rfl 0 rfl 10 rfl ?_
    refine gr_geta (M := gm_Shuffle_find) dq_Shuffle_find_10 13 rfl gfl_Shuffle_20 gsh_72 rfl (gli hL gsh_72) ?_
    refine gr_getd (M := gm_Shuffle_find) dq_Shuffle_find_13 16 rfl gfl_Shuffle_31 gsh_27 rfl (gli hL gsh_27) (fun hc2 => ?_)
    refine gr_geti (M := gm_Shuffle_find) dq_Shuffle_find_16 19 rfl gfl_Shuffle_37 (gclE hc2) rfl (gli hL (gclE hc2)) ?_
    refine gr_istore_n (M := gm_Shuffle_find) (lv' := [(2, .inl (h (h 27 0).toNat 3)), (0, .inr (.inr 72)), (1, .inl a1)]) dq_Shuffle_find_19 rfl (by decide) rfl 20 rfl ?_
    refine gr_aload_n (M := gm_Shuffle_find) dq_Shuffle_find_20 rfl 1 rfl 21 rfl ?_
    refine gr_aload_n (M := gm_Shuffle_find) dq_Shuffle_find_21 rfl 1 rfl 22 rfl ?_
    refine gr_geta (M := gm_Shuffle_find) dq_Shuffle_find_22 25 rfl gfl_Shuffle_20 gsh_72 rfl (gli hL gsh_72) ?_
    refine gr_getr (M := gm_Shuffle_find) dq_Shuffle_find_25 28 rfl gfl_Shuffle_40 gsh_27 rfl (gli hL gsh_27) 32 rfl ?_
    refine gr_iload_n (M := gm_Shuffle_find) dq_Shuffle_find_28 rfl 0 rfl 29 rfl ?_
    refine gr_callVv (M := gm_Shuffle_find) (as := [.inr (.inr 32), .inl (h (h 27 0).toNat 3)]) dq_Shuffle_find_29 32 rfl rfl gcy_Shuffle_43 gim_Shuffle_sortRanks gse_Shuffle_sortRanks ⟨by decide, by decide⟩ (Nat.le_of_ble_eq_true rfl) gsh_72 rfl (gli hL gsh_72) (fun o1 hg ha hx => c_Shuffle_sortRanks hL hn (gia_of gsh_32) hg ha hx) (fun h3 r4 _ => ?_)
    refine gr_aload_n (M := gm_Shuffle_find) dq_Shuffle_find_32 rfl 1 rfl 33 rfl ?_
    refine gr_ldc (M := gm_Shuffle_find) (v := 1000000000) dq_Shuffle_find_33 gk_Shuffle_47 ⟨by decide, by decide⟩ 35 rfl ?_
    refine gr_puti (M := gm_Shuffle_find) dq_Shuffle_find_35 38 rfl gfp_Shuffle_48 gsh_72 rfl (gli hL gsh_72) (fun h5 _ => ?_)
    refine gr_iconst (M := gm_Shuffle_find) (v := 1) dq_Shuffle_find_38 rfl ⟨by decide, by decide⟩ 39 rfl ?_
    refine gr_istore_n (M := gm_Shuffle_find) (lv' := [(3, .inl 1), (2, .inl (h (h 27 0).toNat 3)), (0, .inr (.inr 72)), (1, .inl a1)]) dq_Shuffle_find_39 rfl (by decide) rfl 40 rfl ?_
    refine gr_iconst (M := gm_Shuffle_find) (v := 0) dq_Shuffle_find_40 rfl ⟨by decide, by decide⟩ 41 rfl ?_
    refine gr_istore (M := gm_Shuffle_find) (kk := 0) (lv' := [(4, .inl 0), (3, .inl 1), (2, .inl (h (h 27 0).toNat 3)), (0, .inr (.inr 72)), (1, .inl a1)]) dq_Shuffle_find_41 (by decide) rfl 43 rfl ?_
    refine gr_sub (M := gm_Shuffle_find) (lv' := [(0, .inr (.inr 72)), (1, .inl a1), (2, .inl (h (h 27 0).toNat 3)), (3, .inl 1), (4, .inl 0)]) [3, 4, 2, 1, 0] rfl ?_
    refine w_Shuffle_find_L43 hL hn hF   (fun h20 => ?_) 50000 _ _ _
    exact w_Shuffle_find_J144 hL hn hF   
  exact gr_return (M := gm_Shuffle_find) dq_Shuffle_find_8 hF

