-- Mo_putBack
theorem dq_Mo_putBack_0 : decode gc_Mo_putBack 0 = .ok (.iconst 0, 1) := by decide +kernel
theorem dq_Mo_putBack_1 : decode gc_Mo_putBack 1 = .ok (.istore_n 1, 1) := by decide +kernel
theorem dq_Mo_putBack_2 : decode gc_Mo_putBack 2 = .ok (.iload_n 1, 1) := by decide +kernel
theorem dq_Mo_putBack_3 : decode gc_Mo_putBack 3 = .ok (.bipush 50, 2) := by decide +kernel
theorem dq_Mo_putBack_5 : decode gc_Mo_putBack 5 = .ok (.if_icmp .ge 21, 3) := by decide +kernel
theorem dq_Mo_putBack_8 : decode gc_Mo_putBack 8 = .ok (.aload_n 0, 1) := by decide +kernel
theorem dq_Mo_putBack_9 : decode gc_Mo_putBack 9 = .ok (.getfield 34, 3) := by decide +kernel
theorem dq_Mo_putBack_12 : decode gc_Mo_putBack 12 = .ok (.iload_n 1, 1) := by decide +kernel
theorem dq_Mo_putBack_13 : decode gc_Mo_putBack 13 = .ok (.aload_n 0, 1) := by decide +kernel
theorem dq_Mo_putBack_14 : decode gc_Mo_putBack 14 = .ok (.getfield 77, 3) := by decide +kernel
theorem dq_Mo_putBack_17 : decode gc_Mo_putBack 17 = .ok (.iload_n 1, 1) := by decide +kernel
theorem dq_Mo_putBack_18 : decode gc_Mo_putBack 18 = .ok (.iaload, 1) := by decide +kernel
theorem dq_Mo_putBack_19 : decode gc_Mo_putBack 19 = .ok (.iastore, 1) := by decide +kernel
theorem dq_Mo_putBack_20 : decode gc_Mo_putBack 20 = .ok (.iinc 1 1, 3) := by decide +kernel
theorem dq_Mo_putBack_23 : decode gc_Mo_putBack 23 = .ok (.goto (-21), 3) := by decide +kernel
theorem dq_Mo_putBack_26 : decode gc_Mo_putBack 26 = .ok (.return_, 1) := by decide +kernel
abbrev gm_Mo_putBack : gM := (gc_Mo_putBack, gR_7, 0, 0, 2)
def f_Mo_putBack_L2  (k26 : gH → Option gO) : Nat → Int → gH → Option gO
  | 0, _, _ => none
  | n + 1, v1, h => if 50 ≤ v1 then (k26  h) else (gd (gix 50 v1) (gd (gix 50 v1) (gs (gup h 92 v1.toNat (h 104 v1.toNat)) (fun h2 => f_Mo_putBack_L2 k26 n (gadd v1 1) h2))))
theorem w_Mo_putBack_L2 {o : gO} {X : gX} (hL : gLive (xZ X)) (hn : (zL (xZ X)).Nodup) (hF : gFin X none o)    {k26 : gH → Option gO} (hk26 : ∀ (h : gH), gr (k26 h) o gm_Mo_putBack X h 26 [] []) : ∀ (n : Nat) (v1 : Int) (h : gH), gr (f_Mo_putBack_L2  k26 n v1 h) o gm_Mo_putBack X h 2 [(0, .inr (.inr 83)), (1, .inl v1)] [] := by
  intro n
  induction n with
  | zero => intros; exact gr_none
  | succ n ih =>
    intro v1 h
    unfold f_Mo_putBack_L2
    refine gr_iload_n (M := gm_Mo_putBack) dq_Mo_putBack_2 rfl 1 rfl 3 rfl ?_
    refine gr_bipush (M := gm_Mo_putBack) (v := 50) dq_Mo_putBack_3 (by decide) ⟨by decide, by decide⟩ 5 rfl ?_
    refine gr_icmp_ge (M := gm_Mo_putBack) dq_Mo_putBack_5 26 8 rfl rfl (fun c1 => ?_) (fun c1 => ?_)
    · refine gr_sub (M := gm_Mo_putBack) (lv' := []) [] rfl ?_
      exact hk26  _
    refine gr_aload_n (M := gm_Mo_putBack) dq_Mo_putBack_8 rfl 0 rfl 9 rfl ?_
    refine gr_getr (M := gm_Mo_putBack) dq_Mo_putBack_9 12 rfl gfl_Mo_34 gsh_83 rfl (gli hL gsh_83) 92 rfl ?_
    refine gr_iload_n (M := gm_Mo_putBack) dq_Mo_putBack_12 rfl 1 rfl 13 rfl ?_
    refine gr_aload_n (M := gm_Mo_putBack) dq_Mo_putBack_13 rfl 0 rfl 14 rfl ?_
    refine gr_getr (M := gm_Mo_putBack) dq_Mo_putBack_14 17 rfl gfl_Mo_77 gsh_83 rfl (gli hL gsh_83) 104 rfl ?_
    refine gr_iload_n (M := gm_Mo_putBack) dq_Mo_putBack_17 rfl 1 rfl 18 rfl ?_
    refine gr_iald (M := gm_Mo_putBack) dq_Mo_putBack_18 19 rfl gsh_104 (glj hL gsh_104 (by decide)) ?_
    refine gr_iast (M := gm_Mo_putBack) dq_Mo_putBack_19 20 rfl gsh_92 (glj hL gsh_92 (by decide)) (fun h2 _ => ?_)
    refine gr_iinc (M := gm_Mo_putBack) (lv' := [(1, .inl (gadd v1 1)), (0, .inr (.inr 83))]) dq_Mo_putBack_20 1 rfl rfl (by decide) rfl 23 rfl ?_
    refine gr_goto (M := gm_Mo_putBack) dq_Mo_putBack_23 2 rfl ?_
    refine gr_sub (M := gm_Mo_putBack) (lv' := [(0, .inr (.inr 83)), (1, .inl (gadd v1 1))]) [1, 0] rfl ?_
    exact ih _ _

def f_Mo_putBack  (h : gH) : Option gO := f_Mo_putBack_L2  (fun  h3 => some (h3, 0)) 50000 0 h
theorem c_Mo_putBack {Z : gZ} (hL : gLive Z) (hn : (zL Z).Nodup)   {h : gH} {o : gO} (hg : gRg h) (ha : gRl [.inr (.inr 83)]) (hx : f_Mo_putBack  h = some o) : gC Z gy_Mo_putBack gc_Mo_putBack 2 none 0 0 [.inr (.inr 83)] h o := by
  unfold f_Mo_putBack at hx
  refine gC_of (lv := [(0, .inr (.inr 83))]) (own := gR_7) (by decide +kernel) rfl (Nat.le_of_ble_eq_true rfl) rfl rfl hn hg ha hx (fun X hZ hF => ?_)
  subst hZ
  show gr _ o gm_Mo_putBack X h 0 _ _
  refine gr_iconst (M := gm_Mo_putBack) (v := 0) dq_Mo_putBack_0 rfl ⟨by decide, by decide⟩ 1 rfl ?_
  refine gr_istore_n (M := gm_Mo_putBack) (lv' := [(1, .inl 0), (0, .inr (.inr 83))]) dq_Mo_putBack_1 rfl (by decide) rfl 2 rfl ?_
  refine gr_sub (M := gm_Mo_putBack) (lv' := [(0, .inr (.inr 83)), (1, .inl 0)]) [1, 0] rfl ?_
  refine w_Mo_putBack_L2 hL hn hF   (fun h3 => ?_) 50000 _ _
  exact gr_return (M := gm_Mo_putBack) dq_Mo_putBack_26 hF

-- Mo_go
theorem dq_Mo_go_0 : decode gc_Mo_go 0 = .ok (.iconst 0, 1) := by decide +kernel
theorem dq_Mo_go_1 : decode gc_Mo_go 1 = .ok (.istore_n 2, 1) := by decide +kernel
theorem dq_Mo_go_2 : decode gc_Mo_go 2 = .ok (.iload_n 2, 1) := by decide +kernel
theorem dq_Mo_go_3 : decode gc_Mo_go 3 = .ok (.iload_n 1, 1) := by decide +kernel
theorem dq_Mo_go_4 : decode gc_Mo_go 4 = .ok (.if_icmp .ge 13, 3) := by decide +kernel
theorem dq_Mo_go_7 : decode gc_Mo_go 7 = .ok (.aload_n 0, 1) := by decide +kernel
theorem dq_Mo_go_8 : decode gc_Mo_go 8 = .ok (.invokevirtual 277, 3) := by decide +kernel
theorem dq_Mo_go_11 : decode gc_Mo_go 11 = .ok (.iinc 2 1, 3) := by decide +kernel
theorem dq_Mo_go_14 : decode gc_Mo_go 14 = .ok (.goto (-12), 3) := by decide +kernel
theorem dq_Mo_go_17 : decode gc_Mo_go 17 = .ok (.return_, 1) := by decide +kernel
abbrev gm_Mo_go : gM := (gc_Mo_go, gR_7, 8, 184, 3)
def f_Mo_go_L2 (v1 : Int) (k17 : gH → Option gO) : Nat → Int → gH → Option gO
  | 0, _, _ => none
  | n + 1, v2, h => if v1 ≤ v2 then (k17  h) else (gb (f_Mo_pass  h) (fun h2 r3 => f_Mo_go_L2 v1 k17 n (gadd v2 1) h2))
theorem w_Mo_go_L2 {o : gO} {X : gX} (hL : gLive (xZ X)) (hn : (zL (xZ X)).Nodup) (hF : gFin X none o) {v1 : Int}   {k17 : gH → Option gO} (hk17 : ∀ (h : gH), gr (k17 h) o gm_Mo_go X h 17 [] []) : ∀ (n : Nat) (v2 : Int) (h : gH), gr (f_Mo_go_L2 v1 k17 n v2 h) o gm_Mo_go X h 2 [(0, .inr (.inr 83)), (1, .inl v1), (2, .inl v2)] [] := by
  intro n
  induction n with
  | zero => intros; exact gr_none
  | succ n ih =>
    intro v2 h
    unfold f_Mo_go_L2
    refine gr_iload_n (M := gm_Mo_go) dq_Mo_go_2 rfl 2 rfl 3 rfl ?_
    refine gr_iload_n (M := gm_Mo_go) dq_Mo_go_3 rfl 1 rfl 4 rfl ?_
    refine gr_icmp_ge (M := gm_Mo_go) dq_Mo_go_4 17 7 rfl rfl (fun c1 => ?_) (fun c1 => ?_)
    · refine gr_sub (M := gm_Mo_go) (lv' := []) [] rfl ?_
      exact hk17  _
    refine gr_aload_n (M := gm_Mo_go) dq_Mo_go_7 rfl 0 rfl 8 rfl ?_
    refine gr_callVv (M := gm_Mo_go) (as := []) dq_Mo_go_8 11 rfl rfl gcy_Mo_277 gim_Mo_pass gse_Mo_pass ⟨by decide, by decide⟩ (Nat.le_of_ble_eq_true rfl) gsh_83 rfl (gli hL gsh_83) (fun o1 hg ha hx => c_Mo_pass hL hn  hg ha hx) (fun h2 r3 _ => ?_)
    refine gr_iinc (M := gm_Mo_go) (lv' := [(2, .inl (gadd v2 1)), (0, .inr (.inr 83)), (1, .inl v1)]) dq_Mo_go_11 2 rfl rfl (by decide) rfl 14 rfl ?_
    refine gr_goto (M := gm_Mo_go) dq_Mo_go_14 2 rfl ?_
    refine gr_sub (M := gm_Mo_go) (lv' := [(0, .inr (.inr 83)), (1, .inl v1), (2, .inl (gadd v2 1))]) [1, 2, 0] rfl ?_
    exact ih _ _

def f_Mo_go (a1 : Int) (h : gH) : Option gO := f_Mo_go_L2 a1 (fun  h4 => some (h4, 0)) 50000 0 h
theorem c_Mo_go {Z : gZ} (hL : gLive Z) (hn : (zL Z).Nodup) {a1 : Int}  {h : gH} {o : gO} (hg : gRg h) (ha : gRl [.inr (.inr 83), .inl a1]) (hx : f_Mo_go a1 h = some o) : gC Z gy_Mo_go gc_Mo_go 3 none 8 184 [.inr (.inr 83), .inl a1] h o := by
  unfold f_Mo_go at hx
  refine gC_of (lv := [(0, .inr (.inr 83)), (1, .inl a1)]) (own := gR_7) (by decide +kernel) rfl (Nat.le_of_ble_eq_true rfl) rfl rfl hn hg ha hx (fun X hZ hF => ?_)
  subst hZ
  show gr _ o gm_Mo_go X h 0 _ _
  refine gr_iconst (M := gm_Mo_go) (v := 0) dq_Mo_go_0 rfl ⟨by decide, by decide⟩ 1 rfl ?_
  refine gr_istore_n (M := gm_Mo_go) (lv' := [(2, .inl 0), (0, .inr (.inr 83)), (1, .inl a1)]) dq_Mo_go_1 rfl (by decide) rfl 2 rfl ?_
  refine gr_sub (M := gm_Mo_go) (lv' := [(0, .inr (.inr 83)), (1, .inl a1), (2, .inl 0)]) [1, 2, 0] rfl ?_
  refine w_Mo_go_L2 hL hn hF   (fun h4 => ?_) 50000 _ _
  exact gr_return (M := gm_Mo_go) dq_Mo_go_17 hF

-- Mo_minutes
theorem dq_Mo_minutes_0 : decode gc_Mo_minutes 0 = .ok (.iconst 0, 1) := by decide +kernel
theorem dq_Mo_minutes_1 : decode gc_Mo_minutes 1 = .ok (.istore_n 2, 1) := by decide +kernel
theorem dq_Mo_minutes_2 : decode gc_Mo_minutes 2 = .ok (.iconst 0, 1) := by decide +kernel
theorem dq_Mo_minutes_3 : decode gc_Mo_minutes 3 = .ok (.istore_n 3, 1) := by decide +kernel
theorem dq_Mo_minutes_4 : decode gc_Mo_minutes 4 = .ok (.iload_n 3, 1) := by decide +kernel
theorem dq_Mo_minutes_5 : decode gc_Mo_minutes 5 = .ok (.aload_n 0, 1) := by decide +kernel
theorem dq_Mo_minutes_6 : decode gc_Mo_minutes 6 = .ok (.getfield 124, 3) := by decide +kernel
theorem dq_Mo_minutes_9 : decode gc_Mo_minutes 9 = .ok (.if_icmp .ge 52, 3) := by decide +kernel
theorem dq_Mo_minutes_12 : decode gc_Mo_minutes 12 = .ok (.iload_n 2, 1) := by decide +kernel
theorem dq_Mo_minutes_13 : decode gc_Mo_minutes 13 = .ok (.iload_n 3, 1) := by decide +kernel
theorem dq_Mo_minutes_14 : decode gc_Mo_minutes 14 = .ok (.iload_n 1, 1) := by decide +kernel
theorem dq_Mo_minutes_15 : decode gc_Mo_minutes 15 = .ok (.if_icmp .ne 7, 3) := by decide +kernel
theorem dq_Mo_minutes_18 : decode gc_Mo_minutes 18 = .ok (.iconst 0, 1) := by decide +kernel
theorem dq_Mo_minutes_19 : decode gc_Mo_minutes 19 = .ok (.goto 34, 3) := by decide +kernel
theorem dq_Mo_minutes_22 : decode gc_Mo_minutes 22 = .ok (.aload_n 0, 1) := by decide +kernel
theorem dq_Mo_minutes_23 : decode gc_Mo_minutes 23 = .ok (.getfield 34, 3) := by decide +kernel
theorem dq_Mo_minutes_26 : decode gc_Mo_minutes 26 = .ok (.bipush 26, 2) := by decide +kernel
theorem dq_Mo_minutes_28 : decode gc_Mo_minutes 28 = .ok (.iload_n 3, 1) := by decide +kernel
theorem dq_Mo_minutes_29 : decode gc_Mo_minutes 29 = .ok (.iadd, 1) := by decide +kernel
theorem dq_Mo_minutes_30 : decode gc_Mo_minutes 30 = .ok (.iaload, 1) := by decide +kernel
theorem dq_Mo_minutes_31 : decode gc_Mo_minutes 31 = .ok (.iconst 3, 1) := by decide +kernel
theorem dq_Mo_minutes_32 : decode gc_Mo_minutes 32 = .ok (.if_icmp .ne 15, 3) := by decide +kernel
theorem dq_Mo_minutes_35 : decode gc_Mo_minutes 35 = .ok (.aload_n 0, 1) := by decide +kernel
theorem dq_Mo_minutes_36 : decode gc_Mo_minutes 36 = .ok (.getfield 34, 3) := by decide +kernel
theorem dq_Mo_minutes_39 : decode gc_Mo_minutes 39 = .ok (.bipush 38, 2) := by decide +kernel
theorem dq_Mo_minutes_41 : decode gc_Mo_minutes 41 = .ok (.iload_n 3, 1) := by decide +kernel
theorem dq_Mo_minutes_42 : decode gc_Mo_minutes 42 = .ok (.iadd, 1) := by decide +kernel
theorem dq_Mo_minutes_43 : decode gc_Mo_minutes 43 = .ok (.iaload, 1) := by decide +kernel
theorem dq_Mo_minutes_44 : decode gc_Mo_minutes 44 = .ok (.goto 9, 3) := by decide +kernel
theorem dq_Mo_minutes_47 : decode gc_Mo_minutes 47 = .ok (.aload_n 0, 1) := by decide +kernel
theorem dq_Mo_minutes_48 : decode gc_Mo_minutes 48 = .ok (.getfield 34, 3) := by decide +kernel
theorem dq_Mo_minutes_51 : decode gc_Mo_minutes 51 = .ok (.iconst 0, 1) := by decide +kernel
theorem dq_Mo_minutes_52 : decode gc_Mo_minutes 52 = .ok (.iaload, 1) := by decide +kernel
theorem dq_Mo_minutes_53 : decode gc_Mo_minutes 53 = .ok (.iadd, 1) := by decide +kernel
theorem dq_Mo_minutes_54 : decode gc_Mo_minutes 54 = .ok (.istore_n 2, 1) := by decide +kernel
theorem dq_Mo_minutes_55 : decode gc_Mo_minutes 55 = .ok (.iinc 3 1, 3) := by decide +kernel
theorem dq_Mo_minutes_58 : decode gc_Mo_minutes 58 = .ok (.goto (-54), 3) := by decide +kernel
theorem dq_Mo_minutes_61 : decode gc_Mo_minutes 61 = .ok (.iload_n 2, 1) := by decide +kernel
theorem dq_Mo_minutes_62 : decode gc_Mo_minutes 62 = .ok (.ireturn, 1) := by decide +kernel
abbrev gm_Mo_minutes : gM := (gc_Mo_minutes, gR_7, 0, 0, 4)
def f_Mo_minutes_J53  (k4 : Int → Int → gH → Option gO) (v1 : Int) (v3 : Int) (s1 : Int) (s0 : Int) (h : gH) : Option gO := k4 (gadd s0 s1) (gadd v3 1) h
theorem w_Mo_minutes_J53 {o : gO} {X : gX} (hL : gLive (xZ X)) (hn : (zL (xZ X)).Nodup) (hF : gFin X (some .int) o)    {k4 : Int → Int → gH → Option gO} {v1 : Int} {v3 : Int} {s1 : Int} {s0 : Int} {h : gH} (hk4 : ∀ (v2 : Int) (v3 : Int) (h : gH), gr (k4 v2 v3 h) o gm_Mo_minutes X h 4 [(0, .inr (.inr 83)), (1, .inl v1), (2, .inl v2), (3, .inl v3)] []) : gr (f_Mo_minutes_J53  k4 v1 v3 s1 s0 h) o gm_Mo_minutes X h 53 [(0, .inr (.inr 83)), (1, .inl v1), (3, .inl v3)] [.inl s1, .inl s0] := by
  unfold f_Mo_minutes_J53
  refine gr_iadd (M := gm_Mo_minutes) dq_Mo_minutes_53 54 rfl ?_
  refine gr_istore_n (M := gm_Mo_minutes) (lv' := [(2, .inl (gadd s0 s1)), (0, .inr (.inr 83)), (1, .inl v1), (3, .inl v3)]) dq_Mo_minutes_54 rfl (by decide) rfl 55 rfl ?_
  refine gr_iinc (M := gm_Mo_minutes) (lv' := [(3, .inl (gadd v3 1)), (2, .inl (gadd s0 s1)), (0, .inr (.inr 83)), (1, .inl v1)]) dq_Mo_minutes_55 3 rfl rfl (by decide) rfl 58 rfl ?_
  refine gr_goto (M := gm_Mo_minutes) dq_Mo_minutes_58 4 rfl ?_
  refine gr_sub (M := gm_Mo_minutes) (lv' := [(0, .inr (.inr 83)), (1, .inl v1), (2, .inl (gadd s0 s1)), (3, .inl (gadd v3 1))]) [2, 3, 1, 0] rfl ?_
  exact hk4 _ _ _

def f_Mo_minutes_L4 (v1 : Int) (k61 : Int → gH → Option gO) : Nat → Int → Int → gH → Option gO
  | 0, _, _, _ => none
  | n + 1, v2, v3, h => if (h 83 6) ≤ v3 then (k61 v2 h) else (if v3 = v1 then (f_Mo_minutes_J53  (f_Mo_minutes_L4 v1 k61 n) v1 v3 0 v2 h) else (gd (gix 50 (gadd 26 v3)) (if (h 92 (gadd 26 v3).toNat) = 3 then (gd (gix 50 (gadd 38 v3)) (f_Mo_minutes_J53  (f_Mo_minutes_L4 v1 k61 n) v1 v3 (h 92 (gadd 38 v3).toNat) v2 h)) else (gd (gix 50 0) (f_Mo_minutes_J53  (f_Mo_minutes_L4 v1 k61 n) v1 v3 (h 92 0) v2 h)))))
theorem w_Mo_minutes_L4 {o : gO} {X : gX} (hL : gLive (xZ X)) (hn : (zL (xZ X)).Nodup) (hF : gFin X (some .int) o) {v1 : Int}   {k61 : Int → gH → Option gO} (hk61 : ∀ (v2 : Int) (h : gH), gr (k61 v2 h) o gm_Mo_minutes X h 61 [(2, .inl v2)] []) : ∀ (n : Nat) (v2 : Int) (v3 : Int) (h : gH), gr (f_Mo_minutes_L4 v1 k61 n v2 v3 h) o gm_Mo_minutes X h 4 [(0, .inr (.inr 83)), (1, .inl v1), (2, .inl v2), (3, .inl v3)] [] := by
  intro n
  induction n with
  | zero => intros; exact gr_none
  | succ n ih =>
    intro v2 v3 h
    unfold f_Mo_minutes_L4
    refine gr_iload_n (M := gm_Mo_minutes) dq_Mo_minutes_4 rfl 3 rfl 5 rfl ?_
    refine gr_aload_n (M := gm_Mo_minutes) dq_Mo_minutes_5 rfl 0 rfl 6 rfl ?_
    refine gr_geti (M := gm_Mo_minutes) dq_Mo_minutes_6 9 rfl gfl_Mo_124 gsh_83 rfl (gli hL gsh_83) ?_
    refine gr_icmp_ge (M := gm_Mo_minutes) dq_Mo_minutes_9 61 12 rfl rfl (fun c1 => ?_) (fun c1 => ?_)
    · refine gr_sub (M := gm_Mo_minutes) (lv' := [(2, .inl v2)]) [2] rfl ?_
      exact hk61 _ _
    refine gr_iload_n (M := gm_Mo_minutes) dq_Mo_minutes_12 rfl 2 rfl 13 rfl ?_
    refine gr_iload_n (M := gm_Mo_minutes) dq_Mo_minutes_13 rfl 3 rfl 14 rfl ?_
    refine gr_iload_n (M := gm_Mo_minutes) dq_Mo_minutes_14 rfl 1 rfl 15 rfl ?_
    refine gr_icmp_ne (M := gm_Mo_minutes) dq_Mo_minutes_15 22 18 rfl rfl (fun c2 => ?_) (fun c2 => ?_)
    · refine gr_aload_n (M := gm_Mo_minutes) dq_Mo_minutes_22 rfl 0 rfl 23 rfl ?_
      refine gr_getr (M := gm_Mo_minutes) dq_Mo_minutes_23 26 rfl gfl_Mo_34 gsh_83 rfl (gli hL gsh_83) 92 rfl ?_
      refine gr_bipush (M := gm_Mo_minutes) (v := 26) dq_Mo_minutes_26 (by decide) ⟨by decide, by decide⟩ 28 rfl ?_
      refine gr_iload_n (M := gm_Mo_minutes) dq_Mo_minutes_28 rfl 3 rfl 29 rfl ?_
      refine gr_iadd (M := gm_Mo_minutes) dq_Mo_minutes_29 30 rfl ?_
      refine gr_iald (M := gm_Mo_minutes) dq_Mo_minutes_30 31 rfl gsh_92 (glj hL gsh_92 (by decide)) ?_
      refine gr_iconst (M := gm_Mo_minutes) (v := 3) dq_Mo_minutes_31 rfl ⟨by decide, by decide⟩ 32 rfl ?_
      refine gr_icmp_ne (M := gm_Mo_minutes) dq_Mo_minutes_32 47 35 rfl rfl (fun c3 => ?_) (fun c3 => ?_)
      · refine gr_aload_n (M := gm_Mo_minutes) dq_Mo_minutes_47 rfl 0 rfl 48 rfl ?_
        refine gr_getr (M := gm_Mo_minutes) dq_Mo_minutes_48 51 rfl gfl_Mo_34 gsh_83 rfl (gli hL gsh_83) 92 rfl ?_
        refine gr_iconst (M := gm_Mo_minutes) (v := 0) dq_Mo_minutes_51 rfl ⟨by decide, by decide⟩ 52 rfl ?_
        refine gr_iald (M := gm_Mo_minutes) dq_Mo_minutes_52 53 rfl gsh_92 (glj hL gsh_92 (by decide)) ?_
        refine gr_sub (M := gm_Mo_minutes) (lv' := [(0, .inr (.inr 83)), (1, .inl v1), (3, .inl v3)]) [0, 1, 3] rfl ?_
        exact w_Mo_minutes_J53 hL hn hF   ih
      refine gr_aload_n (M := gm_Mo_minutes) dq_Mo_minutes_35 rfl 0 rfl 36 rfl ?_
      refine gr_getr (M := gm_Mo_minutes) dq_Mo_minutes_36 39 rfl gfl_Mo_34 gsh_83 rfl (gli hL gsh_83) 92 rfl ?_
      refine gr_bipush (M := gm_Mo_minutes) (v := 38) dq_Mo_minutes_39 (by decide) ⟨by decide, by decide⟩ 41 rfl ?_
      refine gr_iload_n (M := gm_Mo_minutes) dq_Mo_minutes_41 rfl 3 rfl 42 rfl ?_
      refine gr_iadd (M := gm_Mo_minutes) dq_Mo_minutes_42 43 rfl ?_
      refine gr_iald (M := gm_Mo_minutes) dq_Mo_minutes_43 44 rfl gsh_92 (glj hL gsh_92 (by decide)) ?_
      refine gr_goto (M := gm_Mo_minutes) dq_Mo_minutes_44 53 rfl ?_
      refine gr_sub (M := gm_Mo_minutes) (lv' := [(0, .inr (.inr 83)), (1, .inl v1), (3, .inl v3)]) [0, 1, 3] rfl ?_
      exact w_Mo_minutes_J53 hL hn hF   ih
    refine gr_iconst (M := gm_Mo_minutes) (v := 0) dq_Mo_minutes_18 rfl ⟨by decide, by decide⟩ 19 rfl ?_
    refine gr_goto (M := gm_Mo_minutes) dq_Mo_minutes_19 53 rfl ?_
    refine gr_sub (M := gm_Mo_minutes) (lv' := [(0, .inr (.inr 83)), (1, .inl v1), (3, .inl v3)]) [0, 1, 3] rfl ?_
    exact w_Mo_minutes_J53 hL hn hF   ih

def f_Mo_minutes (a1 : Int) (h : gH) : Option gO := f_Mo_minutes_L4 a1 (fun v4 h5 => some (h5, v4)) 50000 0 0 h
theorem c_Mo_minutes {Z : gZ} (hL : gLive Z) (hn : (zL Z).Nodup) {a1 : Int}  {h : gH} {o : gO} (hg : gRg h) (ha : gRl [.inr (.inr 83), .inl a1]) (hx : f_Mo_minutes a1 h = some o) : gC Z gy_Mo_minutes gc_Mo_minutes 4 (some .int) 0 0 [.inr (.inr 83), .inl a1] h o := by
  unfold f_Mo_minutes at hx
  refine gC_of (lv := [(0, .inr (.inr 83)), (1, .inl a1)]) (own := gR_7) (by decide +kernel) rfl (Nat.le_of_ble_eq_true rfl) rfl rfl hn hg ha hx (fun X hZ hF => ?_)
  subst hZ
  show gr _ o gm_Mo_minutes X h 0 _ _
  refine gr_iconst (M := gm_Mo_minutes) (v := 0) dq_Mo_minutes_0 rfl ⟨by decide, by decide⟩ 1 rfl ?_
  refine gr_istore_n (M := gm_Mo_minutes) (lv' := [(2, .inl 0), (0, .inr (.inr 83)), (1, .inl a1)]) dq_Mo_minutes_1 rfl (by decide) rfl 2 rfl ?_
  refine gr_iconst (M := gm_Mo_minutes) (v := 0) dq_Mo_minutes_2 rfl ⟨by decide, by decide⟩ 3 rfl ?_
  refine gr_istore_n (M := gm_Mo_minutes) (lv' := [(3, .inl 0), (2, .inl 0), (0, .inr (.inr 83)), (1, .inl a1)]) dq_Mo_minutes_3 rfl (by decide) rfl 4 rfl ?_
  refine gr_sub (M := gm_Mo_minutes) (lv' := [(0, .inr (.inr 83)), (1, .inl a1), (2, .inl 0), (3, .inl 0)]) [2, 3, 1, 0] rfl ?_
  refine w_Mo_minutes_L4 hL hn hF   (fun v4 h5 => ?_) 50000 _ _ _
  refine gr_iload_n (M := gm_Mo_minutes) dq_Mo_minutes_61 rfl 0 rfl 62 rfl ?_
  exact gr_ireturn (M := gm_Mo_minutes) dq_Mo_minutes_62 hF

-- Mo_allHome
theorem dq_Mo_allHome_0 : decode gc_Mo_allHome 0 = .ok (.iload_n 1, 1) := by decide +kernel
theorem dq_Mo_allHome_1 : decode gc_Mo_allHome 1 = .ok (.i2l, 1) := by decide +kernel
theorem dq_Mo_allHome_2 : decode gc_Mo_allHome 2 = .ok (.lconst 1, 1) := by decide +kernel
theorem dq_Mo_allHome_3 : decode gc_Mo_allHome 3 = .ok (.ldc2_w 267, 3) := by decide +kernel
theorem dq_Mo_allHome_6 : decode gc_Mo_allHome 6 = .ok (.invokestatic 117, 3) := by decide +kernel
theorem dq_Mo_allHome_9 : decode gc_Mo_allHome 9 = .ok (.ifCond .eq 13, 3) := by decide +kernel
theorem dq_Mo_allHome_12 : decode gc_Mo_allHome 12 = .ok (.iload_n 2, 1) := by decide +kernel
theorem dq_Mo_allHome_13 : decode gc_Mo_allHome 13 = .ok (.i2l, 1) := by decide +kernel
theorem dq_Mo_allHome_14 : decode gc_Mo_allHome 14 = .ok (.lconst 0, 1) := by decide +kernel
theorem dq_Mo_allHome_15 : decode gc_Mo_allHome 15 = .ok (.lconst 1, 1) := by decide +kernel
theorem dq_Mo_allHome_16 : decode gc_Mo_allHome 16 = .ok (.invokestatic 117, 3) := by decide +kernel
theorem dq_Mo_allHome_19 : decode gc_Mo_allHome 19 = .ok (.ifCond .ne 6, 3) := by decide +kernel
theorem dq_Mo_allHome_22 : decode gc_Mo_allHome 22 = .ok (.ldc 129, 2) := by decide +kernel
theorem dq_Mo_allHome_24 : decode gc_Mo_allHome 24 = .ok (.ireturn, 1) := by decide +kernel
theorem dq_Mo_allHome_25 : decode gc_Mo_allHome 25 = .ok (.aload_n 0, 1) := by decide +kernel
theorem dq_Mo_allHome_26 : decode gc_Mo_allHome 26 = .ok (.invokevirtual 300, 3) := by decide +kernel
theorem dq_Mo_allHome_29 : decode gc_Mo_allHome 29 = .ok (.aload_n 0, 1) := by decide +kernel
theorem dq_Mo_allHome_30 : decode gc_Mo_allHome 30 = .ok (.iload_n 1, 1) := by decide +kernel
theorem dq_Mo_allHome_31 : decode gc_Mo_allHome 31 = .ok (.invokevirtual 303, 3) := by decide +kernel
theorem dq_Mo_allHome_34 : decode gc_Mo_allHome 34 = .ok (.iload_n 2, 1) := by decide +kernel
theorem dq_Mo_allHome_35 : decode gc_Mo_allHome 35 = .ok (.ifCond .ne 10, 3) := by decide +kernel
theorem dq_Mo_allHome_38 : decode gc_Mo_allHome 38 = .ok (.aload_n 0, 1) := by decide +kernel
theorem dq_Mo_allHome_39 : decode gc_Mo_allHome 39 = .ok (.invokevirtual 274, 3) := by decide +kernel
theorem dq_Mo_allHome_42 : decode gc_Mo_allHome 42 = .ok (.goto 8, 3) := by decide +kernel
theorem dq_Mo_allHome_45 : decode gc_Mo_allHome 45 = .ok (.aload_n 0, 1) := by decide +kernel
theorem dq_Mo_allHome_46 : decode gc_Mo_allHome 46 = .ok (.iconst (-1), 1) := by decide +kernel
theorem dq_Mo_allHome_47 : decode gc_Mo_allHome 47 = .ok (.invokevirtual 306, 3) := by decide +kernel
theorem dq_Mo_allHome_50 : decode gc_Mo_allHome 50 = .ok (.istore_n 3, 1) := by decide +kernel
theorem dq_Mo_allHome_51 : decode gc_Mo_allHome 51 = .ok (.aload_n 0, 1) := by decide +kernel
theorem dq_Mo_allHome_52 : decode gc_Mo_allHome 52 = .ok (.invokevirtual 309, 3) := by decide +kernel
theorem dq_Mo_allHome_55 : decode gc_Mo_allHome 55 = .ok (.iload_n 3, 1) := by decide +kernel
theorem dq_Mo_allHome_56 : decode gc_Mo_allHome 56 = .ok (.ireturn, 1) := by decide +kernel
abbrev gm_Mo_allHome : gM := (gc_Mo_allHome, gR_7, 9, 206, 4)
set_option maxRecDepth 20000 in
theorem gcy_Mo_300 : gCy gR_7 300 gy_Mo_save gc_Mo_save 2 none 0 := ⟨(gtab_at 1098 (by decide +kernel) rfl), (gtab_at 8 (by decide +kernel) rfl), (gtab_at 1101 rfl rfl), by decide, by decide, by decide +kernel⟩
theorem gim_Mo_save : Cond.instanceMethod gy_Mo_save ∈ gtbl := (gtab_at 1100 (by decide +kernel) rfl)
theorem gse_Mo_save : Cond.selects gy_Mo_save.cls gy_Mo_save gy_Mo_save ∈ gtbl := (by decide +kernel)
set_option maxRecDepth 20000 in
theorem gcy_Mo_303 : gCy gR_7 303 gy_Mo_go gc_Mo_go 3 none 1 := ⟨(gtab_at 1102 (by decide +kernel) rfl), (gtab_at 8 (by decide +kernel) rfl), (gtab_at 1105 rfl rfl), by decide, by decide, by decide +kernel⟩
theorem gim_Mo_go : Cond.instanceMethod gy_Mo_go ∈ gtbl := (gtab_at 1104 (by decide +kernel) rfl)
theorem gse_Mo_go : Cond.selects gy_Mo_go.cls gy_Mo_go gy_Mo_go ∈ gtbl := (by decide +kernel)
set_option maxRecDepth 20000 in
theorem gcy_Mo_306 : gCy gR_7 306 gy_Mo_minutes gc_Mo_minutes 4 (some .int) 1 := ⟨(gtab_at 1106 (by decide +kernel) rfl), (gtab_at 8 (by decide +kernel) rfl), (gtab_at 1109 rfl rfl), by decide, by decide, by decide +kernel⟩
theorem gim_Mo_minutes : Cond.instanceMethod gy_Mo_minutes ∈ gtbl := (gtab_at 1108 (by decide +kernel) rfl)
theorem gse_Mo_minutes : Cond.selects gy_Mo_minutes.cls gy_Mo_minutes gy_Mo_minutes ∈ gtbl := (by decide +kernel)
set_option maxRecDepth 20000 in
theorem gcy_Mo_309 : gCy gR_7 309 gy_Mo_putBack gc_Mo_putBack 2 none 0 := ⟨(gtab_at 1110 (by decide +kernel) rfl), (gtab_at 8 (by decide +kernel) rfl), (gtab_at 1113 rfl rfl), by decide, by decide, by decide +kernel⟩
theorem gim_Mo_putBack : Cond.instanceMethod gy_Mo_putBack ∈ gtbl := (gtab_at 1112 (by decide +kernel) rfl)
theorem gse_Mo_putBack : Cond.selects gy_Mo_putBack.cls gy_Mo_putBack gy_Mo_putBack ∈ gtbl := (by decide +kernel)
def f_Mo_allHome_J50   (s0 : Int) (h : gH) : Option gO := gb (f_Mo_putBack  h) (fun h14 r15 => some (h14, s0))
theorem w_Mo_allHome_J50 {o : gO} {X : gX} (hL : gLive (xZ X)) (hn : (zL (xZ X)).Nodup) (hF : gFin X (some .int) o)     {s0 : Int} {h : gH}  : gr (f_Mo_allHome_J50   s0 h) o gm_Mo_allHome X h 50 [(0, .inr (.inr 83))] [.inl s0] := by
  unfold f_Mo_allHome_J50
  refine gr_istore_n (M := gm_Mo_allHome) (lv' := [(3, .inl s0), (0, .inr (.inr 83))]) dq_Mo_allHome_50 rfl (by decide) rfl 51 rfl ?_
  refine gr_aload_n (M := gm_Mo_allHome) dq_Mo_allHome_51 rfl 1 rfl 52 rfl ?_
  refine gr_callVv (M := gm_Mo_allHome) (as := []) dq_Mo_allHome_52 55 rfl rfl gcy_Mo_309 gim_Mo_putBack gse_Mo_putBack ⟨by decide, by decide⟩ (Nat.le_of_ble_eq_true rfl) gsh_83 rfl (gli hL gsh_83) (fun o1 hg ha hx => c_Mo_putBack hL hn  hg ha hx) (fun h14 r15 _ => ?_)
  refine gr_iload_n (M := gm_Mo_allHome) dq_Mo_allHome_55 rfl 0 rfl 56 rfl ?_
  exact gr_ireturn (M := gm_Mo_allHome) dq_Mo_allHome_56 hF

def f_Mo_allHome (a1 : Int) (a2 : Int) (h : gH) : Option gO := gb (f_Mo_in a1 1 300 h) (fun h1 r2 => if r2 = 0 then (some (h1, (-1000000002))) else (gb (f_Mo_in a2 0 1 h1) (fun h4 r5 => if r5 = 0 then (some (h4, (-1000000002))) else (gb (f_Mo_save  h4) (fun h7 r8 => gb (f_Mo_go a1 h7) (fun h9 r10 => if a2 = 0 then (gb (f_Mo_home  h9) (fun h16 r17 => f_Mo_allHome_J50   r17 h16)) else (gb (f_Mo_minutes (-1) h9) (fun h12 r13 => f_Mo_allHome_J50   r13 h12))))))))
theorem c_Mo_allHome {Z : gZ} (hL : gLive Z) (hn : (zL Z).Nodup) {a1 : Int} {a2 : Int}  {h : gH} {o : gO} (hg : gRg h) (ha : gRl [.inr (.inr 83), .inl a1, .inl a2]) (hx : f_Mo_allHome a1 a2 h = some o) : gC Z gy_Mo_allHome gc_Mo_allHome 4 (some .int) 9 206 [.inr (.inr 83), .inl a1, .inl a2] h o := by
  unfold f_Mo_allHome at hx
  refine gC_of (lv := [(0, .inr (.inr 83)), (1, .inl a1), (2, .inl a2)]) (own := gR_7) (by decide +kernel) rfl (Nat.le_of_ble_eq_true rfl) rfl rfl hn hg ha hx (fun X hZ hF => ?_)
  subst hZ
  show gr _ o gm_Mo_allHome X h 0 _ _
  refine gr_iload_n (M := gm_Mo_allHome) dq_Mo_allHome_0 rfl 1 rfl 1 rfl ?_
  refine gr_i2l (M := gm_Mo_allHome) dq_Mo_allHome_1 2 rfl ?_
  refine gr_lconst (M := gm_Mo_allHome) (v := 1) dq_Mo_allHome_2 (by decide) ⟨by decide, by decide⟩ 3 rfl ?_
  refine gr_ldc2_w (M := gm_Mo_allHome) (v := 300) dq_Mo_allHome_3 gk_Mo_267 ⟨by decide, by decide⟩ 6 rfl ?_
  refine gr_callSi (M := gm_Mo_allHome) (as := [.inr (.inl a1), .inr (.inl 1), .inr (.inl 300)]) dq_Mo_allHome_6 9 rfl rfl gcy_Mo_117 gst_Mo_in ⟨by decide, by decide⟩ (Nat.le_of_ble_eq_true rfl) (fun o1 hg ha hx => c_Mo_in hL hn  hg ha hx) (fun h1 r2 _ => ?_)
  refine gr_if_eq (M := gm_Mo_allHome) dq_Mo_allHome_9 22 12 rfl rfl (fun c3 => ?_) (fun c3 => ?_)
  · refine gr_ldc (M := gm_Mo_allHome) (v := (-1000000002)) dq_Mo_allHome_22 gk_Mo_129 ⟨by decide, by decide⟩ 24 rfl ?_
    exact gr_ireturn (M := gm_Mo_allHome) dq_Mo_allHome_24 hF
  refine gr_iload_n (M := gm_Mo_allHome) dq_Mo_allHome_12 rfl 2 rfl 13 rfl ?_
  refine gr_i2l (M := gm_Mo_allHome) dq_Mo_allHome_13 14 rfl ?_
  refine gr_lconst (M := gm_Mo_allHome) (v := 0) dq_Mo_allHome_14 (by decide) ⟨by decide, by decide⟩ 15 rfl ?_
  refine gr_lconst (M := gm_Mo_allHome) (v := 1) dq_Mo_allHome_15 (by decide) ⟨by decide, by decide⟩ 16 rfl ?_
  refine gr_callSi (M := gm_Mo_allHome) (as := [.inr (.inl a2), .inr (.inl 0), .inr (.inl 1)]) dq_Mo_allHome_16 19 rfl rfl gcy_Mo_117 gst_Mo_in ⟨by decide, by decide⟩ (Nat.le_of_ble_eq_true rfl) (fun o1 hg ha hx => c_Mo_in hL hn  hg ha hx) (fun h4 r5 _ => ?_)
  refine gr_if_ne (M := gm_Mo_allHome) dq_Mo_allHome_19 25 22 rfl rfl (fun c6 => ?_) (fun c6 => ?_)
  · refine gr_aload_n (M := gm_Mo_allHome) dq_Mo_allHome_25 rfl 0 rfl 26 rfl ?_
    refine gr_callVv (M := gm_Mo_allHome) (as := []) dq_Mo_allHome_26 29 rfl rfl gcy_Mo_300 gim_Mo_save gse_Mo_save ⟨by decide, by decide⟩ (Nat.le_of_ble_eq_true rfl) gsh_83 rfl (gli hL gsh_83) (fun o1 hg ha hx => c_Mo_save hL hn  hg ha hx) (fun h7 r8 _ => ?_)
    refine gr_aload_n (M := gm_Mo_allHome) dq_Mo_allHome_29 rfl 0 rfl 30 rfl ?_
    refine gr_iload_n (M := gm_Mo_allHome) dq_Mo_allHome_30 rfl 1 rfl 31 rfl ?_
    refine gr_callVv (M := gm_Mo_allHome) (as := [.inl a1]) dq_Mo_allHome_31 34 rfl rfl gcy_Mo_303 gim_Mo_go gse_Mo_go ⟨by decide, by decide⟩ (Nat.le_of_ble_eq_true rfl) gsh_83 rfl (gli hL gsh_83) (fun o1 hg ha hx => c_Mo_go hL hn  hg ha hx) (fun h9 r10 _ => ?_)
    refine gr_iload_n (M := gm_Mo_allHome) dq_Mo_allHome_34 rfl 2 rfl 35 rfl ?_
    refine gr_if_ne (M := gm_Mo_allHome) dq_Mo_allHome_35 45 38 rfl rfl (fun c11 => ?_) (fun c11 => ?_)
    · refine gr_aload_n (M := gm_Mo_allHome) dq_Mo_allHome_45 rfl 0 rfl 46 rfl ?_
      refine gr_iconst (M := gm_Mo_allHome) (v := (-1)) dq_Mo_allHome_46 rfl ⟨by decide, by decide⟩ 47 rfl ?_
      refine gr_callVi (M := gm_Mo_allHome) (as := [.inl (-1)]) dq_Mo_allHome_47 50 rfl rfl gcy_Mo_306 gim_Mo_minutes gse_Mo_minutes ⟨by decide, by decide⟩ (Nat.le_of_ble_eq_true rfl) gsh_83 rfl (gli hL gsh_83) (fun o1 hg ha hx => c_Mo_minutes hL hn  hg ha hx) (fun h12 r13 _ => ?_)
      refine gr_sub (M := gm_Mo_allHome) (lv' := [(0, .inr (.inr 83))]) [0] rfl ?_
      exact w_Mo_allHome_J50 hL hn hF   
    refine gr_aload_n (M := gm_Mo_allHome) dq_Mo_allHome_38 rfl 0 rfl 39 rfl ?_
    refine gr_callVi (M := gm_Mo_allHome) (as := []) dq_Mo_allHome_39 42 rfl rfl gcy_Mo_274 gim_Mo_home gse_Mo_home ⟨by decide, by decide⟩ (Nat.le_of_ble_eq_true rfl) gsh_83 rfl (gli hL gsh_83) (fun o1 hg ha hx => c_Mo_home hL hn  hg ha hx) (fun h16 r17 _ => ?_)
    refine gr_goto (M := gm_Mo_allHome) dq_Mo_allHome_42 50 rfl ?_
    refine gr_sub (M := gm_Mo_allHome) (lv' := [(0, .inr (.inr 83))]) [0] rfl ?_
    exact w_Mo_allHome_J50 hL hn hF   
  refine gr_ldc (M := gm_Mo_allHome) (v := (-1000000002)) dq_Mo_allHome_22 gk_Mo_129 ⟨by decide, by decide⟩ 24 rfl ?_
  exact gr_ireturn (M := gm_Mo_allHome) dq_Mo_allHome_24 hF

-- Mo_entry
theorem dq_Mo_entry_0 : decode gc_Mo_entry 0 = .ok (.aload_n 0, 1) := by decide +kernel
theorem dq_Mo_entry_1 : decode gc_Mo_entry 1 = .ok (.getfield 34, 3) := by decide +kernel
theorem dq_Mo_entry_4 : decode gc_Mo_entry 4 = .ok (.iconst 2, 1) := by decide +kernel
theorem dq_Mo_entry_5 : decode gc_Mo_entry 5 = .ok (.iload_n 1, 1) := by decide +kernel
theorem dq_Mo_entry_6 : decode gc_Mo_entry 6 = .ok (.iadd, 1) := by decide +kernel
theorem dq_Mo_entry_7 : decode gc_Mo_entry 7 = .ok (.iaload, 1) := by decide +kernel
theorem dq_Mo_entry_8 : decode gc_Mo_entry 8 = .ok (.iconst 1, 1) := by decide +kernel
theorem dq_Mo_entry_9 : decode gc_Mo_entry 9 = .ok (.if_icmp .eq 27, 3) := by decide +kernel
theorem dq_Mo_entry_12 : decode gc_Mo_entry 12 = .ok (.aload_n 0, 1) := by decide +kernel
theorem dq_Mo_entry_13 : decode gc_Mo_entry 13 = .ok (.getfield 34, 3) := by decide +kernel
theorem dq_Mo_entry_16 : decode gc_Mo_entry 16 = .ok (.iconst 2, 1) := by decide +kernel
theorem dq_Mo_entry_17 : decode gc_Mo_entry 17 = .ok (.iload_n 1, 1) := by decide +kernel
theorem dq_Mo_entry_18 : decode gc_Mo_entry 18 = .ok (.iadd, 1) := by decide +kernel
theorem dq_Mo_entry_19 : decode gc_Mo_entry 19 = .ok (.iaload, 1) := by decide +kernel
theorem dq_Mo_entry_20 : decode gc_Mo_entry 20 = .ok (.iconst 4, 1) := by decide +kernel
theorem dq_Mo_entry_21 : decode gc_Mo_entry 21 = .ok (.if_icmp .ne 13, 3) := by decide +kernel
theorem dq_Mo_entry_24 : decode gc_Mo_entry 24 = .ok (.iload_n 2, 1) := by decide +kernel
theorem dq_Mo_entry_25 : decode gc_Mo_entry 25 = .ok (.iconst 1, 1) := by decide +kernel
theorem dq_Mo_entry_26 : decode gc_Mo_entry 26 = .ok (.if_icmp .ne 8, 3) := by decide +kernel
theorem dq_Mo_entry_29 : decode gc_Mo_entry 29 = .ok (.ldc 181, 2) := by decide +kernel
theorem dq_Mo_entry_31 : decode gc_Mo_entry 31 = .ok (.goto 4, 3) := by decide +kernel
theorem dq_Mo_entry_34 : decode gc_Mo_entry 34 = .ok (.iload_n 3, 1) := by decide +kernel
theorem dq_Mo_entry_35 : decode gc_Mo_entry 35 = .ok (.ireturn, 1) := by decide +kernel
theorem dq_Mo_entry_36 : decode gc_Mo_entry 36 = .ok (.iload_n 3, 1) := by decide +kernel
theorem dq_Mo_entry_37 : decode gc_Mo_entry 37 = .ok (.aload_n 0, 1) := by decide +kernel
theorem dq_Mo_entry_38 : decode gc_Mo_entry 38 = .ok (.getfield 182, 3) := by decide +kernel
theorem dq_Mo_entry_41 : decode gc_Mo_entry 41 = .ok (.idiv, 1) := by decide +kernel
theorem dq_Mo_entry_42 : decode gc_Mo_entry 42 = .ok (.iconst 2, 1) := by decide +kernel
theorem dq_Mo_entry_43 : decode gc_Mo_entry 43 = .ok (.irem, 1) := by decide +kernel
theorem dq_Mo_entry_44 : decode gc_Mo_entry 44 = .ok (.iload_n 2, 1) := by decide +kernel
theorem dq_Mo_entry_45 : decode gc_Mo_entry 45 = .ok (.if_icmp .ne 7, 3) := by decide +kernel
theorem dq_Mo_entry_48 : decode gc_Mo_entry 48 = .ok (.iload_n 3, 1) := by decide +kernel
theorem dq_Mo_entry_49 : decode gc_Mo_entry 49 = .ok (.goto 16, 3) := by decide +kernel
theorem dq_Mo_entry_52 : decode gc_Mo_entry 52 = .ok (.iload_n 3, 1) := by decide +kernel
theorem dq_Mo_entry_53 : decode gc_Mo_entry 53 = .ok (.aload_n 0, 1) := by decide +kernel
theorem dq_Mo_entry_54 : decode gc_Mo_entry 54 = .ok (.getfield 182, 3) := by decide +kernel
theorem dq_Mo_entry_57 : decode gc_Mo_entry 57 = .ok (.idiv, 1) := by decide +kernel
theorem dq_Mo_entry_58 : decode gc_Mo_entry 58 = .ok (.iconst 1, 1) := by decide +kernel
theorem dq_Mo_entry_59 : decode gc_Mo_entry 59 = .ok (.iadd, 1) := by decide +kernel
theorem dq_Mo_entry_60 : decode gc_Mo_entry 60 = .ok (.aload_n 0, 1) := by decide +kernel
theorem dq_Mo_entry_61 : decode gc_Mo_entry 61 = .ok (.getfield 182, 3) := by decide +kernel
theorem dq_Mo_entry_64 : decode gc_Mo_entry 64 = .ok (.imul, 1) := by decide +kernel
theorem dq_Mo_entry_65 : decode gc_Mo_entry 65 = .ok (.ireturn, 1) := by decide +kernel
abbrev gm_Mo_entry : gM := (gc_Mo_entry, gR_7, 0, 0, 4)
def f_Mo_entry (a1 : Int) (a2 : Int) (a3 : Int) (h : gH) : Option gO := gd (gix 50 (gadd 2 a1)) (if (h 92 (gadd 2 a1).toNat) = 1 then (gd (gnz (h 83 1)) (gd (gnz 2) (if (grem (gdiv a3 (h 83 1)) 2) = a2 then (some (h, a3)) else (gd (gnz (h 83 1)) (some (h, (gmul (gadd (gdiv a3 (h 83 1)) 1) (h 83 1)))))))) else (gd (gix 50 (gadd 2 a1)) (if (h 92 (gadd 2 a1).toNat) = 4 then (if a2 = 1 then (some (h, 1000000)) else (some (h, a3))) else (some (h, a3)))))
theorem c_Mo_entry {Z : gZ} (hL : gLive Z) (hn : (zL Z).Nodup) {a1 : Int} {a2 : Int} {a3 : Int}  {h : gH} {o : gO} (hg : gRg h) (ha : gRl [.inr (.inr 83), .inl a1, .inl a2, .inl a3]) (hx : f_Mo_entry a1 a2 a3 h = some o) : gC Z gy_Mo_entry gc_Mo_entry 4 (some .int) 0 0 [.inr (.inr 83), .inl a1, .inl a2, .inl a3] h o := by
  unfold f_Mo_entry at hx
  refine gC_of (lv := [(0, .inr (.inr 83)), (1, .inl a1), (2, .inl a2), (3, .inl a3)]) (own := gR_7) (by decide +kernel) rfl (Nat.le_of_ble_eq_true rfl) rfl rfl hn hg ha hx (fun X hZ hF => ?_)
  subst hZ
  show gr _ o gm_Mo_entry X h 0 _ _
  refine gr_aload_n (M := gm_Mo_entry) dq_Mo_entry_0 rfl 0 rfl 1 rfl ?_
  refine gr_getr (M := gm_Mo_entry) dq_Mo_entry_1 4 rfl gfl_Mo_34 gsh_83 rfl (gli hL gsh_83) 92 rfl ?_
  refine gr_iconst (M := gm_Mo_entry) (v := 2) dq_Mo_entry_4 rfl ⟨by decide, by decide⟩ 5 rfl ?_
  refine gr_iload_n (M := gm_Mo_entry) dq_Mo_entry_5 rfl 1 rfl 6 rfl ?_
  refine gr_iadd (M := gm_Mo_entry) dq_Mo_entry_6 7 rfl ?_
  refine gr_iald (M := gm_Mo_entry) dq_Mo_entry_7 8 rfl gsh_92 (glj hL gsh_92 (by decide)) ?_
  refine gr_iconst (M := gm_Mo_entry) (v := 1) dq_Mo_entry_8 rfl ⟨by decide, by decide⟩ 9 rfl ?_
  refine gr_icmp_eq (M := gm_Mo_entry) dq_Mo_entry_9 36 12 rfl rfl (fun c1 => ?_) (fun c1 => ?_)
  · refine gr_iload_n (M := gm_Mo_entry) dq_Mo_entry_36 rfl 3 rfl 37 rfl ?_
    refine gr_aload_n (M := gm_Mo_entry) dq_Mo_entry_37 rfl 0 rfl 38 rfl ?_
    refine gr_geti (M := gm_Mo_entry) dq_Mo_entry_38 41 rfl gfl_Mo_182 gsh_83 rfl (gli hL gsh_83) ?_
    refine gr_idiv (M := gm_Mo_entry) dq_Mo_entry_41 42 rfl ?_
    refine gr_iconst (M := gm_Mo_entry) (v := 2) dq_Mo_entry_42 rfl ⟨by decide, by decide⟩ 43 rfl ?_
    refine gr_irem (M := gm_Mo_entry) dq_Mo_entry_43 44 rfl ?_
    refine gr_iload_n (M := gm_Mo_entry) dq_Mo_entry_44 rfl 2 rfl 45 rfl ?_
    refine gr_icmp_ne (M := gm_Mo_entry) dq_Mo_entry_45 52 48 rfl rfl (fun c2 => ?_) (fun c2 => ?_)
    · refine gr_iload_n (M := gm_Mo_entry) dq_Mo_entry_52 rfl 3 rfl 53 rfl ?_
      refine gr_aload_n (M := gm_Mo_entry) dq_Mo_entry_53 rfl 0 rfl 54 rfl ?_
      refine gr_geti (M := gm_Mo_entry) dq_Mo_entry_54 57 rfl gfl_Mo_182 gsh_83 rfl (gli hL gsh_83) ?_
      refine gr_idiv (M := gm_Mo_entry) dq_Mo_entry_57 58 rfl ?_
      refine gr_iconst (M := gm_Mo_entry) (v := 1) dq_Mo_entry_58 rfl ⟨by decide, by decide⟩ 59 rfl ?_
      refine gr_iadd (M := gm_Mo_entry) dq_Mo_entry_59 60 rfl ?_
      refine gr_aload_n (M := gm_Mo_entry) dq_Mo_entry_60 rfl 0 rfl 61 rfl ?_
      refine gr_geti (M := gm_Mo_entry) dq_Mo_entry_61 64 rfl gfl_Mo_182 gsh_83 rfl (gli hL gsh_83) ?_
      refine gr_imul (M := gm_Mo_entry) dq_Mo_entry_64 65 rfl ?_
      exact gr_ireturn (M := gm_Mo_entry) dq_Mo_entry_65 hF
    refine gr_iload_n (M := gm_Mo_entry) dq_Mo_entry_48 rfl 3 rfl 49 rfl ?_
    refine gr_goto (M := gm_Mo_entry) dq_Mo_entry_49 65 rfl ?_
    exact gr_ireturn (M := gm_Mo_entry) dq_Mo_entry_65 hF
  refine gr_aload_n (M := gm_Mo_entry) dq_Mo_entry_12 rfl 0 rfl 13 rfl ?_
  refine gr_getr (M := gm_Mo_entry) dq_Mo_entry_13 16 rfl gfl_Mo_34 gsh_83 rfl (gli hL gsh_83) 92 rfl ?_
  refine gr_iconst (M := gm_Mo_entry) (v := 2) dq_Mo_entry_16 rfl ⟨by decide, by decide⟩ 17 rfl ?_
  refine gr_iload_n (M := gm_Mo_entry) dq_Mo_entry_17 rfl 1 rfl 18 rfl ?_
  refine gr_iadd (M := gm_Mo_entry) dq_Mo_entry_18 19 rfl ?_
  refine gr_iald (M := gm_Mo_entry) dq_Mo_entry_19 20 rfl gsh_92 (glj hL gsh_92 (by decide)) ?_
  refine gr_iconst (M := gm_Mo_entry) (v := 4) dq_Mo_entry_20 rfl ⟨by decide, by decide⟩ 21 rfl ?_
  refine gr_icmp_ne (M := gm_Mo_entry) dq_Mo_entry_21 34 24 rfl rfl (fun c3 => ?_) (fun c3 => ?_)
  · refine gr_iload_n (M := gm_Mo_entry) dq_Mo_entry_34 rfl 3 rfl 35 rfl ?_
    exact gr_ireturn (M := gm_Mo_entry) dq_Mo_entry_35 hF
  refine gr_iload_n (M := gm_Mo_entry) dq_Mo_entry_24 rfl 2 rfl 25 rfl ?_
  refine gr_iconst (M := gm_Mo_entry) (v := 1) dq_Mo_entry_25 rfl ⟨by decide, by decide⟩ 26 rfl ?_
  refine gr_icmp_ne (M := gm_Mo_entry) dq_Mo_entry_26 34 29 rfl rfl (fun c4 => ?_) (fun c4 => ?_)
  · refine gr_iload_n (M := gm_Mo_entry) dq_Mo_entry_34 rfl 3 rfl 35 rfl ?_
    exact gr_ireturn (M := gm_Mo_entry) dq_Mo_entry_35 hF
  refine gr_ldc (M := gm_Mo_entry) (v := 1000000) dq_Mo_entry_29 gk_Mo_181 ⟨by decide, by decide⟩ 31 rfl ?_
  refine gr_goto (M := gm_Mo_entry) dq_Mo_entry_31 35 rfl ?_
  exact gr_ireturn (M := gm_Mo_entry) dq_Mo_entry_35 hF

-- Mo_come
theorem dq_Mo_come_0 : decode gc_Mo_come 0 = .ok (.iload_n 2, 1) := by decide +kernel
theorem dq_Mo_come_1 : decode gc_Mo_come 1 = .ok (.ifCond .ne 12, 3) := by decide +kernel
theorem dq_Mo_come_4 : decode gc_Mo_come 4 = .ok (.aload_n 0, 1) := by decide +kernel
theorem dq_Mo_come_5 : decode gc_Mo_come 5 = .ok (.getfield 7, 3) := by decide +kernel
theorem dq_Mo_come_8 : decode gc_Mo_come 8 = .ok (.iload_n 1, 1) := by decide +kernel
theorem dq_Mo_come_9 : decode gc_Mo_come 9 = .ok (.iaload, 1) := by decide +kernel
theorem dq_Mo_come_10 : decode gc_Mo_come 10 = .ok (.goto 9, 3) := by decide +kernel
theorem dq_Mo_come_13 : decode gc_Mo_come 13 = .ok (.aload_n 0, 1) := by decide +kernel
theorem dq_Mo_come_14 : decode gc_Mo_come 14 = .ok (.getfield 13, 3) := by decide +kernel
theorem dq_Mo_come_17 : decode gc_Mo_come 17 = .ok (.iload_n 1, 1) := by decide +kernel
theorem dq_Mo_come_18 : decode gc_Mo_come 18 = .ok (.iaload, 1) := by decide +kernel
theorem dq_Mo_come_19 : decode gc_Mo_come 19 = .ok (.istore_n 3, 1) := by decide +kernel
theorem dq_Mo_come_20 : decode gc_Mo_come 20 = .ok (.iload_n 2, 1) := by decide +kernel
theorem dq_Mo_come_21 : decode gc_Mo_come 21 = .ok (.ifCond .ne 12, 3) := by decide +kernel
theorem dq_Mo_come_24 : decode gc_Mo_come 24 = .ok (.aload_n 0, 1) := by decide +kernel
theorem dq_Mo_come_25 : decode gc_Mo_come 25 = .ok (.getfield 13, 3) := by decide +kernel
theorem dq_Mo_come_28 : decode gc_Mo_come 28 = .ok (.iload_n 1, 1) := by decide +kernel
theorem dq_Mo_come_29 : decode gc_Mo_come 29 = .ok (.iaload, 1) := by decide +kernel
theorem dq_Mo_come_30 : decode gc_Mo_come 30 = .ok (.goto 9, 3) := by decide +kernel
theorem dq_Mo_come_33 : decode gc_Mo_come 33 = .ok (.aload_n 0, 1) := by decide +kernel
theorem dq_Mo_come_34 : decode gc_Mo_come 34 = .ok (.getfield 7, 3) := by decide +kernel
theorem dq_Mo_come_37 : decode gc_Mo_come 37 = .ok (.iload_n 1, 1) := by decide +kernel
theorem dq_Mo_come_38 : decode gc_Mo_come 38 = .ok (.iaload, 1) := by decide +kernel
theorem dq_Mo_come_39 : decode gc_Mo_come 39 = .ok (.istore 4, 2) := by decide +kernel
theorem dq_Mo_come_41 : decode gc_Mo_come 41 = .ok (.aload_n 0, 1) := by decide +kernel
theorem dq_Mo_come_42 : decode gc_Mo_come 42 = .ok (.getfield 80, 3) := by decide +kernel
theorem dq_Mo_come_45 : decode gc_Mo_come 45 = .ok (.iload_n 3, 1) := by decide +kernel
theorem dq_Mo_come_46 : decode gc_Mo_come 46 = .ok (.iaload, 1) := by decide +kernel
theorem dq_Mo_come_47 : decode gc_Mo_come 47 = .ok (.ldc 181, 2) := by decide +kernel
theorem dq_Mo_come_49 : decode gc_Mo_come 49 = .ok (.if_icmp .ge 55, 3) := by decide +kernel
theorem dq_Mo_come_52 : decode gc_Mo_come 52 = .ok (.aload_n 0, 1) := by decide +kernel
theorem dq_Mo_come_53 : decode gc_Mo_come 53 = .ok (.iload_n 1, 1) := by decide +kernel
theorem dq_Mo_come_54 : decode gc_Mo_come 54 = .ok (.iload_n 2, 1) := by decide +kernel
theorem dq_Mo_come_55 : decode gc_Mo_come 55 = .ok (.aload_n 0, 1) := by decide +kernel
theorem dq_Mo_come_56 : decode gc_Mo_come 56 = .ok (.getfield 80, 3) := by decide +kernel
theorem dq_Mo_come_59 : decode gc_Mo_come 59 = .ok (.iload_n 3, 1) := by decide +kernel
theorem dq_Mo_come_60 : decode gc_Mo_come 60 = .ok (.iaload, 1) := by decide +kernel
theorem dq_Mo_come_61 : decode gc_Mo_come 61 = .ok (.invokevirtual 318, 3) := by decide +kernel
theorem dq_Mo_come_64 : decode gc_Mo_come 64 = .ok (.aload_n 0, 1) := by decide +kernel
theorem dq_Mo_come_65 : decode gc_Mo_come 65 = .ok (.getfield 16, 3) := by decide +kernel
theorem dq_Mo_come_68 : decode gc_Mo_come 68 = .ok (.iload_n 1, 1) := by decide +kernel
theorem dq_Mo_come_69 : decode gc_Mo_come 69 = .ok (.iaload, 1) := by decide +kernel
theorem dq_Mo_come_70 : decode gc_Mo_come 70 = .ok (.iadd, 1) := by decide +kernel
theorem dq_Mo_come_71 : decode gc_Mo_come 71 = .ok (.istore 5, 2) := by decide +kernel
theorem dq_Mo_come_73 : decode gc_Mo_come 73 = .ok (.aload_n 0, 1) := by decide +kernel
theorem dq_Mo_come_74 : decode gc_Mo_come 74 = .ok (.getfield 80, 3) := by decide +kernel
theorem dq_Mo_come_77 : decode gc_Mo_come 77 = .ok (.iload 4, 2) := by decide +kernel
theorem dq_Mo_come_79 : decode gc_Mo_come 79 = .ok (.iload 5, 2) := by decide +kernel
theorem dq_Mo_come_81 : decode gc_Mo_come 81 = .ok (.aload_n 0, 1) := by decide +kernel
theorem dq_Mo_come_82 : decode gc_Mo_come 82 = .ok (.getfield 80, 3) := by decide +kernel
theorem dq_Mo_come_85 : decode gc_Mo_come 85 = .ok (.iload 4, 2) := by decide +kernel
theorem dq_Mo_come_87 : decode gc_Mo_come 87 = .ok (.iaload, 1) := by decide +kernel
theorem dq_Mo_come_88 : decode gc_Mo_come 88 = .ok (.if_icmp .ge 8, 3) := by decide +kernel
theorem dq_Mo_come_91 : decode gc_Mo_come 91 = .ok (.iload 5, 2) := by decide +kernel
theorem dq_Mo_come_93 : decode gc_Mo_come 93 = .ok (.goto 10, 3) := by decide +kernel
theorem dq_Mo_come_96 : decode gc_Mo_come 96 = .ok (.aload_n 0, 1) := by decide +kernel
theorem dq_Mo_come_97 : decode gc_Mo_come 97 = .ok (.getfield 80, 3) := by decide +kernel
theorem dq_Mo_come_100 : decode gc_Mo_come 100 = .ok (.iload 4, 2) := by decide +kernel
theorem dq_Mo_come_102 : decode gc_Mo_come 102 = .ok (.iaload, 1) := by decide +kernel
theorem dq_Mo_come_103 : decode gc_Mo_come 103 = .ok (.iastore, 1) := by decide +kernel
theorem dq_Mo_come_104 : decode gc_Mo_come 104 = .ok (.return_, 1) := by decide +kernel
abbrev gm_Mo_come : gM := (gc_Mo_come, gR_7, 1, 23, 6)
theorem gfl_Mo_80 : gFl gR_7 80 7 34 := ⟨_, _, _, rfl, by decide, (gtab_at 768 (by decide +kernel) rfl), gin_7⟩
set_option maxRecDepth 20000 in
theorem gcy_Mo_318 : gCy gR_7 318 gy_Mo_entry gc_Mo_entry 4 (some .int) 3 := ⟨(gtab_at 1123 (by decide +kernel) rfl), (gtab_at 8 (by decide +kernel) rfl), (gtab_at 1126 rfl rfl), by decide, by decide, by decide +kernel⟩
theorem gim_Mo_entry : Cond.instanceMethod gy_Mo_entry ∈ gtbl := (gtab_at 1125 (by decide +kernel) rfl)
theorem gse_Mo_entry : Cond.selects gy_Mo_entry.cls gy_Mo_entry gy_Mo_entry ∈ gtbl := (by decide +kernel)
def f_Mo_come_J103   (s2 : Int) (s1 : Int) (h : gH) : Option gO := gd (gix 7 s1) (gs (gup h 105 s1.toNat s2) (fun h7 => some (h7, 0)))
theorem w_Mo_come_J103 {o : gO} {X : gX} (hL : gLive (xZ X)) (hn : (zL (xZ X)).Nodup) (hF : gFin X none o)     {s2 : Int} {s1 : Int} {h : gH}  : gr (f_Mo_come_J103   s2 s1 h) o gm_Mo_come X h 103 [] [.inl s2, .inl s1, .inr (.inr 105)] := by
  unfold f_Mo_come_J103
  refine gr_iast (M := gm_Mo_come) dq_Mo_come_103 104 rfl gsh_105 (glj hL gsh_105 (by decide)) (fun h7 _ => ?_)
  exact gr_return (M := gm_Mo_come) dq_Mo_come_104 hF

def f_Mo_come_J39   (v1 : Int) (v2 : Int) (v3 : Int) (s0 : Int) (h : gH) : Option gO := gd (gix 7 v3) (if 1000000 ≤ (h 105 v3.toNat) then (some (h, 0)) else (gd (gix 7 v3) (gb (f_Mo_entry v1 v2 (h 105 v3.toNat) h) (fun h4 r5 => gd (gix 9 v1) (gd (gix 7 s0) (if (h4 105 s0.toNat) ≤ (gadd r5 (h4 86 v1.toNat)) then (gd (gix 7 s0) (f_Mo_come_J103   (h4 105 s0.toNat) s0 h4)) else (f_Mo_come_J103   (gadd r5 (h4 86 v1.toNat)) s0 h4)))))))
theorem w_Mo_come_J39 {o : gO} {X : gX} (hL : gLive (xZ X)) (hn : (zL (xZ X)).Nodup) (hF : gFin X none o)     {v1 : Int} {v2 : Int} {v3 : Int} {s0 : Int} {h : gH}  : gr (f_Mo_come_J39   v1 v2 v3 s0 h) o gm_Mo_come X h 39 [(0, .inr (.inr 83)), (1, .inl v1), (2, .inl v2), (3, .inl v3)] [.inl s0] := by
  unfold f_Mo_come_J39
  refine gr_istore (M := gm_Mo_come) (kk := 0) (lv' := [(4, .inl s0), (0, .inr (.inr 83)), (1, .inl v1), (2, .inl v2), (3, .inl v3)]) dq_Mo_come_39 (by decide) rfl 41 rfl ?_
  refine gr_aload_n (M := gm_Mo_come) dq_Mo_come_41 rfl 1 rfl 42 rfl ?_
  refine gr_getr (M := gm_Mo_come) dq_Mo_come_42 45 rfl gfl_Mo_80 gsh_83 rfl (gli hL gsh_83) 105 rfl ?_
  refine gr_iload_n (M := gm_Mo_come) dq_Mo_come_45 rfl 4 rfl 46 rfl ?_
  refine gr_iald (M := gm_Mo_come) dq_Mo_come_46 47 rfl gsh_105 (glj hL gsh_105 (by decide)) ?_
  refine gr_ldc (M := gm_Mo_come) (v := 1000000) dq_Mo_come_47 gk_Mo_181 ⟨by decide, by decide⟩ 49 rfl ?_
  refine gr_icmp_ge (M := gm_Mo_come) dq_Mo_come_49 104 52 rfl rfl (fun c3 => ?_) (fun c3 => ?_)
  · exact gr_return (M := gm_Mo_come) dq_Mo_come_104 hF
  refine gr_aload_n (M := gm_Mo_come) dq_Mo_come_52 rfl 1 rfl 53 rfl ?_
  refine gr_iload_n (M := gm_Mo_come) dq_Mo_come_53 rfl 2 rfl 54 rfl ?_
  refine gr_iload_n (M := gm_Mo_come) dq_Mo_come_54 rfl 3 rfl 55 rfl ?_
  refine gr_aload_n (M := gm_Mo_come) dq_Mo_come_55 rfl 1 rfl 56 rfl ?_
  refine gr_getr (M := gm_Mo_come) dq_Mo_come_56 59 rfl gfl_Mo_80 gsh_83 rfl (gli hL gsh_83) 105 rfl ?_
  refine gr_iload_n (M := gm_Mo_come) dq_Mo_come_59 rfl 4 rfl 60 rfl ?_
  refine gr_iald (M := gm_Mo_come) dq_Mo_come_60 61 rfl gsh_105 (glj hL gsh_105 (by decide)) ?_
  refine gr_callVi (M := gm_Mo_come) (as := [.inl v1, .inl v2, .inl (h 105 v3.toNat)]) dq_Mo_come_61 64 rfl rfl gcy_Mo_318 gim_Mo_entry gse_Mo_entry ⟨by decide, by decide⟩ (Nat.le_of_ble_eq_true rfl) gsh_83 rfl (gli hL gsh_83) (fun o1 hg ha hx => c_Mo_entry hL hn  hg ha hx) (fun h4 r5 _ => ?_)
  refine gr_aload_n (M := gm_Mo_come) dq_Mo_come_64 rfl 1 rfl 65 rfl ?_
  refine gr_getr (M := gm_Mo_come) dq_Mo_come_65 68 rfl gfl_Mo_16 gsh_83 rfl (gli hL gsh_83) 86 rfl ?_
  refine gr_iload_n (M := gm_Mo_come) dq_Mo_come_68 rfl 2 rfl 69 rfl ?_
  refine gr_iald (M := gm_Mo_come) dq_Mo_come_69 70 rfl gsh_86 (glj hL gsh_86 (by decide)) ?_
  refine gr_iadd (M := gm_Mo_come) dq_Mo_come_70 71 rfl ?_
  refine gr_istore (M := gm_Mo_come) (kk := 0) (lv' := [(5, .inl (gadd r5 (h4 86 v1.toNat))), (4, .inl s0), (0, .inr (.inr 83)), (1, .inl v1), (2, .inl v2), (3, .inl v3)]) dq_Mo_come_71 (by decide) rfl 73 rfl ?_
  refine gr_aload_n (M := gm_Mo_come) dq_Mo_come_73 rfl 2 rfl 74 rfl ?_
  refine gr_getr (M := gm_Mo_come) dq_Mo_come_74 77 rfl gfl_Mo_80 gsh_83 rfl (gli hL gsh_83) 105 rfl ?_
  refine gr_iload (M := gm_Mo_come) dq_Mo_come_77 1 rfl 79 rfl ?_
  refine gr_iload (M := gm_Mo_come) dq_Mo_come_79 0 rfl 81 rfl ?_
  refine gr_aload_n (M := gm_Mo_come) dq_Mo_come_81 rfl 2 rfl 82 rfl ?_
  refine gr_getr (M := gm_Mo_come) dq_Mo_come_82 85 rfl gfl_Mo_80 gsh_83 rfl (gli hL gsh_83) 105 rfl ?_
  refine gr_iload (M := gm_Mo_come) dq_Mo_come_85 1 rfl 87 rfl ?_
  refine gr_iald (M := gm_Mo_come) dq_Mo_come_87 88 rfl gsh_105 (glj hL gsh_105 (by decide)) ?_
  refine gr_icmp_ge (M := gm_Mo_come) dq_Mo_come_88 96 91 rfl rfl (fun c6 => ?_) (fun c6 => ?_)
  · refine gr_aload_n (M := gm_Mo_come) dq_Mo_come_96 rfl 2 rfl 97 rfl ?_
    refine gr_getr (M := gm_Mo_come) dq_Mo_come_97 100 rfl gfl_Mo_80 gsh_83 rfl (gli hL gsh_83) 105 rfl ?_
    refine gr_iload (M := gm_Mo_come) dq_Mo_come_100 1 rfl 102 rfl ?_
    refine gr_iald (M := gm_Mo_come) dq_Mo_come_102 103 rfl gsh_105 (glj hL gsh_105 (by decide)) ?_
    refine gr_sub (M := gm_Mo_come) (lv' := []) [] rfl ?_
    exact w_Mo_come_J103 hL hn hF   
  refine gr_iload (M := gm_Mo_come) dq_Mo_come_91 0 rfl 93 rfl ?_
  refine gr_goto (M := gm_Mo_come) dq_Mo_come_93 103 rfl ?_
  refine gr_sub (M := gm_Mo_come) (lv' := []) [] rfl ?_
  exact w_Mo_come_J103 hL hn hF   

def f_Mo_come_J19   (v1 : Int) (v2 : Int) (s0 : Int) (h : gH) : Option gO := if v2 = 0 then (gd (gix 9 v1) (f_Mo_come_J39   v1 v2 s0 (h 85 v1.toNat) h)) else (gd (gix 9 v1) (f_Mo_come_J39   v1 v2 s0 (h 84 v1.toNat) h))
theorem w_Mo_come_J19 {o : gO} {X : gX} (hL : gLive (xZ X)) (hn : (zL (xZ X)).Nodup) (hF : gFin X none o)     {v1 : Int} {v2 : Int} {s0 : Int} {h : gH}  : gr (f_Mo_come_J19   v1 v2 s0 h) o gm_Mo_come X h 19 [(0, .inr (.inr 83)), (1, .inl v1), (2, .inl v2)] [.inl s0] := by
  unfold f_Mo_come_J19
  refine gr_istore_n (M := gm_Mo_come) (lv' := [(3, .inl s0), (0, .inr (.inr 83)), (1, .inl v1), (2, .inl v2)]) dq_Mo_come_19 rfl (by decide) rfl 20 rfl ?_
  refine gr_iload_n (M := gm_Mo_come) dq_Mo_come_20 rfl 3 rfl 21 rfl ?_
  refine gr_if_ne (M := gm_Mo_come) dq_Mo_come_21 33 24 rfl rfl (fun c2 => ?_) (fun c2 => ?_)
  · refine gr_aload_n (M := gm_Mo_come) dq_Mo_come_33 rfl 1 rfl 34 rfl ?_
    refine gr_getr (M := gm_Mo_come) dq_Mo_come_34 37 rfl gfl_Mo_7 gsh_83 rfl (gli hL gsh_83) 84 rfl ?_
    refine gr_iload_n (M := gm_Mo_come) dq_Mo_come_37 rfl 2 rfl 38 rfl ?_
    refine gr_iald (M := gm_Mo_come) dq_Mo_come_38 39 rfl gsh_84 (glj hL gsh_84 (by decide)) ?_
    refine gr_sub (M := gm_Mo_come) (lv' := [(0, .inr (.inr 83)), (1, .inl v1), (2, .inl v2), (3, .inl s0)]) [1, 2, 3, 0] rfl ?_
    exact w_Mo_come_J39 hL hn hF   
  refine gr_aload_n (M := gm_Mo_come) dq_Mo_come_24 rfl 1 rfl 25 rfl ?_
  refine gr_getr (M := gm_Mo_come) dq_Mo_come_25 28 rfl gfl_Mo_13 gsh_83 rfl (gli hL gsh_83) 85 rfl ?_
  refine gr_iload_n (M := gm_Mo_come) dq_Mo_come_28 rfl 2 rfl 29 rfl ?_
  refine gr_iald (M := gm_Mo_come) dq_Mo_come_29 30 rfl gsh_85 (glj hL gsh_85 (by decide)) ?_
  refine gr_goto (M := gm_Mo_come) dq_Mo_come_30 39 rfl ?_
  refine gr_sub (M := gm_Mo_come) (lv' := [(0, .inr (.inr 83)), (1, .inl v1), (2, .inl v2), (3, .inl s0)]) [1, 2, 3, 0] rfl ?_
  exact w_Mo_come_J39 hL hn hF   

def f_Mo_come (a1 : Int) (a2 : Int) (h : gH) : Option gO := if a2 = 0 then (gd (gix 9 a1) (f_Mo_come_J19   a1 a2 (h 84 a1.toNat) h)) else (gd (gix 9 a1) (f_Mo_come_J19   a1 a2 (h 85 a1.toNat) h))
theorem c_Mo_come {Z : gZ} (hL : gLive Z) (hn : (zL Z).Nodup) {a1 : Int} {a2 : Int}  {h : gH} {o : gO} (hg : gRg h) (ha : gRl [.inr (.inr 83), .inl a1, .inl a2]) (hx : f_Mo_come a1 a2 h = some o) : gC Z gy_Mo_come gc_Mo_come 6 none 1 23 [.inr (.inr 83), .inl a1, .inl a2] h o := by
  unfold f_Mo_come at hx
  refine gC_of (lv := [(0, .inr (.inr 83)), (1, .inl a1), (2, .inl a2)]) (own := gR_7) (by decide +kernel) rfl (Nat.le_of_ble_eq_true rfl) rfl rfl hn hg ha hx (fun X hZ hF => ?_)
  subst hZ
  show gr _ o gm_Mo_come X h 0 _ _
  refine gr_iload_n (M := gm_Mo_come) dq_Mo_come_0 rfl 2 rfl 1 rfl ?_
  refine gr_if_ne (M := gm_Mo_come) dq_Mo_come_1 13 4 rfl rfl (fun c1 => ?_) (fun c1 => ?_)
  · refine gr_aload_n (M := gm_Mo_come) dq_Mo_come_13 rfl 0 rfl 14 rfl ?_
    refine gr_getr (M := gm_Mo_come) dq_Mo_come_14 17 rfl gfl_Mo_13 gsh_83 rfl (gli hL gsh_83) 85 rfl ?_
    refine gr_iload_n (M := gm_Mo_come) dq_Mo_come_17 rfl 1 rfl 18 rfl ?_
    refine gr_iald (M := gm_Mo_come) dq_Mo_come_18 19 rfl gsh_85 (glj hL gsh_85 (by decide)) ?_
    exact w_Mo_come_J19 hL hn hF   
  refine gr_aload_n (M := gm_Mo_come) dq_Mo_come_4 rfl 0 rfl 5 rfl ?_
  refine gr_getr (M := gm_Mo_come) dq_Mo_come_5 8 rfl gfl_Mo_7 gsh_83 rfl (gli hL gsh_83) 84 rfl ?_
  refine gr_iload_n (M := gm_Mo_come) dq_Mo_come_8 rfl 1 rfl 9 rfl ?_
  refine gr_iald (M := gm_Mo_come) dq_Mo_come_9 10 rfl gsh_84 (glj hL gsh_84 (by decide)) ?_
  refine gr_goto (M := gm_Mo_come) dq_Mo_come_10 19 rfl ?_
  exact w_Mo_come_J19 hL hn hF   

-- Mo_foreseen
theorem dq_Mo_foreseen_0 : decode gc_Mo_foreseen 0 = .ok (.aload_n 0, 1) := by decide +kernel
theorem dq_Mo_foreseen_1 : decode gc_Mo_foreseen 1 = .ok (.iload_n 1, 1) := by decide +kernel
theorem dq_Mo_foreseen_2 : decode gc_Mo_foreseen 2 = .ok (.invokevirtual 204, 3) := by decide +kernel
theorem dq_Mo_foreseen_5 : decode gc_Mo_foreseen 5 = .ok (.ifCond .eq 11, 3) := by decide +kernel
theorem dq_Mo_foreseen_8 : decode gc_Mo_foreseen 8 = .ok (.aload_n 0, 1) := by decide +kernel
theorem dq_Mo_foreseen_9 : decode gc_Mo_foreseen 9 = .ok (.iload_n 2, 1) := by decide +kernel
theorem dq_Mo_foreseen_10 : decode gc_Mo_foreseen 10 = .ok (.invokevirtual 204, 3) := by decide +kernel
theorem dq_Mo_foreseen_13 : decode gc_Mo_foreseen 13 = .ok (.ifCond .ne 6, 3) := by decide +kernel
theorem dq_Mo_foreseen_16 : decode gc_Mo_foreseen 16 = .ok (.ldc 208, 2) := by decide +kernel
theorem dq_Mo_foreseen_18 : decode gc_Mo_foreseen 18 = .ok (.ireturn, 1) := by decide +kernel
theorem dq_Mo_foreseen_19 : decode gc_Mo_foreseen 19 = .ok (.iload_n 3, 1) := by decide +kernel
theorem dq_Mo_foreseen_20 : decode gc_Mo_foreseen 20 = .ok (.i2l, 1) := by decide +kernel
theorem dq_Mo_foreseen_21 : decode gc_Mo_foreseen 21 = .ok (.lconst 0, 1) := by decide +kernel
theorem dq_Mo_foreseen_22 : decode gc_Mo_foreseen 22 = .ok (.ldc2_w 312, 3) := by decide +kernel
theorem dq_Mo_foreseen_25 : decode gc_Mo_foreseen 25 = .ok (.invokestatic 117, 3) := by decide +kernel
theorem dq_Mo_foreseen_28 : decode gc_Mo_foreseen 28 = .ok (.ifCond .ne 6, 3) := by decide +kernel
theorem dq_Mo_foreseen_31 : decode gc_Mo_foreseen 31 = .ok (.ldc 129, 2) := by decide +kernel
theorem dq_Mo_foreseen_33 : decode gc_Mo_foreseen 33 = .ok (.ireturn, 1) := by decide +kernel
theorem dq_Mo_foreseen_34 : decode gc_Mo_foreseen 34 = .ok (.iconst 0, 1) := by decide +kernel
theorem dq_Mo_foreseen_35 : decode gc_Mo_foreseen 35 = .ok (.istore 4, 2) := by decide +kernel
theorem dq_Mo_foreseen_37 : decode gc_Mo_foreseen 37 = .ok (.iload 4, 2) := by decide +kernel
theorem dq_Mo_foreseen_39 : decode gc_Mo_foreseen 39 = .ok (.bipush 7, 2) := by decide +kernel
theorem dq_Mo_foreseen_41 : decode gc_Mo_foreseen 41 = .ok (.if_icmp .ge 28, 3) := by decide +kernel
theorem dq_Mo_foreseen_44 : decode gc_Mo_foreseen 44 = .ok (.aload_n 0, 1) := by decide +kernel
theorem dq_Mo_foreseen_45 : decode gc_Mo_foreseen 45 = .ok (.getfield 80, 3) := by decide +kernel
theorem dq_Mo_foreseen_48 : decode gc_Mo_foreseen 48 = .ok (.iload 4, 2) := by decide +kernel
theorem dq_Mo_foreseen_50 : decode gc_Mo_foreseen 50 = .ok (.iload 4, 2) := by decide +kernel
theorem dq_Mo_foreseen_52 : decode gc_Mo_foreseen 52 = .ok (.iload_n 1, 1) := by decide +kernel
theorem dq_Mo_foreseen_53 : decode gc_Mo_foreseen 53 = .ok (.if_icmp .ne 7, 3) := by decide +kernel
theorem dq_Mo_foreseen_56 : decode gc_Mo_foreseen 56 = .ok (.iload_n 3, 1) := by decide +kernel
theorem dq_Mo_foreseen_57 : decode gc_Mo_foreseen 57 = .ok (.goto 5, 3) := by decide +kernel
theorem dq_Mo_foreseen_60 : decode gc_Mo_foreseen 60 = .ok (.ldc 181, 2) := by decide +kernel
theorem dq_Mo_foreseen_62 : decode gc_Mo_foreseen 62 = .ok (.iastore, 1) := by decide +kernel
theorem dq_Mo_foreseen_63 : decode gc_Mo_foreseen 63 = .ok (.iinc 4 1, 3) := by decide +kernel
theorem dq_Mo_foreseen_66 : decode gc_Mo_foreseen 66 = .ok (.goto (-29), 3) := by decide +kernel
theorem dq_Mo_foreseen_69 : decode gc_Mo_foreseen 69 = .ok (.iconst 0, 1) := by decide +kernel
theorem dq_Mo_foreseen_70 : decode gc_Mo_foreseen 70 = .ok (.istore 4, 2) := by decide +kernel
theorem dq_Mo_foreseen_72 : decode gc_Mo_foreseen 72 = .ok (.iload 4, 2) := by decide +kernel
theorem dq_Mo_foreseen_74 : decode gc_Mo_foreseen 74 = .ok (.aload_n 0, 1) := by decide +kernel
theorem dq_Mo_foreseen_75 : decode gc_Mo_foreseen 75 = .ok (.getfield 114, 3) := by decide +kernel
theorem dq_Mo_foreseen_78 : decode gc_Mo_foreseen 78 = .ok (.if_icmp .ge 41, 3) := by decide +kernel
theorem dq_Mo_foreseen_81 : decode gc_Mo_foreseen 81 = .ok (.iconst 0, 1) := by decide +kernel
theorem dq_Mo_foreseen_82 : decode gc_Mo_foreseen 82 = .ok (.istore 5, 2) := by decide +kernel
theorem dq_Mo_foreseen_84 : decode gc_Mo_foreseen 84 = .ok (.iload 5, 2) := by decide +kernel
theorem dq_Mo_foreseen_86 : decode gc_Mo_foreseen 86 = .ok (.aload_n 0, 1) := by decide +kernel
theorem dq_Mo_foreseen_87 : decode gc_Mo_foreseen 87 = .ok (.getfield 121, 3) := by decide +kernel
theorem dq_Mo_foreseen_90 : decode gc_Mo_foreseen 90 = .ok (.if_icmp .ge 23, 3) := by decide +kernel
theorem dq_Mo_foreseen_93 : decode gc_Mo_foreseen 93 = .ok (.aload_n 0, 1) := by decide +kernel
theorem dq_Mo_foreseen_94 : decode gc_Mo_foreseen 94 = .ok (.iload 5, 2) := by decide +kernel
theorem dq_Mo_foreseen_96 : decode gc_Mo_foreseen 96 = .ok (.iconst 0, 1) := by decide +kernel
theorem dq_Mo_foreseen_97 : decode gc_Mo_foreseen 97 = .ok (.invokevirtual 314, 3) := by decide +kernel
theorem dq_Mo_foreseen_100 : decode gc_Mo_foreseen 100 = .ok (.aload_n 0, 1) := by decide +kernel
theorem dq_Mo_foreseen_101 : decode gc_Mo_foreseen 101 = .ok (.iload 5, 2) := by decide +kernel
theorem dq_Mo_foreseen_103 : decode gc_Mo_foreseen 103 = .ok (.iconst 1, 1) := by decide +kernel
theorem dq_Mo_foreseen_104 : decode gc_Mo_foreseen 104 = .ok (.invokevirtual 314, 3) := by decide +kernel
theorem dq_Mo_foreseen_107 : decode gc_Mo_foreseen 107 = .ok (.iinc 5 1, 3) := by decide +kernel
theorem dq_Mo_foreseen_110 : decode gc_Mo_foreseen 110 = .ok (.goto (-26), 3) := by decide +kernel
theorem dq_Mo_foreseen_113 : decode gc_Mo_foreseen 113 = .ok (.iinc 4 1, 3) := by decide +kernel
theorem dq_Mo_foreseen_116 : decode gc_Mo_foreseen 116 = .ok (.goto (-44), 3) := by decide +kernel
theorem dq_Mo_foreseen_119 : decode gc_Mo_foreseen 119 = .ok (.aload_n 0, 1) := by decide +kernel
theorem dq_Mo_foreseen_120 : decode gc_Mo_foreseen 120 = .ok (.getfield 80, 3) := by decide +kernel
theorem dq_Mo_foreseen_123 : decode gc_Mo_foreseen 123 = .ok (.iload_n 2, 1) := by decide +kernel
theorem dq_Mo_foreseen_124 : decode gc_Mo_foreseen 124 = .ok (.iaload, 1) := by decide +kernel
theorem dq_Mo_foreseen_125 : decode gc_Mo_foreseen 125 = .ok (.iload_n 3, 1) := by decide +kernel
theorem dq_Mo_foreseen_126 : decode gc_Mo_foreseen 126 = .ok (.sipush 300, 3) := by decide +kernel
theorem dq_Mo_foreseen_129 : decode gc_Mo_foreseen 129 = .ok (.iadd, 1) := by decide +kernel
theorem dq_Mo_foreseen_130 : decode gc_Mo_foreseen 130 = .ok (.if_icmp .gt 12, 3) := by decide +kernel
theorem dq_Mo_foreseen_133 : decode gc_Mo_foreseen 133 = .ok (.aload_n 0, 1) := by decide +kernel
theorem dq_Mo_foreseen_134 : decode gc_Mo_foreseen 134 = .ok (.getfield 80, 3) := by decide +kernel
theorem dq_Mo_foreseen_137 : decode gc_Mo_foreseen 137 = .ok (.iload_n 2, 1) := by decide +kernel
theorem dq_Mo_foreseen_138 : decode gc_Mo_foreseen 138 = .ok (.iaload, 1) := by decide +kernel
theorem dq_Mo_foreseen_139 : decode gc_Mo_foreseen 139 = .ok (.goto 4, 3) := by decide +kernel
theorem dq_Mo_foreseen_142 : decode gc_Mo_foreseen 142 = .ok (.iconst (-1), 1) := by decide +kernel
theorem dq_Mo_foreseen_143 : decode gc_Mo_foreseen 143 = .ok (.ireturn, 1) := by decide +kernel
abbrev gm_Mo_foreseen : gM := (gc_Mo_foreseen, gR_7, 2, 48, 6)
theorem gk_Mo_312 : Cond.constantLong gR_7 312 (Int64.ofInt 999) ∈ gtbl := (gtab_at 1118 (by decide +kernel) rfl)
set_option maxRecDepth 20000 in
theorem gcy_Mo_314 : gCy gR_7 314 gy_Mo_come gc_Mo_come 6 none 2 := ⟨(gtab_at 1119 (by decide +kernel) rfl), (gtab_at 8 (by decide +kernel) rfl), (gtab_at 1122 rfl rfl), by decide, by decide, by decide +kernel⟩
theorem gim_Mo_come : Cond.instanceMethod gy_Mo_come ∈ gtbl := (gtab_at 1121 (by decide +kernel) rfl)
theorem gse_Mo_come : Cond.selects gy_Mo_come.cls gy_Mo_come gy_Mo_come ∈ gtbl := (by decide +kernel)
def f_Mo_foreseen_J62  (k37 : Int → gH → Option gO) (v1 : Int) (v2 : Int) (v3 : Int) (v4 : Int) (s2 : Int) (s1 : Int) (h : gH) : Option gO := gd (gix 7 s1) (gs (gup h 105 s1.toNat s2) (fun h12 => k37 (gadd v4 1) h12))
theorem w_Mo_foreseen_J62 {o : gO} {X : gX} (hL : gLive (xZ X)) (hn : (zL (xZ X)).Nodup) (hF : gFin X (some .int) o)    {k37 : Int → gH → Option gO} {v1 : Int} {v2 : Int} {v3 : Int} {v4 : Int} {s2 : Int} {s1 : Int} {h : gH} (hk37 : ∀ (v4 : Int) (h : gH), gr (k37 v4 h) o gm_Mo_foreseen X h 37 [(0, .inr (.inr 83)), (1, .inl v1), (2, .inl v2), (3, .inl v3), (4, .inl v4)] []) : gr (f_Mo_foreseen_J62  k37 v1 v2 v3 v4 s2 s1 h) o gm_Mo_foreseen X h 62 [(0, .inr (.inr 83)), (1, .inl v1), (2, .inl v2), (3, .inl v3), (4, .inl v4)] [.inl s2, .inl s1, .inr (.inr 105)] := by
  unfold f_Mo_foreseen_J62
  refine gr_iast (M := gm_Mo_foreseen) dq_Mo_foreseen_62 63 rfl gsh_105 (glj hL gsh_105 (by decide)) (fun h12 _ => ?_)
  refine gr_iinc (M := gm_Mo_foreseen) (lv' := [(4, .inl (gadd v4 1)), (0, .inr (.inr 83)), (1, .inl v1), (2, .inl v2), (3, .inl v3)]) dq_Mo_foreseen_63 4 rfl rfl (by decide) rfl 66 rfl ?_
  refine gr_goto (M := gm_Mo_foreseen) dq_Mo_foreseen_66 37 rfl ?_
  refine gr_sub (M := gm_Mo_foreseen) (lv' := [(0, .inr (.inr 83)), (1, .inl v1), (2, .inl v2), (3, .inl v3), (4, .inl (gadd v4 1))]) [1, 2, 3, 4, 0] rfl ?_
  exact hk37 _ _

def f_Mo_foreseen_L37 (v1 : Int) (v2 : Int) (v3 : Int) (k69 : gH → Option gO) : Nat → Int → gH → Option gO
  | 0, _, _ => none
  | n + 1, v4, h => if 7 ≤ v4 then (k69  h) else (if v4 = v1 then (f_Mo_foreseen_J62  (f_Mo_foreseen_L37 v1 v2 v3 k69 n) v1 v2 v3 v4 v3 v4 h) else (f_Mo_foreseen_J62  (f_Mo_foreseen_L37 v1 v2 v3 k69 n) v1 v2 v3 v4 1000000 v4 h))
theorem w_Mo_foreseen_L37 {o : gO} {X : gX} (hL : gLive (xZ X)) (hn : (zL (xZ X)).Nodup) (hF : gFin X (some .int) o) {v1 : Int} {v2 : Int} {v3 : Int}   {k69 : gH → Option gO} (hk69 : ∀ (h : gH), gr (k69 h) o gm_Mo_foreseen X h 69 [(0, .inr (.inr 83)), (2, .inl v2), (3, .inl v3)] []) : ∀ (n : Nat) (v4 : Int) (h : gH), gr (f_Mo_foreseen_L37 v1 v2 v3 k69 n v4 h) o gm_Mo_foreseen X h 37 [(0, .inr (.inr 83)), (1, .inl v1), (2, .inl v2), (3, .inl v3), (4, .inl v4)] [] := by
  intro n
  induction n with
  | zero => intros; exact gr_none
  | succ n ih =>
    intro v4 h
    unfold f_Mo_foreseen_L37
    refine gr_iload (M := gm_Mo_foreseen) dq_Mo_foreseen_37 4 rfl 39 rfl ?_
    refine gr_bipush (M := gm_Mo_foreseen) (v := 7) dq_Mo_foreseen_39 (by decide) ⟨by decide, by decide⟩ 41 rfl ?_
    refine gr_icmp_ge (M := gm_Mo_foreseen) dq_Mo_foreseen_41 69 44 rfl rfl (fun c10 => ?_) (fun c10 => ?_)
    · refine gr_sub (M := gm_Mo_foreseen) (lv' := [(0, .inr (.inr 83)), (2, .inl v2), (3, .inl v3)]) [0, 2, 3] rfl ?_
      exact hk69  _
    refine gr_aload_n (M := gm_Mo_foreseen) dq_Mo_foreseen_44 rfl 0 rfl 45 rfl ?_
    refine gr_getr (M := gm_Mo_foreseen) dq_Mo_foreseen_45 48 rfl gfl_Mo_80 gsh_83 rfl (gli hL gsh_83) 105 rfl ?_
    refine gr_iload (M := gm_Mo_foreseen) dq_Mo_foreseen_48 4 rfl 50 rfl ?_
    refine gr_iload (M := gm_Mo_foreseen) dq_Mo_foreseen_50 4 rfl 52 rfl ?_
    refine gr_iload_n (M := gm_Mo_foreseen) dq_Mo_foreseen_52 rfl 1 rfl 53 rfl ?_
    refine gr_icmp_ne (M := gm_Mo_foreseen) dq_Mo_foreseen_53 60 56 rfl rfl (fun c11 => ?_) (fun c11 => ?_)
    · refine gr_ldc (M := gm_Mo_foreseen) (v := 1000000) dq_Mo_foreseen_60 gk_Mo_181 ⟨by decide, by decide⟩ 62 rfl ?_
      exact w_Mo_foreseen_J62 hL hn hF   ih
    refine gr_iload_n (M := gm_Mo_foreseen) dq_Mo_foreseen_56 rfl 3 rfl 57 rfl ?_
    refine gr_goto (M := gm_Mo_foreseen) dq_Mo_foreseen_57 62 rfl ?_
    exact w_Mo_foreseen_J62 hL hn hF   ih

def f_Mo_foreseen_L84 (v2 : Int) (v3 : Int) (v4 : Int) (k113 : gH → Option gO) : Nat → Int → gH → Option gO
  | 0, _, _ => none
  | n + 1, v5, h => if (h 83 2) ≤ v5 then (k113  h) else (gb (f_Mo_come v5 0 h) (fun h16 r17 => gb (f_Mo_come v5 1 h16) (fun h18 r19 => f_Mo_foreseen_L84 v2 v3 v4 k113 n (gadd v5 1) h18)))
theorem w_Mo_foreseen_L84 {o : gO} {X : gX} (hL : gLive (xZ X)) (hn : (zL (xZ X)).Nodup) (hF : gFin X (some .int) o) {v2 : Int} {v3 : Int} {v4 : Int}   {k113 : gH → Option gO} (hk113 : ∀ (h : gH), gr (k113 h) o gm_Mo_foreseen X h 113 [(0, .inr (.inr 83)), (2, .inl v2), (3, .inl v3), (4, .inl v4)] []) : ∀ (n : Nat) (v5 : Int) (h : gH), gr (f_Mo_foreseen_L84 v2 v3 v4 k113 n v5 h) o gm_Mo_foreseen X h 84 [(0, .inr (.inr 83)), (2, .inl v2), (3, .inl v3), (4, .inl v4), (5, .inl v5)] [] := by
  intro n
  induction n with
  | zero => intros; exact gr_none
  | succ n ih =>
    intro v5 h
    unfold f_Mo_foreseen_L84
    refine gr_iload (M := gm_Mo_foreseen) dq_Mo_foreseen_84 4 rfl 86 rfl ?_
    refine gr_aload_n (M := gm_Mo_foreseen) dq_Mo_foreseen_86 rfl 0 rfl 87 rfl ?_
    refine gr_geti (M := gm_Mo_foreseen) dq_Mo_foreseen_87 90 rfl gfl_Mo_121 gsh_83 rfl (gli hL gsh_83) ?_
    refine gr_icmp_ge (M := gm_Mo_foreseen) dq_Mo_foreseen_90 113 93 rfl rfl (fun c15 => ?_) (fun c15 => ?_)
    · refine gr_sub (M := gm_Mo_foreseen) (lv' := [(0, .inr (.inr 83)), (2, .inl v2), (3, .inl v3), (4, .inl v4)]) [0, 1, 2, 3] rfl ?_
      exact hk113  _
    refine gr_aload_n (M := gm_Mo_foreseen) dq_Mo_foreseen_93 rfl 0 rfl 94 rfl ?_
    refine gr_iload (M := gm_Mo_foreseen) dq_Mo_foreseen_94 4 rfl 96 rfl ?_
    refine gr_iconst (M := gm_Mo_foreseen) (v := 0) dq_Mo_foreseen_96 rfl ⟨by decide, by decide⟩ 97 rfl ?_
    refine gr_callVv (M := gm_Mo_foreseen) (as := [.inl v5, .inl 0]) dq_Mo_foreseen_97 100 rfl rfl gcy_Mo_314 gim_Mo_come gse_Mo_come ⟨by decide, by decide⟩ (Nat.le_of_ble_eq_true rfl) gsh_83 rfl (gli hL gsh_83) (fun o1 hg ha hx => c_Mo_come hL hn  hg ha hx) (fun h16 r17 _ => ?_)
    refine gr_aload_n (M := gm_Mo_foreseen) dq_Mo_foreseen_100 rfl 0 rfl 101 rfl ?_
    refine gr_iload (M := gm_Mo_foreseen) dq_Mo_foreseen_101 4 rfl 103 rfl ?_
    refine gr_iconst (M := gm_Mo_foreseen) (v := 1) dq_Mo_foreseen_103 rfl ⟨by decide, by decide⟩ 104 rfl ?_
    refine gr_callVv (M := gm_Mo_foreseen) (as := [.inl v5, .inl 1]) dq_Mo_foreseen_104 107 rfl rfl gcy_Mo_314 gim_Mo_come gse_Mo_come ⟨by decide, by decide⟩ (Nat.le_of_ble_eq_true rfl) gsh_83 rfl (gli hL gsh_83) (fun o1 hg ha hx => c_Mo_come hL hn  hg ha hx) (fun h18 r19 _ => ?_)
    refine gr_iinc (M := gm_Mo_foreseen) (lv' := [(5, .inl (gadd v5 1)), (0, .inr (.inr 83)), (2, .inl v2), (3, .inl v3), (4, .inl v4)]) dq_Mo_foreseen_107 4 rfl rfl (by decide) rfl 110 rfl ?_
    refine gr_goto (M := gm_Mo_foreseen) dq_Mo_foreseen_110 84 rfl ?_
    refine gr_sub (M := gm_Mo_foreseen) (lv' := [(0, .inr (.inr 83)), (2, .inl v2), (3, .inl v3), (4, .inl v4), (5, .inl (gadd v5 1))]) [1, 2, 3, 4, 0] rfl ?_
    exact ih _ _

def f_Mo_foreseen_L72 (v2 : Int) (v3 : Int) (k119 : gH → Option gO) : Nat → Int → gH → Option gO
  | 0, _, _ => none
  | n + 1, v4, h => if (h 83 0) ≤ v4 then (k119  h) else (f_Mo_foreseen_L84 v2 v3 v4 (fun  h20 => f_Mo_foreseen_L72 v2 v3 k119 n (gadd v4 1) h20) 50000 0 h)
theorem w_Mo_foreseen_L72 {o : gO} {X : gX} (hL : gLive (xZ X)) (hn : (zL (xZ X)).Nodup) (hF : gFin X (some .int) o) {v2 : Int} {v3 : Int}   {k119 : gH → Option gO} (hk119 : ∀ (h : gH), gr (k119 h) o gm_Mo_foreseen X h 119 [(0, .inr (.inr 83)), (2, .inl v2), (3, .inl v3)] []) : ∀ (n : Nat) (v4 : Int) (h : gH), gr (f_Mo_foreseen_L72 v2 v3 k119 n v4 h) o gm_Mo_foreseen X h 72 [(0, .inr (.inr 83)), (2, .inl v2), (3, .inl v3), (4, .inl v4)] [] := by
  intro n
  induction n with
  | zero => intros; exact gr_none
  | succ n ih =>
    intro v4 h
    unfold f_Mo_foreseen_L72
    refine gr_iload (M := gm_Mo_foreseen) dq_Mo_foreseen_72 3 rfl 74 rfl ?_
    refine gr_aload_n (M := gm_Mo_foreseen) dq_Mo_foreseen_74 rfl 0 rfl 75 rfl ?_
    refine gr_geti (M := gm_Mo_foreseen) dq_Mo_foreseen_75 78 rfl gfl_Mo_114 gsh_83 rfl (gli hL gsh_83) ?_
    refine gr_icmp_ge (M := gm_Mo_foreseen) dq_Mo_foreseen_78 119 81 rfl rfl (fun c14 => ?_) (fun c14 => ?_)
    · refine gr_sub (M := gm_Mo_foreseen) (lv' := [(0, .inr (.inr 83)), (2, .inl v2), (3, .inl v3)]) [0, 1, 2] rfl ?_
      exact hk119  _
    refine gr_iconst (M := gm_Mo_foreseen) (v := 0) dq_Mo_foreseen_81 rfl ⟨by decide, by decide⟩ 82 rfl ?_
    refine gr_istore (M := gm_Mo_foreseen) (kk := 0) (lv' := [(5, .inl 0), (0, .inr (.inr 83)), (2, .inl v2), (3, .inl v3), (4, .inl v4)]) dq_Mo_foreseen_82 (by decide) rfl 84 rfl ?_
    refine gr_sub (M := gm_Mo_foreseen) (lv' := [(0, .inr (.inr 83)), (2, .inl v2), (3, .inl v3), (4, .inl v4), (5, .inl 0)]) [1, 2, 3, 4, 0] rfl ?_
    refine w_Mo_foreseen_L84 hL hn hF   (fun h20 => ?_) 50000 _ _
    refine gr_iinc (M := gm_Mo_foreseen) (lv' := [(4, .inl (gadd v4 1)), (0, .inr (.inr 83)), (2, .inl v2), (3, .inl v3)]) dq_Mo_foreseen_113 3 rfl rfl (by decide) rfl 116 rfl ?_
    refine gr_goto (M := gm_Mo_foreseen) dq_Mo_foreseen_116 72 rfl ?_
    refine gr_sub (M := gm_Mo_foreseen) (lv' := [(0, .inr (.inr 83)), (2, .inl v2), (3, .inl v3), (4, .inl (gadd v4 1))]) [1, 2, 3, 0] rfl ?_
    exact ih _ _

def f_Mo_foreseen (a1 : Int) (a2 : Int) (a3 : Int) (h : gH) : Option gO := gb (f_Mo_isCorner a1 h) (fun h1 r2 => if r2 = 0 then (some (h1, (-1000000001))) else (gb (f_Mo_isCorner a2 h1) (fun h4 r5 => if r5 = 0 then (some (h4, (-1000000001))) else (gb (f_Mo_in a3 0 999 h4) (fun h7 r8 => if r8 = 0 then (some (h7, (-1000000002))) else (f_Mo_foreseen_L37 a1 a2 a3 (fun  h13 => f_Mo_foreseen_L72 a2 a3 (fun  h21 => gd (gix 7 a2) (if (gadd a3 300) < (h21 105 a2.toNat) then (some (h21, (-1))) else (gd (gix 7 a2) (some (h21, (h21 105 a2.toNat)))))) 50000 0 h13) 50000 0 h7))))))
theorem c_Mo_foreseen {Z : gZ} (hL : gLive Z) (hn : (zL Z).Nodup) {a1 : Int} {a2 : Int} {a3 : Int}  {h : gH} {o : gO} (hg : gRg h) (ha : gRl [.inr (.inr 83), .inl a1, .inl a2, .inl a3]) (hx : f_Mo_foreseen a1 a2 a3 h = some o) : gC Z gy_Mo_foreseen gc_Mo_foreseen 6 (some .int) 2 48 [.inr (.inr 83), .inl a1, .inl a2, .inl a3] h o := by
  unfold f_Mo_foreseen at hx
  refine gC_of (lv := [(0, .inr (.inr 83)), (1, .inl a1), (2, .inl a2), (3, .inl a3)]) (own := gR_7) (by decide +kernel) rfl (Nat.le_of_ble_eq_true rfl) rfl rfl hn hg ha hx (fun X hZ hF => ?_)
  subst hZ
  show gr _ o gm_Mo_foreseen X h 0 _ _
  refine gr_aload_n (M := gm_Mo_foreseen) dq_Mo_foreseen_0 rfl 0 rfl 1 rfl ?_
  refine gr_iload_n (M := gm_Mo_foreseen) dq_Mo_foreseen_1 rfl 1 rfl 2 rfl ?_
  refine gr_callVi (M := gm_Mo_foreseen) (as := [.inl a1]) dq_Mo_foreseen_2 5 rfl rfl gcy_Mo_204 gim_Mo_isCorner gse_Mo_isCorner ⟨by decide, by decide⟩ (Nat.le_of_ble_eq_true rfl) gsh_83 rfl (gli hL gsh_83) (fun o1 hg ha hx => c_Mo_isCorner hL hn  hg ha hx) (fun h1 r2 _ => ?_)
  refine gr_if_eq (M := gm_Mo_foreseen) dq_Mo_foreseen_5 16 8 rfl rfl (fun c3 => ?_) (fun c3 => ?_)
  · refine gr_ldc (M := gm_Mo_foreseen) (v := (-1000000001)) dq_Mo_foreseen_16 gk_Mo_208 ⟨by decide, by decide⟩ 18 rfl ?_
    exact gr_ireturn (M := gm_Mo_foreseen) dq_Mo_foreseen_18 hF
  refine gr_aload_n (M := gm_Mo_foreseen) dq_Mo_foreseen_8 rfl 0 rfl 9 rfl ?_
  refine gr_iload_n (M := gm_Mo_foreseen) dq_Mo_foreseen_9 rfl 2 rfl 10 rfl ?_
  refine gr_callVi (M := gm_Mo_foreseen) (as := [.inl a2]) dq_Mo_foreseen_10 13 rfl rfl gcy_Mo_204 gim_Mo_isCorner gse_Mo_isCorner ⟨by decide, by decide⟩ (Nat.le_of_ble_eq_true rfl) gsh_83 rfl (gli hL gsh_83) (fun o1 hg ha hx => c_Mo_isCorner hL hn  hg ha hx) (fun h4 r5 _ => ?_)
  refine gr_if_ne (M := gm_Mo_foreseen) dq_Mo_foreseen_13 19 16 rfl rfl (fun c6 => ?_) (fun c6 => ?_)
  · refine gr_iload_n (M := gm_Mo_foreseen) dq_Mo_foreseen_19 rfl 3 rfl 20 rfl ?_
    refine gr_i2l (M := gm_Mo_foreseen) dq_Mo_foreseen_20 21 rfl ?_
    refine gr_lconst (M := gm_Mo_foreseen) (v := 0) dq_Mo_foreseen_21 (by decide) ⟨by decide, by decide⟩ 22 rfl ?_
    refine gr_ldc2_w (M := gm_Mo_foreseen) (v := 999) dq_Mo_foreseen_22 gk_Mo_312 ⟨by decide, by decide⟩ 25 rfl ?_
    refine gr_callSi (M := gm_Mo_foreseen) (as := [.inr (.inl a3), .inr (.inl 0), .inr (.inl 999)]) dq_Mo_foreseen_25 28 rfl rfl gcy_Mo_117 gst_Mo_in ⟨by decide, by decide⟩ (Nat.le_of_ble_eq_true rfl) (fun o1 hg ha hx => c_Mo_in hL hn  hg ha hx) (fun h7 r8 _ => ?_)
    refine gr_if_ne (M := gm_Mo_foreseen) dq_Mo_foreseen_28 34 31 rfl rfl (fun c9 => ?_) (fun c9 => ?_)
    · refine gr_iconst (M := gm_Mo_foreseen) (v := 0) dq_Mo_foreseen_34 rfl ⟨by decide, by decide⟩ 35 rfl ?_
      refine gr_istore (M := gm_Mo_foreseen) (kk := 0) (lv' := [(4, .inl 0), (0, .inr (.inr 83)), (1, .inl a1), (2, .inl a2), (3, .inl a3)]) dq_Mo_foreseen_35 (by decide) rfl 37 rfl ?_
      refine gr_sub (M := gm_Mo_foreseen) (lv' := [(0, .inr (.inr 83)), (1, .inl a1), (2, .inl a2), (3, .inl a3), (4, .inl 0)]) [1, 2, 3, 4, 0] rfl ?_
      refine w_Mo_foreseen_L37 hL hn hF   (fun h13 => ?_) 50000 _ _
      refine gr_iconst (M := gm_Mo_foreseen) (v := 0) dq_Mo_foreseen_69 rfl ⟨by decide, by decide⟩ 70 rfl ?_
      refine gr_istore (M := gm_Mo_foreseen) (kk := 0) (lv' := [(4, .inl 0), (0, .inr (.inr 83)), (2, .inl a2), (3, .inl a3)]) dq_Mo_foreseen_70 (by decide) rfl 72 rfl ?_
      refine gr_sub (M := gm_Mo_foreseen) (lv' := [(0, .inr (.inr 83)), (2, .inl a2), (3, .inl a3), (4, .inl 0)]) [1, 2, 3, 0] rfl ?_
      refine w_Mo_foreseen_L72 hL hn hF   (fun h21 => ?_) 50000 _ _
      refine gr_aload_n (M := gm_Mo_foreseen) dq_Mo_foreseen_119 rfl 0 rfl 120 rfl ?_
      refine gr_getr (M := gm_Mo_foreseen) dq_Mo_foreseen_120 123 rfl gfl_Mo_80 gsh_83 rfl (gli hL gsh_83) 105 rfl ?_
      refine gr_iload_n (M := gm_Mo_foreseen) dq_Mo_foreseen_123 rfl 1 rfl 124 rfl ?_
      refine gr_iald (M := gm_Mo_foreseen) dq_Mo_foreseen_124 125 rfl gsh_105 (glj hL gsh_105 (by decide)) ?_
      refine gr_iload_n (M := gm_Mo_foreseen) dq_Mo_foreseen_125 rfl 2 rfl 126 rfl ?_
      refine gr_sipush (M := gm_Mo_foreseen) (v := 300) dq_Mo_foreseen_126 (by decide) ⟨by decide, by decide⟩ 129 rfl ?_
      refine gr_iadd (M := gm_Mo_foreseen) dq_Mo_foreseen_129 130 rfl ?_
      refine gr_icmp_gt (M := gm_Mo_foreseen) dq_Mo_foreseen_130 142 133 rfl rfl (fun c22 => ?_) (fun c22 => ?_)
      · refine gr_iconst (M := gm_Mo_foreseen) (v := (-1)) dq_Mo_foreseen_142 rfl ⟨by decide, by decide⟩ 143 rfl ?_
        exact gr_ireturn (M := gm_Mo_foreseen) dq_Mo_foreseen_143 hF
      refine gr_aload_n (M := gm_Mo_foreseen) dq_Mo_foreseen_133 rfl 0 rfl 134 rfl ?_
      refine gr_getr (M := gm_Mo_foreseen) dq_Mo_foreseen_134 137 rfl gfl_Mo_80 gsh_83 rfl (gli hL gsh_83) 105 rfl ?_
      refine gr_iload_n (M := gm_Mo_foreseen) dq_Mo_foreseen_137 rfl 1 rfl 138 rfl ?_
      refine gr_iald (M := gm_Mo_foreseen) dq_Mo_foreseen_138 139 rfl gsh_105 (glj hL gsh_105 (by decide)) ?_
      refine gr_goto (M := gm_Mo_foreseen) dq_Mo_foreseen_139 143 rfl ?_
      exact gr_ireturn (M := gm_Mo_foreseen) dq_Mo_foreseen_143 hF
    refine gr_ldc (M := gm_Mo_foreseen) (v := (-1000000002)) dq_Mo_foreseen_31 gk_Mo_129 ⟨by decide, by decide⟩ 33 rfl ?_
    exact gr_ireturn (M := gm_Mo_foreseen) dq_Mo_foreseen_33 hF
  refine gr_ldc (M := gm_Mo_foreseen) (v := (-1000000001)) dq_Mo_foreseen_16 gk_Mo_208 ⟨by decide, by decide⟩ 18 rfl ?_
  exact gr_ireturn (M := gm_Mo_foreseen) dq_Mo_foreseen_18 hF

-- Mo_buy
theorem dq_Mo_buy_0 : decode gc_Mo_buy 0 = .ok (.aload_n 0, 1) := by decide +kernel
theorem dq_Mo_buy_1 : decode gc_Mo_buy 1 = .ok (.getfield 83, 3) := by decide +kernel
theorem dq_Mo_buy_4 : decode gc_Mo_buy 4 = .ok (.bipush 7, 2) := by decide +kernel
theorem dq_Mo_buy_6 : decode gc_Mo_buy 6 = .ok (.iload_n 1, 1) := by decide +kernel
theorem dq_Mo_buy_7 : decode gc_Mo_buy 7 = .ok (.imul, 1) := by decide +kernel
theorem dq_Mo_buy_8 : decode gc_Mo_buy 8 = .ok (.iload_n 2, 1) := by decide +kernel
theorem dq_Mo_buy_9 : decode gc_Mo_buy 9 = .ok (.iadd, 1) := by decide +kernel
theorem dq_Mo_buy_10 : decode gc_Mo_buy 10 = .ok (.iaload, 1) := by decide +kernel
theorem dq_Mo_buy_11 : decode gc_Mo_buy 11 = .ok (.istore 5, 2) := by decide +kernel
theorem dq_Mo_buy_13 : decode gc_Mo_buy 13 = .ok (.iload_n 1, 1) := by decide +kernel
theorem dq_Mo_buy_14 : decode gc_Mo_buy 14 = .ok (.iload_n 3, 1) := by decide +kernel
theorem dq_Mo_buy_15 : decode gc_Mo_buy 15 = .ok (.if_icmp .ge 55, 3) := by decide +kernel
theorem dq_Mo_buy_18 : decode gc_Mo_buy 18 = .ok (.aload_n 0, 1) := by decide +kernel
theorem dq_Mo_buy_19 : decode gc_Mo_buy 19 = .ok (.getfield 83, 3) := by decide +kernel
theorem dq_Mo_buy_22 : decode gc_Mo_buy 22 = .ok (.bipush 7, 2) := by decide +kernel
theorem dq_Mo_buy_24 : decode gc_Mo_buy 24 = .ok (.iload_n 1, 1) := by decide +kernel
theorem dq_Mo_buy_25 : decode gc_Mo_buy 25 = .ok (.imul, 1) := by decide +kernel
theorem dq_Mo_buy_26 : decode gc_Mo_buy 26 = .ok (.bipush 7, 2) := by decide +kernel
theorem dq_Mo_buy_28 : decode gc_Mo_buy 28 = .ok (.iadd, 1) := by decide +kernel
theorem dq_Mo_buy_29 : decode gc_Mo_buy 29 = .ok (.iload_n 2, 1) := by decide +kernel
theorem dq_Mo_buy_30 : decode gc_Mo_buy 30 = .ok (.iadd, 1) := by decide +kernel
theorem dq_Mo_buy_31 : decode gc_Mo_buy 31 = .ok (.iload 5, 2) := by decide +kernel
theorem dq_Mo_buy_33 : decode gc_Mo_buy 33 = .ok (.aload_n 0, 1) := by decide +kernel
theorem dq_Mo_buy_34 : decode gc_Mo_buy 34 = .ok (.getfield 83, 3) := by decide +kernel
theorem dq_Mo_buy_37 : decode gc_Mo_buy 37 = .ok (.bipush 7, 2) := by decide +kernel
theorem dq_Mo_buy_39 : decode gc_Mo_buy 39 = .ok (.iload_n 1, 1) := by decide +kernel
theorem dq_Mo_buy_40 : decode gc_Mo_buy 40 = .ok (.imul, 1) := by decide +kernel
theorem dq_Mo_buy_41 : decode gc_Mo_buy 41 = .ok (.bipush 7, 2) := by decide +kernel
theorem dq_Mo_buy_43 : decode gc_Mo_buy 43 = .ok (.iadd, 1) := by decide +kernel
theorem dq_Mo_buy_44 : decode gc_Mo_buy 44 = .ok (.iload_n 2, 1) := by decide +kernel
theorem dq_Mo_buy_45 : decode gc_Mo_buy 45 = .ok (.iadd, 1) := by decide +kernel
theorem dq_Mo_buy_46 : decode gc_Mo_buy 46 = .ok (.iaload, 1) := by decide +kernel
theorem dq_Mo_buy_47 : decode gc_Mo_buy 47 = .ok (.if_icmp .ge 8, 3) := by decide +kernel
theorem dq_Mo_buy_50 : decode gc_Mo_buy 50 = .ok (.iload 5, 2) := by decide +kernel
theorem dq_Mo_buy_52 : decode gc_Mo_buy 52 = .ok (.goto 17, 3) := by decide +kernel
theorem dq_Mo_buy_55 : decode gc_Mo_buy 55 = .ok (.aload_n 0, 1) := by decide +kernel
theorem dq_Mo_buy_56 : decode gc_Mo_buy 56 = .ok (.getfield 83, 3) := by decide +kernel
theorem dq_Mo_buy_59 : decode gc_Mo_buy 59 = .ok (.bipush 7, 2) := by decide +kernel
theorem dq_Mo_buy_61 : decode gc_Mo_buy 61 = .ok (.iload_n 1, 1) := by decide +kernel
theorem dq_Mo_buy_62 : decode gc_Mo_buy 62 = .ok (.imul, 1) := by decide +kernel
theorem dq_Mo_buy_63 : decode gc_Mo_buy 63 = .ok (.bipush 7, 2) := by decide +kernel
theorem dq_Mo_buy_65 : decode gc_Mo_buy 65 = .ok (.iadd, 1) := by decide +kernel
theorem dq_Mo_buy_66 : decode gc_Mo_buy 66 = .ok (.iload_n 2, 1) := by decide +kernel
theorem dq_Mo_buy_67 : decode gc_Mo_buy 67 = .ok (.iadd, 1) := by decide +kernel
theorem dq_Mo_buy_68 : decode gc_Mo_buy 68 = .ok (.iaload, 1) := by decide +kernel
theorem dq_Mo_buy_69 : decode gc_Mo_buy 69 = .ok (.iastore, 1) := by decide +kernel
theorem dq_Mo_buy_70 : decode gc_Mo_buy 70 = .ok (.iconst 0, 1) := by decide +kernel
theorem dq_Mo_buy_71 : decode gc_Mo_buy 71 = .ok (.istore 6, 2) := by decide +kernel
theorem dq_Mo_buy_73 : decode gc_Mo_buy 73 = .ok (.iload 6, 2) := by decide +kernel
theorem dq_Mo_buy_75 : decode gc_Mo_buy 75 = .ok (.aload_n 0, 1) := by decide +kernel
theorem dq_Mo_buy_76 : decode gc_Mo_buy 76 = .ok (.getfield 121, 3) := by decide +kernel
theorem dq_Mo_buy_79 : decode gc_Mo_buy 79 = .ok (.if_icmp .ge 159, 3) := by decide +kernel
theorem dq_Mo_buy_82 : decode gc_Mo_buy 82 = .ok (.aload_n 0, 1) := by decide +kernel
theorem dq_Mo_buy_83 : decode gc_Mo_buy 83 = .ok (.iload 6, 2) := by decide +kernel
theorem dq_Mo_buy_85 : decode gc_Mo_buy 85 = .ok (.iload_n 2, 1) := by decide +kernel
theorem dq_Mo_buy_86 : decode gc_Mo_buy 86 = .ok (.invokevirtual 218, 3) := by decide +kernel
theorem dq_Mo_buy_89 : decode gc_Mo_buy 89 = .ok (.istore 7, 2) := by decide +kernel
theorem dq_Mo_buy_91 : decode gc_Mo_buy 91 = .ok (.aload_n 0, 1) := by decide +kernel
theorem dq_Mo_buy_92 : decode gc_Mo_buy 92 = .ok (.getfield 7, 3) := by decide +kernel
theorem dq_Mo_buy_95 : decode gc_Mo_buy 95 = .ok (.iload 6, 2) := by decide +kernel
theorem dq_Mo_buy_97 : decode gc_Mo_buy 97 = .ok (.iaload, 1) := by decide +kernel
theorem dq_Mo_buy_98 : decode gc_Mo_buy 98 = .ok (.iload_n 2, 1) := by decide +kernel
theorem dq_Mo_buy_99 : decode gc_Mo_buy 99 = .ok (.if_icmp .ne 7, 3) := by decide +kernel
theorem dq_Mo_buy_102 : decode gc_Mo_buy 102 = .ok (.iconst 0, 1) := by decide +kernel
theorem dq_Mo_buy_103 : decode gc_Mo_buy 103 = .ok (.goto 4, 3) := by decide +kernel
theorem dq_Mo_buy_106 : decode gc_Mo_buy 106 = .ok (.iconst 1, 1) := by decide +kernel
theorem dq_Mo_buy_107 : decode gc_Mo_buy 107 = .ok (.istore 8, 2) := by decide +kernel
theorem dq_Mo_buy_109 : decode gc_Mo_buy 109 = .ok (.aload_n 0, 1) := by decide +kernel
theorem dq_Mo_buy_110 : decode gc_Mo_buy 110 = .ok (.getfield 34, 3) := by decide +kernel
theorem dq_Mo_buy_113 : decode gc_Mo_buy 113 = .ok (.iconst 2, 1) := by decide +kernel
theorem dq_Mo_buy_114 : decode gc_Mo_buy 114 = .ok (.iload 6, 2) := by decide +kernel
theorem dq_Mo_buy_116 : decode gc_Mo_buy 116 = .ok (.iadd, 1) := by decide +kernel
theorem dq_Mo_buy_117 : decode gc_Mo_buy 117 = .ok (.iaload, 1) := by decide +kernel
theorem dq_Mo_buy_118 : decode gc_Mo_buy 118 = .ok (.istore 9, 2) := by decide +kernel
theorem dq_Mo_buy_120 : decode gc_Mo_buy 120 = .ok (.iload 9, 2) := by decide +kernel
theorem dq_Mo_buy_122 : decode gc_Mo_buy 122 = .ok (.iconst 1, 1) := by decide +kernel
theorem dq_Mo_buy_123 : decode gc_Mo_buy 123 = .ok (.if_icmp .ne 23, 3) := by decide +kernel
theorem dq_Mo_buy_126 : decode gc_Mo_buy 126 = .ok (.iload 4, 2) := by decide +kernel
theorem dq_Mo_buy_128 : decode gc_Mo_buy 128 = .ok (.iload_n 1, 1) := by decide +kernel
theorem dq_Mo_buy_129 : decode gc_Mo_buy 129 = .ok (.iadd, 1) := by decide +kernel
theorem dq_Mo_buy_130 : decode gc_Mo_buy 130 = .ok (.aload_n 0, 1) := by decide +kernel
theorem dq_Mo_buy_131 : decode gc_Mo_buy 131 = .ok (.getfield 182, 3) := by decide +kernel
theorem dq_Mo_buy_134 : decode gc_Mo_buy 134 = .ok (.idiv, 1) := by decide +kernel
theorem dq_Mo_buy_135 : decode gc_Mo_buy 135 = .ok (.iconst 2, 1) := by decide +kernel
theorem dq_Mo_buy_136 : decode gc_Mo_buy 136 = .ok (.irem, 1) := by decide +kernel
theorem dq_Mo_buy_137 : decode gc_Mo_buy 137 = .ok (.iload 8, 2) := by decide +kernel
theorem dq_Mo_buy_139 : decode gc_Mo_buy 139 = .ok (.if_icmp .eq 7, 3) := by decide +kernel
theorem dq_Mo_buy_142 : decode gc_Mo_buy 142 = .ok (.iconst 1, 1) := by decide +kernel
theorem dq_Mo_buy_143 : decode gc_Mo_buy 143 = .ok (.goto 4, 3) := by decide +kernel
theorem dq_Mo_buy_146 : decode gc_Mo_buy 146 = .ok (.iconst 0, 1) := by decide +kernel
theorem dq_Mo_buy_147 : decode gc_Mo_buy 147 = .ok (.istore 10, 2) := by decide +kernel
theorem dq_Mo_buy_149 : decode gc_Mo_buy 149 = .ok (.iload 7, 2) := by decide +kernel
theorem dq_Mo_buy_151 : decode gc_Mo_buy 151 = .ok (.ifCond .lt 81, 3) := by decide +kernel
theorem dq_Mo_buy_154 : decode gc_Mo_buy 154 = .ok (.iload_n 1, 1) := by decide +kernel
theorem dq_Mo_buy_155 : decode gc_Mo_buy 155 = .ok (.aload_n 0, 1) := by decide +kernel
theorem dq_Mo_buy_156 : decode gc_Mo_buy 156 = .ok (.getfield 16, 3) := by decide +kernel
theorem dq_Mo_buy_159 : decode gc_Mo_buy 159 = .ok (.iload 6, 2) := by decide +kernel
theorem dq_Mo_buy_161 : decode gc_Mo_buy 161 = .ok (.iaload, 1) := by decide +kernel
theorem dq_Mo_buy_162 : decode gc_Mo_buy 162 = .ok (.iadd, 1) := by decide +kernel
theorem dq_Mo_buy_163 : decode gc_Mo_buy 163 = .ok (.iload_n 3, 1) := by decide +kernel
theorem dq_Mo_buy_164 : decode gc_Mo_buy 164 = .ok (.if_icmp .gt 68, 3) := by decide +kernel
theorem dq_Mo_buy_167 : decode gc_Mo_buy 167 = .ok (.iload 9, 2) := by decide +kernel
theorem dq_Mo_buy_169 : decode gc_Mo_buy 169 = .ok (.iconst 4, 1) := by decide +kernel
theorem dq_Mo_buy_170 : decode gc_Mo_buy 170 = .ok (.if_icmp .ne 8, 3) := by decide +kernel
theorem dq_Mo_buy_173 : decode gc_Mo_buy 173 = .ok (.iload 8, 2) := by decide +kernel
theorem dq_Mo_buy_175 : decode gc_Mo_buy 175 = .ok (.ifCond .ne 57, 3) := by decide +kernel
theorem dq_Mo_buy_178 : decode gc_Mo_buy 178 = .ok (.bipush 7, 2) := by decide +kernel
theorem dq_Mo_buy_180 : decode gc_Mo_buy 180 = .ok (.iload_n 1, 1) := by decide +kernel
theorem dq_Mo_buy_181 : decode gc_Mo_buy 181 = .ok (.aload_n 0, 1) := by decide +kernel
theorem dq_Mo_buy_182 : decode gc_Mo_buy 182 = .ok (.getfield 16, 3) := by decide +kernel
theorem dq_Mo_buy_185 : decode gc_Mo_buy 185 = .ok (.iload 6, 2) := by decide +kernel
theorem dq_Mo_buy_187 : decode gc_Mo_buy 187 = .ok (.iaload, 1) := by decide +kernel
theorem dq_Mo_buy_188 : decode gc_Mo_buy 188 = .ok (.iadd, 1) := by decide +kernel
theorem dq_Mo_buy_189 : decode gc_Mo_buy 189 = .ok (.imul, 1) := by decide +kernel
theorem dq_Mo_buy_190 : decode gc_Mo_buy 190 = .ok (.iload 7, 2) := by decide +kernel
theorem dq_Mo_buy_192 : decode gc_Mo_buy 192 = .ok (.iadd, 1) := by decide +kernel
theorem dq_Mo_buy_193 : decode gc_Mo_buy 193 = .ok (.istore 11, 2) := by decide +kernel
theorem dq_Mo_buy_195 : decode gc_Mo_buy 195 = .ok (.aload_n 0, 1) := by decide +kernel
theorem dq_Mo_buy_196 : decode gc_Mo_buy 196 = .ok (.getfield 83, 3) := by decide +kernel
theorem dq_Mo_buy_199 : decode gc_Mo_buy 199 = .ok (.iload 11, 2) := by decide +kernel
theorem dq_Mo_buy_201 : decode gc_Mo_buy 201 = .ok (.iload 5, 2) := by decide +kernel
theorem dq_Mo_buy_203 : decode gc_Mo_buy 203 = .ok (.iload 10, 2) := by decide +kernel
theorem dq_Mo_buy_205 : decode gc_Mo_buy 205 = .ok (.iadd, 1) := by decide +kernel
theorem dq_Mo_buy_206 : decode gc_Mo_buy 206 = .ok (.aload_n 0, 1) := by decide +kernel
theorem dq_Mo_buy_207 : decode gc_Mo_buy 207 = .ok (.getfield 83, 3) := by decide +kernel
theorem dq_Mo_buy_210 : decode gc_Mo_buy 210 = .ok (.iload 11, 2) := by decide +kernel
theorem dq_Mo_buy_212 : decode gc_Mo_buy 212 = .ok (.iaload, 1) := by decide +kernel
theorem dq_Mo_buy_213 : decode gc_Mo_buy 213 = .ok (.if_icmp .ge 11, 3) := by decide +kernel
theorem dq_Mo_buy_216 : decode gc_Mo_buy 216 = .ok (.iload 5, 2) := by decide +kernel
theorem dq_Mo_buy_218 : decode gc_Mo_buy 218 = .ok (.iload 10, 2) := by decide +kernel
theorem dq_Mo_buy_220 : decode gc_Mo_buy 220 = .ok (.iadd, 1) := by decide +kernel
theorem dq_Mo_buy_221 : decode gc_Mo_buy 221 = .ok (.goto 10, 3) := by decide +kernel
theorem dq_Mo_buy_224 : decode gc_Mo_buy 224 = .ok (.aload_n 0, 1) := by decide +kernel
theorem dq_Mo_buy_225 : decode gc_Mo_buy 225 = .ok (.getfield 83, 3) := by decide +kernel
theorem dq_Mo_buy_228 : decode gc_Mo_buy 228 = .ok (.iload 11, 2) := by decide +kernel
theorem dq_Mo_buy_230 : decode gc_Mo_buy 230 = .ok (.iaload, 1) := by decide +kernel
theorem dq_Mo_buy_231 : decode gc_Mo_buy 231 = .ok (.iastore, 1) := by decide +kernel
theorem dq_Mo_buy_232 : decode gc_Mo_buy 232 = .ok (.iinc 6 1, 3) := by decide +kernel
theorem dq_Mo_buy_235 : decode gc_Mo_buy 235 = .ok (.goto (-162), 3) := by decide +kernel
theorem dq_Mo_buy_238 : decode gc_Mo_buy 238 = .ok (.return_, 1) := by decide +kernel
abbrev gm_Mo_buy : gM := (gc_Mo_buy, gR_7, 1, 22, 12)
theorem gfl_Mo_83 : gFl gR_7 83 7 35 := ⟨_, _, _, rfl, by decide, (gtab_at 769 (by decide +kernel) rfl), gin_7⟩
def f_Mo_buy_J232  (k73 : Int → gH → Option gO) (v1 : Int) (v2 : Int) (v3 : Int) (v4 : Int) (v5 : Int) (v6 : Int) (h : gH) : Option gO := k73 (gadd v6 1) h
theorem w_Mo_buy_J232 {o : gO} {X : gX} (hL : gLive (xZ X)) (hn : (zL (xZ X)).Nodup) (hF : gFin X none o)    {k73 : Int → gH → Option gO} {v1 : Int} {v2 : Int} {v3 : Int} {v4 : Int} {v5 : Int} {v6 : Int} {h : gH} (hk73 : ∀ (v6 : Int) (h : gH), gr (k73 v6 h) o gm_Mo_buy X h 73 [(0, .inr (.inr 83)), (1, .inl v1), (2, .inl v2), (3, .inl v3), (4, .inl v4), (5, .inl v5), (6, .inl v6)] []) : gr (f_Mo_buy_J232  k73 v1 v2 v3 v4 v5 v6 h) o gm_Mo_buy X h 232 [(0, .inr (.inr 83)), (1, .inl v1), (2, .inl v2), (3, .inl v3), (4, .inl v4), (5, .inl v5), (6, .inl v6)] [] := by
  unfold f_Mo_buy_J232
  refine gr_iinc (M := gm_Mo_buy) (lv' := [(6, .inl (gadd v6 1)), (0, .inr (.inr 83)), (1, .inl v1), (2, .inl v2), (3, .inl v3), (4, .inl v4), (5, .inl v5)]) dq_Mo_buy_232 6 rfl rfl (by decide) rfl 235 rfl ?_
  refine gr_goto (M := gm_Mo_buy) dq_Mo_buy_235 73 rfl ?_
  refine gr_sub (M := gm_Mo_buy) (lv' := [(0, .inr (.inr 83)), (1, .inl v1), (2, .inl v2), (3, .inl v3), (4, .inl v4), (5, .inl v5), (6, .inl (gadd v6 1))]) [1, 2, 3, 4, 5, 6, 0] rfl ?_
  exact hk73 _ _

def f_Mo_buy_J231  (k73 : Int → gH → Option gO) (v1 : Int) (v2 : Int) (v3 : Int) (v4 : Int) (v5 : Int) (v6 : Int) (s2 : Int) (s1 : Int) (h : gH) : Option gO := gd (gix 2107 s1) (gs (gup h 106 s1.toNat s2) (fun h11 => f_Mo_buy_J232  (k73) v1 v2 v3 v4 v5 v6 h11))
theorem w_Mo_buy_J231 {o : gO} {X : gX} (hL : gLive (xZ X)) (hn : (zL (xZ X)).Nodup) (hF : gFin X none o)    {k73 : Int → gH → Option gO} {v1 : Int} {v2 : Int} {v3 : Int} {v4 : Int} {v5 : Int} {v6 : Int} {s2 : Int} {s1 : Int} {h : gH} (hk73 : ∀ (v6 : Int) (h : gH), gr (k73 v6 h) o gm_Mo_buy X h 73 [(0, .inr (.inr 83)), (1, .inl v1), (2, .inl v2), (3, .inl v3), (4, .inl v4), (5, .inl v5), (6, .inl v6)] []) : gr (f_Mo_buy_J231  k73 v1 v2 v3 v4 v5 v6 s2 s1 h) o gm_Mo_buy X h 231 [(0, .inr (.inr 83)), (1, .inl v1), (2, .inl v2), (3, .inl v3), (4, .inl v4), (5, .inl v5), (6, .inl v6)] [.inl s2, .inl s1, .inr (.inr 106)] := by
  unfold f_Mo_buy_J231
  refine gr_iast (M := gm_Mo_buy) dq_Mo_buy_231 232 rfl gsh_106 (glj hL gsh_106 (by decide)) (fun h11 _ => ?_)
  exact w_Mo_buy_J232 hL hn hF   hk73

def f_Mo_buy_J178  (k73 : Int → gH → Option gO) (v1 : Int) (v2 : Int) (v3 : Int) (v4 : Int) (v5 : Int) (v6 : Int) (v7 : Int) (v10 : Int) (h : gH) : Option gO := gd (gix 9 v6) (gd (gix 2107 (gadd (gmul 7 (gadd v1 (h 86 v6.toNat))) v7)) (if (h 106 (gadd (gmul 7 (gadd v1 (h 86 v6.toNat))) v7).toNat) ≤ (gadd v5 v10) then (gd (gix 2107 (gadd (gmul 7 (gadd v1 (h 86 v6.toNat))) v7)) (f_Mo_buy_J231  (k73) v1 v2 v3 v4 v5 v6 (h 106 (gadd (gmul 7 (gadd v1 (h 86 v6.toNat))) v7).toNat) (gadd (gmul 7 (gadd v1 (h 86 v6.toNat))) v7) h)) else (f_Mo_buy_J231  (k73) v1 v2 v3 v4 v5 v6 (gadd v5 v10) (gadd (gmul 7 (gadd v1 (h 86 v6.toNat))) v7) h)))
theorem w_Mo_buy_J178 {o : gO} {X : gX} (hL : gLive (xZ X)) (hn : (zL (xZ X)).Nodup) (hF : gFin X none o)    {k73 : Int → gH → Option gO} {v1 : Int} {v2 : Int} {v3 : Int} {v4 : Int} {v5 : Int} {v6 : Int} {v7 : Int} {v10 : Int} {h : gH} (hk73 : ∀ (v6 : Int) (h : gH), gr (k73 v6 h) o gm_Mo_buy X h 73 [(0, .inr (.inr 83)), (1, .inl v1), (2, .inl v2), (3, .inl v3), (4, .inl v4), (5, .inl v5), (6, .inl v6)] []) : gr (f_Mo_buy_J178  k73 v1 v2 v3 v4 v5 v6 v7 v10 h) o gm_Mo_buy X h 178 [(0, .inr (.inr 83)), (1, .inl v1), (2, .inl v2), (3, .inl v3), (4, .inl v4), (5, .inl v5), (6, .inl v6), (7, .inl v7), (10, .inl v10)] [] := by
  unfold f_Mo_buy_J178
  refine gr_bipush (M := gm_Mo_buy) (v := 7) dq_Mo_buy_178 (by decide) ⟨by decide, by decide⟩ 180 rfl ?_
  refine gr_iload_n (M := gm_Mo_buy) dq_Mo_buy_180 rfl 1 rfl 181 rfl ?_
  refine gr_aload_n (M := gm_Mo_buy) dq_Mo_buy_181 rfl 0 rfl 182 rfl ?_
  refine gr_getr (M := gm_Mo_buy) dq_Mo_buy_182 185 rfl gfl_Mo_16 gsh_83 rfl (gli hL gsh_83) 86 rfl ?_
  refine gr_iload (M := gm_Mo_buy) dq_Mo_buy_185 6 rfl 187 rfl ?_
  refine gr_iald (M := gm_Mo_buy) dq_Mo_buy_187 188 rfl gsh_86 (glj hL gsh_86 (by decide)) ?_
  refine gr_iadd (M := gm_Mo_buy) dq_Mo_buy_188 189 rfl ?_
  refine gr_imul (M := gm_Mo_buy) dq_Mo_buy_189 190 rfl ?_
  refine gr_iload (M := gm_Mo_buy) dq_Mo_buy_190 7 rfl 192 rfl ?_
  refine gr_iadd (M := gm_Mo_buy) dq_Mo_buy_192 193 rfl ?_
  refine gr_istore (M := gm_Mo_buy) (kk := 0) (lv' := [(11, .inl (gadd (gmul 7 (gadd v1 (h 86 v6.toNat))) v7)), (0, .inr (.inr 83)), (1, .inl v1), (2, .inl v2), (3, .inl v3), (4, .inl v4), (5, .inl v5), (6, .inl v6), (7, .inl v7), (10, .inl v10)]) dq_Mo_buy_193 (by decide) rfl 195 rfl ?_
  refine gr_aload_n (M := gm_Mo_buy) dq_Mo_buy_195 rfl 1 rfl 196 rfl ?_
  refine gr_getr (M := gm_Mo_buy) dq_Mo_buy_196 199 rfl gfl_Mo_83 gsh_83 rfl (gli hL gsh_83) 106 rfl ?_
  refine gr_iload (M := gm_Mo_buy) dq_Mo_buy_199 0 rfl 201 rfl ?_
  refine gr_iload (M := gm_Mo_buy) dq_Mo_buy_201 6 rfl 203 rfl ?_
  refine gr_iload (M := gm_Mo_buy) dq_Mo_buy_203 9 rfl 205 rfl ?_
  refine gr_iadd (M := gm_Mo_buy) dq_Mo_buy_205 206 rfl ?_
  refine gr_aload_n (M := gm_Mo_buy) dq_Mo_buy_206 rfl 1 rfl 207 rfl ?_
  refine gr_getr (M := gm_Mo_buy) dq_Mo_buy_207 210 rfl gfl_Mo_83 gsh_83 rfl (gli hL gsh_83) 106 rfl ?_
  refine gr_iload (M := gm_Mo_buy) dq_Mo_buy_210 0 rfl 212 rfl ?_
  refine gr_iald (M := gm_Mo_buy) dq_Mo_buy_212 213 rfl gsh_106 (glj hL gsh_106 (by decide)) ?_
  refine gr_icmp_ge (M := gm_Mo_buy) dq_Mo_buy_213 224 216 rfl rfl (fun c10 => ?_) (fun c10 => ?_)
  · refine gr_aload_n (M := gm_Mo_buy) dq_Mo_buy_224 rfl 1 rfl 225 rfl ?_
    refine gr_getr (M := gm_Mo_buy) dq_Mo_buy_225 228 rfl gfl_Mo_83 gsh_83 rfl (gli hL gsh_83) 106 rfl ?_
    refine gr_iload (M := gm_Mo_buy) dq_Mo_buy_228 0 rfl 230 rfl ?_
    refine gr_iald (M := gm_Mo_buy) dq_Mo_buy_230 231 rfl gsh_106 (glj hL gsh_106 (by decide)) ?_
    refine gr_sub (M := gm_Mo_buy) (lv' := [(0, .inr (.inr 83)), (1, .inl v1), (2, .inl v2), (3, .inl v3), (4, .inl v4), (5, .inl v5), (6, .inl v6)]) [1, 2, 3, 4, 5, 6, 7] rfl ?_
    exact w_Mo_buy_J231 hL hn hF   hk73
  refine gr_iload (M := gm_Mo_buy) dq_Mo_buy_216 6 rfl 218 rfl ?_
  refine gr_iload (M := gm_Mo_buy) dq_Mo_buy_218 9 rfl 220 rfl ?_
  refine gr_iadd (M := gm_Mo_buy) dq_Mo_buy_220 221 rfl ?_
  refine gr_goto (M := gm_Mo_buy) dq_Mo_buy_221 231 rfl ?_
  refine gr_sub (M := gm_Mo_buy) (lv' := [(0, .inr (.inr 83)), (1, .inl v1), (2, .inl v2), (3, .inl v3), (4, .inl v4), (5, .inl v5), (6, .inl v6)]) [1, 2, 3, 4, 5, 6, 7] rfl ?_
  exact w_Mo_buy_J231 hL hn hF   hk73

def f_Mo_buy_J147  (k73 : Int → gH → Option gO) (v1 : Int) (v2 : Int) (v3 : Int) (v4 : Int) (v5 : Int) (v6 : Int) (v7 : Int) (v8 : Int) (v9 : Int) (s0 : Int) (h : gH) : Option gO := if v7 < 0 then (f_Mo_buy_J232  (k73) v1 v2 v3 v4 v5 v6 h) else (gd (gix 9 v6) (if v3 < (gadd v1 (h 86 v6.toNat)) then (f_Mo_buy_J232  (k73) v1 v2 v3 v4 v5 v6 h) else (if v9 = 4 then (if v8 = 0 then (f_Mo_buy_J178  (k73) v1 v2 v3 v4 v5 v6 v7 s0 h) else (f_Mo_buy_J232  (k73) v1 v2 v3 v4 v5 v6 h)) else (f_Mo_buy_J178  (k73) v1 v2 v3 v4 v5 v6 v7 s0 h))))
theorem w_Mo_buy_J147 {o : gO} {X : gX} (hL : gLive (xZ X)) (hn : (zL (xZ X)).Nodup) (hF : gFin X none o)    {k73 : Int → gH → Option gO} {v1 : Int} {v2 : Int} {v3 : Int} {v4 : Int} {v5 : Int} {v6 : Int} {v7 : Int} {v8 : Int} {v9 : Int} {s0 : Int} {h : gH} (hk73 : ∀ (v6 : Int) (h : gH), gr (k73 v6 h) o gm_Mo_buy X h 73 [(0, .inr (.inr 83)), (1, .inl v1), (2, .inl v2), (3, .inl v3), (4, .inl v4), (5, .inl v5), (6, .inl v6)] []) : gr (f_Mo_buy_J147  k73 v1 v2 v3 v4 v5 v6 v7 v8 v9 s0 h) o gm_Mo_buy X h 147 [(0, .inr (.inr 83)), (1, .inl v1), (2, .inl v2), (3, .inl v3), (4, .inl v4), (5, .inl v5), (6, .inl v6), (7, .inl v7), (8, .inl v8), (9, .inl v9)] [.inl s0] := by
  unfold f_Mo_buy_J147
  refine gr_istore (M := gm_Mo_buy) (kk := 0) (lv' := [(10, .inl s0), (0, .inr (.inr 83)), (1, .inl v1), (2, .inl v2), (3, .inl v3), (4, .inl v4), (5, .inl v5), (6, .inl v6), (7, .inl v7), (8, .inl v8), (9, .inl v9)]) dq_Mo_buy_147 (by decide) rfl 149 rfl ?_
  refine gr_iload (M := gm_Mo_buy) dq_Mo_buy_149 8 rfl 151 rfl ?_
  refine gr_if_lt (M := gm_Mo_buy) dq_Mo_buy_151 232 154 rfl rfl (fun c7 => ?_) (fun c7 => ?_)
  · refine gr_sub (M := gm_Mo_buy) (lv' := [(0, .inr (.inr 83)), (1, .inl v1), (2, .inl v2), (3, .inl v3), (4, .inl v4), (5, .inl v5), (6, .inl v6)]) [1, 2, 3, 4, 5, 6, 7] rfl ?_
    exact w_Mo_buy_J232 hL hn hF   hk73
  refine gr_iload_n (M := gm_Mo_buy) dq_Mo_buy_154 rfl 2 rfl 155 rfl ?_
  refine gr_aload_n (M := gm_Mo_buy) dq_Mo_buy_155 rfl 1 rfl 156 rfl ?_
  refine gr_getr (M := gm_Mo_buy) dq_Mo_buy_156 159 rfl gfl_Mo_16 gsh_83 rfl (gli hL gsh_83) 86 rfl ?_
  refine gr_iload (M := gm_Mo_buy) dq_Mo_buy_159 7 rfl 161 rfl ?_
  refine gr_iald (M := gm_Mo_buy) dq_Mo_buy_161 162 rfl gsh_86 (glj hL gsh_86 (by decide)) ?_
  refine gr_iadd (M := gm_Mo_buy) dq_Mo_buy_162 163 rfl ?_
  refine gr_iload_n (M := gm_Mo_buy) dq_Mo_buy_163 rfl 4 rfl 164 rfl ?_
  refine gr_icmp_gt (M := gm_Mo_buy) dq_Mo_buy_164 232 167 rfl rfl (fun c8 => ?_) (fun c8 => ?_)
  · refine gr_sub (M := gm_Mo_buy) (lv' := [(0, .inr (.inr 83)), (1, .inl v1), (2, .inl v2), (3, .inl v3), (4, .inl v4), (5, .inl v5), (6, .inl v6)]) [1, 2, 3, 4, 5, 6, 7] rfl ?_
    exact w_Mo_buy_J232 hL hn hF   hk73
  refine gr_iload (M := gm_Mo_buy) dq_Mo_buy_167 10 rfl 169 rfl ?_
  refine gr_iconst (M := gm_Mo_buy) (v := 4) dq_Mo_buy_169 rfl ⟨by decide, by decide⟩ 170 rfl ?_
  refine gr_icmp_ne (M := gm_Mo_buy) dq_Mo_buy_170 178 173 rfl rfl (fun c9 => ?_) (fun c9 => ?_)
  · refine gr_sub (M := gm_Mo_buy) (lv' := [(0, .inr (.inr 83)), (1, .inl v1), (2, .inl v2), (3, .inl v3), (4, .inl v4), (5, .inl v5), (6, .inl v6), (7, .inl v7), (10, .inl s0)]) [1, 2, 3, 4, 5, 6, 7, 8, 0] rfl ?_
    exact w_Mo_buy_J178 hL hn hF   hk73
  refine gr_iload (M := gm_Mo_buy) dq_Mo_buy_173 9 rfl 175 rfl ?_
  refine gr_if_ne (M := gm_Mo_buy) dq_Mo_buy_175 232 178 rfl rfl (fun c12 => ?_) (fun c12 => ?_)
  · refine gr_sub (M := gm_Mo_buy) (lv' := [(0, .inr (.inr 83)), (1, .inl v1), (2, .inl v2), (3, .inl v3), (4, .inl v4), (5, .inl v5), (6, .inl v6)]) [1, 2, 3, 4, 5, 6, 7] rfl ?_
    exact w_Mo_buy_J232 hL hn hF   hk73
  refine gr_sub (M := gm_Mo_buy) (lv' := [(0, .inr (.inr 83)), (1, .inl v1), (2, .inl v2), (3, .inl v3), (4, .inl v4), (5, .inl v5), (6, .inl v6), (7, .inl v7), (10, .inl s0)]) [1, 2, 3, 4, 5, 6, 7, 8, 0] rfl ?_
  exact w_Mo_buy_J178 hL hn hF   hk73

def f_Mo_buy_J146  (k73 : Int → gH → Option gO) (v1 : Int) (v2 : Int) (v3 : Int) (v4 : Int) (v5 : Int) (v6 : Int) (v7 : Int) (v8 : Int) (v9 : Int) (h : gH) : Option gO := f_Mo_buy_J147  (k73) v1 v2 v3 v4 v5 v6 v7 v8 v9 0 h
theorem w_Mo_buy_J146 {o : gO} {X : gX} (hL : gLive (xZ X)) (hn : (zL (xZ X)).Nodup) (hF : gFin X none o)    {k73 : Int → gH → Option gO} {v1 : Int} {v2 : Int} {v3 : Int} {v4 : Int} {v5 : Int} {v6 : Int} {v7 : Int} {v8 : Int} {v9 : Int} {h : gH} (hk73 : ∀ (v6 : Int) (h : gH), gr (k73 v6 h) o gm_Mo_buy X h 73 [(0, .inr (.inr 83)), (1, .inl v1), (2, .inl v2), (3, .inl v3), (4, .inl v4), (5, .inl v5), (6, .inl v6)] []) : gr (f_Mo_buy_J146  k73 v1 v2 v3 v4 v5 v6 v7 v8 v9 h) o gm_Mo_buy X h 146 [(0, .inr (.inr 83)), (1, .inl v1), (2, .inl v2), (3, .inl v3), (4, .inl v4), (5, .inl v5), (6, .inl v6), (7, .inl v7), (8, .inl v8), (9, .inl v9)] [] := by
  unfold f_Mo_buy_J146
  refine gr_iconst (M := gm_Mo_buy) (v := 0) dq_Mo_buy_146 rfl ⟨by decide, by decide⟩ 147 rfl ?_
  exact w_Mo_buy_J147 hL hn hF   hk73

def f_Mo_buy_J107  (k73 : Int → gH → Option gO) (v1 : Int) (v2 : Int) (v3 : Int) (v4 : Int) (v5 : Int) (v6 : Int) (v7 : Int) (s0 : Int) (h : gH) : Option gO := gd (gix 50 (gadd 2 v6)) (if (h 92 (gadd 2 v6).toNat) = 1 then (gd (gnz (h 83 1)) (gd (gnz 2) (if (grem (gdiv (gadd v4 v1) (h 83 1)) 2) = s0 then (f_Mo_buy_J146  (k73) v1 v2 v3 v4 v5 v6 v7 s0 (h 92 (gadd 2 v6).toNat) h) else (f_Mo_buy_J147  (k73) v1 v2 v3 v4 v5 v6 v7 s0 (h 92 (gadd 2 v6).toNat) 1 h)))) else (f_Mo_buy_J146  (k73) v1 v2 v3 v4 v5 v6 v7 s0 (h 92 (gadd 2 v6).toNat) h))
theorem w_Mo_buy_J107 {o : gO} {X : gX} (hL : gLive (xZ X)) (hn : (zL (xZ X)).Nodup) (hF : gFin X none o)    {k73 : Int → gH → Option gO} {v1 : Int} {v2 : Int} {v3 : Int} {v4 : Int} {v5 : Int} {v6 : Int} {v7 : Int} {s0 : Int} {h : gH} (hk73 : ∀ (v6 : Int) (h : gH), gr (k73 v6 h) o gm_Mo_buy X h 73 [(0, .inr (.inr 83)), (1, .inl v1), (2, .inl v2), (3, .inl v3), (4, .inl v4), (5, .inl v5), (6, .inl v6)] []) : gr (f_Mo_buy_J107  k73 v1 v2 v3 v4 v5 v6 v7 s0 h) o gm_Mo_buy X h 107 [(0, .inr (.inr 83)), (1, .inl v1), (2, .inl v2), (3, .inl v3), (4, .inl v4), (5, .inl v5), (6, .inl v6), (7, .inl v7)] [.inl s0] := by
  unfold f_Mo_buy_J107
  refine gr_istore (M := gm_Mo_buy) (kk := 0) (lv' := [(8, .inl s0), (0, .inr (.inr 83)), (1, .inl v1), (2, .inl v2), (3, .inl v3), (4, .inl v4), (5, .inl v5), (6, .inl v6), (7, .inl v7)]) dq_Mo_buy_107 (by decide) rfl 109 rfl ?_
  refine gr_aload_n (M := gm_Mo_buy) dq_Mo_buy_109 rfl 1 rfl 110 rfl ?_
  refine gr_getr (M := gm_Mo_buy) dq_Mo_buy_110 113 rfl gfl_Mo_34 gsh_83 rfl (gli hL gsh_83) 92 rfl ?_
  refine gr_iconst (M := gm_Mo_buy) (v := 2) dq_Mo_buy_113 rfl ⟨by decide, by decide⟩ 114 rfl ?_
  refine gr_iload (M := gm_Mo_buy) dq_Mo_buy_114 7 rfl 116 rfl ?_
  refine gr_iadd (M := gm_Mo_buy) dq_Mo_buy_116 117 rfl ?_
  refine gr_iald (M := gm_Mo_buy) dq_Mo_buy_117 118 rfl gsh_92 (glj hL gsh_92 (by decide)) ?_
  refine gr_istore (M := gm_Mo_buy) (kk := 0) (lv' := [(9, .inl (h 92 (gadd 2 v6).toNat)), (8, .inl s0), (0, .inr (.inr 83)), (1, .inl v1), (2, .inl v2), (3, .inl v3), (4, .inl v4), (5, .inl v5), (6, .inl v6), (7, .inl v7)]) dq_Mo_buy_118 (by decide) rfl 120 rfl ?_
  refine gr_iload (M := gm_Mo_buy) dq_Mo_buy_120 0 rfl 122 rfl ?_
  refine gr_iconst (M := gm_Mo_buy) (v := 1) dq_Mo_buy_122 rfl ⟨by decide, by decide⟩ 123 rfl ?_
  refine gr_icmp_ne (M := gm_Mo_buy) dq_Mo_buy_123 146 126 rfl rfl (fun c6 => ?_) (fun c6 => ?_)
  · refine gr_sub (M := gm_Mo_buy) (lv' := [(0, .inr (.inr 83)), (1, .inl v1), (2, .inl v2), (3, .inl v3), (4, .inl v4), (5, .inl v5), (6, .inl v6), (7, .inl v7), (8, .inl s0), (9, .inl (h 92 (gadd 2 v6).toNat))]) [2, 3, 4, 5, 6, 7, 8, 9, 1, 0] rfl ?_
    exact w_Mo_buy_J146 hL hn hF   hk73
  refine gr_iload (M := gm_Mo_buy) dq_Mo_buy_126 6 rfl 128 rfl ?_
  refine gr_iload_n (M := gm_Mo_buy) dq_Mo_buy_128 rfl 3 rfl 129 rfl ?_
  refine gr_iadd (M := gm_Mo_buy) dq_Mo_buy_129 130 rfl ?_
  refine gr_aload_n (M := gm_Mo_buy) dq_Mo_buy_130 rfl 2 rfl 131 rfl ?_
  refine gr_geti (M := gm_Mo_buy) dq_Mo_buy_131 134 rfl gfl_Mo_182 gsh_83 rfl (gli hL gsh_83) ?_
  refine gr_idiv (M := gm_Mo_buy) dq_Mo_buy_134 135 rfl ?_
  refine gr_iconst (M := gm_Mo_buy) (v := 2) dq_Mo_buy_135 rfl ⟨by decide, by decide⟩ 136 rfl ?_
  refine gr_irem (M := gm_Mo_buy) dq_Mo_buy_136 137 rfl ?_
  refine gr_iload (M := gm_Mo_buy) dq_Mo_buy_137 1 rfl 139 rfl ?_
  refine gr_icmp_eq (M := gm_Mo_buy) dq_Mo_buy_139 146 142 rfl rfl (fun c13 => ?_) (fun c13 => ?_)
  · refine gr_sub (M := gm_Mo_buy) (lv' := [(0, .inr (.inr 83)), (1, .inl v1), (2, .inl v2), (3, .inl v3), (4, .inl v4), (5, .inl v5), (6, .inl v6), (7, .inl v7), (8, .inl s0), (9, .inl (h 92 (gadd 2 v6).toNat))]) [2, 3, 4, 5, 6, 7, 8, 9, 1, 0] rfl ?_
    exact w_Mo_buy_J146 hL hn hF   hk73
  refine gr_iconst (M := gm_Mo_buy) (v := 1) dq_Mo_buy_142 rfl ⟨by decide, by decide⟩ 143 rfl ?_
  refine gr_goto (M := gm_Mo_buy) dq_Mo_buy_143 147 rfl ?_
  refine gr_sub (M := gm_Mo_buy) (lv' := [(0, .inr (.inr 83)), (1, .inl v1), (2, .inl v2), (3, .inl v3), (4, .inl v4), (5, .inl v5), (6, .inl v6), (7, .inl v7), (8, .inl s0), (9, .inl (h 92 (gadd 2 v6).toNat))]) [2, 3, 4, 5, 6, 7, 8, 9, 1, 0] rfl ?_
  exact w_Mo_buy_J147 hL hn hF   hk73

def f_Mo_buy_L73 (v1 : Int) (v2 : Int) (v3 : Int) (v4 : Int) (v5 : Int) (k238 : gH → Option gO) : Nat → Int → gH → Option gO
  | 0, _, _ => none
  | n + 1, v6, h => if (h 83 2) ≤ v6 then (k238  h) else (gb (f_Mo_other v6 v2 h) (fun h3 r4 => gd (gix 9 v6) (if (h3 84 v6.toNat) = v2 then (f_Mo_buy_J107  (f_Mo_buy_L73 v1 v2 v3 v4 v5 k238 n) v1 v2 v3 v4 v5 v6 r4 0 h3) else (f_Mo_buy_J107  (f_Mo_buy_L73 v1 v2 v3 v4 v5 k238 n) v1 v2 v3 v4 v5 v6 r4 1 h3))))
theorem w_Mo_buy_L73 {o : gO} {X : gX} (hL : gLive (xZ X)) (hn : (zL (xZ X)).Nodup) (hF : gFin X none o) {v1 : Int} {v2 : Int} {v3 : Int} {v4 : Int} {v5 : Int}   {k238 : gH → Option gO} (hk238 : ∀ (h : gH), gr (k238 h) o gm_Mo_buy X h 238 [] []) : ∀ (n : Nat) (v6 : Int) (h : gH), gr (f_Mo_buy_L73 v1 v2 v3 v4 v5 k238 n v6 h) o gm_Mo_buy X h 73 [(0, .inr (.inr 83)), (1, .inl v1), (2, .inl v2), (3, .inl v3), (4, .inl v4), (5, .inl v5), (6, .inl v6)] [] := by
  intro n
  induction n with
  | zero => intros; exact gr_none
  | succ n ih =>
    intro v6 h
    unfold f_Mo_buy_L73
    refine gr_iload (M := gm_Mo_buy) dq_Mo_buy_73 6 rfl 75 rfl ?_
    refine gr_aload_n (M := gm_Mo_buy) dq_Mo_buy_75 rfl 0 rfl 76 rfl ?_
    refine gr_geti (M := gm_Mo_buy) dq_Mo_buy_76 79 rfl gfl_Mo_121 gsh_83 rfl (gli hL gsh_83) ?_
    refine gr_icmp_ge (M := gm_Mo_buy) dq_Mo_buy_79 238 82 rfl rfl (fun c2 => ?_) (fun c2 => ?_)
    · refine gr_sub (M := gm_Mo_buy) (lv' := []) [] rfl ?_
      exact hk238  _
    refine gr_aload_n (M := gm_Mo_buy) dq_Mo_buy_82 rfl 0 rfl 83 rfl ?_
    refine gr_iload (M := gm_Mo_buy) dq_Mo_buy_83 6 rfl 85 rfl ?_
    refine gr_iload_n (M := gm_Mo_buy) dq_Mo_buy_85 rfl 2 rfl 86 rfl ?_
    refine gr_callVi (M := gm_Mo_buy) (as := [.inl v6, .inl v2]) dq_Mo_buy_86 89 rfl rfl gcy_Mo_218 gim_Mo_other gse_Mo_other ⟨by decide, by decide⟩ (Nat.le_of_ble_eq_true rfl) gsh_83 rfl (gli hL gsh_83) (fun o1 hg ha hx => c_Mo_other hL hn  hg ha hx) (fun h3 r4 _ => ?_)
    refine gr_istore (M := gm_Mo_buy) (kk := 0) (lv' := [(7, .inl r4), (0, .inr (.inr 83)), (1, .inl v1), (2, .inl v2), (3, .inl v3), (4, .inl v4), (5, .inl v5), (6, .inl v6)]) dq_Mo_buy_89 (by decide) rfl 91 rfl ?_
    refine gr_aload_n (M := gm_Mo_buy) dq_Mo_buy_91 rfl 1 rfl 92 rfl ?_
    refine gr_getr (M := gm_Mo_buy) dq_Mo_buy_92 95 rfl gfl_Mo_7 gsh_83 rfl (gli hL gsh_83) 84 rfl ?_
    refine gr_iload (M := gm_Mo_buy) dq_Mo_buy_95 7 rfl 97 rfl ?_
    refine gr_iald (M := gm_Mo_buy) dq_Mo_buy_97 98 rfl gsh_84 (glj hL gsh_84 (by decide)) ?_
    refine gr_iload_n (M := gm_Mo_buy) dq_Mo_buy_98 rfl 3 rfl 99 rfl ?_
    refine gr_icmp_ne (M := gm_Mo_buy) dq_Mo_buy_99 106 102 rfl rfl (fun c5 => ?_) (fun c5 => ?_)
    · refine gr_iconst (M := gm_Mo_buy) (v := 1) dq_Mo_buy_106 rfl ⟨by decide, by decide⟩ 107 rfl ?_
      refine gr_sub (M := gm_Mo_buy) (lv' := [(0, .inr (.inr 83)), (1, .inl v1), (2, .inl v2), (3, .inl v3), (4, .inl v4), (5, .inl v5), (6, .inl v6), (7, .inl r4)]) [1, 2, 3, 4, 5, 6, 7, 0] rfl ?_
      exact w_Mo_buy_J107 hL hn hF   ih
    refine gr_iconst (M := gm_Mo_buy) (v := 0) dq_Mo_buy_102 rfl ⟨by decide, by decide⟩ 103 rfl ?_
    refine gr_goto (M := gm_Mo_buy) dq_Mo_buy_103 107 rfl ?_
    refine gr_sub (M := gm_Mo_buy) (lv' := [(0, .inr (.inr 83)), (1, .inl v1), (2, .inl v2), (3, .inl v3), (4, .inl v4), (5, .inl v5), (6, .inl v6), (7, .inl r4)]) [1, 2, 3, 4, 5, 6, 7, 0] rfl ?_
    exact w_Mo_buy_J107 hL hn hF   ih

def f_Mo_buy_J70   (v1 : Int) (v2 : Int) (v3 : Int) (v4 : Int) (v5 : Int) (h : gH) : Option gO := f_Mo_buy_L73 v1 v2 v3 v4 v5 (fun  h14 => some (h14, 0)) 50000 0 h
theorem w_Mo_buy_J70 {o : gO} {X : gX} (hL : gLive (xZ X)) (hn : (zL (xZ X)).Nodup) (hF : gFin X none o)     {v1 : Int} {v2 : Int} {v3 : Int} {v4 : Int} {v5 : Int} {h : gH}  : gr (f_Mo_buy_J70   v1 v2 v3 v4 v5 h) o gm_Mo_buy X h 70 [(0, .inr (.inr 83)), (1, .inl v1), (2, .inl v2), (3, .inl v3), (4, .inl v4), (5, .inl v5)] [] := by
  unfold f_Mo_buy_J70
  refine gr_iconst (M := gm_Mo_buy) (v := 0) dq_Mo_buy_70 rfl ⟨by decide, by decide⟩ 71 rfl ?_
  refine gr_istore (M := gm_Mo_buy) (kk := 0) (lv' := [(6, .inl 0), (0, .inr (.inr 83)), (1, .inl v1), (2, .inl v2), (3, .inl v3), (4, .inl v4), (5, .inl v5)]) dq_Mo_buy_71 (by decide) rfl 73 rfl ?_
  refine gr_sub (M := gm_Mo_buy) (lv' := [(0, .inr (.inr 83)), (1, .inl v1), (2, .inl v2), (3, .inl v3), (4, .inl v4), (5, .inl v5), (6, .inl 0)]) [1, 2, 3, 4, 5, 6, 0] rfl ?_
  refine w_Mo_buy_L73 hL hn hF   (fun h14 => ?_) 50000 _ _
  exact gr_return (M := gm_Mo_buy) dq_Mo_buy_238 hF

def f_Mo_buy_J69   (v1 : Int) (v2 : Int) (v3 : Int) (v4 : Int) (v5 : Int) (s2 : Int) (s1 : Int) (h : gH) : Option gO := gd (gix 2107 s1) (gs (gup h 106 s1.toNat s2) (fun h16 => f_Mo_buy_J70   v1 v2 v3 v4 v5 h16))
theorem w_Mo_buy_J69 {o : gO} {X : gX} (hL : gLive (xZ X)) (hn : (zL (xZ X)).Nodup) (hF : gFin X none o)     {v1 : Int} {v2 : Int} {v3 : Int} {v4 : Int} {v5 : Int} {s2 : Int} {s1 : Int} {h : gH}  : gr (f_Mo_buy_J69   v1 v2 v3 v4 v5 s2 s1 h) o gm_Mo_buy X h 69 [(0, .inr (.inr 83)), (1, .inl v1), (2, .inl v2), (3, .inl v3), (4, .inl v4), (5, .inl v5)] [.inl s2, .inl s1, .inr (.inr 106)] := by
  unfold f_Mo_buy_J69
  refine gr_iast (M := gm_Mo_buy) dq_Mo_buy_69 70 rfl gsh_106 (glj hL gsh_106 (by decide)) (fun h16 _ => ?_)
  exact w_Mo_buy_J70 hL hn hF   

def f_Mo_buy (a1 : Int) (a2 : Int) (a3 : Int) (a4 : Int) (h : gH) : Option gO := gd (gix 2107 (gadd (gmul 7 a1) a2)) (if a3 ≤ a1 then (f_Mo_buy_J70   a1 a2 a3 a4 (h 106 (gadd (gmul 7 a1) a2).toNat) h) else (gd (gix 2107 (gadd (gadd (gmul 7 a1) 7) a2)) (if (h 106 (gadd (gadd (gmul 7 a1) 7) a2).toNat) ≤ (h 106 (gadd (gmul 7 a1) a2).toNat) then (gd (gix 2107 (gadd (gadd (gmul 7 a1) 7) a2)) (f_Mo_buy_J69   a1 a2 a3 a4 (h 106 (gadd (gmul 7 a1) a2).toNat) (h 106 (gadd (gadd (gmul 7 a1) 7) a2).toNat) (gadd (gadd (gmul 7 a1) 7) a2) h)) else (f_Mo_buy_J69   a1 a2 a3 a4 (h 106 (gadd (gmul 7 a1) a2).toNat) (h 106 (gadd (gmul 7 a1) a2).toNat) (gadd (gadd (gmul 7 a1) 7) a2) h))))
theorem c_Mo_buy {Z : gZ} (hL : gLive Z) (hn : (zL Z).Nodup) {a1 : Int} {a2 : Int} {a3 : Int} {a4 : Int}  {h : gH} {o : gO} (hg : gRg h) (ha : gRl [.inr (.inr 83), .inl a1, .inl a2, .inl a3, .inl a4]) (hx : f_Mo_buy a1 a2 a3 a4 h = some o) : gC Z gy_Mo_buy gc_Mo_buy 12 none 1 22 [.inr (.inr 83), .inl a1, .inl a2, .inl a3, .inl a4] h o := by
  unfold f_Mo_buy at hx
  refine gC_of (lv := [(0, .inr (.inr 83)), (1, .inl a1), (2, .inl a2), (3, .inl a3), (4, .inl a4)]) (own := gR_7) (by decide +kernel) rfl (Nat.le_of_ble_eq_true rfl) rfl rfl hn hg ha hx (fun X hZ hF => ?_)
  subst hZ
  show gr _ o gm_Mo_buy X h 0 _ _
  refine gr_aload_n (M := gm_Mo_buy) dq_Mo_buy_0 rfl 0 rfl 1 rfl ?_
  refine gr_getr (M := gm_Mo_buy) dq_Mo_buy_1 4 rfl gfl_Mo_83 gsh_83 rfl (gli hL gsh_83) 106 rfl ?_
  refine gr_bipush (M := gm_Mo_buy) (v := 7) dq_Mo_buy_4 (by decide) ⟨by decide, by decide⟩ 6 rfl ?_
  refine gr_iload_n (M := gm_Mo_buy) dq_Mo_buy_6 rfl 1 rfl 7 rfl ?_
  refine gr_imul (M := gm_Mo_buy) dq_Mo_buy_7 8 rfl ?_
  refine gr_iload_n (M := gm_Mo_buy) dq_Mo_buy_8 rfl 2 rfl 9 rfl ?_
  refine gr_iadd (M := gm_Mo_buy) dq_Mo_buy_9 10 rfl ?_
  refine gr_iald (M := gm_Mo_buy) dq_Mo_buy_10 11 rfl gsh_106 (glj hL gsh_106 (by decide)) ?_
  refine gr_istore (M := gm_Mo_buy) (kk := 0) (lv' := [(5, .inl (h 106 (gadd (gmul 7 a1) a2).toNat)), (0, .inr (.inr 83)), (1, .inl a1), (2, .inl a2), (3, .inl a3), (4, .inl a4)]) dq_Mo_buy_11 (by decide) rfl 13 rfl ?_
  refine gr_iload_n (M := gm_Mo_buy) dq_Mo_buy_13 rfl 2 rfl 14 rfl ?_
  refine gr_iload_n (M := gm_Mo_buy) dq_Mo_buy_14 rfl 4 rfl 15 rfl ?_
  refine gr_icmp_ge (M := gm_Mo_buy) dq_Mo_buy_15 70 18 rfl rfl (fun c1 => ?_) (fun c1 => ?_)
  · refine gr_sub (M := gm_Mo_buy) (lv' := [(0, .inr (.inr 83)), (1, .inl a1), (2, .inl a2), (3, .inl a3), (4, .inl a4), (5, .inl (h 106 (gadd (gmul 7 a1) a2).toNat))]) [1, 2, 3, 4, 5, 0] rfl ?_
    exact w_Mo_buy_J70 hL hn hF   
  refine gr_aload_n (M := gm_Mo_buy) dq_Mo_buy_18 rfl 1 rfl 19 rfl ?_
  refine gr_getr (M := gm_Mo_buy) dq_Mo_buy_19 22 rfl gfl_Mo_83 gsh_83 rfl (gli hL gsh_83) 106 rfl ?_
  refine gr_bipush (M := gm_Mo_buy) (v := 7) dq_Mo_buy_22 (by decide) ⟨by decide, by decide⟩ 24 rfl ?_
  refine gr_iload_n (M := gm_Mo_buy) dq_Mo_buy_24 rfl 2 rfl 25 rfl ?_
  refine gr_imul (M := gm_Mo_buy) dq_Mo_buy_25 26 rfl ?_
  refine gr_bipush (M := gm_Mo_buy) (v := 7) dq_Mo_buy_26 (by decide) ⟨by decide, by decide⟩ 28 rfl ?_
  refine gr_iadd (M := gm_Mo_buy) dq_Mo_buy_28 29 rfl ?_
  refine gr_iload_n (M := gm_Mo_buy) dq_Mo_buy_29 rfl 3 rfl 30 rfl ?_
  refine gr_iadd (M := gm_Mo_buy) dq_Mo_buy_30 31 rfl ?_
  refine gr_iload (M := gm_Mo_buy) dq_Mo_buy_31 0 rfl 33 rfl ?_
  refine gr_aload_n (M := gm_Mo_buy) dq_Mo_buy_33 rfl 1 rfl 34 rfl ?_
  refine gr_getr (M := gm_Mo_buy) dq_Mo_buy_34 37 rfl gfl_Mo_83 gsh_83 rfl (gli hL gsh_83) 106 rfl ?_
  refine gr_bipush (M := gm_Mo_buy) (v := 7) dq_Mo_buy_37 (by decide) ⟨by decide, by decide⟩ 39 rfl ?_
  refine gr_iload_n (M := gm_Mo_buy) dq_Mo_buy_39 rfl 2 rfl 40 rfl ?_
  refine gr_imul (M := gm_Mo_buy) dq_Mo_buy_40 41 rfl ?_
  refine gr_bipush (M := gm_Mo_buy) (v := 7) dq_Mo_buy_41 (by decide) ⟨by decide, by decide⟩ 43 rfl ?_
  refine gr_iadd (M := gm_Mo_buy) dq_Mo_buy_43 44 rfl ?_
  refine gr_iload_n (M := gm_Mo_buy) dq_Mo_buy_44 rfl 3 rfl 45 rfl ?_
  refine gr_iadd (M := gm_Mo_buy) dq_Mo_buy_45 46 rfl ?_
  refine gr_iald (M := gm_Mo_buy) dq_Mo_buy_46 47 rfl gsh_106 (glj hL gsh_106 (by decide)) ?_
  refine gr_icmp_ge (M := gm_Mo_buy) dq_Mo_buy_47 55 50 rfl rfl (fun c15 => ?_) (fun c15 => ?_)
  · refine gr_aload_n (M := gm_Mo_buy) dq_Mo_buy_55 rfl 1 rfl 56 rfl ?_
    refine gr_getr (M := gm_Mo_buy) dq_Mo_buy_56 59 rfl gfl_Mo_83 gsh_83 rfl (gli hL gsh_83) 106 rfl ?_
    refine gr_bipush (M := gm_Mo_buy) (v := 7) dq_Mo_buy_59 (by decide) ⟨by decide, by decide⟩ 61 rfl ?_
    refine gr_iload_n (M := gm_Mo_buy) dq_Mo_buy_61 rfl 2 rfl 62 rfl ?_
    refine gr_imul (M := gm_Mo_buy) dq_Mo_buy_62 63 rfl ?_
    refine gr_bipush (M := gm_Mo_buy) (v := 7) dq_Mo_buy_63 (by decide) ⟨by decide, by decide⟩ 65 rfl ?_
    refine gr_iadd (M := gm_Mo_buy) dq_Mo_buy_65 66 rfl ?_
    refine gr_iload_n (M := gm_Mo_buy) dq_Mo_buy_66 rfl 3 rfl 67 rfl ?_
    refine gr_iadd (M := gm_Mo_buy) dq_Mo_buy_67 68 rfl ?_
    refine gr_iald (M := gm_Mo_buy) dq_Mo_buy_68 69 rfl gsh_106 (glj hL gsh_106 (by decide)) ?_
    refine gr_sub (M := gm_Mo_buy) (lv' := [(0, .inr (.inr 83)), (1, .inl a1), (2, .inl a2), (3, .inl a3), (4, .inl a4), (5, .inl (h 106 (gadd (gmul 7 a1) a2).toNat))]) [1, 2, 3, 4, 5, 0] rfl ?_
    exact w_Mo_buy_J69 hL hn hF   
  refine gr_iload (M := gm_Mo_buy) dq_Mo_buy_50 0 rfl 52 rfl ?_
  refine gr_goto (M := gm_Mo_buy) dq_Mo_buy_52 69 rfl ?_
  refine gr_sub (M := gm_Mo_buy) (lv' := [(0, .inr (.inr 83)), (1, .inl a1), (2, .inl a2), (3, .inl a3), (4, .inl a4), (5, .inl (h 106 (gadd (gmul 7 a1) a2).toNat))]) [1, 2, 3, 4, 5, 0] rfl ?_
  exact w_Mo_buy_J69 hL hn hF   

-- Mo_bought
theorem dq_Mo_bought_0 : decode gc_Mo_bought 0 = .ok (.aload_n 0, 1) := by decide +kernel
theorem dq_Mo_bought_1 : decode gc_Mo_bought 1 = .ok (.iload_n 1, 1) := by decide +kernel
theorem dq_Mo_bought_2 : decode gc_Mo_bought 2 = .ok (.invokevirtual 204, 3) := by decide +kernel
theorem dq_Mo_bought_5 : decode gc_Mo_bought 5 = .ok (.ifCond .eq 11, 3) := by decide +kernel
theorem dq_Mo_bought_8 : decode gc_Mo_bought 8 = .ok (.aload_n 0, 1) := by decide +kernel
theorem dq_Mo_bought_9 : decode gc_Mo_bought 9 = .ok (.iload_n 2, 1) := by decide +kernel
theorem dq_Mo_bought_10 : decode gc_Mo_bought 10 = .ok (.invokevirtual 204, 3) := by decide +kernel
theorem dq_Mo_bought_13 : decode gc_Mo_bought 13 = .ok (.ifCond .ne 6, 3) := by decide +kernel
theorem dq_Mo_bought_16 : decode gc_Mo_bought 16 = .ok (.ldc 208, 2) := by decide +kernel
theorem dq_Mo_bought_18 : decode gc_Mo_bought 18 = .ok (.ireturn, 1) := by decide +kernel
theorem dq_Mo_bought_19 : decode gc_Mo_bought 19 = .ok (.iload_n 3, 1) := by decide +kernel
theorem dq_Mo_bought_20 : decode gc_Mo_bought 20 = .ok (.i2l, 1) := by decide +kernel
theorem dq_Mo_bought_21 : decode gc_Mo_bought 21 = .ok (.lconst 0, 1) := by decide +kernel
theorem dq_Mo_bought_22 : decode gc_Mo_bought 22 = .ok (.ldc2_w 312, 3) := by decide +kernel
theorem dq_Mo_bought_25 : decode gc_Mo_bought 25 = .ok (.invokestatic 117, 3) := by decide +kernel
theorem dq_Mo_bought_28 : decode gc_Mo_bought 28 = .ok (.ifCond .eq 16, 3) := by decide +kernel
theorem dq_Mo_bought_31 : decode gc_Mo_bought 31 = .ok (.iload 4, 2) := by decide +kernel
theorem dq_Mo_bought_33 : decode gc_Mo_bought 33 = .ok (.i2l, 1) := by decide +kernel
theorem dq_Mo_bought_34 : decode gc_Mo_bought 34 = .ok (.lconst 0, 1) := by decide +kernel
theorem dq_Mo_bought_35 : decode gc_Mo_bought 35 = .ok (.ldc2_w 267, 3) := by decide +kernel
theorem dq_Mo_bought_38 : decode gc_Mo_bought 38 = .ok (.invokestatic 117, 3) := by decide +kernel
theorem dq_Mo_bought_41 : decode gc_Mo_bought 41 = .ok (.ifCond .ne 6, 3) := by decide +kernel
theorem dq_Mo_bought_44 : decode gc_Mo_bought 44 = .ok (.ldc 129, 2) := by decide +kernel
theorem dq_Mo_bought_46 : decode gc_Mo_bought 46 = .ok (.ireturn, 1) := by decide +kernel
theorem dq_Mo_bought_47 : decode gc_Mo_bought 47 = .ok (.iconst 0, 1) := by decide +kernel
theorem dq_Mo_bought_48 : decode gc_Mo_bought 48 = .ok (.istore 5, 2) := by decide +kernel
theorem dq_Mo_bought_50 : decode gc_Mo_bought 50 = .ok (.iload 5, 2) := by decide +kernel
theorem dq_Mo_bought_52 : decode gc_Mo_bought 52 = .ok (.sipush 2107, 3) := by decide +kernel
theorem dq_Mo_bought_55 : decode gc_Mo_bought 55 = .ok (.if_icmp .ge 18, 3) := by decide +kernel
theorem dq_Mo_bought_58 : decode gc_Mo_bought 58 = .ok (.aload_n 0, 1) := by decide +kernel
theorem dq_Mo_bought_59 : decode gc_Mo_bought 59 = .ok (.getfield 83, 3) := by decide +kernel
theorem dq_Mo_bought_62 : decode gc_Mo_bought 62 = .ok (.iload 5, 2) := by decide +kernel
theorem dq_Mo_bought_64 : decode gc_Mo_bought 64 = .ok (.ldc 181, 2) := by decide +kernel
theorem dq_Mo_bought_66 : decode gc_Mo_bought 66 = .ok (.iastore, 1) := by decide +kernel
theorem dq_Mo_bought_67 : decode gc_Mo_bought 67 = .ok (.iinc 5 1, 3) := by decide +kernel
theorem dq_Mo_bought_70 : decode gc_Mo_bought 70 = .ok (.goto (-20), 3) := by decide +kernel
theorem dq_Mo_bought_73 : decode gc_Mo_bought 73 = .ok (.aload_n 0, 1) := by decide +kernel
theorem dq_Mo_bought_74 : decode gc_Mo_bought 74 = .ok (.getfield 83, 3) := by decide +kernel
theorem dq_Mo_bought_77 : decode gc_Mo_bought 77 = .ok (.iload_n 1, 1) := by decide +kernel
theorem dq_Mo_bought_78 : decode gc_Mo_bought 78 = .ok (.iconst 0, 1) := by decide +kernel
theorem dq_Mo_bought_79 : decode gc_Mo_bought 79 = .ok (.iastore, 1) := by decide +kernel
theorem dq_Mo_bought_80 : decode gc_Mo_bought 80 = .ok (.iconst 0, 1) := by decide +kernel
theorem dq_Mo_bought_81 : decode gc_Mo_bought 81 = .ok (.istore 5, 2) := by decide +kernel
theorem dq_Mo_bought_83 : decode gc_Mo_bought 83 = .ok (.iload 5, 2) := by decide +kernel
theorem dq_Mo_bought_85 : decode gc_Mo_bought 85 = .ok (.iload 4, 2) := by decide +kernel
theorem dq_Mo_bought_87 : decode gc_Mo_bought 87 = .ok (.if_icmp .gt 56, 3) := by decide +kernel
theorem dq_Mo_bought_90 : decode gc_Mo_bought 90 = .ok (.iconst 0, 1) := by decide +kernel
theorem dq_Mo_bought_91 : decode gc_Mo_bought 91 = .ok (.istore 6, 2) := by decide +kernel
theorem dq_Mo_bought_93 : decode gc_Mo_bought 93 = .ok (.iload 6, 2) := by decide +kernel
theorem dq_Mo_bought_95 : decode gc_Mo_bought 95 = .ok (.aload_n 0, 1) := by decide +kernel
theorem dq_Mo_bought_96 : decode gc_Mo_bought 96 = .ok (.getfield 114, 3) := by decide +kernel
theorem dq_Mo_bought_99 : decode gc_Mo_bought 99 = .ok (.if_icmp .ge 38, 3) := by decide +kernel
theorem dq_Mo_bought_102 : decode gc_Mo_bought 102 = .ok (.aload_n 0, 1) := by decide +kernel
theorem dq_Mo_bought_103 : decode gc_Mo_bought 103 = .ok (.getfield 83, 3) := by decide +kernel
theorem dq_Mo_bought_106 : decode gc_Mo_bought 106 = .ok (.bipush 7, 2) := by decide +kernel
theorem dq_Mo_bought_108 : decode gc_Mo_bought 108 = .ok (.iload 5, 2) := by decide +kernel
theorem dq_Mo_bought_110 : decode gc_Mo_bought 110 = .ok (.imul, 1) := by decide +kernel
theorem dq_Mo_bought_111 : decode gc_Mo_bought 111 = .ok (.iload 6, 2) := by decide +kernel
theorem dq_Mo_bought_113 : decode gc_Mo_bought 113 = .ok (.iadd, 1) := by decide +kernel
theorem dq_Mo_bought_114 : decode gc_Mo_bought 114 = .ok (.iaload, 1) := by decide +kernel
theorem dq_Mo_bought_115 : decode gc_Mo_bought 115 = .ok (.ldc 181, 2) := by decide +kernel
theorem dq_Mo_bought_117 : decode gc_Mo_bought 117 = .ok (.if_icmp .ge 14, 3) := by decide +kernel
theorem dq_Mo_bought_120 : decode gc_Mo_bought 120 = .ok (.aload_n 0, 1) := by decide +kernel
theorem dq_Mo_bought_121 : decode gc_Mo_bought 121 = .ok (.iload 5, 2) := by decide +kernel
theorem dq_Mo_bought_123 : decode gc_Mo_bought 123 = .ok (.iload 6, 2) := by decide +kernel
theorem dq_Mo_bought_125 : decode gc_Mo_bought 125 = .ok (.iload 4, 2) := by decide +kernel
theorem dq_Mo_bought_127 : decode gc_Mo_bought 127 = .ok (.iload_n 3, 1) := by decide +kernel
theorem dq_Mo_bought_128 : decode gc_Mo_bought 128 = .ok (.invokevirtual 321, 3) := by decide +kernel
theorem dq_Mo_bought_131 : decode gc_Mo_bought 131 = .ok (.iinc 6 1, 3) := by decide +kernel
theorem dq_Mo_bought_134 : decode gc_Mo_bought 134 = .ok (.goto (-41), 3) := by decide +kernel
theorem dq_Mo_bought_137 : decode gc_Mo_bought 137 = .ok (.iinc 5 1, 3) := by decide +kernel
theorem dq_Mo_bought_140 : decode gc_Mo_bought 140 = .ok (.goto (-57), 3) := by decide +kernel
theorem dq_Mo_bought_143 : decode gc_Mo_bought 143 = .ok (.aload_n 0, 1) := by decide +kernel
theorem dq_Mo_bought_144 : decode gc_Mo_bought 144 = .ok (.getfield 83, 3) := by decide +kernel
theorem dq_Mo_bought_147 : decode gc_Mo_bought 147 = .ok (.bipush 7, 2) := by decide +kernel
theorem dq_Mo_bought_149 : decode gc_Mo_bought 149 = .ok (.iload 4, 2) := by decide +kernel
theorem dq_Mo_bought_151 : decode gc_Mo_bought 151 = .ok (.imul, 1) := by decide +kernel
theorem dq_Mo_bought_152 : decode gc_Mo_bought 152 = .ok (.iload_n 2, 1) := by decide +kernel
theorem dq_Mo_bought_153 : decode gc_Mo_bought 153 = .ok (.iadd, 1) := by decide +kernel
theorem dq_Mo_bought_154 : decode gc_Mo_bought 154 = .ok (.iaload, 1) := by decide +kernel
theorem dq_Mo_bought_155 : decode gc_Mo_bought 155 = .ok (.ldc 181, 2) := by decide +kernel
theorem dq_Mo_bought_157 : decode gc_Mo_bought 157 = .ok (.if_icmp .ge 18, 3) := by decide +kernel
theorem dq_Mo_bought_160 : decode gc_Mo_bought 160 = .ok (.aload_n 0, 1) := by decide +kernel
theorem dq_Mo_bought_161 : decode gc_Mo_bought 161 = .ok (.getfield 83, 3) := by decide +kernel
theorem dq_Mo_bought_164 : decode gc_Mo_bought 164 = .ok (.bipush 7, 2) := by decide +kernel
theorem dq_Mo_bought_166 : decode gc_Mo_bought 166 = .ok (.iload 4, 2) := by decide +kernel
theorem dq_Mo_bought_168 : decode gc_Mo_bought 168 = .ok (.imul, 1) := by decide +kernel
theorem dq_Mo_bought_169 : decode gc_Mo_bought 169 = .ok (.iload_n 2, 1) := by decide +kernel
theorem dq_Mo_bought_170 : decode gc_Mo_bought 170 = .ok (.iadd, 1) := by decide +kernel
theorem dq_Mo_bought_171 : decode gc_Mo_bought 171 = .ok (.iaload, 1) := by decide +kernel
theorem dq_Mo_bought_172 : decode gc_Mo_bought 172 = .ok (.goto 4, 3) := by decide +kernel
theorem dq_Mo_bought_175 : decode gc_Mo_bought 175 = .ok (.iconst (-1), 1) := by decide +kernel
theorem dq_Mo_bought_176 : decode gc_Mo_bought 176 = .ok (.ireturn, 1) := by decide +kernel
abbrev gm_Mo_bought : gM := (gc_Mo_bought, gR_7, 2, 53, 7)
set_option maxRecDepth 20000 in
theorem gcy_Mo_321 : gCy gR_7 321 gy_Mo_buy gc_Mo_buy 12 none 4 := ⟨(gtab_at 1131 (by decide +kernel) rfl), (gtab_at 8 (by decide +kernel) rfl), (gtab_at 1134 rfl rfl), by decide, by decide, by decide +kernel⟩
theorem gim_Mo_buy : Cond.instanceMethod gy_Mo_buy ∈ gtbl := (gtab_at 1133 (by decide +kernel) rfl)
theorem gse_Mo_buy : Cond.selects gy_Mo_buy.cls gy_Mo_buy gy_Mo_buy ∈ gtbl := (by decide +kernel)
def f_Mo_bought_L50 (v1 : Int) (v2 : Int) (v3 : Int) (v4 : Int) (k73 : gH → Option gO) : Nat → Int → gH → Option gO
  | 0, _, _ => none
  | n + 1, v5, h => if 2107 ≤ v5 then (k73  h) else (gd (gix 2107 v5) (gs (gup h 106 v5.toNat 1000000) (fun h14 => f_Mo_bought_L50 v1 v2 v3 v4 k73 n (gadd v5 1) h14)))
theorem w_Mo_bought_L50 {o : gO} {X : gX} (hL : gLive (xZ X)) (hn : (zL (xZ X)).Nodup) (hF : gFin X (some .int) o) {v1 : Int} {v2 : Int} {v3 : Int} {v4 : Int}   {k73 : gH → Option gO} (hk73 : ∀ (h : gH), gr (k73 h) o gm_Mo_bought X h 73 [(0, .inr (.inr 83)), (1, .inl v1), (2, .inl v2), (3, .inl v3), (4, .inl v4)] []) : ∀ (n : Nat) (v5 : Int) (h : gH), gr (f_Mo_bought_L50 v1 v2 v3 v4 k73 n v5 h) o gm_Mo_bought X h 50 [(0, .inr (.inr 83)), (1, .inl v1), (2, .inl v2), (3, .inl v3), (4, .inl v4), (5, .inl v5)] [] := by
  intro n
  induction n with
  | zero => intros; exact gr_none
  | succ n ih =>
    intro v5 h
    unfold f_Mo_bought_L50
    refine gr_iload (M := gm_Mo_bought) dq_Mo_bought_50 5 rfl 52 rfl ?_
    refine gr_sipush (M := gm_Mo_bought) (v := 2107) dq_Mo_bought_52 (by decide) ⟨by decide, by decide⟩ 55 rfl ?_
    refine gr_icmp_ge (M := gm_Mo_bought) dq_Mo_bought_55 73 58 rfl rfl (fun c13 => ?_) (fun c13 => ?_)
    · refine gr_sub (M := gm_Mo_bought) (lv' := [(0, .inr (.inr 83)), (1, .inl v1), (2, .inl v2), (3, .inl v3), (4, .inl v4)]) [0, 1, 2, 3, 4] rfl ?_
      exact hk73  _
    refine gr_aload_n (M := gm_Mo_bought) dq_Mo_bought_58 rfl 0 rfl 59 rfl ?_
    refine gr_getr (M := gm_Mo_bought) dq_Mo_bought_59 62 rfl gfl_Mo_83 gsh_83 rfl (gli hL gsh_83) 106 rfl ?_
    refine gr_iload (M := gm_Mo_bought) dq_Mo_bought_62 5 rfl 64 rfl ?_
    refine gr_ldc (M := gm_Mo_bought) (v := 1000000) dq_Mo_bought_64 gk_Mo_181 ⟨by decide, by decide⟩ 66 rfl ?_
    refine gr_iast (M := gm_Mo_bought) dq_Mo_bought_66 67 rfl gsh_106 (glj hL gsh_106 (by decide)) (fun h14 _ => ?_)
    refine gr_iinc (M := gm_Mo_bought) (lv' := [(5, .inl (gadd v5 1)), (0, .inr (.inr 83)), (1, .inl v1), (2, .inl v2), (3, .inl v3), (4, .inl v4)]) dq_Mo_bought_67 5 rfl rfl (by decide) rfl 70 rfl ?_
    refine gr_goto (M := gm_Mo_bought) dq_Mo_bought_70 50 rfl ?_
    refine gr_sub (M := gm_Mo_bought) (lv' := [(0, .inr (.inr 83)), (1, .inl v1), (2, .inl v2), (3, .inl v3), (4, .inl v4), (5, .inl (gadd v5 1))]) [1, 2, 3, 4, 5, 0] rfl ?_
    exact ih _ _

def f_Mo_bought_J131  (k93 : Int → gH → Option gO) (v2 : Int) (v3 : Int) (v4 : Int) (v5 : Int) (v6 : Int) (h : gH) : Option gO := k93 (gadd v6 1) h
theorem w_Mo_bought_J131 {o : gO} {X : gX} (hL : gLive (xZ X)) (hn : (zL (xZ X)).Nodup) (hF : gFin X (some .int) o)    {k93 : Int → gH → Option gO} {v2 : Int} {v3 : Int} {v4 : Int} {v5 : Int} {v6 : Int} {h : gH} (hk93 : ∀ (v6 : Int) (h : gH), gr (k93 v6 h) o gm_Mo_bought X h 93 [(0, .inr (.inr 83)), (2, .inl v2), (3, .inl v3), (4, .inl v4), (5, .inl v5), (6, .inl v6)] []) : gr (f_Mo_bought_J131  k93 v2 v3 v4 v5 v6 h) o gm_Mo_bought X h 131 [(0, .inr (.inr 83)), (2, .inl v2), (3, .inl v3), (4, .inl v4), (5, .inl v5), (6, .inl v6)] [] := by
  unfold f_Mo_bought_J131
  refine gr_iinc (M := gm_Mo_bought) (lv' := [(6, .inl (gadd v6 1)), (0, .inr (.inr 83)), (2, .inl v2), (3, .inl v3), (4, .inl v4), (5, .inl v5)]) dq_Mo_bought_131 5 rfl rfl (by decide) rfl 134 rfl ?_
  refine gr_goto (M := gm_Mo_bought) dq_Mo_bought_134 93 rfl ?_
  refine gr_sub (M := gm_Mo_bought) (lv' := [(0, .inr (.inr 83)), (2, .inl v2), (3, .inl v3), (4, .inl v4), (5, .inl v5), (6, .inl (gadd v6 1))]) [1, 2, 3, 4, 5, 0] rfl ?_
  exact hk93 _ _

def f_Mo_bought_L93 (v2 : Int) (v3 : Int) (v4 : Int) (v5 : Int) (k137 : gH → Option gO) : Nat → Int → gH → Option gO
  | 0, _, _ => none
  | n + 1, v6, h => if (h 83 0) ≤ v6 then (k137  h) else (gd (gix 2107 (gadd (gmul 7 v5) v6)) (if 1000000 ≤ (h 106 (gadd (gmul 7 v5) v6).toNat) then (f_Mo_bought_J131  (f_Mo_bought_L93 v2 v3 v4 v5 k137 n) v2 v3 v4 v5 v6 h) else (gb (f_Mo_buy v5 v6 v4 v3 h) (fun h20 r21 => f_Mo_bought_J131  (f_Mo_bought_L93 v2 v3 v4 v5 k137 n) v2 v3 v4 v5 v6 h20))))
theorem w_Mo_bought_L93 {o : gO} {X : gX} (hL : gLive (xZ X)) (hn : (zL (xZ X)).Nodup) (hF : gFin X (some .int) o) {v2 : Int} {v3 : Int} {v4 : Int} {v5 : Int}   {k137 : gH → Option gO} (hk137 : ∀ (h : gH), gr (k137 h) o gm_Mo_bought X h 137 [(0, .inr (.inr 83)), (2, .inl v2), (3, .inl v3), (4, .inl v4), (5, .inl v5)] []) : ∀ (n : Nat) (v6 : Int) (h : gH), gr (f_Mo_bought_L93 v2 v3 v4 v5 k137 n v6 h) o gm_Mo_bought X h 93 [(0, .inr (.inr 83)), (2, .inl v2), (3, .inl v3), (4, .inl v4), (5, .inl v5), (6, .inl v6)] [] := by
  intro n
  induction n with
  | zero => intros; exact gr_none
  | succ n ih =>
    intro v6 h
    unfold f_Mo_bought_L93
    refine gr_iload (M := gm_Mo_bought) dq_Mo_bought_93 5 rfl 95 rfl ?_
    refine gr_aload_n (M := gm_Mo_bought) dq_Mo_bought_95 rfl 0 rfl 96 rfl ?_
    refine gr_geti (M := gm_Mo_bought) dq_Mo_bought_96 99 rfl gfl_Mo_114 gsh_83 rfl (gli hL gsh_83) ?_
    refine gr_icmp_ge (M := gm_Mo_bought) dq_Mo_bought_99 137 102 rfl rfl (fun c18 => ?_) (fun c18 => ?_)
    · refine gr_sub (M := gm_Mo_bought) (lv' := [(0, .inr (.inr 83)), (2, .inl v2), (3, .inl v3), (4, .inl v4), (5, .inl v5)]) [0, 1, 2, 3, 4] rfl ?_
      exact hk137  _
    refine gr_aload_n (M := gm_Mo_bought) dq_Mo_bought_102 rfl 0 rfl 103 rfl ?_
    refine gr_getr (M := gm_Mo_bought) dq_Mo_bought_103 106 rfl gfl_Mo_83 gsh_83 rfl (gli hL gsh_83) 106 rfl ?_
    refine gr_bipush (M := gm_Mo_bought) (v := 7) dq_Mo_bought_106 (by decide) ⟨by decide, by decide⟩ 108 rfl ?_
    refine gr_iload (M := gm_Mo_bought) dq_Mo_bought_108 4 rfl 110 rfl ?_
    refine gr_imul (M := gm_Mo_bought) dq_Mo_bought_110 111 rfl ?_
    refine gr_iload (M := gm_Mo_bought) dq_Mo_bought_111 5 rfl 113 rfl ?_
    refine gr_iadd (M := gm_Mo_bought) dq_Mo_bought_113 114 rfl ?_
    refine gr_iald (M := gm_Mo_bought) dq_Mo_bought_114 115 rfl gsh_106 (glj hL gsh_106 (by decide)) ?_
    refine gr_ldc (M := gm_Mo_bought) (v := 1000000) dq_Mo_bought_115 gk_Mo_181 ⟨by decide, by decide⟩ 117 rfl ?_
    refine gr_icmp_ge (M := gm_Mo_bought) dq_Mo_bought_117 131 120 rfl rfl (fun c19 => ?_) (fun c19 => ?_)
    · exact w_Mo_bought_J131 hL hn hF   ih
    refine gr_aload_n (M := gm_Mo_bought) dq_Mo_bought_120 rfl 0 rfl 121 rfl ?_
    refine gr_iload (M := gm_Mo_bought) dq_Mo_bought_121 4 rfl 123 rfl ?_
    refine gr_iload (M := gm_Mo_bought) dq_Mo_bought_123 5 rfl 125 rfl ?_
    refine gr_iload (M := gm_Mo_bought) dq_Mo_bought_125 3 rfl 127 rfl ?_
    refine gr_iload_n (M := gm_Mo_bought) dq_Mo_bought_127 rfl 2 rfl 128 rfl ?_
    refine gr_callVv (M := gm_Mo_bought) (as := [.inl v5, .inl v6, .inl v4, .inl v3]) dq_Mo_bought_128 131 rfl rfl gcy_Mo_321 gim_Mo_buy gse_Mo_buy ⟨by decide, by decide⟩ (Nat.le_of_ble_eq_true rfl) gsh_83 rfl (gli hL gsh_83) (fun o1 hg ha hx => c_Mo_buy hL hn  hg ha hx) (fun h20 r21 _ => ?_)
    exact w_Mo_bought_J131 hL hn hF   ih

def f_Mo_bought_L83 (v2 : Int) (v3 : Int) (v4 : Int) (k143 : gH → Option gO) : Nat → Int → gH → Option gO
  | 0, _, _ => none
  | n + 1, v5, h => if v4 < v5 then (k143  h) else (f_Mo_bought_L93 v2 v3 v4 v5 (fun  h22 => f_Mo_bought_L83 v2 v3 v4 k143 n (gadd v5 1) h22) 50000 0 h)
theorem w_Mo_bought_L83 {o : gO} {X : gX} (hL : gLive (xZ X)) (hn : (zL (xZ X)).Nodup) (hF : gFin X (some .int) o) {v2 : Int} {v3 : Int} {v4 : Int}   {k143 : gH → Option gO} (hk143 : ∀ (h : gH), gr (k143 h) o gm_Mo_bought X h 143 [(0, .inr (.inr 83)), (2, .inl v2), (4, .inl v4)] []) : ∀ (n : Nat) (v5 : Int) (h : gH), gr (f_Mo_bought_L83 v2 v3 v4 k143 n v5 h) o gm_Mo_bought X h 83 [(0, .inr (.inr 83)), (2, .inl v2), (3, .inl v3), (4, .inl v4), (5, .inl v5)] [] := by
  intro n
  induction n with
  | zero => intros; exact gr_none
  | succ n ih =>
    intro v5 h
    unfold f_Mo_bought_L83
    refine gr_iload (M := gm_Mo_bought) dq_Mo_bought_83 4 rfl 85 rfl ?_
    refine gr_iload (M := gm_Mo_bought) dq_Mo_bought_85 3 rfl 87 rfl ?_
    refine gr_icmp_gt (M := gm_Mo_bought) dq_Mo_bought_87 143 90 rfl rfl (fun c17 => ?_) (fun c17 => ?_)
    · refine gr_sub (M := gm_Mo_bought) (lv' := [(0, .inr (.inr 83)), (2, .inl v2), (4, .inl v4)]) [0, 1, 3] rfl ?_
      exact hk143  _
    refine gr_iconst (M := gm_Mo_bought) (v := 0) dq_Mo_bought_90 rfl ⟨by decide, by decide⟩ 91 rfl ?_
    refine gr_istore (M := gm_Mo_bought) (kk := 0) (lv' := [(6, .inl 0), (0, .inr (.inr 83)), (2, .inl v2), (3, .inl v3), (4, .inl v4), (5, .inl v5)]) dq_Mo_bought_91 (by decide) rfl 93 rfl ?_
    refine gr_sub (M := gm_Mo_bought) (lv' := [(0, .inr (.inr 83)), (2, .inl v2), (3, .inl v3), (4, .inl v4), (5, .inl v5), (6, .inl 0)]) [1, 2, 3, 4, 5, 0] rfl ?_
    refine w_Mo_bought_L93 hL hn hF   (fun h22 => ?_) 50000 _ _
    refine gr_iinc (M := gm_Mo_bought) (lv' := [(5, .inl (gadd v5 1)), (0, .inr (.inr 83)), (2, .inl v2), (3, .inl v3), (4, .inl v4)]) dq_Mo_bought_137 4 rfl rfl (by decide) rfl 140 rfl ?_
    refine gr_goto (M := gm_Mo_bought) dq_Mo_bought_140 83 rfl ?_
    refine gr_sub (M := gm_Mo_bought) (lv' := [(0, .inr (.inr 83)), (2, .inl v2), (3, .inl v3), (4, .inl v4), (5, .inl (gadd v5 1))]) [1, 2, 3, 4, 0] rfl ?_
    exact ih _ _

def f_Mo_bought (a1 : Int) (a2 : Int) (a3 : Int) (a4 : Int) (h : gH) : Option gO := gb (f_Mo_isCorner a1 h) (fun h1 r2 => if r2 = 0 then (some (h1, (-1000000001))) else (gb (f_Mo_isCorner a2 h1) (fun h4 r5 => if r5 = 0 then (some (h4, (-1000000001))) else (gb (f_Mo_in a3 0 999 h4) (fun h7 r8 => if r8 = 0 then (some (h7, (-1000000002))) else (gb (f_Mo_in a4 0 300 h7) (fun h10 r11 => if r11 = 0 then (some (h10, (-1000000002))) else (f_Mo_bought_L50 a1 a2 a3 a4 (fun  h15 => gd (gix 2107 a1) (gs (gup h15 106 a1.toNat 0) (fun h16 => f_Mo_bought_L83 a2 a3 a4 (fun  h23 => gd (gix 2107 (gadd (gmul 7 a4) a2)) (if 1000000 ≤ (h23 106 (gadd (gmul 7 a4) a2).toNat) then (some (h23, (-1))) else (gd (gix 2107 (gadd (gmul 7 a4) a2)) (some (h23, (h23 106 (gadd (gmul 7 a4) a2).toNat)))))) 50000 0 h16))) 50000 0 h10))))))))
theorem c_Mo_bought {Z : gZ} (hL : gLive Z) (hn : (zL Z).Nodup) {a1 : Int} {a2 : Int} {a3 : Int} {a4 : Int}  {h : gH} {o : gO} (hg : gRg h) (ha : gRl [.inr (.inr 83), .inl a1, .inl a2, .inl a3, .inl a4]) (hx : f_Mo_bought a1 a2 a3 a4 h = some o) : gC Z gy_Mo_bought gc_Mo_bought 7 (some .int) 2 53 [.inr (.inr 83), .inl a1, .inl a2, .inl a3, .inl a4] h o := by
  unfold f_Mo_bought at hx
  refine gC_of (lv := [(0, .inr (.inr 83)), (1, .inl a1), (2, .inl a2), (3, .inl a3), (4, .inl a4)]) (own := gR_7) (by decide +kernel) rfl (Nat.le_of_ble_eq_true rfl) rfl rfl hn hg ha hx (fun X hZ hF => ?_)
  subst hZ
  show gr _ o gm_Mo_bought X h 0 _ _
  refine gr_aload_n (M := gm_Mo_bought) dq_Mo_bought_0 rfl 0 rfl 1 rfl ?_
  refine gr_iload_n (M := gm_Mo_bought) dq_Mo_bought_1 rfl 1 rfl 2 rfl ?_
  refine gr_callVi (M := gm_Mo_bought) (as := [.inl a1]) dq_Mo_bought_2 5 rfl rfl gcy_Mo_204 gim_Mo_isCorner gse_Mo_isCorner ⟨by decide, by decide⟩ (Nat.le_of_ble_eq_true rfl) gsh_83 rfl (gli hL gsh_83) (fun o1 hg ha hx => c_Mo_isCorner hL hn  hg ha hx) (fun h1 r2 _ => ?_)
  refine gr_if_eq (M := gm_Mo_bought) dq_Mo_bought_5 16 8 rfl rfl (fun c3 => ?_) (fun c3 => ?_)
  · refine gr_ldc (M := gm_Mo_bought) (v := (-1000000001)) dq_Mo_bought_16 gk_Mo_208 ⟨by decide, by decide⟩ 18 rfl ?_
    exact gr_ireturn (M := gm_Mo_bought) dq_Mo_bought_18 hF
  refine gr_aload_n (M := gm_Mo_bought) dq_Mo_bought_8 rfl 0 rfl 9 rfl ?_
  refine gr_iload_n (M := gm_Mo_bought) dq_Mo_bought_9 rfl 2 rfl 10 rfl ?_
  refine gr_callVi (M := gm_Mo_bought) (as := [.inl a2]) dq_Mo_bought_10 13 rfl rfl gcy_Mo_204 gim_Mo_isCorner gse_Mo_isCorner ⟨by decide, by decide⟩ (Nat.le_of_ble_eq_true rfl) gsh_83 rfl (gli hL gsh_83) (fun o1 hg ha hx => c_Mo_isCorner hL hn  hg ha hx) (fun h4 r5 _ => ?_)
  refine gr_if_ne (M := gm_Mo_bought) dq_Mo_bought_13 19 16 rfl rfl (fun c6 => ?_) (fun c6 => ?_)
  · refine gr_iload_n (M := gm_Mo_bought) dq_Mo_bought_19 rfl 3 rfl 20 rfl ?_
    refine gr_i2l (M := gm_Mo_bought) dq_Mo_bought_20 21 rfl ?_
    refine gr_lconst (M := gm_Mo_bought) (v := 0) dq_Mo_bought_21 (by decide) ⟨by decide, by decide⟩ 22 rfl ?_
    refine gr_ldc2_w (M := gm_Mo_bought) (v := 999) dq_Mo_bought_22 gk_Mo_312 ⟨by decide, by decide⟩ 25 rfl ?_
    refine gr_callSi (M := gm_Mo_bought) (as := [.inr (.inl a3), .inr (.inl 0), .inr (.inl 999)]) dq_Mo_bought_25 28 rfl rfl gcy_Mo_117 gst_Mo_in ⟨by decide, by decide⟩ (Nat.le_of_ble_eq_true rfl) (fun o1 hg ha hx => c_Mo_in hL hn  hg ha hx) (fun h7 r8 _ => ?_)
    refine gr_if_eq (M := gm_Mo_bought) dq_Mo_bought_28 44 31 rfl rfl (fun c9 => ?_) (fun c9 => ?_)
    · refine gr_ldc (M := gm_Mo_bought) (v := (-1000000002)) dq_Mo_bought_44 gk_Mo_129 ⟨by decide, by decide⟩ 46 rfl ?_
      exact gr_ireturn (M := gm_Mo_bought) dq_Mo_bought_46 hF
    refine gr_iload (M := gm_Mo_bought) dq_Mo_bought_31 4 rfl 33 rfl ?_
    refine gr_i2l (M := gm_Mo_bought) dq_Mo_bought_33 34 rfl ?_
    refine gr_lconst (M := gm_Mo_bought) (v := 0) dq_Mo_bought_34 (by decide) ⟨by decide, by decide⟩ 35 rfl ?_
    refine gr_ldc2_w (M := gm_Mo_bought) (v := 300) dq_Mo_bought_35 gk_Mo_267 ⟨by decide, by decide⟩ 38 rfl ?_
    refine gr_callSi (M := gm_Mo_bought) (as := [.inr (.inl a4), .inr (.inl 0), .inr (.inl 300)]) dq_Mo_bought_38 41 rfl rfl gcy_Mo_117 gst_Mo_in ⟨by decide, by decide⟩ (Nat.le_of_ble_eq_true rfl) (fun o1 hg ha hx => c_Mo_in hL hn  hg ha hx) (fun h10 r11 _ => ?_)
    refine gr_if_ne (M := gm_Mo_bought) dq_Mo_bought_41 47 44 rfl rfl (fun c12 => ?_) (fun c12 => ?_)
    · refine gr_iconst (M := gm_Mo_bought) (v := 0) dq_Mo_bought_47 rfl ⟨by decide, by decide⟩ 48 rfl ?_
      refine gr_istore (M := gm_Mo_bought) (kk := 0) (lv' := [(5, .inl 0), (0, .inr (.inr 83)), (1, .inl a1), (2, .inl a2), (3, .inl a3), (4, .inl a4)]) dq_Mo_bought_48 (by decide) rfl 50 rfl ?_
      refine gr_sub (M := gm_Mo_bought) (lv' := [(0, .inr (.inr 83)), (1, .inl a1), (2, .inl a2), (3, .inl a3), (4, .inl a4), (5, .inl 0)]) [1, 2, 3, 4, 5, 0] rfl ?_
      refine w_Mo_bought_L50 hL hn hF   (fun h15 => ?_) 50000 _ _
      refine gr_aload_n (M := gm_Mo_bought) dq_Mo_bought_73 rfl 0 rfl 74 rfl ?_
      refine gr_getr (M := gm_Mo_bought) dq_Mo_bought_74 77 rfl gfl_Mo_83 gsh_83 rfl (gli hL gsh_83) 106 rfl ?_
      refine gr_iload_n (M := gm_Mo_bought) dq_Mo_bought_77 rfl 1 rfl 78 rfl ?_
      refine gr_iconst (M := gm_Mo_bought) (v := 0) dq_Mo_bought_78 rfl ⟨by decide, by decide⟩ 79 rfl ?_
      refine gr_iast (M := gm_Mo_bought) dq_Mo_bought_79 80 rfl gsh_106 (glj hL gsh_106 (by decide)) (fun h16 _ => ?_)
      refine gr_iconst (M := gm_Mo_bought) (v := 0) dq_Mo_bought_80 rfl ⟨by decide, by decide⟩ 81 rfl ?_
      refine gr_istore (M := gm_Mo_bought) (kk := 0) (lv' := [(5, .inl 0), (0, .inr (.inr 83)), (1, .inl a1), (2, .inl a2), (3, .inl a3), (4, .inl a4)]) dq_Mo_bought_81 (by decide) rfl 83 rfl ?_
      refine gr_sub (M := gm_Mo_bought) (lv' := [(0, .inr (.inr 83)), (2, .inl a2), (3, .inl a3), (4, .inl a4), (5, .inl 0)]) [1, 3, 4, 5, 0] rfl ?_
      refine w_Mo_bought_L83 hL hn hF   (fun h23 => ?_) 50000 _ _
      refine gr_aload_n (M := gm_Mo_bought) dq_Mo_bought_143 rfl 0 rfl 144 rfl ?_
      refine gr_getr (M := gm_Mo_bought) dq_Mo_bought_144 147 rfl gfl_Mo_83 gsh_83 rfl (gli hL gsh_83) 106 rfl ?_
      refine gr_bipush (M := gm_Mo_bought) (v := 7) dq_Mo_bought_147 (by decide) ⟨by decide, by decide⟩ 149 rfl ?_
      refine gr_iload (M := gm_Mo_bought) dq_Mo_bought_149 2 rfl 151 rfl ?_
      refine gr_imul (M := gm_Mo_bought) dq_Mo_bought_151 152 rfl ?_
      refine gr_iload_n (M := gm_Mo_bought) dq_Mo_bought_152 rfl 1 rfl 153 rfl ?_
      refine gr_iadd (M := gm_Mo_bought) dq_Mo_bought_153 154 rfl ?_
      refine gr_iald (M := gm_Mo_bought) dq_Mo_bought_154 155 rfl gsh_106 (glj hL gsh_106 (by decide)) ?_
      refine gr_ldc (M := gm_Mo_bought) (v := 1000000) dq_Mo_bought_155 gk_Mo_181 ⟨by decide, by decide⟩ 157 rfl ?_
      refine gr_icmp_ge (M := gm_Mo_bought) dq_Mo_bought_157 175 160 rfl rfl (fun c24 => ?_) (fun c24 => ?_)
      · refine gr_iconst (M := gm_Mo_bought) (v := (-1)) dq_Mo_bought_175 rfl ⟨by decide, by decide⟩ 176 rfl ?_
        exact gr_ireturn (M := gm_Mo_bought) dq_Mo_bought_176 hF
      refine gr_aload_n (M := gm_Mo_bought) dq_Mo_bought_160 rfl 0 rfl 161 rfl ?_
      refine gr_getr (M := gm_Mo_bought) dq_Mo_bought_161 164 rfl gfl_Mo_83 gsh_83 rfl (gli hL gsh_83) 106 rfl ?_
      refine gr_bipush (M := gm_Mo_bought) (v := 7) dq_Mo_bought_164 (by decide) ⟨by decide, by decide⟩ 166 rfl ?_
      refine gr_iload (M := gm_Mo_bought) dq_Mo_bought_166 2 rfl 168 rfl ?_
      refine gr_imul (M := gm_Mo_bought) dq_Mo_bought_168 169 rfl ?_
      refine gr_iload_n (M := gm_Mo_bought) dq_Mo_bought_169 rfl 1 rfl 170 rfl ?_
      refine gr_iadd (M := gm_Mo_bought) dq_Mo_bought_170 171 rfl ?_
      refine gr_iald (M := gm_Mo_bought) dq_Mo_bought_171 172 rfl gsh_106 (glj hL gsh_106 (by decide)) ?_
      refine gr_goto (M := gm_Mo_bought) dq_Mo_bought_172 176 rfl ?_
      exact gr_ireturn (M := gm_Mo_bought) dq_Mo_bought_176 hF
    refine gr_ldc (M := gm_Mo_bought) (v := (-1000000002)) dq_Mo_bought_44 gk_Mo_129 ⟨by decide, by decide⟩ 46 rfl ?_
    exact gr_ireturn (M := gm_Mo_bought) dq_Mo_bought_46 hF
  refine gr_ldc (M := gm_Mo_bought) (v := (-1000000001)) dq_Mo_bought_16 gk_Mo_208 ⟨by decide, by decide⟩ 18 rfl ?_
  exact gr_ireturn (M := gm_Mo_bought) dq_Mo_bought_18 hF

-- Mo_give
theorem dq_Mo_give_0 : decode gc_Mo_give 0 = .ok (.iload_n 1, 1) := by decide +kernel
theorem dq_Mo_give_1 : decode gc_Mo_give 1 = .ok (.istore_n 2, 1) := by decide +kernel
theorem dq_Mo_give_2 : decode gc_Mo_give 2 = .ok (.iconst 0, 1) := by decide +kernel
theorem dq_Mo_give_3 : decode gc_Mo_give 3 = .ok (.istore_n 3, 1) := by decide +kernel
theorem dq_Mo_give_4 : decode gc_Mo_give 4 = .ok (.aload_n 0, 1) := by decide +kernel
theorem dq_Mo_give_5 : decode gc_Mo_give 5 = .ok (.getfield 124, 3) := by decide +kernel
theorem dq_Mo_give_8 : decode gc_Mo_give 8 = .ok (.iconst 1, 1) := by decide +kernel
theorem dq_Mo_give_9 : decode gc_Mo_give 9 = .ok (.isub, 1) := by decide +kernel
theorem dq_Mo_give_10 : decode gc_Mo_give 10 = .ok (.istore 4, 2) := by decide +kernel
theorem dq_Mo_give_12 : decode gc_Mo_give 12 = .ok (.iload 4, 2) := by decide +kernel
theorem dq_Mo_give_14 : decode gc_Mo_give 14 = .ok (.ifCond .lt 65, 3) := by decide +kernel
theorem dq_Mo_give_17 : decode gc_Mo_give 17 = .ok (.iload_n 2, 1) := by decide +kernel
theorem dq_Mo_give_18 : decode gc_Mo_give 18 = .ok (.bipush 6, 2) := by decide +kernel
theorem dq_Mo_give_20 : decode gc_Mo_give 20 = .ok (.irem, 1) := by decide +kernel
theorem dq_Mo_give_21 : decode gc_Mo_give 21 = .ok (.istore 5, 2) := by decide +kernel
theorem dq_Mo_give_23 : decode gc_Mo_give 23 = .ok (.iload_n 2, 1) := by decide +kernel
theorem dq_Mo_give_24 : decode gc_Mo_give 24 = .ok (.bipush 6, 2) := by decide +kernel
theorem dq_Mo_give_26 : decode gc_Mo_give 26 = .ok (.idiv, 1) := by decide +kernel
theorem dq_Mo_give_27 : decode gc_Mo_give 27 = .ok (.istore_n 2, 1) := by decide +kernel
theorem dq_Mo_give_28 : decode gc_Mo_give 28 = .ok (.iload 5, 2) := by decide +kernel
theorem dq_Mo_give_30 : decode gc_Mo_give 30 = .ok (.aload_n 0, 1) := by decide +kernel
theorem dq_Mo_give_31 : decode gc_Mo_give 31 = .ok (.getfield 124, 3) := by decide +kernel
theorem dq_Mo_give_34 : decode gc_Mo_give 34 = .ok (.if_icmp .ge 13, 3) := by decide +kernel
theorem dq_Mo_give_37 : decode gc_Mo_give 37 = .ok (.iload_n 3, 1) := by decide +kernel
theorem dq_Mo_give_38 : decode gc_Mo_give 38 = .ok (.iload 5, 2) := by decide +kernel
theorem dq_Mo_give_40 : decode gc_Mo_give 40 = .ok (.ishr, 1) := by decide +kernel
theorem dq_Mo_give_41 : decode gc_Mo_give 41 = .ok (.iconst 1, 1) := by decide +kernel
theorem dq_Mo_give_42 : decode gc_Mo_give 42 = .ok (.iand, 1) := by decide +kernel
theorem dq_Mo_give_43 : decode gc_Mo_give 43 = .ok (.iconst 1, 1) := by decide +kernel
theorem dq_Mo_give_44 : decode gc_Mo_give 44 = .ok (.if_icmp .ne 5, 3) := by decide +kernel
theorem dq_Mo_give_47 : decode gc_Mo_give 47 = .ok (.iconst 0, 1) := by decide +kernel
theorem dq_Mo_give_48 : decode gc_Mo_give 48 = .ok (.ireturn, 1) := by decide +kernel
theorem dq_Mo_give_49 : decode gc_Mo_give 49 = .ok (.iload_n 3, 1) := by decide +kernel
theorem dq_Mo_give_50 : decode gc_Mo_give 50 = .ok (.iconst 1, 1) := by decide +kernel
theorem dq_Mo_give_51 : decode gc_Mo_give 51 = .ok (.iload 5, 2) := by decide +kernel
theorem dq_Mo_give_53 : decode gc_Mo_give 53 = .ok (.ishl, 1) := by decide +kernel
theorem dq_Mo_give_54 : decode gc_Mo_give 54 = .ok (.ior, 1) := by decide +kernel
theorem dq_Mo_give_55 : decode gc_Mo_give 55 = .ok (.istore_n 3, 1) := by decide +kernel
theorem dq_Mo_give_56 : decode gc_Mo_give 56 = .ok (.aload_n 0, 1) := by decide +kernel
theorem dq_Mo_give_57 : decode gc_Mo_give 57 = .ok (.getfield 86, 3) := by decide +kernel
theorem dq_Mo_give_60 : decode gc_Mo_give 60 = .ok (.iload 4, 2) := by decide +kernel
theorem dq_Mo_give_62 : decode gc_Mo_give 62 = .ok (.aload_n 0, 1) := by decide +kernel
theorem dq_Mo_give_63 : decode gc_Mo_give 63 = .ok (.getfield 77, 3) := by decide +kernel
theorem dq_Mo_give_66 : decode gc_Mo_give 66 = .ok (.bipush 20, 2) := by decide +kernel
theorem dq_Mo_give_68 : decode gc_Mo_give 68 = .ok (.iload 5, 2) := by decide +kernel
theorem dq_Mo_give_70 : decode gc_Mo_give 70 = .ok (.iadd, 1) := by decide +kernel
theorem dq_Mo_give_71 : decode gc_Mo_give 71 = .ok (.iaload, 1) := by decide +kernel
theorem dq_Mo_give_72 : decode gc_Mo_give 72 = .ok (.iastore, 1) := by decide +kernel
theorem dq_Mo_give_73 : decode gc_Mo_give 73 = .ok (.iinc 4 (-1), 3) := by decide +kernel
theorem dq_Mo_give_76 : decode gc_Mo_give 76 = .ok (.goto (-64), 3) := by decide +kernel
theorem dq_Mo_give_79 : decode gc_Mo_give 79 = .ok (.iconst 1, 1) := by decide +kernel
theorem dq_Mo_give_80 : decode gc_Mo_give 80 = .ok (.ireturn, 1) := by decide +kernel
abbrev gm_Mo_give : gM := (gc_Mo_give, gR_7, 0, 0, 6)
theorem gfl_Mo_86 : gFl gR_7 86 7 36 := ⟨_, _, _, rfl, by decide, (gtab_at 770 (by decide +kernel) rfl), gin_7⟩
def f_Mo_give_L12  (k79 : gH → Option gO) : Nat → Int → Int → Int → gH → Option gO
  | 0, _, _, _, _ => none
  | n + 1, v2, v3, v4, h => if v4 < 0 then (k79  h) else (gd (gnz 6) (gd (gnz 6) (if (h 83 6) ≤ (grem v2 6) then (gd (gz 0) (some (h, 0))) else (if (gand (gshr v3 (grem v2 6)) 1) = 1 then (gd (gz 0) (some (h, 0))) else (gd (gix 50 (gadd 20 (grem v2 6))) (gd (gix 6 v4) (gs (gup h 107 v4.toNat (h 104 (gadd 20 (grem v2 6)).toNat)) (fun h4 => f_Mo_give_L12 k79 n (gdiv v2 6) (gor v3 (gshl 1 (grem v2 6))) (gadd v4 (-1)) h4))))))))
theorem w_Mo_give_L12 {o : gO} {X : gX} (hL : gLive (xZ X)) (hn : (zL (xZ X)).Nodup) (hF : gFin X (some .boolean) o)    {k79 : gH → Option gO} (hk79 : ∀ (h : gH), gr (k79 h) o gm_Mo_give X h 79 [] []) : ∀ (n : Nat) (v2 : Int) (v3 : Int) (v4 : Int) (h : gH), gr (f_Mo_give_L12  k79 n v2 v3 v4 h) o gm_Mo_give X h 12 [(0, .inr (.inr 83)), (2, .inl v2), (3, .inl v3), (4, .inl v4)] [] := by
  intro n
  induction n with
  | zero => intros; exact gr_none
  | succ n ih =>
    intro v2 v3 v4 h
    unfold f_Mo_give_L12
    refine gr_iload (M := gm_Mo_give) dq_Mo_give_12 3 rfl 14 rfl ?_
    refine gr_if_lt (M := gm_Mo_give) dq_Mo_give_14 79 17 rfl rfl (fun c1 => ?_) (fun c1 => ?_)
    · refine gr_sub (M := gm_Mo_give) (lv' := []) [] rfl ?_
      exact hk79  _
    refine gr_iload_n (M := gm_Mo_give) dq_Mo_give_17 rfl 1 rfl 18 rfl ?_
    refine gr_bipush (M := gm_Mo_give) (v := 6) dq_Mo_give_18 (by decide) ⟨by decide, by decide⟩ 20 rfl ?_
    refine gr_irem (M := gm_Mo_give) dq_Mo_give_20 21 rfl ?_
    refine gr_istore (M := gm_Mo_give) (kk := 0) (lv' := [(5, .inl (grem v2 6)), (0, .inr (.inr 83)), (2, .inl v2), (3, .inl v3), (4, .inl v4)]) dq_Mo_give_21 (by decide) rfl 23 rfl ?_
    refine gr_iload_n (M := gm_Mo_give) dq_Mo_give_23 rfl 2 rfl 24 rfl ?_
    refine gr_bipush (M := gm_Mo_give) (v := 6) dq_Mo_give_24 (by decide) ⟨by decide, by decide⟩ 26 rfl ?_
    refine gr_idiv (M := gm_Mo_give) dq_Mo_give_26 27 rfl ?_
    refine gr_istore_n (M := gm_Mo_give) (lv' := [(2, .inl (gdiv v2 6)), (5, .inl (grem v2 6)), (0, .inr (.inr 83)), (3, .inl v3), (4, .inl v4)]) dq_Mo_give_27 rfl (by decide) rfl 28 rfl ?_
    refine gr_iload (M := gm_Mo_give) dq_Mo_give_28 1 rfl 30 rfl ?_
    refine gr_aload_n (M := gm_Mo_give) dq_Mo_give_30 rfl 2 rfl 31 rfl ?_
    refine gr_geti (M := gm_Mo_give) dq_Mo_give_31 34 rfl gfl_Mo_124 gsh_83 rfl (gli hL gsh_83) ?_
    refine gr_icmp_ge (M := gm_Mo_give) dq_Mo_give_34 47 37 rfl rfl (fun c2 => ?_) (fun c2 => ?_)
    · refine gr_iconst (M := gm_Mo_give) (v := 0) dq_Mo_give_47 rfl ⟨by decide, by decide⟩ 48 rfl ?_
      exact gr_zreturn (M := gm_Mo_give) dq_Mo_give_48 hF
    refine gr_iload_n (M := gm_Mo_give) dq_Mo_give_37 rfl 3 rfl 38 rfl ?_
    refine gr_iload (M := gm_Mo_give) dq_Mo_give_38 1 rfl 40 rfl ?_
    refine gr_ishr (M := gm_Mo_give) dq_Mo_give_40 41 rfl ?_
    refine gr_iconst (M := gm_Mo_give) (v := 1) dq_Mo_give_41 rfl ⟨by decide, by decide⟩ 42 rfl ?_
    refine gr_iand (M := gm_Mo_give) dq_Mo_give_42 43 rfl ?_
    refine gr_iconst (M := gm_Mo_give) (v := 1) dq_Mo_give_43 rfl ⟨by decide, by decide⟩ 44 rfl ?_
    refine gr_icmp_ne (M := gm_Mo_give) dq_Mo_give_44 49 47 rfl rfl (fun c3 => ?_) (fun c3 => ?_)
    · refine gr_iload_n (M := gm_Mo_give) dq_Mo_give_49 rfl 3 rfl 50 rfl ?_
      refine gr_iconst (M := gm_Mo_give) (v := 1) dq_Mo_give_50 rfl ⟨by decide, by decide⟩ 51 rfl ?_
      refine gr_iload (M := gm_Mo_give) dq_Mo_give_51 1 rfl 53 rfl ?_
      refine gr_ishl (M := gm_Mo_give) dq_Mo_give_53 54 rfl ?_
      refine gr_ior (M := gm_Mo_give) dq_Mo_give_54 55 rfl ?_
      refine gr_istore_n (M := gm_Mo_give) (lv' := [(3, .inl (gor v3 (gshl 1 (grem v2 6)))), (2, .inl (gdiv v2 6)), (5, .inl (grem v2 6)), (0, .inr (.inr 83)), (4, .inl v4)]) dq_Mo_give_55 rfl (by decide) rfl 56 rfl ?_
      refine gr_aload_n (M := gm_Mo_give) dq_Mo_give_56 rfl 3 rfl 57 rfl ?_
      refine gr_getr (M := gm_Mo_give) dq_Mo_give_57 60 rfl gfl_Mo_86 gsh_83 rfl (gli hL gsh_83) 107 rfl ?_
      refine gr_iload (M := gm_Mo_give) dq_Mo_give_60 4 rfl 62 rfl ?_
      refine gr_aload_n (M := gm_Mo_give) dq_Mo_give_62 rfl 3 rfl 63 rfl ?_
      refine gr_getr (M := gm_Mo_give) dq_Mo_give_63 66 rfl gfl_Mo_77 gsh_83 rfl (gli hL gsh_83) 104 rfl ?_
      refine gr_bipush (M := gm_Mo_give) (v := 20) dq_Mo_give_66 (by decide) ⟨by decide, by decide⟩ 68 rfl ?_
      refine gr_iload (M := gm_Mo_give) dq_Mo_give_68 2 rfl 70 rfl ?_
      refine gr_iadd (M := gm_Mo_give) dq_Mo_give_70 71 rfl ?_
      refine gr_iald (M := gm_Mo_give) dq_Mo_give_71 72 rfl gsh_104 (glj hL gsh_104 (by decide)) ?_
      refine gr_iast (M := gm_Mo_give) dq_Mo_give_72 73 rfl gsh_107 (glj hL gsh_107 (by decide)) (fun h4 _ => ?_)
      refine gr_iinc (M := gm_Mo_give) (lv' := [(4, .inl (gadd v4 (-1))), (3, .inl (gor v3 (gshl 1 (grem v2 6)))), (2, .inl (gdiv v2 6)), (5, .inl (grem v2 6)), (0, .inr (.inr 83))]) dq_Mo_give_73 4 rfl rfl (by decide) rfl 76 rfl ?_
      refine gr_goto (M := gm_Mo_give) dq_Mo_give_76 12 rfl ?_
      refine gr_sub (M := gm_Mo_give) (lv' := [(0, .inr (.inr 83)), (2, .inl (gdiv v2 6)), (3, .inl (gor v3 (gshl 1 (grem v2 6)))), (4, .inl (gadd v4 (-1)))]) [4, 2, 1, 0] rfl ?_
      exact ih _ _ _ _
    refine gr_iconst (M := gm_Mo_give) (v := 0) dq_Mo_give_47 rfl ⟨by decide, by decide⟩ 48 rfl ?_
    exact gr_zreturn (M := gm_Mo_give) dq_Mo_give_48 hF

def f_Mo_give (a1 : Int) (h : gH) : Option gO := f_Mo_give_L12  (fun  h5 => gd (gz 1) (some (h5, 1))) 50000 a1 0 (gsub (h 83 6) 1) h
theorem c_Mo_give {Z : gZ} (hL : gLive Z) (hn : (zL Z).Nodup) {a1 : Int}  {h : gH} {o : gO} (hg : gRg h) (ha : gRl [.inr (.inr 83), .inl a1]) (hx : f_Mo_give a1 h = some o) : gC Z gy_Mo_give gc_Mo_give 6 (some .boolean) 0 0 [.inr (.inr 83), .inl a1] h o := by
  unfold f_Mo_give at hx
  refine gC_of (lv := [(0, .inr (.inr 83)), (1, .inl a1)]) (own := gR_7) (by decide +kernel) rfl (Nat.le_of_ble_eq_true rfl) rfl rfl hn hg ha hx (fun X hZ hF => ?_)
  subst hZ
  show gr _ o gm_Mo_give X h 0 _ _
  refine gr_iload_n (M := gm_Mo_give) dq_Mo_give_0 rfl 1 rfl 1 rfl ?_
  refine gr_istore_n (M := gm_Mo_give) (lv' := [(2, .inl a1), (0, .inr (.inr 83)), (1, .inl a1)]) dq_Mo_give_1 rfl (by decide) rfl 2 rfl ?_
  refine gr_iconst (M := gm_Mo_give) (v := 0) dq_Mo_give_2 rfl ⟨by decide, by decide⟩ 3 rfl ?_
  refine gr_istore_n (M := gm_Mo_give) (lv' := [(3, .inl 0), (2, .inl a1), (0, .inr (.inr 83)), (1, .inl a1)]) dq_Mo_give_3 rfl (by decide) rfl 4 rfl ?_
  refine gr_aload_n (M := gm_Mo_give) dq_Mo_give_4 rfl 2 rfl 5 rfl ?_
  refine gr_geti (M := gm_Mo_give) dq_Mo_give_5 8 rfl gfl_Mo_124 gsh_83 rfl (gli hL gsh_83) ?_
  refine gr_iconst (M := gm_Mo_give) (v := 1) dq_Mo_give_8 rfl ⟨by decide, by decide⟩ 9 rfl ?_
  refine gr_isub (M := gm_Mo_give) dq_Mo_give_9 10 rfl ?_
  refine gr_istore (M := gm_Mo_give) (kk := 0) (lv' := [(4, .inl (gsub (h 83 6) 1)), (3, .inl 0), (2, .inl a1), (0, .inr (.inr 83)), (1, .inl a1)]) dq_Mo_give_10 (by decide) rfl 12 rfl ?_
  refine gr_sub (M := gm_Mo_give) (lv' := [(0, .inr (.inr 83)), (2, .inl a1), (3, .inl 0), (4, .inl (gsub (h 83 6) 1))]) [3, 2, 1, 0] rfl ?_
  refine w_Mo_give_L12 hL hn hF   (fun h5 => ?_) 50000 _ _ _ _
  refine gr_iconst (M := gm_Mo_give) (v := 1) dq_Mo_give_79 rfl ⟨by decide, by decide⟩ 80 rfl ?_
  exact gr_zreturn (M := gm_Mo_give) dq_Mo_give_80 hF

-- Mo_isLess
theorem dq_Mo_isLess_0 : decode gc_Mo_isLess 0 = .ok (.iconst 0, 1) := by decide +kernel
theorem dq_Mo_isLess_1 : decode gc_Mo_isLess 1 = .ok (.istore_n 3, 1) := by decide +kernel
theorem dq_Mo_isLess_2 : decode gc_Mo_isLess 2 = .ok (.iload_n 3, 1) := by decide +kernel
theorem dq_Mo_isLess_3 : decode gc_Mo_isLess 3 = .ok (.aload_n 0, 1) := by decide +kernel
theorem dq_Mo_isLess_4 : decode gc_Mo_isLess 4 = .ok (.getfield 124, 3) := by decide +kernel
theorem dq_Mo_isLess_7 : decode gc_Mo_isLess 7 = .ok (.if_icmp .ge 33, 3) := by decide +kernel
theorem dq_Mo_isLess_10 : decode gc_Mo_isLess 10 = .ok (.aload_n 1, 1) := by decide +kernel
theorem dq_Mo_isLess_11 : decode gc_Mo_isLess 11 = .ok (.iload_n 3, 1) := by decide +kernel
theorem dq_Mo_isLess_12 : decode gc_Mo_isLess 12 = .ok (.iaload, 1) := by decide +kernel
theorem dq_Mo_isLess_13 : decode gc_Mo_isLess 13 = .ok (.aload_n 2, 1) := by decide +kernel
theorem dq_Mo_isLess_14 : decode gc_Mo_isLess 14 = .ok (.iload_n 3, 1) := by decide +kernel
theorem dq_Mo_isLess_15 : decode gc_Mo_isLess 15 = .ok (.iaload, 1) := by decide +kernel
theorem dq_Mo_isLess_16 : decode gc_Mo_isLess 16 = .ok (.if_icmp .eq 18, 3) := by decide +kernel
theorem dq_Mo_isLess_19 : decode gc_Mo_isLess 19 = .ok (.aload_n 1, 1) := by decide +kernel
theorem dq_Mo_isLess_20 : decode gc_Mo_isLess 20 = .ok (.iload_n 3, 1) := by decide +kernel
theorem dq_Mo_isLess_21 : decode gc_Mo_isLess 21 = .ok (.iaload, 1) := by decide +kernel
theorem dq_Mo_isLess_22 : decode gc_Mo_isLess 22 = .ok (.aload_n 2, 1) := by decide +kernel
theorem dq_Mo_isLess_23 : decode gc_Mo_isLess 23 = .ok (.iload_n 3, 1) := by decide +kernel
theorem dq_Mo_isLess_24 : decode gc_Mo_isLess 24 = .ok (.iaload, 1) := by decide +kernel
theorem dq_Mo_isLess_25 : decode gc_Mo_isLess 25 = .ok (.if_icmp .ge 7, 3) := by decide +kernel
theorem dq_Mo_isLess_28 : decode gc_Mo_isLess 28 = .ok (.iconst 1, 1) := by decide +kernel
theorem dq_Mo_isLess_29 : decode gc_Mo_isLess 29 = .ok (.goto 4, 3) := by decide +kernel
theorem dq_Mo_isLess_32 : decode gc_Mo_isLess 32 = .ok (.iconst 0, 1) := by decide +kernel
theorem dq_Mo_isLess_33 : decode gc_Mo_isLess 33 = .ok (.ireturn, 1) := by decide +kernel
theorem dq_Mo_isLess_34 : decode gc_Mo_isLess 34 = .ok (.iinc 3 1, 3) := by decide +kernel
theorem dq_Mo_isLess_37 : decode gc_Mo_isLess 37 = .ok (.goto (-35), 3) := by decide +kernel
theorem dq_Mo_isLess_40 : decode gc_Mo_isLess 40 = .ok (.iconst 0, 1) := by decide +kernel
theorem dq_Mo_isLess_41 : decode gc_Mo_isLess 41 = .ok (.ireturn, 1) := by decide +kernel
abbrev gm_Mo_isLess : gM := (gc_Mo_isLess, gR_7, 0, 0, 4)
def f_Mo_isLess_L2 (p1 : Nat) (p2 : Nat) (k40 : gH → Option gO) : Nat → Int → gH → Option gO
  | 0, _, _ => none
  | n + 1, v3, h => if (h 83 6) ≤ v3 then (k40  h) else (gd (gix (gln p1) v3) (gd (gix (gln p2) v3) (if (h p1 v3.toNat) = (h p2 v3.toNat) then (f_Mo_isLess_L2 p1 p2 k40 n (gadd v3 1) h) else (gd (gix (gln p1) v3) (gd (gix (gln p2) v3) (if (h p2 v3.toNat) ≤ (h p1 v3.toNat) then (gd (gz 0) (some (h, 0))) else (gd (gz 1) (some (h, 1)))))))))
theorem w_Mo_isLess_L2 {o : gO} {X : gX} (hL : gLive (xZ X)) (hn : (zL (xZ X)).Nodup) (hF : gFin X (some .boolean) o) {p1 : Nat} {p2 : Nat} (hp1 : gia p1 = true) (hp2 : gia p2 = true)  {k40 : gH → Option gO} (hk40 : ∀ (h : gH), gr (k40 h) o gm_Mo_isLess X h 40 [] []) : ∀ (n : Nat) (v3 : Int) (h : gH), gr (f_Mo_isLess_L2 p1 p2 k40 n v3 h) o gm_Mo_isLess X h 2 [(0, .inr (.inr 83)), (1, .inr (.inr p1)), (2, .inr (.inr p2)), (3, .inl v3)] [] := by
  intro n
  induction n with
  | zero => intros; exact gr_none
  | succ n ih =>
    intro v3 h
    unfold f_Mo_isLess_L2
    refine gr_iload_n (M := gm_Mo_isLess) dq_Mo_isLess_2 rfl 3 rfl 3 rfl ?_
    refine gr_aload_n (M := gm_Mo_isLess) dq_Mo_isLess_3 rfl 0 rfl 4 rfl ?_
    refine gr_geti (M := gm_Mo_isLess) dq_Mo_isLess_4 7 rfl gfl_Mo_124 gsh_83 rfl (gli hL gsh_83) ?_
    refine gr_icmp_ge (M := gm_Mo_isLess) dq_Mo_isLess_7 40 10 rfl rfl (fun c1 => ?_) (fun c1 => ?_)
    · refine gr_sub (M := gm_Mo_isLess) (lv' := []) [] rfl ?_
      exact hk40  _
    refine gr_aload_n (M := gm_Mo_isLess) dq_Mo_isLess_10 rfl 1 rfl 11 rfl ?_
    refine gr_iload_n (M := gm_Mo_isLess) dq_Mo_isLess_11 rfl 3 rfl 12 rfl ?_
    refine gr_ialdP (M := gm_Mo_isLess) dq_Mo_isLess_12 13 rfl hp1 hL ?_
    refine gr_aload_n (M := gm_Mo_isLess) dq_Mo_isLess_13 rfl 2 rfl 14 rfl ?_
    refine gr_iload_n (M := gm_Mo_isLess) dq_Mo_isLess_14 rfl 3 rfl 15 rfl ?_
    refine gr_ialdP (M := gm_Mo_isLess) dq_Mo_isLess_15 16 rfl hp2 hL ?_
    refine gr_icmp_eq (M := gm_Mo_isLess) dq_Mo_isLess_16 34 19 rfl rfl (fun c2 => ?_) (fun c2 => ?_)
    · refine gr_iinc (M := gm_Mo_isLess) (lv' := [(3, .inl (gadd v3 1)), (0, .inr (.inr 83)), (1, .inr (.inr p1)), (2, .inr (.inr p2))]) dq_Mo_isLess_34 3 rfl rfl (by decide) rfl 37 rfl ?_
      refine gr_goto (M := gm_Mo_isLess) dq_Mo_isLess_37 2 rfl ?_
      refine gr_sub (M := gm_Mo_isLess) (lv' := [(0, .inr (.inr 83)), (1, .inr (.inr p1)), (2, .inr (.inr p2)), (3, .inl (gadd v3 1))]) [1, 2, 3, 0] rfl ?_
      exact ih _ _
    refine gr_aload_n (M := gm_Mo_isLess) dq_Mo_isLess_19 rfl 1 rfl 20 rfl ?_
    refine gr_iload_n (M := gm_Mo_isLess) dq_Mo_isLess_20 rfl 3 rfl 21 rfl ?_
    refine gr_ialdP (M := gm_Mo_isLess) dq_Mo_isLess_21 22 rfl hp1 hL ?_
    refine gr_aload_n (M := gm_Mo_isLess) dq_Mo_isLess_22 rfl 2 rfl 23 rfl ?_
    refine gr_iload_n (M := gm_Mo_isLess) dq_Mo_isLess_23 rfl 3 rfl 24 rfl ?_
    refine gr_ialdP (M := gm_Mo_isLess) dq_Mo_isLess_24 25 rfl hp2 hL ?_
    refine gr_icmp_ge (M := gm_Mo_isLess) dq_Mo_isLess_25 32 28 rfl rfl (fun c3 => ?_) (fun c3 => ?_)
    · refine gr_iconst (M := gm_Mo_isLess) (v := 0) dq_Mo_isLess_32 rfl ⟨by decide, by decide⟩ 33 rfl ?_
      exact gr_zreturn (M := gm_Mo_isLess) dq_Mo_isLess_33 hF
    refine gr_iconst (M := gm_Mo_isLess) (v := 1) dq_Mo_isLess_28 rfl ⟨by decide, by decide⟩ 29 rfl ?_
    refine gr_goto (M := gm_Mo_isLess) dq_Mo_isLess_29 33 rfl ?_
    exact gr_zreturn (M := gm_Mo_isLess) dq_Mo_isLess_33 hF

def f_Mo_isLess (p1 : Nat) (p2 : Nat) (h : gH) : Option gO := f_Mo_isLess_L2 p1 p2 (fun  h4 => gd (gz 0) (some (h4, 0))) 50000 0 h
theorem c_Mo_isLess {Z : gZ} (hL : gLive Z) (hn : (zL Z).Nodup) {p1 : Nat} {p2 : Nat} (hp1 : gia p1 = true) (hp2 : gia p2 = true) {h : gH} {o : gO} (hg : gRg h) (ha : gRl [.inr (.inr 83), .inr (.inr p1), .inr (.inr p2)]) (hx : f_Mo_isLess p1 p2 h = some o) : gC Z gy_Mo_isLess gc_Mo_isLess 4 (some .boolean) 0 0 [.inr (.inr 83), .inr (.inr p1), .inr (.inr p2)] h o := by
  unfold f_Mo_isLess at hx
  refine gC_of (lv := [(0, .inr (.inr 83)), (1, .inr (.inr p1)), (2, .inr (.inr p2))]) (own := gR_7) (by decide +kernel) rfl (Nat.le_of_ble_eq_true rfl) rfl rfl hn hg ha hx (fun X hZ hF => ?_)
  subst hZ
  show gr _ o gm_Mo_isLess X h 0 _ _
  refine gr_iconst (M := gm_Mo_isLess) (v := 0) dq_Mo_isLess_0 rfl ⟨by decide, by decide⟩ 1 rfl ?_
  refine gr_istore_n (M := gm_Mo_isLess) (lv' := [(3, .inl 0), (0, .inr (.inr 83)), (1, .inr (.inr p1)), (2, .inr (.inr p2))]) dq_Mo_isLess_1 rfl (by decide) rfl 2 rfl ?_
  refine gr_sub (M := gm_Mo_isLess) (lv' := [(0, .inr (.inr 83)), (1, .inr (.inr p1)), (2, .inr (.inr p2)), (3, .inl 0)]) [1, 2, 3, 0] rfl ?_
  refine w_Mo_isLess_L2 hL hn hF hp1 hp2  (fun h4 => ?_) 50000 _ _
  refine gr_iconst (M := gm_Mo_isLess) (v := 0) dq_Mo_isLess_40 rfl ⟨by decide, by decide⟩ 41 rfl ?_
  exact gr_zreturn (M := gm_Mo_isLess) dq_Mo_isLess_41 hF

-- Mo_ranks
theorem dq_Mo_ranks_0 : decode gc_Mo_ranks 0 = .ok (.iload_n 2, 1) := by decide +kernel
theorem dq_Mo_ranks_1 : decode gc_Mo_ranks 1 = .ok (.iconst (-1), 1) := by decide +kernel
theorem dq_Mo_ranks_2 : decode gc_Mo_ranks 2 = .ok (.if_icmp .eq 14, 3) := by decide +kernel
theorem dq_Mo_ranks_5 : decode gc_Mo_ranks 5 = .ok (.aload_n 0, 1) := by decide +kernel
theorem dq_Mo_ranks_6 : decode gc_Mo_ranks 6 = .ok (.iload_n 2, 1) := by decide +kernel
theorem dq_Mo_ranks_7 : decode gc_Mo_ranks 7 = .ok (.invokevirtual 215, 3) := by decide +kernel
theorem dq_Mo_ranks_10 : decode gc_Mo_ranks 10 = .ok (.ifCond .ne 6, 3) := by decide +kernel
theorem dq_Mo_ranks_13 : decode gc_Mo_ranks 13 = .ok (.ldc 208, 2) := by decide +kernel
theorem dq_Mo_ranks_15 : decode gc_Mo_ranks 15 = .ok (.ireturn, 1) := by decide +kernel
theorem dq_Mo_ranks_16 : decode gc_Mo_ranks 16 = .ok (.iload_n 1, 1) := by decide +kernel
theorem dq_Mo_ranks_17 : decode gc_Mo_ranks 17 = .ok (.i2l, 1) := by decide +kernel
theorem dq_Mo_ranks_18 : decode gc_Mo_ranks 18 = .ok (.lconst 1, 1) := by decide +kernel
theorem dq_Mo_ranks_19 : decode gc_Mo_ranks 19 = .ok (.ldc2_w 267, 3) := by decide +kernel
theorem dq_Mo_ranks_22 : decode gc_Mo_ranks 22 = .ok (.invokestatic 117, 3) := by decide +kernel
theorem dq_Mo_ranks_25 : decode gc_Mo_ranks 25 = .ok (.ifCond .ne 6, 3) := by decide +kernel
theorem dq_Mo_ranks_28 : decode gc_Mo_ranks 28 = .ok (.ldc 129, 2) := by decide +kernel
theorem dq_Mo_ranks_30 : decode gc_Mo_ranks 30 = .ok (.ireturn, 1) := by decide +kernel
theorem dq_Mo_ranks_31 : decode gc_Mo_ranks 31 = .ok (.aload_n 0, 1) := by decide +kernel
theorem dq_Mo_ranks_32 : decode gc_Mo_ranks 32 = .ok (.invokevirtual 300, 3) := by decide +kernel
theorem dq_Mo_ranks_35 : decode gc_Mo_ranks 35 = .ok (.iconst 1, 1) := by decide +kernel
theorem dq_Mo_ranks_36 : decode gc_Mo_ranks 36 = .ok (.istore_n 3, 1) := by decide +kernel
theorem dq_Mo_ranks_37 : decode gc_Mo_ranks 37 = .ok (.iconst 0, 1) := by decide +kernel
theorem dq_Mo_ranks_38 : decode gc_Mo_ranks 38 = .ok (.istore 4, 2) := by decide +kernel
theorem dq_Mo_ranks_40 : decode gc_Mo_ranks 40 = .ok (.iload 4, 2) := by decide +kernel
theorem dq_Mo_ranks_42 : decode gc_Mo_ranks 42 = .ok (.aload_n 0, 1) := by decide +kernel
theorem dq_Mo_ranks_43 : decode gc_Mo_ranks 43 = .ok (.getfield 124, 3) := by decide +kernel
theorem dq_Mo_ranks_46 : decode gc_Mo_ranks 46 = .ok (.if_icmp .ge 14, 3) := by decide +kernel
theorem dq_Mo_ranks_49 : decode gc_Mo_ranks 49 = .ok (.iload_n 3, 1) := by decide +kernel
theorem dq_Mo_ranks_50 : decode gc_Mo_ranks 50 = .ok (.bipush 6, 2) := by decide +kernel
theorem dq_Mo_ranks_52 : decode gc_Mo_ranks 52 = .ok (.imul, 1) := by decide +kernel
theorem dq_Mo_ranks_53 : decode gc_Mo_ranks 53 = .ok (.istore_n 3, 1) := by decide +kernel
theorem dq_Mo_ranks_54 : decode gc_Mo_ranks 54 = .ok (.iinc 4 1, 3) := by decide +kernel
theorem dq_Mo_ranks_57 : decode gc_Mo_ranks 57 = .ok (.goto (-17), 3) := by decide +kernel
theorem dq_Mo_ranks_60 : decode gc_Mo_ranks 60 = .ok (.iconst (-1), 1) := by decide +kernel
theorem dq_Mo_ranks_61 : decode gc_Mo_ranks 61 = .ok (.istore 4, 2) := by decide +kernel
theorem dq_Mo_ranks_63 : decode gc_Mo_ranks 63 = .ok (.iconst 0, 1) := by decide +kernel
theorem dq_Mo_ranks_64 : decode gc_Mo_ranks 64 = .ok (.istore 5, 2) := by decide +kernel
theorem dq_Mo_ranks_66 : decode gc_Mo_ranks 66 = .ok (.iload 5, 2) := by decide +kernel
theorem dq_Mo_ranks_68 : decode gc_Mo_ranks 68 = .ok (.iload_n 3, 1) := by decide +kernel
theorem dq_Mo_ranks_69 : decode gc_Mo_ranks 69 = .ok (.if_icmp .ge 139, 3) := by decide +kernel
theorem dq_Mo_ranks_72 : decode gc_Mo_ranks 72 = .ok (.aload_n 0, 1) := by decide +kernel
theorem dq_Mo_ranks_73 : decode gc_Mo_ranks 73 = .ok (.iload 5, 2) := by decide +kernel
theorem dq_Mo_ranks_75 : decode gc_Mo_ranks 75 = .ok (.invokevirtual 325, 3) := by decide +kernel
theorem dq_Mo_ranks_78 : decode gc_Mo_ranks 78 = .ok (.ifCond .eq 124, 3) := by decide +kernel
theorem dq_Mo_ranks_81 : decode gc_Mo_ranks 81 = .ok (.iconst 0, 1) := by decide +kernel
theorem dq_Mo_ranks_82 : decode gc_Mo_ranks 82 = .ok (.istore 6, 2) := by decide +kernel
theorem dq_Mo_ranks_84 : decode gc_Mo_ranks 84 = .ok (.iload 6, 2) := by decide +kernel
theorem dq_Mo_ranks_86 : decode gc_Mo_ranks 86 = .ok (.aload_n 0, 1) := by decide +kernel
theorem dq_Mo_ranks_87 : decode gc_Mo_ranks 87 = .ok (.getfield 124, 3) := by decide +kernel
theorem dq_Mo_ranks_90 : decode gc_Mo_ranks 90 = .ok (.if_icmp .ge 26, 3) := by decide +kernel
theorem dq_Mo_ranks_93 : decode gc_Mo_ranks 93 = .ok (.aload_n 0, 1) := by decide +kernel
theorem dq_Mo_ranks_94 : decode gc_Mo_ranks 94 = .ok (.getfield 34, 3) := by decide +kernel
theorem dq_Mo_ranks_97 : decode gc_Mo_ranks 97 = .ok (.bipush 20, 2) := by decide +kernel
theorem dq_Mo_ranks_99 : decode gc_Mo_ranks 99 = .ok (.iload 6, 2) := by decide +kernel
theorem dq_Mo_ranks_101 : decode gc_Mo_ranks 101 = .ok (.iadd, 1) := by decide +kernel
theorem dq_Mo_ranks_102 : decode gc_Mo_ranks 102 = .ok (.aload_n 0, 1) := by decide +kernel
theorem dq_Mo_ranks_103 : decode gc_Mo_ranks 103 = .ok (.getfield 86, 3) := by decide +kernel
theorem dq_Mo_ranks_106 : decode gc_Mo_ranks 106 = .ok (.iload 6, 2) := by decide +kernel
theorem dq_Mo_ranks_108 : decode gc_Mo_ranks 108 = .ok (.iaload, 1) := by decide +kernel
theorem dq_Mo_ranks_109 : decode gc_Mo_ranks 109 = .ok (.iastore, 1) := by decide +kernel
theorem dq_Mo_ranks_110 : decode gc_Mo_ranks 110 = .ok (.iinc 6 1, 3) := by decide +kernel
theorem dq_Mo_ranks_113 : decode gc_Mo_ranks 113 = .ok (.goto (-29), 3) := by decide +kernel
theorem dq_Mo_ranks_116 : decode gc_Mo_ranks 116 = .ok (.aload_n 0, 1) := by decide +kernel
theorem dq_Mo_ranks_117 : decode gc_Mo_ranks 117 = .ok (.iload_n 1, 1) := by decide +kernel
theorem dq_Mo_ranks_118 : decode gc_Mo_ranks 118 = .ok (.invokevirtual 303, 3) := by decide +kernel
theorem dq_Mo_ranks_121 : decode gc_Mo_ranks 121 = .ok (.aload_n 0, 1) := by decide +kernel
theorem dq_Mo_ranks_122 : decode gc_Mo_ranks 122 = .ok (.iconst (-1), 1) := by decide +kernel
theorem dq_Mo_ranks_123 : decode gc_Mo_ranks 123 = .ok (.invokevirtual 306, 3) := by decide +kernel
theorem dq_Mo_ranks_126 : decode gc_Mo_ranks 126 = .ok (.istore 6, 2) := by decide +kernel
theorem dq_Mo_ranks_128 : decode gc_Mo_ranks 128 = .ok (.aload_n 0, 1) := by decide +kernel
theorem dq_Mo_ranks_129 : decode gc_Mo_ranks 129 = .ok (.invokevirtual 309, 3) := by decide +kernel
theorem dq_Mo_ranks_132 : decode gc_Mo_ranks 132 = .ok (.iload 4, 2) := by decide +kernel
theorem dq_Mo_ranks_134 : decode gc_Mo_ranks 134 = .ok (.ifCond .lt 32, 3) := by decide +kernel
theorem dq_Mo_ranks_137 : decode gc_Mo_ranks 137 = .ok (.iload 6, 2) := by decide +kernel
theorem dq_Mo_ranks_139 : decode gc_Mo_ranks 139 = .ok (.iload 4, 2) := by decide +kernel
theorem dq_Mo_ranks_141 : decode gc_Mo_ranks 141 = .ok (.if_icmp .lt 25, 3) := by decide +kernel
theorem dq_Mo_ranks_144 : decode gc_Mo_ranks 144 = .ok (.iload 6, 2) := by decide +kernel
theorem dq_Mo_ranks_146 : decode gc_Mo_ranks 146 = .ok (.iload 4, 2) := by decide +kernel
theorem dq_Mo_ranks_148 : decode gc_Mo_ranks 148 = .ok (.if_icmp .ne 54, 3) := by decide +kernel
theorem dq_Mo_ranks_151 : decode gc_Mo_ranks 151 = .ok (.aload_n 0, 1) := by decide +kernel
theorem dq_Mo_ranks_152 : decode gc_Mo_ranks 152 = .ok (.aload_n 0, 1) := by decide +kernel
theorem dq_Mo_ranks_153 : decode gc_Mo_ranks 153 = .ok (.getfield 86, 3) := by decide +kernel
theorem dq_Mo_ranks_156 : decode gc_Mo_ranks 156 = .ok (.aload_n 0, 1) := by decide +kernel
theorem dq_Mo_ranks_157 : decode gc_Mo_ranks 157 = .ok (.getfield 89, 3) := by decide +kernel
theorem dq_Mo_ranks_160 : decode gc_Mo_ranks 160 = .ok (.invokevirtual 328, 3) := by decide +kernel
theorem dq_Mo_ranks_163 : decode gc_Mo_ranks 163 = .ok (.ifCond .eq 39, 3) := by decide +kernel
theorem dq_Mo_ranks_166 : decode gc_Mo_ranks 166 = .ok (.iload 6, 2) := by decide +kernel
theorem dq_Mo_ranks_168 : decode gc_Mo_ranks 168 = .ok (.istore 4, 2) := by decide +kernel
theorem dq_Mo_ranks_170 : decode gc_Mo_ranks 170 = .ok (.iconst 0, 1) := by decide +kernel
theorem dq_Mo_ranks_171 : decode gc_Mo_ranks 171 = .ok (.istore 7, 2) := by decide +kernel
theorem dq_Mo_ranks_173 : decode gc_Mo_ranks 173 = .ok (.iload 7, 2) := by decide +kernel
theorem dq_Mo_ranks_175 : decode gc_Mo_ranks 175 = .ok (.aload_n 0, 1) := by decide +kernel
theorem dq_Mo_ranks_176 : decode gc_Mo_ranks 176 = .ok (.getfield 124, 3) := by decide +kernel
theorem dq_Mo_ranks_179 : decode gc_Mo_ranks 179 = .ok (.if_icmp .ge 23, 3) := by decide +kernel
theorem dq_Mo_ranks_182 : decode gc_Mo_ranks 182 = .ok (.aload_n 0, 1) := by decide +kernel
theorem dq_Mo_ranks_183 : decode gc_Mo_ranks 183 = .ok (.getfield 89, 3) := by decide +kernel
theorem dq_Mo_ranks_186 : decode gc_Mo_ranks 186 = .ok (.iload 7, 2) := by decide +kernel
theorem dq_Mo_ranks_188 : decode gc_Mo_ranks 188 = .ok (.aload_n 0, 1) := by decide +kernel
theorem dq_Mo_ranks_189 : decode gc_Mo_ranks 189 = .ok (.getfield 86, 3) := by decide +kernel
theorem dq_Mo_ranks_192 : decode gc_Mo_ranks 192 = .ok (.iload 7, 2) := by decide +kernel
theorem dq_Mo_ranks_194 : decode gc_Mo_ranks 194 = .ok (.iaload, 1) := by decide +kernel
theorem dq_Mo_ranks_195 : decode gc_Mo_ranks 195 = .ok (.iastore, 1) := by decide +kernel
theorem dq_Mo_ranks_196 : decode gc_Mo_ranks 196 = .ok (.iinc 7 1, 3) := by decide +kernel
theorem dq_Mo_ranks_199 : decode gc_Mo_ranks 199 = .ok (.goto (-26), 3) := by decide +kernel
theorem dq_Mo_ranks_202 : decode gc_Mo_ranks 202 = .ok (.iinc 5 1, 3) := by decide +kernel
theorem dq_Mo_ranks_205 : decode gc_Mo_ranks 205 = .ok (.goto (-139), 3) := by decide +kernel
theorem dq_Mo_ranks_208 : decode gc_Mo_ranks 208 = .ok (.iload_n 2, 1) := by decide +kernel
theorem dq_Mo_ranks_209 : decode gc_Mo_ranks 209 = .ok (.iconst (-1), 1) := by decide +kernel
theorem dq_Mo_ranks_210 : decode gc_Mo_ranks 210 = .ok (.if_icmp .ne 8, 3) := by decide +kernel
theorem dq_Mo_ranks_213 : decode gc_Mo_ranks 213 = .ok (.iload 4, 2) := by decide +kernel
theorem dq_Mo_ranks_215 : decode gc_Mo_ranks 215 = .ok (.goto 9, 3) := by decide +kernel
theorem dq_Mo_ranks_218 : decode gc_Mo_ranks 218 = .ok (.aload_n 0, 1) := by decide +kernel
theorem dq_Mo_ranks_219 : decode gc_Mo_ranks 219 = .ok (.getfield 89, 3) := by decide +kernel
theorem dq_Mo_ranks_222 : decode gc_Mo_ranks 222 = .ok (.iload_n 2, 1) := by decide +kernel
theorem dq_Mo_ranks_223 : decode gc_Mo_ranks 223 = .ok (.iaload, 1) := by decide +kernel
theorem dq_Mo_ranks_224 : decode gc_Mo_ranks 224 = .ok (.ireturn, 1) := by decide +kernel
abbrev gm_Mo_ranks : gM := (gc_Mo_ranks, gR_7, 9, 206, 8)
set_option maxRecDepth 20000 in
theorem gcy_Mo_325 : gCy gR_7 325 gy_Mo_give gc_Mo_give 6 (some .boolean) 1 := ⟨(gtab_at 1139 (by decide +kernel) rfl), (gtab_at 8 (by decide +kernel) rfl), (gtab_at 1142 rfl rfl), by decide, by decide, by decide +kernel⟩
theorem gim_Mo_give : Cond.instanceMethod gy_Mo_give ∈ gtbl := (gtab_at 1141 (by decide +kernel) rfl)
theorem gse_Mo_give : Cond.selects gy_Mo_give.cls gy_Mo_give gy_Mo_give ∈ gtbl := (by decide +kernel)
theorem gfl_Mo_89 : gFl gR_7 89 7 37 := ⟨_, _, _, rfl, by decide, (gtab_at 771 (by decide +kernel) rfl), gin_7⟩
set_option maxRecDepth 20000 in
theorem gcy_Mo_328 : gCy gR_7 328 gy_Mo_isLess gc_Mo_isLess 4 (some .boolean) 2 := ⟨(gtab_at 1143 (by decide +kernel) rfl), (gtab_at 8 (by decide +kernel) rfl), (gtab_at 1146 rfl rfl), by decide, by decide, by decide +kernel⟩
theorem gim_Mo_isLess : Cond.instanceMethod gy_Mo_isLess ∈ gtbl := (gtab_at 1145 (by decide +kernel) rfl)
theorem gse_Mo_isLess : Cond.selects gy_Mo_isLess.cls gy_Mo_isLess gy_Mo_isLess ∈ gtbl := (by decide +kernel)
def f_Mo_ranks_L40 (v1 : Int) (v2 : Int) (k60 : Int → gH → Option gO) : Nat → Int → Int → gH → Option gO
  | 0, _, _, _ => none
  | n + 1, v3, v4, h => if (h 83 6) ≤ v4 then (k60 v3 h) else (f_Mo_ranks_L40 v1 v2 k60 n (gmul v3 6) (gadd v4 1) h)
theorem w_Mo_ranks_L40 {o : gO} {X : gX} (hL : gLive (xZ X)) (hn : (zL (xZ X)).Nodup) (hF : gFin X (some .int) o) {v1 : Int} {v2 : Int}   {k60 : Int → gH → Option gO} (hk60 : ∀ (v3 : Int) (h : gH), gr (k60 v3 h) o gm_Mo_ranks X h 60 [(0, .inr (.inr 83)), (1, .inl v1), (2, .inl v2), (3, .inl v3)] []) : ∀ (n : Nat) (v3 : Int) (v4 : Int) (h : gH), gr (f_Mo_ranks_L40 v1 v2 k60 n v3 v4 h) o gm_Mo_ranks X h 40 [(0, .inr (.inr 83)), (1, .inl v1), (2, .inl v2), (3, .inl v3), (4, .inl v4)] [] := by
  intro n
  induction n with
  | zero => intros; exact gr_none
  | succ n ih =>
    intro v3 v4 h
    unfold f_Mo_ranks_L40
    refine gr_iload (M := gm_Mo_ranks) dq_Mo_ranks_40 4 rfl 42 rfl ?_
    refine gr_aload_n (M := gm_Mo_ranks) dq_Mo_ranks_42 rfl 0 rfl 43 rfl ?_
    refine gr_geti (M := gm_Mo_ranks) dq_Mo_ranks_43 46 rfl gfl_Mo_124 gsh_83 rfl (gli hL gsh_83) ?_
    refine gr_icmp_ge (M := gm_Mo_ranks) dq_Mo_ranks_46 60 49 rfl rfl (fun c7 => ?_) (fun c7 => ?_)
    · refine gr_sub (M := gm_Mo_ranks) (lv' := [(0, .inr (.inr 83)), (1, .inl v1), (2, .inl v2), (3, .inl v3)]) [0, 1, 2, 3] rfl ?_
      exact hk60 _ _
    refine gr_iload_n (M := gm_Mo_ranks) dq_Mo_ranks_49 rfl 3 rfl 50 rfl ?_
    refine gr_bipush (M := gm_Mo_ranks) (v := 6) dq_Mo_ranks_50 (by decide) ⟨by decide, by decide⟩ 52 rfl ?_
    refine gr_imul (M := gm_Mo_ranks) dq_Mo_ranks_52 53 rfl ?_
    refine gr_istore_n (M := gm_Mo_ranks) (lv' := [(3, .inl (gmul v3 6)), (0, .inr (.inr 83)), (1, .inl v1), (2, .inl v2), (4, .inl v4)]) dq_Mo_ranks_53 rfl (by decide) rfl 54 rfl ?_
    refine gr_iinc (M := gm_Mo_ranks) (lv' := [(4, .inl (gadd v4 1)), (3, .inl (gmul v3 6)), (0, .inr (.inr 83)), (1, .inl v1), (2, .inl v2)]) dq_Mo_ranks_54 4 rfl rfl (by decide) rfl 57 rfl ?_
    refine gr_goto (M := gm_Mo_ranks) dq_Mo_ranks_57 40 rfl ?_
    refine gr_sub (M := gm_Mo_ranks) (lv' := [(0, .inr (.inr 83)), (1, .inl v1), (2, .inl v2), (3, .inl (gmul v3 6)), (4, .inl (gadd v4 1))]) [2, 3, 4, 1, 0] rfl ?_
    exact ih _ _ _

def f_Mo_ranks_J202  (k66 : Int → Int → gH → Option gO) (v1 : Int) (v2 : Int) (v3 : Int) (v4 : Int) (v5 : Int) (h : gH) : Option gO := k66 v4 (gadd v5 1) h
theorem w_Mo_ranks_J202 {o : gO} {X : gX} (hL : gLive (xZ X)) (hn : (zL (xZ X)).Nodup) (hF : gFin X (some .int) o)    {k66 : Int → Int → gH → Option gO} {v1 : Int} {v2 : Int} {v3 : Int} {v4 : Int} {v5 : Int} {h : gH} (hk66 : ∀ (v4 : Int) (v5 : Int) (h : gH), gr (k66 v4 v5 h) o gm_Mo_ranks X h 66 [(0, .inr (.inr 83)), (1, .inl v1), (2, .inl v2), (3, .inl v3), (4, .inl v4), (5, .inl v5)] []) : gr (f_Mo_ranks_J202  k66 v1 v2 v3 v4 v5 h) o gm_Mo_ranks X h 202 [(0, .inr (.inr 83)), (1, .inl v1), (2, .inl v2), (3, .inl v3), (4, .inl v4), (5, .inl v5)] [] := by
  unfold f_Mo_ranks_J202
  refine gr_iinc (M := gm_Mo_ranks) (lv' := [(5, .inl (gadd v5 1)), (0, .inr (.inr 83)), (1, .inl v1), (2, .inl v2), (3, .inl v3), (4, .inl v4)]) dq_Mo_ranks_202 5 rfl rfl (by decide) rfl 205 rfl ?_
  refine gr_goto (M := gm_Mo_ranks) dq_Mo_ranks_205 66 rfl ?_
  refine gr_sub (M := gm_Mo_ranks) (lv' := [(0, .inr (.inr 83)), (1, .inl v1), (2, .inl v2), (3, .inl v3), (4, .inl v4), (5, .inl (gadd v5 1))]) [1, 2, 3, 4, 5, 0] rfl ?_
  exact hk66 _ _ _

def f_Mo_ranks_L84 (v1 : Int) (v2 : Int) (v3 : Int) (v4 : Int) (v5 : Int) (k116 : gH → Option gO) : Nat → Int → gH → Option gO
  | 0, _, _ => none
  | n + 1, v6, h => if (h 83 6) ≤ v6 then (k116  h) else (gd (gix 6 v6) (gd (gix 50 (gadd 20 v6)) (gs (gup h 92 (gadd 20 v6).toNat (h 107 v6.toNat)) (fun h15 => f_Mo_ranks_L84 v1 v2 v3 v4 v5 k116 n (gadd v6 1) h15))))
theorem w_Mo_ranks_L84 {o : gO} {X : gX} (hL : gLive (xZ X)) (hn : (zL (xZ X)).Nodup) (hF : gFin X (some .int) o) {v1 : Int} {v2 : Int} {v3 : Int} {v4 : Int} {v5 : Int}   {k116 : gH → Option gO} (hk116 : ∀ (h : gH), gr (k116 h) o gm_Mo_ranks X h 116 [(0, .inr (.inr 83)), (1, .inl v1), (2, .inl v2), (3, .inl v3), (4, .inl v4), (5, .inl v5)] []) : ∀ (n : Nat) (v6 : Int) (h : gH), gr (f_Mo_ranks_L84 v1 v2 v3 v4 v5 k116 n v6 h) o gm_Mo_ranks X h 84 [(0, .inr (.inr 83)), (1, .inl v1), (2, .inl v2), (3, .inl v3), (4, .inl v4), (5, .inl v5), (6, .inl v6)] [] := by
  intro n
  induction n with
  | zero => intros; exact gr_none
  | succ n ih =>
    intro v6 h
    unfold f_Mo_ranks_L84
    refine gr_iload (M := gm_Mo_ranks) dq_Mo_ranks_84 6 rfl 86 rfl ?_
    refine gr_aload_n (M := gm_Mo_ranks) dq_Mo_ranks_86 rfl 0 rfl 87 rfl ?_
    refine gr_geti (M := gm_Mo_ranks) dq_Mo_ranks_87 90 rfl gfl_Mo_124 gsh_83 rfl (gli hL gsh_83) ?_
    refine gr_icmp_ge (M := gm_Mo_ranks) dq_Mo_ranks_90 116 93 rfl rfl (fun c14 => ?_) (fun c14 => ?_)
    · refine gr_sub (M := gm_Mo_ranks) (lv' := [(0, .inr (.inr 83)), (1, .inl v1), (2, .inl v2), (3, .inl v3), (4, .inl v4), (5, .inl v5)]) [0, 1, 2, 3, 4, 5] rfl ?_
      exact hk116  _
    refine gr_aload_n (M := gm_Mo_ranks) dq_Mo_ranks_93 rfl 0 rfl 94 rfl ?_
    refine gr_getr (M := gm_Mo_ranks) dq_Mo_ranks_94 97 rfl gfl_Mo_34 gsh_83 rfl (gli hL gsh_83) 92 rfl ?_
    refine gr_bipush (M := gm_Mo_ranks) (v := 20) dq_Mo_ranks_97 (by decide) ⟨by decide, by decide⟩ 99 rfl ?_
    refine gr_iload (M := gm_Mo_ranks) dq_Mo_ranks_99 6 rfl 101 rfl ?_
    refine gr_iadd (M := gm_Mo_ranks) dq_Mo_ranks_101 102 rfl ?_
    refine gr_aload_n (M := gm_Mo_ranks) dq_Mo_ranks_102 rfl 0 rfl 103 rfl ?_
    refine gr_getr (M := gm_Mo_ranks) dq_Mo_ranks_103 106 rfl gfl_Mo_86 gsh_83 rfl (gli hL gsh_83) 107 rfl ?_
    refine gr_iload (M := gm_Mo_ranks) dq_Mo_ranks_106 6 rfl 108 rfl ?_
    refine gr_iald (M := gm_Mo_ranks) dq_Mo_ranks_108 109 rfl gsh_107 (glj hL gsh_107 (by decide)) ?_
    refine gr_iast (M := gm_Mo_ranks) dq_Mo_ranks_109 110 rfl gsh_92 (glj hL gsh_92 (by decide)) (fun h15 _ => ?_)
    refine gr_iinc (M := gm_Mo_ranks) (lv' := [(6, .inl (gadd v6 1)), (0, .inr (.inr 83)), (1, .inl v1), (2, .inl v2), (3, .inl v3), (4, .inl v4), (5, .inl v5)]) dq_Mo_ranks_110 6 rfl rfl (by decide) rfl 113 rfl ?_
    refine gr_goto (M := gm_Mo_ranks) dq_Mo_ranks_113 84 rfl ?_
    refine gr_sub (M := gm_Mo_ranks) (lv' := [(0, .inr (.inr 83)), (1, .inl v1), (2, .inl v2), (3, .inl v3), (4, .inl v4), (5, .inl v5), (6, .inl (gadd v6 1))]) [1, 2, 3, 4, 5, 6, 0] rfl ?_
    exact ih _ _

def f_Mo_ranks_L173 (v1 : Int) (v2 : Int) (v3 : Int) (v4 : Int) (v5 : Int) (k202 : gH → Option gO) : Nat → Int → gH → Option gO
  | 0, _, _ => none
  | n + 1, v7, h => if (h 83 6) ≤ v7 then (k202  h) else (gd (gix 6 v7) (gd (gix 6 v7) (gs (gup h 108 v7.toNat (h 107 v7.toNat)) (fun h25 => f_Mo_ranks_L173 v1 v2 v3 v4 v5 k202 n (gadd v7 1) h25))))
theorem w_Mo_ranks_L173 {o : gO} {X : gX} (hL : gLive (xZ X)) (hn : (zL (xZ X)).Nodup) (hF : gFin X (some .int) o) {v1 : Int} {v2 : Int} {v3 : Int} {v4 : Int} {v5 : Int}   {k202 : gH → Option gO} (hk202 : ∀ (h : gH), gr (k202 h) o gm_Mo_ranks X h 202 [(0, .inr (.inr 83)), (1, .inl v1), (2, .inl v2), (3, .inl v3), (4, .inl v4), (5, .inl v5)] []) : ∀ (n : Nat) (v7 : Int) (h : gH), gr (f_Mo_ranks_L173 v1 v2 v3 v4 v5 k202 n v7 h) o gm_Mo_ranks X h 173 [(0, .inr (.inr 83)), (1, .inl v1), (2, .inl v2), (3, .inl v3), (4, .inl v4), (5, .inl v5), (7, .inl v7)] [] := by
  intro n
  induction n with
  | zero => intros; exact gr_none
  | succ n ih =>
    intro v7 h
    unfold f_Mo_ranks_L173
    refine gr_iload (M := gm_Mo_ranks) dq_Mo_ranks_173 6 rfl 175 rfl ?_
    refine gr_aload_n (M := gm_Mo_ranks) dq_Mo_ranks_175 rfl 0 rfl 176 rfl ?_
    refine gr_geti (M := gm_Mo_ranks) dq_Mo_ranks_176 179 rfl gfl_Mo_124 gsh_83 rfl (gli hL gsh_83) ?_
    refine gr_icmp_ge (M := gm_Mo_ranks) dq_Mo_ranks_179 202 182 rfl rfl (fun c24 => ?_) (fun c24 => ?_)
    · refine gr_sub (M := gm_Mo_ranks) (lv' := [(0, .inr (.inr 83)), (1, .inl v1), (2, .inl v2), (3, .inl v3), (4, .inl v4), (5, .inl v5)]) [0, 1, 2, 3, 4, 5] rfl ?_
      exact hk202  _
    refine gr_aload_n (M := gm_Mo_ranks) dq_Mo_ranks_182 rfl 0 rfl 183 rfl ?_
    refine gr_getr (M := gm_Mo_ranks) dq_Mo_ranks_183 186 rfl gfl_Mo_89 gsh_83 rfl (gli hL gsh_83) 108 rfl ?_
    refine gr_iload (M := gm_Mo_ranks) dq_Mo_ranks_186 6 rfl 188 rfl ?_
    refine gr_aload_n (M := gm_Mo_ranks) dq_Mo_ranks_188 rfl 0 rfl 189 rfl ?_
    refine gr_getr (M := gm_Mo_ranks) dq_Mo_ranks_189 192 rfl gfl_Mo_86 gsh_83 rfl (gli hL gsh_83) 107 rfl ?_
    refine gr_iload (M := gm_Mo_ranks) dq_Mo_ranks_192 6 rfl 194 rfl ?_
    refine gr_iald (M := gm_Mo_ranks) dq_Mo_ranks_194 195 rfl gsh_107 (glj hL gsh_107 (by decide)) ?_
    refine gr_iast (M := gm_Mo_ranks) dq_Mo_ranks_195 196 rfl gsh_108 (glj hL gsh_108 (by decide)) (fun h25 _ => ?_)
    refine gr_iinc (M := gm_Mo_ranks) (lv' := [(7, .inl (gadd v7 1)), (0, .inr (.inr 83)), (1, .inl v1), (2, .inl v2), (3, .inl v3), (4, .inl v4), (5, .inl v5)]) dq_Mo_ranks_196 6 rfl rfl (by decide) rfl 199 rfl ?_
    refine gr_goto (M := gm_Mo_ranks) dq_Mo_ranks_199 173 rfl ?_
    refine gr_sub (M := gm_Mo_ranks) (lv' := [(0, .inr (.inr 83)), (1, .inl v1), (2, .inl v2), (3, .inl v3), (4, .inl v4), (5, .inl v5), (7, .inl (gadd v7 1))]) [1, 2, 3, 4, 5, 6, 0] rfl ?_
    exact ih _ _

def f_Mo_ranks_J166  (k66 : Int → Int → gH → Option gO) (v1 : Int) (v2 : Int) (v3 : Int) (v5 : Int) (v6 : Int) (h : gH) : Option gO := f_Mo_ranks_L173 v1 v2 v3 v6 v5 (fun  h26 => f_Mo_ranks_J202  (k66) v1 v2 v3 v6 v5 h26) 50000 0 h
theorem w_Mo_ranks_J166 {o : gO} {X : gX} (hL : gLive (xZ X)) (hn : (zL (xZ X)).Nodup) (hF : gFin X (some .int) o)    {k66 : Int → Int → gH → Option gO} {v1 : Int} {v2 : Int} {v3 : Int} {v5 : Int} {v6 : Int} {h : gH} (hk66 : ∀ (v4 : Int) (v5 : Int) (h : gH), gr (k66 v4 v5 h) o gm_Mo_ranks X h 66 [(0, .inr (.inr 83)), (1, .inl v1), (2, .inl v2), (3, .inl v3), (4, .inl v4), (5, .inl v5)] []) : gr (f_Mo_ranks_J166  k66 v1 v2 v3 v5 v6 h) o gm_Mo_ranks X h 166 [(0, .inr (.inr 83)), (1, .inl v1), (2, .inl v2), (3, .inl v3), (5, .inl v5), (6, .inl v6)] [] := by
  unfold f_Mo_ranks_J166
  refine gr_iload (M := gm_Mo_ranks) dq_Mo_ranks_166 5 rfl 168 rfl ?_
  refine gr_istore (M := gm_Mo_ranks) (kk := 0) (lv' := [(4, .inl v6), (0, .inr (.inr 83)), (1, .inl v1), (2, .inl v2), (3, .inl v3), (5, .inl v5), (6, .inl v6)]) dq_Mo_ranks_168 (by decide) rfl 170 rfl ?_
  refine gr_iconst (M := gm_Mo_ranks) (v := 0) dq_Mo_ranks_170 rfl ⟨by decide, by decide⟩ 171 rfl ?_
  refine gr_istore (M := gm_Mo_ranks) (kk := 0) (lv' := [(7, .inl 0), (4, .inl v6), (0, .inr (.inr 83)), (1, .inl v1), (2, .inl v2), (3, .inl v3), (5, .inl v5), (6, .inl v6)]) dq_Mo_ranks_171 (by decide) rfl 173 rfl ?_
  refine gr_sub (M := gm_Mo_ranks) (lv' := [(0, .inr (.inr 83)), (1, .inl v1), (2, .inl v2), (3, .inl v3), (4, .inl v6), (5, .inl v5), (7, .inl 0)]) [2, 3, 4, 5, 1, 6, 0] rfl ?_
  refine w_Mo_ranks_L173 hL hn hF   (fun h26 => ?_) 50000 _ _
  exact w_Mo_ranks_J202 hL hn hF   hk66

def f_Mo_ranks_L66 (v1 : Int) (v2 : Int) (v3 : Int) (k208 : Int → gH → Option gO) : Nat → Int → Int → gH → Option gO
  | 0, _, _, _ => none
  | n + 1, v4, v5, h => if v3 ≤ v5 then (k208 v4 h) else (gb (f_Mo_give v5 h) (fun h11 r12 => if r12 = 0 then (f_Mo_ranks_J202  (f_Mo_ranks_L66 v1 v2 v3 k208 n) v1 v2 v3 v4 v5 h11) else (f_Mo_ranks_L84 v1 v2 v3 v4 v5 (fun  h16 => gb (f_Mo_go v1 h16) (fun h17 r18 => gb (f_Mo_minutes (-1) h17) (fun h19 r20 => gb (f_Mo_putBack  h19) (fun h21 r22 => if v4 < 0 then (f_Mo_ranks_J166  (f_Mo_ranks_L66 v1 v2 v3 k208 n) v1 v2 v3 v5 r20 h21) else (if r20 < v4 then (f_Mo_ranks_J166  (f_Mo_ranks_L66 v1 v2 v3 k208 n) v1 v2 v3 v5 r20 h21) else (if r20 = v4 then (gb (f_Mo_isLess 107 108 h21) (fun h29 r30 => if r30 = 0 then (f_Mo_ranks_J202  (f_Mo_ranks_L66 v1 v2 v3 k208 n) v1 v2 v3 v4 v5 h29) else (f_Mo_ranks_J166  (f_Mo_ranks_L66 v1 v2 v3 k208 n) v1 v2 v3 v5 r20 h29))) else (f_Mo_ranks_J202  (f_Mo_ranks_L66 v1 v2 v3 k208 n) v1 v2 v3 v4 v5 h21))))))) 50000 0 h11)))
theorem w_Mo_ranks_L66 {o : gO} {X : gX} (hL : gLive (xZ X)) (hn : (zL (xZ X)).Nodup) (hF : gFin X (some .int) o) {v1 : Int} {v2 : Int} {v3 : Int}   {k208 : Int → gH → Option gO} (hk208 : ∀ (v4 : Int) (h : gH), gr (k208 v4 h) o gm_Mo_ranks X h 208 [(0, .inr (.inr 83)), (2, .inl v2), (4, .inl v4)] []) : ∀ (n : Nat) (v4 : Int) (v5 : Int) (h : gH), gr (f_Mo_ranks_L66 v1 v2 v3 k208 n v4 v5 h) o gm_Mo_ranks X h 66 [(0, .inr (.inr 83)), (1, .inl v1), (2, .inl v2), (3, .inl v3), (4, .inl v4), (5, .inl v5)] [] := by
  intro n
  induction n with
  | zero => intros; exact gr_none
  | succ n ih =>
    intro v4 v5 h
    unfold f_Mo_ranks_L66
    refine gr_iload (M := gm_Mo_ranks) dq_Mo_ranks_66 5 rfl 68 rfl ?_
    refine gr_iload_n (M := gm_Mo_ranks) dq_Mo_ranks_68 rfl 3 rfl 69 rfl ?_
    refine gr_icmp_ge (M := gm_Mo_ranks) dq_Mo_ranks_69 208 72 rfl rfl (fun c10 => ?_) (fun c10 => ?_)
    · refine gr_sub (M := gm_Mo_ranks) (lv' := [(0, .inr (.inr 83)), (2, .inl v2), (4, .inl v4)]) [0, 2, 4] rfl ?_
      exact hk208 _ _
    refine gr_aload_n (M := gm_Mo_ranks) dq_Mo_ranks_72 rfl 0 rfl 73 rfl ?_
    refine gr_iload (M := gm_Mo_ranks) dq_Mo_ranks_73 5 rfl 75 rfl ?_
    refine gr_callVi (M := gm_Mo_ranks) (as := [.inl v5]) dq_Mo_ranks_75 78 rfl rfl gcy_Mo_325 gim_Mo_give gse_Mo_give ⟨by decide, by decide⟩ (Nat.le_of_ble_eq_true rfl) gsh_83 rfl (gli hL gsh_83) (fun o1 hg ha hx => c_Mo_give hL hn  hg ha hx) (fun h11 r12 _ => ?_)
    refine gr_if_eq (M := gm_Mo_ranks) dq_Mo_ranks_78 202 81 rfl rfl (fun c13 => ?_) (fun c13 => ?_)
    · exact w_Mo_ranks_J202 hL hn hF   ih
    refine gr_iconst (M := gm_Mo_ranks) (v := 0) dq_Mo_ranks_81 rfl ⟨by decide, by decide⟩ 82 rfl ?_
    refine gr_istore (M := gm_Mo_ranks) (kk := 0) (lv' := [(6, .inl 0), (0, .inr (.inr 83)), (1, .inl v1), (2, .inl v2), (3, .inl v3), (4, .inl v4), (5, .inl v5)]) dq_Mo_ranks_82 (by decide) rfl 84 rfl ?_
    refine gr_sub (M := gm_Mo_ranks) (lv' := [(0, .inr (.inr 83)), (1, .inl v1), (2, .inl v2), (3, .inl v3), (4, .inl v4), (5, .inl v5), (6, .inl 0)]) [1, 2, 3, 4, 5, 6, 0] rfl ?_
    refine w_Mo_ranks_L84 hL hn hF   (fun h16 => ?_) 50000 _ _
    refine gr_aload_n (M := gm_Mo_ranks) dq_Mo_ranks_116 rfl 0 rfl 117 rfl ?_
    refine gr_iload_n (M := gm_Mo_ranks) dq_Mo_ranks_117 rfl 1 rfl 118 rfl ?_
    refine gr_callVv (M := gm_Mo_ranks) (as := [.inl v1]) dq_Mo_ranks_118 121 rfl rfl gcy_Mo_303 gim_Mo_go gse_Mo_go ⟨by decide, by decide⟩ (Nat.le_of_ble_eq_true rfl) gsh_83 rfl (gli hL gsh_83) (fun o1 hg ha hx => c_Mo_go hL hn  hg ha hx) (fun h17 r18 _ => ?_)
    refine gr_aload_n (M := gm_Mo_ranks) dq_Mo_ranks_121 rfl 0 rfl 122 rfl ?_
    refine gr_iconst (M := gm_Mo_ranks) (v := (-1)) dq_Mo_ranks_122 rfl ⟨by decide, by decide⟩ 123 rfl ?_
    refine gr_callVi (M := gm_Mo_ranks) (as := [.inl (-1)]) dq_Mo_ranks_123 126 rfl rfl gcy_Mo_306 gim_Mo_minutes gse_Mo_minutes ⟨by decide, by decide⟩ (Nat.le_of_ble_eq_true rfl) gsh_83 rfl (gli hL gsh_83) (fun o1 hg ha hx => c_Mo_minutes hL hn  hg ha hx) (fun h19 r20 _ => ?_)
    refine gr_istore (M := gm_Mo_ranks) (kk := 0) (lv' := [(6, .inl r20), (0, .inr (.inr 83)), (1, .inl v1), (2, .inl v2), (3, .inl v3), (4, .inl v4), (5, .inl v5)]) dq_Mo_ranks_126 (by decide) rfl 128 rfl ?_
    refine gr_aload_n (M := gm_Mo_ranks) dq_Mo_ranks_128 rfl 1 rfl 129 rfl ?_
    refine gr_callVv (M := gm_Mo_ranks) (as := []) dq_Mo_ranks_129 132 rfl rfl gcy_Mo_309 gim_Mo_putBack gse_Mo_putBack ⟨by decide, by decide⟩ (Nat.le_of_ble_eq_true rfl) gsh_83 rfl (gli hL gsh_83) (fun o1 hg ha hx => c_Mo_putBack hL hn  hg ha hx) (fun h21 r22 _ => ?_)
    refine gr_iload (M := gm_Mo_ranks) dq_Mo_ranks_132 5 rfl 134 rfl ?_
    refine gr_if_lt (M := gm_Mo_ranks) dq_Mo_ranks_134 166 137 rfl rfl (fun c23 => ?_) (fun c23 => ?_)
    · refine gr_sub (M := gm_Mo_ranks) (lv' := [(0, .inr (.inr 83)), (1, .inl v1), (2, .inl v2), (3, .inl v3), (5, .inl v5), (6, .inl r20)]) [1, 2, 3, 4, 6, 0] rfl ?_
      exact w_Mo_ranks_J166 hL hn hF   ih
    refine gr_iload (M := gm_Mo_ranks) dq_Mo_ranks_137 0 rfl 139 rfl ?_
    refine gr_iload (M := gm_Mo_ranks) dq_Mo_ranks_139 5 rfl 141 rfl ?_
    refine gr_icmp_lt (M := gm_Mo_ranks) dq_Mo_ranks_141 166 144 rfl rfl (fun c27 => ?_) (fun c27 => ?_)
    · refine gr_sub (M := gm_Mo_ranks) (lv' := [(0, .inr (.inr 83)), (1, .inl v1), (2, .inl v2), (3, .inl v3), (5, .inl v5), (6, .inl r20)]) [1, 2, 3, 4, 6, 0] rfl ?_
      exact w_Mo_ranks_J166 hL hn hF   ih
    refine gr_iload (M := gm_Mo_ranks) dq_Mo_ranks_144 0 rfl 146 rfl ?_
    refine gr_iload (M := gm_Mo_ranks) dq_Mo_ranks_146 5 rfl 148 rfl ?_
    refine gr_icmp_ne (M := gm_Mo_ranks) dq_Mo_ranks_148 202 151 rfl rfl (fun c28 => ?_) (fun c28 => ?_)
    · refine gr_sub (M := gm_Mo_ranks) (lv' := [(0, .inr (.inr 83)), (1, .inl v1), (2, .inl v2), (3, .inl v3), (4, .inl v4), (5, .inl v5)]) [1, 2, 3, 4, 5, 6] rfl ?_
      exact w_Mo_ranks_J202 hL hn hF   ih
    refine gr_aload_n (M := gm_Mo_ranks) dq_Mo_ranks_151 rfl 1 rfl 152 rfl ?_
    refine gr_aload_n (M := gm_Mo_ranks) dq_Mo_ranks_152 rfl 1 rfl 153 rfl ?_
    refine gr_getr (M := gm_Mo_ranks) dq_Mo_ranks_153 156 rfl gfl_Mo_86 gsh_83 rfl (gli hL gsh_83) 107 rfl ?_
    refine gr_aload_n (M := gm_Mo_ranks) dq_Mo_ranks_156 rfl 1 rfl 157 rfl ?_
    refine gr_getr (M := gm_Mo_ranks) dq_Mo_ranks_157 160 rfl gfl_Mo_89 gsh_83 rfl (gli hL gsh_83) 108 rfl ?_
    refine gr_callVi (M := gm_Mo_ranks) (as := [.inr (.inr 107), .inr (.inr 108)]) dq_Mo_ranks_160 163 rfl rfl gcy_Mo_328 gim_Mo_isLess gse_Mo_isLess ⟨by decide, by decide⟩ (Nat.le_of_ble_eq_true rfl) gsh_83 rfl (gli hL gsh_83) (fun o1 hg ha hx => c_Mo_isLess hL hn (gia_of gsh_107) (gia_of gsh_108) hg ha hx) (fun h29 r30 _ => ?_)
    refine gr_if_eq (M := gm_Mo_ranks) dq_Mo_ranks_163 202 166 rfl rfl (fun c31 => ?_) (fun c31 => ?_)
    · refine gr_sub (M := gm_Mo_ranks) (lv' := [(0, .inr (.inr 83)), (1, .inl v1), (2, .inl v2), (3, .inl v3), (4, .inl v4), (5, .inl v5)]) [1, 2, 3, 4, 5, 6] rfl ?_
      exact w_Mo_ranks_J202 hL hn hF   ih
    refine gr_sub (M := gm_Mo_ranks) (lv' := [(0, .inr (.inr 83)), (1, .inl v1), (2, .inl v2), (3, .inl v3), (5, .inl v5), (6, .inl r20)]) [1, 2, 3, 4, 6, 0] rfl ?_
    exact w_Mo_ranks_J166 hL hn hF   ih

def f_Mo_ranks_J16   (v1 : Int) (v2 : Int) (h : gH) : Option gO := gb (f_Mo_in v1 1 300 h) (fun h2 r3 => if r3 = 0 then (some (h2, (-1000000002))) else (gb (f_Mo_save  h2) (fun h5 r6 => f_Mo_ranks_L40 v1 v2 (fun v8 h9 => f_Mo_ranks_L66 v1 v2 v8 (fun v32 h33 => if v2 = (-1) then (some (h33, v32)) else (gd (gix 6 v2) (some (h33, (h33 108 v2.toNat))))) 50000 (-1) 0 h9) 50000 1 0 h5)))
theorem w_Mo_ranks_J16 {o : gO} {X : gX} (hL : gLive (xZ X)) (hn : (zL (xZ X)).Nodup) (hF : gFin X (some .int) o)     {v1 : Int} {v2 : Int} {h : gH}  : gr (f_Mo_ranks_J16   v1 v2 h) o gm_Mo_ranks X h 16 [(0, .inr (.inr 83)), (1, .inl v1), (2, .inl v2)] [] := by
  unfold f_Mo_ranks_J16
  refine gr_iload_n (M := gm_Mo_ranks) dq_Mo_ranks_16 rfl 1 rfl 17 rfl ?_
  refine gr_i2l (M := gm_Mo_ranks) dq_Mo_ranks_17 18 rfl ?_
  refine gr_lconst (M := gm_Mo_ranks) (v := 1) dq_Mo_ranks_18 (by decide) ⟨by decide, by decide⟩ 19 rfl ?_
  refine gr_ldc2_w (M := gm_Mo_ranks) (v := 300) dq_Mo_ranks_19 gk_Mo_267 ⟨by decide, by decide⟩ 22 rfl ?_
  refine gr_callSi (M := gm_Mo_ranks) (as := [.inr (.inl v1), .inr (.inl 1), .inr (.inl 300)]) dq_Mo_ranks_22 25 rfl rfl gcy_Mo_117 gst_Mo_in ⟨by decide, by decide⟩ (Nat.le_of_ble_eq_true rfl) (fun o1 hg ha hx => c_Mo_in hL hn  hg ha hx) (fun h2 r3 _ => ?_)
  refine gr_if_ne (M := gm_Mo_ranks) dq_Mo_ranks_25 31 28 rfl rfl (fun c4 => ?_) (fun c4 => ?_)
  · refine gr_aload_n (M := gm_Mo_ranks) dq_Mo_ranks_31 rfl 0 rfl 32 rfl ?_
    refine gr_callVv (M := gm_Mo_ranks) (as := []) dq_Mo_ranks_32 35 rfl rfl gcy_Mo_300 gim_Mo_save gse_Mo_save ⟨by decide, by decide⟩ (Nat.le_of_ble_eq_true rfl) gsh_83 rfl (gli hL gsh_83) (fun o1 hg ha hx => c_Mo_save hL hn  hg ha hx) (fun h5 r6 _ => ?_)
    refine gr_iconst (M := gm_Mo_ranks) (v := 1) dq_Mo_ranks_35 rfl ⟨by decide, by decide⟩ 36 rfl ?_
    refine gr_istore_n (M := gm_Mo_ranks) (lv' := [(3, .inl 1), (0, .inr (.inr 83)), (1, .inl v1), (2, .inl v2)]) dq_Mo_ranks_36 rfl (by decide) rfl 37 rfl ?_
    refine gr_iconst (M := gm_Mo_ranks) (v := 0) dq_Mo_ranks_37 rfl ⟨by decide, by decide⟩ 38 rfl ?_
    refine gr_istore (M := gm_Mo_ranks) (kk := 0) (lv' := [(4, .inl 0), (3, .inl 1), (0, .inr (.inr 83)), (1, .inl v1), (2, .inl v2)]) dq_Mo_ranks_38 (by decide) rfl 40 rfl ?_
    refine gr_sub (M := gm_Mo_ranks) (lv' := [(0, .inr (.inr 83)), (1, .inl v1), (2, .inl v2), (3, .inl 1), (4, .inl 0)]) [2, 3, 4, 1, 0] rfl ?_
    refine w_Mo_ranks_L40 hL hn hF   (fun v8 h9 => ?_) 50000 _ _ _
    refine gr_iconst (M := gm_Mo_ranks) (v := (-1)) dq_Mo_ranks_60 rfl ⟨by decide, by decide⟩ 61 rfl ?_
    refine gr_istore (M := gm_Mo_ranks) (kk := 0) (lv' := [(4, .inl (-1)), (0, .inr (.inr 83)), (1, .inl v1), (2, .inl v2), (3, .inl v8)]) dq_Mo_ranks_61 (by decide) rfl 63 rfl ?_
    refine gr_iconst (M := gm_Mo_ranks) (v := 0) dq_Mo_ranks_63 rfl ⟨by decide, by decide⟩ 64 rfl ?_
    refine gr_istore (M := gm_Mo_ranks) (kk := 0) (lv' := [(5, .inl 0), (4, .inl (-1)), (0, .inr (.inr 83)), (1, .inl v1), (2, .inl v2), (3, .inl v8)]) dq_Mo_ranks_64 (by decide) rfl 66 rfl ?_
    refine gr_sub (M := gm_Mo_ranks) (lv' := [(0, .inr (.inr 83)), (1, .inl v1), (2, .inl v2), (3, .inl v8), (4, .inl (-1)), (5, .inl 0)]) [2, 3, 4, 5, 1, 0] rfl ?_
    refine w_Mo_ranks_L66 hL hn hF   (fun v32 h33 => ?_) 50000 _ _ _
    refine gr_iload_n (M := gm_Mo_ranks) dq_Mo_ranks_208 rfl 1 rfl 209 rfl ?_
    refine gr_iconst (M := gm_Mo_ranks) (v := (-1)) dq_Mo_ranks_209 rfl ⟨by decide, by decide⟩ 210 rfl ?_
    refine gr_icmp_ne (M := gm_Mo_ranks) dq_Mo_ranks_210 218 213 rfl rfl (fun c34 => ?_) (fun c34 => ?_)
    · refine gr_aload_n (M := gm_Mo_ranks) dq_Mo_ranks_218 rfl 0 rfl 219 rfl ?_
      refine gr_getr (M := gm_Mo_ranks) dq_Mo_ranks_219 222 rfl gfl_Mo_89 gsh_83 rfl (gli hL gsh_83) 108 rfl ?_
      refine gr_iload_n (M := gm_Mo_ranks) dq_Mo_ranks_222 rfl 1 rfl 223 rfl ?_
      refine gr_iald (M := gm_Mo_ranks) dq_Mo_ranks_223 224 rfl gsh_108 (glj hL gsh_108 (by decide)) ?_
      exact gr_ireturn (M := gm_Mo_ranks) dq_Mo_ranks_224 hF
    refine gr_iload (M := gm_Mo_ranks) dq_Mo_ranks_213 2 rfl 215 rfl ?_
    refine gr_goto (M := gm_Mo_ranks) dq_Mo_ranks_215 224 rfl ?_
    exact gr_ireturn (M := gm_Mo_ranks) dq_Mo_ranks_224 hF
  refine gr_ldc (M := gm_Mo_ranks) (v := (-1000000002)) dq_Mo_ranks_28 gk_Mo_129 ⟨by decide, by decide⟩ 30 rfl ?_
  exact gr_ireturn (M := gm_Mo_ranks) dq_Mo_ranks_30 hF

def f_Mo_ranks (a1 : Int) (a2 : Int) (h : gH) : Option gO := if a2 = (-1) then (f_Mo_ranks_J16   a1 a2 h) else (gb (f_Mo_isCart a2 h) (fun h35 r36 => if r36 = 0 then (some (h35, (-1000000001))) else (f_Mo_ranks_J16   a1 a2 h35)))
theorem c_Mo_ranks {Z : gZ} (hL : gLive Z) (hn : (zL Z).Nodup) {a1 : Int} {a2 : Int}  {h : gH} {o : gO} (hg : gRg h) (ha : gRl [.inr (.inr 83), .inl a1, .inl a2]) (hx : f_Mo_ranks a1 a2 h = some o) : gC Z gy_Mo_ranks gc_Mo_ranks 8 (some .int) 9 206 [.inr (.inr 83), .inl a1, .inl a2] h o := by
  unfold f_Mo_ranks at hx
  refine gC_of (lv := [(0, .inr (.inr 83)), (1, .inl a1), (2, .inl a2)]) (own := gR_7) (by decide +kernel) rfl (Nat.le_of_ble_eq_true rfl) rfl rfl hn hg ha hx (fun X hZ hF => ?_)
  subst hZ
  show gr _ o gm_Mo_ranks X h 0 _ _
  refine gr_iload_n (M := gm_Mo_ranks) dq_Mo_ranks_0 rfl 2 rfl 1 rfl ?_
  refine gr_iconst (M := gm_Mo_ranks) (v := (-1)) dq_Mo_ranks_1 rfl ⟨by decide, by decide⟩ 2 rfl ?_
  refine gr_icmp_eq (M := gm_Mo_ranks) dq_Mo_ranks_2 16 5 rfl rfl (fun c1 => ?_) (fun c1 => ?_)
  · exact w_Mo_ranks_J16 hL hn hF   
  refine gr_aload_n (M := gm_Mo_ranks) dq_Mo_ranks_5 rfl 0 rfl 6 rfl ?_
  refine gr_iload_n (M := gm_Mo_ranks) dq_Mo_ranks_6 rfl 2 rfl 7 rfl ?_
  refine gr_callVi (M := gm_Mo_ranks) (as := [.inl a2]) dq_Mo_ranks_7 10 rfl rfl gcy_Mo_215 gim_Mo_isCart gse_Mo_isCart ⟨by decide, by decide⟩ (Nat.le_of_ble_eq_true rfl) gsh_83 rfl (gli hL gsh_83) (fun o1 hg ha hx => c_Mo_isCart hL hn  hg ha hx) (fun h35 r36 _ => ?_)
  refine gr_if_ne (M := gm_Mo_ranks) dq_Mo_ranks_10 16 13 rfl rfl (fun c37 => ?_) (fun c37 => ?_)
  · exact w_Mo_ranks_J16 hL hn hF   
  refine gr_ldc (M := gm_Mo_ranks) (v := (-1000000001)) dq_Mo_ranks_13 gk_Mo_208 ⟨by decide, by decide⟩ 15 rfl ?_
  exact gr_ireturn (M := gm_Mo_ranks) dq_Mo_ranks_15 hF

