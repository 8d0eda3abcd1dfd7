theorem w2_Traffic_begin_L12 {o : gO} {X : gX} {t p1 : Nat} (hlt : ∀ k, k < 10 → t + k ∈ zL (xZ X)) (hlp : ∀ c, gsh c = .inr 0 → ∀ k, k < 12 → c + k ∈ zL (xZ X)) (hn : (zL (xZ X)).Nodup) (hF : gFin X none o) (ht : gsh t = .inr 4) (hp1 : gsh p1 = .inr 0)  {k73 : gH → Option gO} (hk73 : ∀ (h : gH), gr (k73 h) o gm_Traffic_begin X h 73 [(0, .inr (.inr t))] []) : ∀ (n : Nat) (v2 : Int) (h : gH), gr (f_Traffic_begin_L12 t p1 k73 n v2 h) o gm_Traffic_begin X h 12 [(0, .inr (.inr t)), (2, .inl v2)] [] := by
  intro n
  induction n with
  | zero => intros; exact gr_none
  | succ n ih =>
    intro v2 h
    unfold f_Traffic_begin_L12
    refine gr_iload_n (M := gm_Traffic_begin) dq_Traffic_begin_12 rfl 1 rfl 13 rfl ?_
    refine gr_bipush (M := gm_Traffic_begin) (v := 9) dq_Traffic_begin_13 (by decide) ⟨by decide, by decide⟩ 15 rfl ?_
    refine gr_icmp_ge (M := gm_Traffic_begin) dq_Traffic_begin_15 73 18 rfl rfl (fun c3 => ?_) (fun c3 => ?_)
    · refine gr_sub (M := gm_Traffic_begin) (lv' := [(0, .inr (.inr t))]) [0] rfl ?_
      exact hk73  _
    refine gr_aload_n (M := gm_Traffic_begin) dq_Traffic_begin_18 rfl 0 rfl 19 rfl ?_
    refine gr_getr (M := gm_Traffic_begin) dq_Traffic_begin_19 22 rfl gfl_Traffic_11 ht rfl (hlt 0 (by decide)) (t + 1) rfl ?_
    refine gr_iload_n (M := gm_Traffic_begin) dq_Traffic_begin_22 rfl 1 rfl 23 rfl ?_
    refine gr_aload_n (M := gm_Traffic_begin) dq_Traffic_begin_23 rfl 0 rfl 24 rfl ?_
    refine gr_getd (M := gm_Traffic_begin) dq_Traffic_begin_24 27 rfl gfl_Traffic_45 ht rfl (hlt 0 (by decide)) (fun hc4 => ?_)
    refine gr_getr (M := gm_Traffic_begin) dq_Traffic_begin_27 30 rfl gfl_Traffic_53 (gclE hc4) rfl (hlp _ (gclE hc4) 0 (by decide)) ((h t 0).toNat + 4) rfl ?_
    refine gr_iload_n (M := gm_Traffic_begin) dq_Traffic_begin_30 rfl 1 rfl 31 rfl ?_
    refine gr_iald (M := gm_Traffic_begin) dq_Traffic_begin_31 32 rfl (gsC_4 (gclE hc4)) (hlp _ (gclE hc4) 4 (by decide)) ?_
    refine gr_iast (M := gm_Traffic_begin) dq_Traffic_begin_32 33 rfl (gsT_1 ht) (hlt 1 (by decide)) (fun h5 _ => ?_)
    refine gr_aload_n (M := gm_Traffic_begin) dq_Traffic_begin_33 rfl 0 rfl 34 rfl ?_
    refine gr_getr (M := gm_Traffic_begin) dq_Traffic_begin_34 37 rfl gfl_Traffic_17 ht rfl (hlt 0 (by decide)) (t + 2) rfl ?_
    refine gr_iload_n (M := gm_Traffic_begin) dq_Traffic_begin_37 rfl 1 rfl 38 rfl ?_
    refine gr_iconst (M := gm_Traffic_begin) (v := 0) dq_Traffic_begin_38 rfl ⟨by decide, by decide⟩ 39 rfl ?_
    refine gr_iast (M := gm_Traffic_begin) dq_Traffic_begin_39 40 rfl (gsT_2 ht) (hlt 2 (by decide)) (fun h6 _ => ?_)
    refine gr_aload_n (M := gm_Traffic_begin) dq_Traffic_begin_40 rfl 0 rfl 41 rfl ?_
    refine gr_getr (M := gm_Traffic_begin) dq_Traffic_begin_41 44 rfl gfl_Traffic_20 ht rfl (hlt 0 (by decide)) (t + 3) rfl ?_
    refine gr_iload_n (M := gm_Traffic_begin) dq_Traffic_begin_44 rfl 1 rfl 45 rfl ?_
    refine gr_iconst (M := gm_Traffic_begin) (v := 0) dq_Traffic_begin_45 rfl ⟨by decide, by decide⟩ 46 rfl ?_
    refine gr_iast (M := gm_Traffic_begin) dq_Traffic_begin_46 47 rfl (gsT_3 ht) (hlt 3 (by decide)) (fun h7 _ => ?_)
    refine gr_aload_n (M := gm_Traffic_begin) dq_Traffic_begin_47 rfl 0 rfl 48 rfl ?_
    refine gr_getr (M := gm_Traffic_begin) dq_Traffic_begin_48 51 rfl gfl_Traffic_23 ht rfl (hlt 0 (by decide)) (t + 4) rfl ?_
    refine gr_iconst (M := gm_Traffic_begin) (v := 2) dq_Traffic_begin_51 rfl ⟨by decide, by decide⟩ 52 rfl ?_
    refine gr_iload_n (M := gm_Traffic_begin) dq_Traffic_begin_52 rfl 1 rfl 53 rfl ?_
    refine gr_imul (M := gm_Traffic_begin) dq_Traffic_begin_53 54 rfl ?_
    refine gr_iconst (M := gm_Traffic_begin) (v := 0) dq_Traffic_begin_54 rfl ⟨by decide, by decide⟩ 55 rfl ?_
    refine gr_iast (M := gm_Traffic_begin) dq_Traffic_begin_55 56 rfl (gsT_4 ht) (hlt 4 (by decide)) (fun h8 _ => ?_)
    refine gr_aload_n (M := gm_Traffic_begin) dq_Traffic_begin_56 rfl 0 rfl 57 rfl ?_
    refine gr_getr (M := gm_Traffic_begin) dq_Traffic_begin_57 60 rfl gfl_Traffic_23 ht rfl (hlt 0 (by decide)) (t + 4) rfl ?_
    refine gr_iconst (M := gm_Traffic_begin) (v := 2) dq_Traffic_begin_60 rfl ⟨by decide, by decide⟩ 61 rfl ?_
    refine gr_iload_n (M := gm_Traffic_begin) dq_Traffic_begin_61 rfl 1 rfl 62 rfl ?_
    refine gr_imul (M := gm_Traffic_begin) dq_Traffic_begin_62 63 rfl ?_
    refine gr_iconst (M := gm_Traffic_begin) (v := 1) dq_Traffic_begin_63 rfl ⟨by decide, by decide⟩ 64 rfl ?_
    refine gr_iadd (M := gm_Traffic_begin) dq_Traffic_begin_64 65 rfl ?_
    refine gr_iconst (M := gm_Traffic_begin) (v := 0) dq_Traffic_begin_65 rfl ⟨by decide, by decide⟩ 66 rfl ?_
    refine gr_iast (M := gm_Traffic_begin) dq_Traffic_begin_66 67 rfl (gsT_4 ht) (hlt 4 (by decide)) (fun h9 _ => ?_)
    refine gr_iinc (M := gm_Traffic_begin) (lv' := [(2, .inl (gadd v2 1)), (0, .inr (.inr t))]) dq_Traffic_begin_67 1 rfl rfl (by decide) rfl 70 rfl ?_
    refine gr_goto (M := gm_Traffic_begin) dq_Traffic_begin_70 12 rfl ?_
    refine gr_sub (M := gm_Traffic_begin) (lv' := [(0, .inr (.inr t)), (2, .inl (gadd v2 1))]) [1, 0] rfl ?_
    exact ih _ _

theorem w2_Traffic_begin_L75 {o : gO} {X : gX} {t p1 : Nat} (hlt : ∀ k, k < 10 → t + k ∈ zL (xZ X)) (hlp : ∀ c, gsh c = .inr 0 → ∀ k, k < 12 → c + k ∈ zL (xZ X)) (hn : (zL (xZ X)).Nodup) (hF : gFin X none o) (ht : gsh t = .inr 4) (hp1 : gsh p1 = .inr 0)  {k138 : gH → Option gO} (hk138 : ∀ (h : gH), gr (k138 h) o gm_Traffic_begin X h 138 [] []) : ∀ (n : Nat) (v2 : Int) (h : gH), gr (f_Traffic_begin_L75 t p1 k138 n v2 h) o gm_Traffic_begin X h 75 [(0, .inr (.inr t)), (2, .inl v2)] [] := by
  intro n
  induction n with
  | zero => intros; exact gr_none
  | succ n ih =>
    intro v2 h
    unfold f_Traffic_begin_L75
    refine gr_iload_n (M := gm_Traffic_begin) dq_Traffic_begin_75 rfl 1 rfl 76 rfl ?_
    refine gr_bipush (M := gm_Traffic_begin) (v := 6) dq_Traffic_begin_76 (by decide) ⟨by decide, by decide⟩ 78 rfl ?_
    refine gr_icmp_ge (M := gm_Traffic_begin) dq_Traffic_begin_78 138 81 rfl rfl (fun c11 => ?_) (fun c11 => ?_)
    · refine gr_sub (M := gm_Traffic_begin) (lv' := []) [] rfl ?_
      exact hk138  _
    refine gr_aload_n (M := gm_Traffic_begin) dq_Traffic_begin_81 rfl 0 rfl 82 rfl ?_
    refine gr_getr (M := gm_Traffic_begin) dq_Traffic_begin_82 85 rfl gfl_Traffic_26 ht rfl (hlt 0 (by decide)) (t + 5) rfl ?_
    refine gr_iload_n (M := gm_Traffic_begin) dq_Traffic_begin_85 rfl 1 rfl 86 rfl ?_
    refine gr_aload_n (M := gm_Traffic_begin) dq_Traffic_begin_86 rfl 0 rfl 87 rfl ?_
    refine gr_getd (M := gm_Traffic_begin) dq_Traffic_begin_87 90 rfl gfl_Traffic_45 ht rfl (hlt 0 (by decide)) (fun hc12 => ?_)
    refine gr_getr (M := gm_Traffic_begin) dq_Traffic_begin_90 93 rfl gfl_Traffic_56 (gclE hc12) rfl (hlp _ (gclE hc12) 0 (by decide)) ((h t 0).toNat + 8) rfl ?_
    refine gr_iload_n (M := gm_Traffic_begin) dq_Traffic_begin_93 rfl 1 rfl 94 rfl ?_
    refine gr_iald (M := gm_Traffic_begin) dq_Traffic_begin_94 95 rfl (gsC_8 (gclE hc12)) (hlp _ (gclE hc12) 8 (by decide)) ?_
    refine gr_iast (M := gm_Traffic_begin) dq_Traffic_begin_95 96 rfl (gsT_5 ht) (hlt 5 (by decide)) (fun h13 _ => ?_)
    refine gr_aload_n (M := gm_Traffic_begin) dq_Traffic_begin_96 rfl 0 rfl 97 rfl ?_
    refine gr_getr (M := gm_Traffic_begin) dq_Traffic_begin_97 100 rfl gfl_Traffic_29 ht rfl (hlt 0 (by decide)) (t + 6) rfl ?_
    refine gr_iload_n (M := gm_Traffic_begin) dq_Traffic_begin_100 rfl 1 rfl 101 rfl ?_
    refine gr_iconst (M := gm_Traffic_begin) (v := 0) dq_Traffic_begin_101 rfl ⟨by decide, by decide⟩ 102 rfl ?_
    refine gr_iast (M := gm_Traffic_begin) dq_Traffic_begin_102 103 rfl (gsT_6 ht) (hlt 6 (by decide)) (fun h14 _ => ?_)
    refine gr_aload_n (M := gm_Traffic_begin) dq_Traffic_begin_103 rfl 0 rfl 104 rfl ?_
    refine gr_getr (M := gm_Traffic_begin) dq_Traffic_begin_104 107 rfl gfl_Traffic_32 ht rfl (hlt 0 (by decide)) (t + 7) rfl ?_
    refine gr_iload_n (M := gm_Traffic_begin) dq_Traffic_begin_107 rfl 1 rfl 108 rfl ?_
    refine gr_aload_n (M := gm_Traffic_begin) dq_Traffic_begin_108 rfl 0 rfl 109 rfl ?_
    refine gr_getd (M := gm_Traffic_begin) dq_Traffic_begin_109 112 rfl gfl_Traffic_45 ht rfl (hlt 0 (by decide)) (fun hc15 => ?_)
    refine gr_getr (M := gm_Traffic_begin) dq_Traffic_begin_112 115 rfl gfl_Traffic_59 (gclE hc15) rfl (hlp _ (gclE hc15) 0 (by decide)) ((h14 t 0).toNat + 5) rfl ?_
    refine gr_iload_n (M := gm_Traffic_begin) dq_Traffic_begin_115 rfl 1 rfl 116 rfl ?_
    refine gr_iald (M := gm_Traffic_begin) dq_Traffic_begin_116 117 rfl (gsC_5 (gclE hc15)) (hlp _ (gclE hc15) 5 (by decide)) ?_
    refine gr_iast (M := gm_Traffic_begin) dq_Traffic_begin_117 118 rfl (gsT_7 ht) (hlt 7 (by decide)) (fun h16 _ => ?_)
    refine gr_aload_n (M := gm_Traffic_begin) dq_Traffic_begin_118 rfl 0 rfl 119 rfl ?_
    refine gr_getr (M := gm_Traffic_begin) dq_Traffic_begin_119 122 rfl gfl_Traffic_35 ht rfl (hlt 0 (by decide)) (t + 8) rfl ?_
    refine gr_iload_n (M := gm_Traffic_begin) dq_Traffic_begin_122 rfl 1 rfl 123 rfl ?_
    refine gr_iconst (M := gm_Traffic_begin) (v := (-1)) dq_Traffic_begin_123 rfl ⟨by decide, by decide⟩ 124 rfl ?_
    refine gr_iast (M := gm_Traffic_begin) dq_Traffic_begin_124 125 rfl (gsT_8 ht) (hlt 8 (by decide)) (fun h17 _ => ?_)
    refine gr_aload_n (M := gm_Traffic_begin) dq_Traffic_begin_125 rfl 0 rfl 126 rfl ?_
    refine gr_getr (M := gm_Traffic_begin) dq_Traffic_begin_126 129 rfl gfl_Traffic_38 ht rfl (hlt 0 (by decide)) (t + 9) rfl ?_
    refine gr_iload_n (M := gm_Traffic_begin) dq_Traffic_begin_129 rfl 1 rfl 130 rfl ?_
    refine gr_iconst (M := gm_Traffic_begin) (v := 0) dq_Traffic_begin_130 rfl ⟨by decide, by decide⟩ 131 rfl ?_
    refine gr_iast (M := gm_Traffic_begin) dq_Traffic_begin_131 132 rfl (gsT_9 ht) (hlt 9 (by decide)) (fun h18 _ => ?_)
    refine gr_iinc (M := gm_Traffic_begin) (lv' := [(2, .inl (gadd v2 1)), (0, .inr (.inr t))]) dq_Traffic_begin_132 1 rfl rfl (by decide) rfl 135 rfl ?_
    refine gr_goto (M := gm_Traffic_begin) dq_Traffic_begin_135 75 rfl ?_
    refine gr_sub (M := gm_Traffic_begin) (lv' := [(0, .inr (.inr t)), (2, .inl (gadd v2 1))]) [1, 0] rfl ?_
    exact ih _ _

theorem c2_Traffic_begin {Z : gZ} {t p1 : Nat} (hlt : ∀ k, k < 10 → t + k ∈ zL Z) (hlp : ∀ c, gsh c = .inr 0 → ∀ k, k < 12 → c + k ∈ zL Z) (hn : (zL Z).Nodup) (ht : gsh t = .inr 4) (hp1 : gsh p1 = .inr 0) {h : gH} {o : gO} (hg : gRg h) (ha : gRl [.inr (.inr t), .inr (.inr p1)]) (hx : f_Traffic_begin t p1 h = some o) : gC Z gy_Traffic_begin gc_Traffic_begin 3 none 0 0 [.inr (.inr t), .inr (.inr p1)] h o := by
  unfold f_Traffic_begin at hx
  refine gC_of (lv := [(0, .inr (.inr t)), (1, .inr (.inr p1))]) (own := gR_4) (by decide +kernel) rfl (Nat.le_of_ble_eq_true rfl) rfl rfl hn hg ha hx (fun X hZ hF => ?_)
  subst hZ
  show gr _ o gm_Traffic_begin X h 0 _ _
  refine gr_aload_n (M := gm_Traffic_begin) dq_Traffic_begin_0 rfl 0 rfl 1 rfl ?_
  refine gr_aload_n (M := gm_Traffic_begin) dq_Traffic_begin_1 rfl 1 rfl 2 rfl ?_
  refine gr_putd (M := gm_Traffic_begin) dq_Traffic_begin_2 5 rfl gfp_Traffic_45 ht rfl (hlt 0 (by decide)) hp1 (fun h1 _ => ?_)
  refine gr_aload_n (M := gm_Traffic_begin) dq_Traffic_begin_5 rfl 0 rfl 6 rfl ?_
  refine gr_iconst (M := gm_Traffic_begin) (v := 0) dq_Traffic_begin_6 rfl ⟨by decide, by decide⟩ 7 rfl ?_
  refine gr_puti (M := gm_Traffic_begin) dq_Traffic_begin_7 10 rfl gfp_Traffic_49 ht rfl (hlt 0 (by decide)) (fun h2 _ => ?_)
  refine gr_iconst (M := gm_Traffic_begin) (v := 0) dq_Traffic_begin_10 rfl ⟨by decide, by decide⟩ 11 rfl ?_
  refine gr_istore_n (M := gm_Traffic_begin) (lv' := [(2, .inl 0), (0, .inr (.inr t)), (1, .inr (.inr p1))]) dq_Traffic_begin_11 rfl (by decide) rfl 12 rfl ?_
  refine gr_sub (M := gm_Traffic_begin) (lv' := [(0, .inr (.inr t)), (2, .inl 0)]) [1, 0] rfl ?_
  refine w2_Traffic_begin_L12 hlt hlp hn hF ht hp1  (fun h10 => ?_) 50000 _ _
  refine gr_iconst (M := gm_Traffic_begin) (v := 0) dq_Traffic_begin_73 rfl ⟨by decide, by decide⟩ 74 rfl ?_
  refine gr_istore_n (M := gm_Traffic_begin) (lv' := [(2, .inl 0), (0, .inr (.inr t))]) dq_Traffic_begin_74 rfl (by decide) rfl 75 rfl ?_
  refine gr_sub (M := gm_Traffic_begin) (lv' := [(0, .inr (.inr t)), (2, .inl 0)]) [1, 0] rfl ?_
  refine w2_Traffic_begin_L75 hlt hlp hn hF ht hp1  (fun h19 => ?_) 50000 _ _
  exact gr_return (M := gm_Traffic_begin) dq_Traffic_begin_138 hF
