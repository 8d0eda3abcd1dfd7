def gRet (ret : Option FieldType) (r : Int) : Option Value := ret.map (fun _ => .int (Int32.ofInt r))
def gRs (ret : Option FieldType) (r : Int) : List gV := match ret with
  | none => []
  | some _ => [.inl r]
def gWd (Z : gZ) (h : gH) (U : State) : Prop := va_P (zD Z) gcls (gW Z h) U.heap ∧ va_K (zD Z) gcls (gTy Z) U
def gPre (Z : gZ) (as : List gV) (h : gH) : Array Value → State → Prop := va_Pc (as.map (gem (zb Z))) (gWd Z h)
def gPost (Z : gZ) (ret : Option FieldType) (o : gO) : Array Value → State → Outcome → State → Prop := fun _ st oc t => oc = .returned (gRet ret o.2) ∧ (gRg o.1 ∧ gR32 o.2) ∧ gWd Z o.1 t ∧ va_F (gA Z) st t
def gRm (fr lo : Nat) : Room := { frames := fr, cells := 0, slots := 0, locals := lo }
/- a contract: from the memory h the method comes to o -/
def gC (Z : gZ) (y : MethodName) (cc : ByteArray) (nL : Nat) (ret : Option FieldType) (fr lo : Nat) (as : List gV) (h : gH) (o : gO) : Prop :=
  Met (zl Z) y (.code y cc nL ret :: gtbl) (gRm fr lo) (gPre Z as h) (gPost Z ret o) 0 0 (gA Z)
def gFin (X : gX) (ret : Option FieldType) (o : gO) : Prop := (xme X).sig.returnType = ret ∧ (xme X).locks = false ∧ xQ X = MQ (xb X) (gPost (xZ X) ret o) (xa X) (xs X) (xce X) (xsl X) (gA (xZ X)) ∧ xH X = (xs X).heap
theorem gC_of {Z : gZ} {y : MethodName} {cc : ByteArray} {nL : Nat} {ret : Option FieldType} {fr lo : Nat} {as : List gV} {h : gH} {o : gO} {lv : gL} {own : String} {x : Option gO} (hy : plainName y.cls = true) (hown : y.cls = own) (hlen : (lg_sl (as.map (gem (zb Z)))).length ≤ nL) (hlv : lv_args 0 (as.map (gem (zb Z))) = gEL (zb Z) lv) (hlvs : lv.map Prod.snd = as) (hn : (zL Z).Nodup) (hg : gRg h) (ha : gRl as) (hx : x = some o)
    (k : ∀ X : gX, xZ X = Z → gFin X ret o → gr x o (cc, own, fr, lo, nL) X h 0 lv []) : gC Z y cc nL ret fr lo as h o := by
  refine Met.ofW (cc := cc) (maxL := nL) (ret := ret) hy rfl ?_
  intro p e s m args below meth c s₁ B hml hv
  obtain ⟨rfl, hP, hK⟩ := hv
  have hts := atoms_spec (ws := .code y cc nL ret :: gtbl) B.pre
  have hown' : s.vm.findClass own = some m.cls := by rw [← hown]; exact findClass_of_methodNamed B.named
  have hl := lv_entry (as.map (gem (zb Z))) (n := nL) hlen
  rw [lg_entry_eq]
  generalize (lg_sl (as.map (gem (zb Z))) ++ List.replicate (nL - (lg_sl (as.map (gem (zb Z)))).length) Slot.unset).toArray = ls at hl ⊢
  rw [hlv] at hl
  exact k (Z, p, e, gRm fr lo, s, m, (as.map (gem (zb Z))).toArray, below, meth, c, nL, 0, 0, MQ below (gPost Z ret o) (as.map (gem (zb Z))).toArray s 0 0 (gA Z), s.heap) rfl
    ⟨B.returns, B.notSynchronized, rfl, rfl⟩ hx ⟨B.exec, B.bytes, ⟨hml, rfl⟩, hown', fun w hw => hts w (List.mem_cons_of_mem _ hw), hK, Nat.le_refl _, Nat.le_refl _, Nat.zero_le _, Nat.zero_le _, hn⟩ (fun _ h => by cases h) s.heap [] ls ⟨hg, by rw [hlvs]; exact ha, hP, va_S.rf, hl⟩
def gCat (v : gV) : Nat := match v with
  | .inr (.inl _) => 2
  | _ => 1
theorem gCat_eq (b : Nat) (st : List gV) : ((st.map (gem b)).map fun v => v.category) = st.map gCat := by
  rw [List.map_map]
  apply List.map_congr_left
  intro v _
  rcases v with x | x | x <;> rfl
/- what the tables say of a call: by an instance, of a static method -/
def gCy (own : String) (idx : Nat) (y : MethodName) (cc : ByteArray) (nL : Nat) (ret : Option FieldType) (n : Nat) : Prop :=
  Cond.methodLink own idx y ∈ gtbl ∧ Cond.initialized y.cls ∈ gtbl ∧ Cond.code y cc nL ret ∈ gtbl ∧ (y.cls ≠ "java/lang/invoke/MethodHandle" ∧ y.cls ≠ "java/lang/invoke/VarHandle" ∧ (parseMethodDescriptor y.desc).map (fun d => d.parameters.length) = some n)
theorem gGood {c : Cond} (h : c ∈ gtbl) : GoodIn gtbl (c :: gtbl) := fun w hw => by
  have hm : w ∈ gtbl := by
    rcases List.mem_cons.mp hw with rfl | hw
    · exact h
    · exact hw
  exact ⟨hm, good_of_word (gtbl_good w hm)⟩
theorem gBlind (Z : gZ) (as : List gV) (h : gH) : FrameBlind (gPre Z as h) := fun _ U g mk q => ⟨q.1, q.2.1, va_K.moved (u := U) (Vm.Alike.refl U.vm) q.2.2⟩
section GCALL
variable {x y : Option gO} {o : gO} {M : gM} {X : gX} {h : gH} {pc : Nat} {lv : gL} {st : List gV}
theorem gafter {ret : Option FieldType} {o1 : gO} {kk : gH → Int → Option gO} {args' : Array Value} {H : Heap} {locs : List Loc} {ls : Array Slot} {stk : List gV} (hK : gKn M X) (hs : gRl st) (hS : gSt X h lv H locs ls) (hx : kk o1.1 o1.2 = some o)
    (run : va_Run (xp X) (zl (xZ X)) (xe X) (xR X) (xs X) (xm X) (xa X) (xb X) (xme X) (xc X) H locs (xce X) (xsl X) 0 0 (F0 (xm X) pc ls (stk.map (gem (zb (xZ X))))) (st.map (gem (zb (xZ X)))) (gPost (xZ X) ret o1 args') (gA (xZ X)))
    (k : gr (kk o1.1 o1.2) o M X o1.1 (pc + 3) lv (gRs ret o1.2 ++ st)) : gWW X H locs pc ls stk := by
  intro T hT X'
  obtain ⟨v, st₀, t, T', L, h0, X'', hL, e1, e2, ⟨hv, ⟨hg1, hr1⟩, ⟨hP1, hK1⟩, hF⟩, stp⟩ := run T hT X'
  have hv' : v = gRet ret o1.2 := by cases hv; rfl
  subst hv'
  have hP1' : va_P (zD (xZ X)) gcls (gW (xZ X) o1.1) T'.heap := by rw [e1]; exact hP1
  have hz : H.size ≤ T'.heap.size := by rw [e1, ← h0]; exact hF.1
  have hkeep : ∀ q : Nat, q < H.size → ¬ gA (xZ X) q → T'.heap[q]? = H[q]? := fun q h1 h2 => by
    rw [e1, hF.2 q (by rw [h0]; exact h1) h2, h0]
  have hSS := hS.2.2.2.1
  have hS1 : va_S (gA (xZ X)) (xH X) T'.heap (locs ++ L) := by
    refine ⟨Nat.le_trans hSS.1 hz, fun q h1 h2 => ?_, fun q hq => ?_⟩
    · rw [hkeep q (Nat.lt_of_lt_of_le h1 hSS.1) h2]
      exact hSS.2.1 q h1 h2
    · rcases List.mem_append.mp hq with h | h
      · exact hSS.2.2 q h
      · exact hL q h
  have hst : gRl (gRs ret o1.2 ++ st) := by
    intro u hu
    rcases List.mem_append.mp hu with hu | hu
    · cases ret with
      | none => cases hu
      | some _ =>
        have e : u = .inl o1.2 := by simpa [gRs] using hu
        rw [e]; exact hr1
    · exact hs u hu
  obtain ⟨t2, a1, b1⟩ := k hx hK hst T'.heap (locs ++ L) ls ⟨hg1, hS.2.1, hP1', hS1, hS.2.2.2.2⟩ T' rfl X''
  refine ⟨t2, stp t2 ?_, b1⟩
  have e : (gRs ret o1.2 ++ st).map (gem (zb (xZ X))) = (gRet ret o1.2).toList ++ st.map (gem (zb (xZ X))) := by
    cases ret <;> rfl
  rw [e] at a1
  exact a1
theorem gr_callV {idx fr lo nL' ci a N : Nat} {T : u_T} {yy : MethodName} {cc' : ByteArray} {ret : Option FieldType} {as stk : List gV} {fx : Option gO} {kk : gH → Int → Option gO} (hd : decode M.1 pc = .ok (.invokevirtual idx, 3)) (pc' : Nat) (hp : pc + 3 = pc') (hst : stk = as.reverse ++ .inr (.inr a) :: st) (hy : gCy M.2.1 idx yy cc' nL' ret as.length) (hin : Cond.instanceMethod yy ∈ gtbl) (hse : Cond.selects yy.cls yy yy ∈ gtbl) (hroom : fr + 1 ≤ M.2.2.1 ∧ 8 + (nL' + 11) + lo ≤ M.2.2.2.1) (hcat : (st.map gCat).sum ≤ 8) (hsh : gsh a = .inr ci) (hci : gcls[ci]? = some (yy.cls, T, N)) (hi : a ∈ zL (xZ X))
    (hc : ∀ o1, gRg h → gRl (.inr (.inr a) :: as) → fx = some o1 → gC (xZ X) yy cc' nL' ret fr lo (.inr (.inr a) :: as) h o1) (k : ∀ h1 r, fx = some (h1, r) → gr (kk h1 r) o M X h1 pc' lv (gRs ret r ++ st)) : gr (gb fx kk) o M X h pc lv stk := by
  subst hp
  subst hst
  intro hx hK hs H locs ls hS
  cases hfx : fx with
  | none => rw [hfx] at hx; cases hx
  | some o1 =>
    rw [hfx] at hx
    have hx' : kk o1.1 o1.2 = some o := hx
    have hsa : gRl (.inr (.inr a) :: as) := fun u hu => by
      rcases List.mem_cons.mp hu with rfl | hu
      · exact trivial
      · exact hs u (List.mem_append_left _ (List.mem_reverse.mpr hu))
    have hss : gRl st := fun u hu => hs u (List.mem_append_right _ (List.mem_cons_of_mem _ hu))
    have hM := hc o1 hS.1 hsa hfx
    obtain ⟨hy1, hy2, hy3, hy4⟩ := hy
    obtain ⟨q0, hq0⟩ := List.getElem?_of_mem hi
    have hat := gW_at h hq0
    rw [gE_o hsh] at hat
    have hrec := va_recv hK.2.2.2.2.2.1 hS.2.2.1 hci hat
    have cw : CallW (xR X) (xs X) (xa X) M.2.1 yy.cls idx yy cc' nL' ret (.code yy cc' nL' ret :: gtbl) (gRm fr lo) 0 0 as.length :=
      ⟨callB_of _ hK.2.2.2.2.1 (gGood hy3) rfl rfl rfl (hK.2.2.2.2.1 _ hy2) (hK.2.2.2.2.1 _ hy1) hy4 ⟨Nat.le_trans hroom.1 hK.2.2.2.2.2.2.1, Nat.le_trans hroom.2 hK.2.2.2.2.2.2.2.1⟩, hK.2.2.2.2.1 _ hin, hK.2.2.2.2.1 _ hse⟩
    have run := va_runV (cc := M.1) (nL := xn X) (Ts := gtbl) (own := M.2.1) (e := xe X) (below := xb X) (meth := xme X) (H := H) (locs := locs) (cells := xce X) (slots := xsl X) (As := as.map (gem (zb (xZ X)))) (rest := st.map (gem (zb (xZ X)))) (g := F0 (xm X) pc ls ((as.reverse ++ .inr (.inr a) :: st).map (gem (zb (xZ X))))) ⟨hK.1, hK.2.1, hK.2.2.1.1, hK.2.2.2.1, hK.2.2.2.2.1⟩ hM cw (b := zb (xZ X) + a)
      ⟨gBlind _ _ _, hrec, fun U hU hW => ⟨rfl, by rw [hU]; exact hS.2.2.1, va_K.moved hW.alike hK.2.2.2.2.2.1⟩⟩ rfl (List.length_map ..) hS.2.2.2.2.1 (by rw [List.map_append, List.map_reverse]; rfl) (by rw [gCat_eq]; exact Nat.le_trans (Nat.le_of_eq (Nat.zero_add _)) hcat) hd ⟨hK.2.2.2.2.2.2.2.2.1, hK.2.2.2.2.2.2.2.2.2.1⟩
    exact gafter hK hss hS hx' run (k o1.1 o1.2 hfx)
theorem gr_callS {idx fr lo nL' : Nat} {yy : MethodName} {cc' : ByteArray} {ret : Option FieldType} {as stk : List gV} {fx : Option gO} {kk : gH → Int → Option gO} (hd : decode M.1 pc = .ok (.invokestatic idx, 3)) (pc' : Nat) (hp : pc + 3 = pc') (hst : stk = as.reverse ++ st) (hy : gCy M.2.1 idx yy cc' nL' ret as.length) (hin : Cond.static yy ∈ gtbl) (hroom : fr + 1 ≤ M.2.2.1 ∧ 8 + (nL' + 11) + lo ≤ M.2.2.2.1) (hcat : (st.map gCat).sum ≤ 8)
    (hc : ∀ o1, gRg h → gRl as → fx = some o1 → gC (xZ X) yy cc' nL' ret fr lo as h o1) (k : ∀ h1 r, fx = some (h1, r) → gr (kk h1 r) o M X h1 pc' lv (gRs ret r ++ st)) : gr (gb fx kk) o M X h pc lv stk := by
  subst hp
  subst hst
  intro hx hK hs H locs ls hS
  cases hfx : fx with
  | none => rw [hfx] at hx; cases hx
  | some o1 =>
    rw [hfx] at hx
    have hx' : kk o1.1 o1.2 = some o := hx
    have hsa : gRl as := fun u hu => hs u (List.mem_append_left _ (List.mem_reverse.mpr hu))
    have hss : gRl st := fun u hu => hs u (List.mem_append_right _ hu)
    have hM := hc o1 hS.1 hsa hfx
    obtain ⟨hy1, hy2, hy3, hy4⟩ := hy
    have cw : CallB (xR X) (xs X) (xa X) M.2.1 idx yy cc' nL' ret (.code yy cc' nL' ret :: gtbl) (gRm fr lo) 0 0 as.length ∧ (Cond.static yy).before (xa X) (xs X) = true :=
      ⟨callB_of _ hK.2.2.2.2.1 (gGood hy3) rfl rfl rfl (hK.2.2.2.2.1 _ hy2) (hK.2.2.2.2.1 _ hy1) hy4 ⟨Nat.le_trans hroom.1 hK.2.2.2.2.2.2.1, Nat.le_trans hroom.2 hK.2.2.2.2.2.2.2.1⟩, hK.2.2.2.2.1 _ hin⟩
    have run := va_runS (cc := M.1) (nL := xn X) (Ts := gtbl) (own := M.2.1) (e := xe X) (below := xb X) (meth := xme X) (H := H) (locs := locs) (cells := xce X) (slots := xsl X) (As := as.map (gem (zb (xZ X)))) (rest := st.map (gem (zb (xZ X)))) (g := F0 (xm X) pc ls ((as.reverse ++ st).map (gem (zb (xZ X))))) ⟨hK.1, hK.2.1, hK.2.2.1.1, hK.2.2.2.1, hK.2.2.2.2.1⟩ hM cw
      ⟨gBlind _ _ _, fun U hU hW => ⟨rfl, by rw [hU]; exact hS.2.2.1, va_K.moved hW.alike hK.2.2.2.2.2.1⟩⟩ rfl (List.length_map ..) hS.2.2.2.2.1 (by rw [List.map_append, List.map_reverse]) (by rw [gCat_eq]; exact Nat.le_trans (Nat.le_of_eq (Nat.zero_add _)) hcat) hd ⟨hK.2.2.2.2.2.2.2.2.1, hK.2.2.2.2.2.2.2.2.2.1⟩
    exact gafter hK hss hS hx' run (k o1.1 o1.2 hfx)
theorem gr_ireturn {r : Int} (hd : decode M.1 pc = .ok (.ireturn, 1)) (hF : gFin X (some .int) o) : gr (some (h, r)) o M X h pc lv [.inl r] := by
  intro hx hK hs H locs ls hS
  obtain ⟨f1, f2, f3, f4⟩ := hF
  cases hx
  unfold gWW
  rw [f3]
  exact W.iret hK.1 hK.2.1 f1 (fun t ht hW => ⟨rfl, ⟨hS.1, gRl_h hs⟩, ⟨by rw [ht]; exact hS.2.2.1, va_K.moved hW.alike hK.2.2.2.2.2.1⟩, va_S.F (by rw [← f4]; exact hS.2.2.2.1) ht⟩) hS.2.2.2.1.2.2 hd f2
theorem gr_zreturn {r : Int} (hd : decode M.1 pc = .ok (.ireturn, 1)) (hF : gFin X (some .boolean) o) : gr (gd (gz r) (some (h, r))) o M X h pc lv [.inl r] := by
  refine gr_gd fun hc => ?_
  intro hx hK hs H locs ls hS
  obtain ⟨f1, f2, f3, f4⟩ := hF
  cases hx
  unfold gWW
  rw [f3]
  have hz : r = 0 ∨ r = 1 := of_decide_eq_true hc
  exact W.zret hK.1 hK.2.1 f1 (by rcases hz with rfl | rfl <;> rfl) (fun t ht hW => ⟨rfl, ⟨hS.1, gRl_h hs⟩, ⟨by rw [ht]; exact hS.2.2.1, va_K.moved hW.alike hK.2.2.2.2.2.1⟩, va_S.F (by rw [← f4]; exact hS.2.2.2.1) ht⟩) hS.2.2.2.1.2.2 hd f2
theorem gr_return (hd : decode M.1 pc = .ok (.return_, 1)) (hF : gFin X none o) : gr (some (h, 0)) o M X h pc lv [] := by
  intro hx hK hs H locs ls hS
  obtain ⟨f1, f2, f3, f4⟩ := hF
  cases hx
  unfold gWW
  rw [f3]
  exact W.vret hK.1 hK.2.1 f1 (fun t ht hW => ⟨rfl, ⟨hS.1, gR0⟩, ⟨by rw [ht]; exact hS.2.2.1, va_K.moved hW.alike hK.2.2.2.2.2.1⟩, va_S.F (by rw [← f4]; exact hS.2.2.2.1) ht⟩) hS.2.2.2.1.2.2 hd f2
end GCALL
/- a row of ints copied into another -/
def gcp (h : gH) (s sp d dp n : Nat) : gH := fun x y => if x = d ∧ dp ≤ y ∧ y < dp + n then h s (sp + (y - dp)) else h x y
def gcpok (s d : Nat) (sp dp n : Int) : Bool := decide (0 ≤ sp ∧ 0 ≤ dp ∧ 0 ≤ n ∧ sp + n ≤ (gln s : Int) ∧ dp + n ≤ (gln d : Int))
theorem gln_of {i t n : Nat} (h : gsh i = .inl (t, n)) : gln i = n := by unfold gln; rw [h]
theorem gr_acopy {o : gO} {M : gM} {X : gX} {h : gH} {pc : Nat} {lv : gL} {st : List gV} {idx s d n0 n1 : Nat} {sp dp n : Int} (hd : decode M.1 pc = .ok (.invokestatic idx, 3)) (pc' : Nat) (hp : pc + 3 = pc') (h1 : Cond.methodLink M.2.1 idx arraycopyName ∈ gtbl) (h2 : Cond.native arraycopyName ∈ gtbl) (h3 : Cond.static arraycopyName ∈ gtbl) (h4 : Cond.initialized "java/lang/System" ∈ gtbl) (hroom : 1 ≤ M.2.2.1 ∧ 8 + (nativeFrameWords "java/lang/System" "arraycopy" 5 + 11) ≤ M.2.2.2.1) (hcat : (st.map gCat).sum ≤ 8) (hs0 : gsh s = .inl (0, n0)) (hs1 : gsh d = .inl (0, n1)) (hi0 : s ∈ zL (xZ X)) (hi1 : d ∈ zL (xZ X)) {kk : gH → Option gO} (k1 : ∀ h1, h1 = gcp h s sp.toNat d dp.toNat n.toNat → gr (kk h1) o M X h1 pc' lv st) : gr (gd (gcpok s d sp dp n) (gs (gcp h s sp.toNat d dp.toNat n.toNat) kk)) o M X h pc lv (.inl n :: .inl dp :: .inr (.inr d) :: .inl sp :: .inr (.inr s) :: st) := by
  subst hp
  refine gr_gd fun hc => ?_
  intro hx hK hs H locs ls hS
  have hc' := of_decide_eq_true hc
  rw [gln_of hs0, gln_of hs1] at hc'
  obtain ⟨c1, c2, c3, c4, c5⟩ := hc'
  have r1 : gR32 n := gRl_h hs
  have r2 : gR32 dp := gRl_h (gRl_t hs)
  have r3 : gR32 sp := gRl_h (gRl_t (gRl_t (gRl_t hs)))
  have e1 : (Int32.ofInt n).toNatClampNeg = n.toNat := by show ((Int32.ofInt n).toInt).toNat = _; rw [g32 r1]
  have e2 : (Int32.ofInt dp).toNatClampNeg = dp.toNat := by show ((Int32.ofInt dp).toInt).toNat = _; rw [g32 r2]
  have e3 : (Int32.ofInt sp).toNatClampNeg = sp.toNat := by show ((Int32.ofInt sp).toInt).toNat = _; rw [g32 r3]
  have ng : ∀ {z : Int}, gR32 z → 0 ≤ z → ¬ Int32.ofInt z < 0 := fun rz hz q => by rw [gof0, glt rz gR0] at q; omega
  obtain ⟨q0, hq0⟩ := List.getElem?_of_mem hi0
  obtain ⟨q1, hq1⟩ := List.getElem?_of_mem hi1
  have hat0 := gW_at h hq0
  rw [gE_i hs0] at hat0
  have hat1 := gW_at h hq1
  rw [gE_i hs1] at hat1
  refine va_copyi hK.1 hK.2.1 (hK.2.2.1.1.trans hS.2.2.2.2.1.symm) hK.2.2.2.1 (hK.2.2.2.2.1 _ h1) (hK.2.2.2.2.1 _ h2) (hK.2.2.2.2.1 _ h3) (hK.2.2.2.2.1 _ h4) hK.2.2.2.2.2.1 hS.2.2.1 (gD hK.2.2.2.2.2.2.2.2.2.2 h) hS.2.2.2.1 q0 q1 0 0 hat0 hat1 (ty := .int) rfl rfl rfl (ng r3 c1) (ng r2 c2) (ng r1 c3) (by rw [e3, e1]; omega) (by rw [e2, e1]; omega) (fun _ _ => rfl) (Nat.le_trans hroom.1 hK.2.2.2.2.2.2.1) (by rw [gCat_eq]; have := hroom.2; have := hK.2.2.2.2.2.2.2.1; omega) hd (fun H1 locs1 hP1 _ hS1 => ?_)
  have hh : ∀ j, j ≠ d → ∀ y, gcp h s sp.toNat d dp.toNat n.toNat j y = h j y := fun j hj y => if_neg (fun q => hj q.1)
  have ec : va_cpy (fun j => Int32.ofInt (h s j)) (fun j => Int32.ofInt (h d j)) sp.toNat dp.toNat n.toNat = fun j => Int32.ofInt (gcp h s sp.toNat d dp.toNat n.toNat d j) := by
    funext j
    unfold va_cpy gcp
    by_cases hj : dp.toNat ≤ j ∧ j < dp.toNat + n.toNat
    · rw [if_pos hj, if_pos ⟨rfl, hj⟩]
    · rw [if_neg hj, if_neg (fun q => hj q.2)]
  rw [e1, e2, e3, ec, ← gE_i (G := zG (xZ X)) (b := zb (xZ X)) (h := gcp h s sp.toNat d dp.toNat n.toNat) hs1, gW_set hK.2.2.2.2.2.2.2.2.2.2 hq1 hh] at hP1
  have hg' : gRg (gcp h s sp.toNat d dp.toNat n.toNat) := fun x y => by
    unfold gcp
    split
    · exact hS.1 _ _
    · exact hS.1 _ _
  exact k1 _ rfl hx hK (gRl_t (gRl_t (gRl_t (gRl_t (gRl_t hs))))) H1 locs1 ls ⟨hg', hS.2.1, hP1, hS1, hS.2.2.2.2⟩
