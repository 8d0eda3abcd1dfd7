abbrev gV : Type := Int ⊕ (Int ⊕ Nat)
abbrev gL : Type := List (Nat × gV)
abbrev gH : Type := Nat → Nat → Int
abbrev gO : Type := gH × Int
abbrev gM : Type := ByteArray × String × Nat × Nat × Nat
abbrev gG : Type := ClassId × ClassId × ClassId
abbrev gZ : Type := Launch × va_G × Nat × List Nat × gG
abbrev gX : Type := gZ × Program × Env × Room × State × MethodId × Array Value × List Frame × Method × Code × Nat × Nat × Nat × (State → Prop) × Heap
abbrev zl (Z : gZ) : Launch := Z.1
abbrev zD (Z : gZ) : va_G := Z.2.1
abbrev zb (Z : gZ) : Nat := Z.2.2.1
abbrev zL (Z : gZ) : List Nat := Z.2.2.2.1
abbrev zG (Z : gZ) : gG := Z.2.2.2.2
abbrev xZ (X : gX) : gZ := X.1
abbrev xp (X : gX) : Program := X.2.1
abbrev xe (X : gX) : Env := X.2.2.1
abbrev xR (X : gX) : Room := X.2.2.2.1
abbrev xs (X : gX) : State := X.2.2.2.2.1
abbrev xm (X : gX) : MethodId := X.2.2.2.2.2.1
abbrev xa (X : gX) : Array Value := X.2.2.2.2.2.2.1
abbrev xb (X : gX) : List Frame := X.2.2.2.2.2.2.2.1
abbrev xme (X : gX) : Method := X.2.2.2.2.2.2.2.2.1
abbrev xc (X : gX) : Code := X.2.2.2.2.2.2.2.2.2.1
abbrev xn (X : gX) : Nat := X.2.2.2.2.2.2.2.2.2.2.1
abbrev xce (X : gX) : Nat := X.2.2.2.2.2.2.2.2.2.2.2.1
abbrev xsl (X : gX) : Nat := X.2.2.2.2.2.2.2.2.2.2.2.2.1
abbrev xQ (X : gX) : State → Prop := X.2.2.2.2.2.2.2.2.2.2.2.2.2.1
abbrev xH (X : gX) : Heap := X.2.2.2.2.2.2.2.2.2.2.2.2.2.2
def gem (b : Nat) (v : gV) : Value := match v with
  | .inl x => .int (Int32.ofInt x)
  | .inr (.inl x) => .long (Int64.ofInt x)
  | .inr (.inr a) => .ref (b + a)
def gR32 (x : Int) : Prop := -2147483648 ≤ x ∧ x ≤ 2147483647
def gR64 (x : Int) : Prop := -9223372036854775808 ≤ x ∧ x ≤ 9223372036854775807
def gRv (v : gV) : Prop := match v with
  | .inl x => gR32 x
  | .inr (.inl x) => gR64 x
  | .inr (.inr _) => True
def gRl (st : List gV) : Prop := ∀ v ∈ st, gRv v
def gRg (h : gH) : Prop := ∀ a i, gR32 (h a i)
def gup (h : gH) (a k : Nat) (v : Int) : gH := fun x y => if x = a ∧ y = k then v else h x y
abbrev gK : Type := (Nat × Nat) ⊕ Nat
def gtab : List gK := [.inr 6, .inr 0, .inl (0, 9), .inl (0, 9), .inl (0, 9), .inl (0, 9), .inl (0, 6), .inl (0, 6), .inl (0, 6), .inl (0, 6), .inl (0, 6), .inl (0, 49), .inl (0, 49), .inr 0, .inl (0, 9), .inl (0, 9), .inl (0, 9), .inl (0, 9), .inl (0, 6), .inl (0, 6), .inl (0, 6), .inl (0, 6), .inl (0, 6), .inl (0, 49), .inl (0, 49), .inr 2, .inl (0, 250), .inr 4, .inl (0, 9), .inl (0, 9), .inl (0, 9), .inl (0, 18), .inl (0, 6), .inl (0, 6), .inl (0, 6), .inl (0, 6), .inl (0, 6), .inr 4, .inl (0, 9), .inl (0, 9), .inl (0, 9), .inl (0, 18), .inl (0, 6), .inl (0, 6), .inl (0, 6), .inl (0, 6), .inl (0, 6), .inl (2, 2), .inr 4, .inl (0, 9), .inl (0, 9), .inl (0, 9), .inl (0, 18), .inl (0, 6), .inl (0, 6), .inl (0, 6), .inl (0, 6), .inl (0, 6), .inr 4, .inl (0, 9), .inl (0, 9), .inl (0, 9), .inl (0, 18), .inl (0, 6), .inl (0, 6), .inl (0, 6), .inl (0, 6), .inl (0, 6), .inl (1, 2), .inr 5, .inl (0, 7), .inl (0, 7), .inr 3, .inl (0, 6), .inl (0, 6), .inr 1, .inl (0, 8), .inl (0, 8), .inl (0, 8), .inr 1, .inl (0, 15), .inl (0, 15), .inl (0, 15), .inr 7, .inl (0, 9), .inl (0, 9), .inl (0, 9), .inl (0, 6), .inl (0, 6), .inl (0, 6), .inl (0, 6), .inl (0, 49), .inl (0, 50), .inl (0, 250), .inl (0, 2), .inl (0, 9), .inl (0, 9), .inl (0, 9), .inl (0, 9), .inl (0, 6), .inl (0, 6), .inl (0, 6), .inl (0, 6), .inl (0, 6), .inl (0, 50), .inl (0, 7), .inl (0, 2107), .inl (0, 6), .inl (0, 6), .inl (0, 8), .inl (0, 8), .inl (0, 8), .inl (0, 15), .inl (0, 15), .inl (0, 102), .inl (1, 2)]
def gN : Nat := 116
def gsh (i : Nat) : gK := gtab.getD i (.inl (9, 0))
def gln (i : Nat) : Nat := match gsh i with
  | .inl (_, n) => n
  | .inr _ => 0
def gfk (ci : Nat) : List (Nat × Nat) := match ci with
  | 0 => [(0, 0), (0, 0), (0, 0), (0, 0), (2, 1), (2, 2), (2, 3), (2, 4), (2, 5), (2, 6), (2, 7), (2, 8), (2, 9), (2, 10), (2, 11)]
  | 1 => [(0, 0), (2, 1), (2, 2), (2, 3)]
  | 2 => [(0, 0), (0, 0), (2, 1), (0, 0), (0, 0), (0, 0)]
  | 3 => [(0, 0), (2, 1), (2, 2), (3, 27), (3, 37), (0, 0)]
  | 4 => [(1, 0), (0, 0), (0, 0), (2, 1), (2, 2), (2, 3), (2, 4), (2, 5), (2, 6), (2, 7), (2, 8), (2, 9)]
  | 5 => [(2, 1), (2, 2), (3, 27)]
  | 6 => [(1, 0), (1, 0), (3, 25), (3, 27), (3, 37), (3, 47), (3, 68), (3, 69), (3, 72), (3, 75), (3, 79)]
  | _ => [(0, 0), (0, 0), (0, 0), (2, 1), (2, 2), (2, 3), (0, 0), (2, 4), (2, 5), (2, 6), (2, 7), (2, 8), (2, 9), (0, 0), (2, 10), (0, 0), (0, 0), (0, 0), (0, 0), (0, 0), (2, 11), (0, 0), (2, 12), (2, 13), (2, 14), (2, 15), (0, 0), (2, 16), (2, 17), (2, 18), (2, 19), (2, 20), (0, 0), (2, 21), (2, 22), (2, 23), (2, 24), (2, 25), (0, 0), (2, 26), (2, 27), (2, 28), (0, 0), (2, 29), (2, 30), (2, 31), (2, 32)]
def gfv (b i : Nat) (h : gH) (k : Nat) (q : Nat × Nat) : Value := match q.1 with
  | 0 => .int (Int32.ofInt (h i k))
  | 1 => if h i k = 0 then .null else .ref (b + (h i k).toNat)
  | 2 => .ref (b + (i + q.2))
  | _ => .ref (b + q.2)
def gE (G : gG) (b : Nat) (h : gH) (i : Nat) : va_E := match gsh i with
  | .inl (0, n) => .inl (G.1, n, .inl (fun j => Int32.ofInt (h i j)))
  | .inl (1, n) => .inl (G.2.1, n, .inl (fun j => Int32.ofInt (h i j)))
  | .inl (_, n) => .inl (G.2.2, n, .inr (.inr (.inr (.inr (fun j => some (b + (i + 1 + 10 * j)))))))
  | .inr ci => .inr (ci, (gfk ci).mapIdx (fun k q => gfv b i h k q))
def gW (Z : gZ) (h : gH) : va_W := (zL Z).map (fun i => (zb Z + i, gE (zG Z) (zb Z) h i))
def gA (Z : gZ) : Nat → Prop := fun q => ∃ i, i ∈ zL Z ∧ q = zb Z + i
def gTy (Z : gZ) : List (ClassId × FieldType) := [((zG Z).1, .int), ((zG Z).2.1, .boolean), ((zG Z).2.2, .object "DecreedStreets$Traffic")]
def gEL (b : Nat) (lv : gL) : List (Nat × Value) := lv.map (fun q => (q.1, gem b q.2))
def gKn (M : gM) (X : gX) : Prop :=
  (xp X).tables.exec = Jvm.exec ∧ (xc X).code = M.1 ∧ ((xc X).maxLocals = xn X ∧ xn X = M.2.2.2.2) ∧ (xs X).vm.findClass M.2.1 = some (xm X).cls ∧ (∀ w ∈ gtbl, w.before (xa X) (xs X) = true) ∧ va_K (zD (xZ X)) gcls (gTy (xZ X)) (xs X) ∧ M.2.2.1 ≤ (xR X).frames ∧ M.2.2.2.1 ≤ (xR X).locals ∧ xce X ≤ (xR X).cells ∧ xsl X ≤ (xR X).slots ∧ (zL (xZ X)).Nodup
def gSt (X : gX) (h : gH) (lv : gL) (H : Heap) (locs : List Loc) (ls : Array Slot) : Prop :=
  gRg h ∧ gRl (lv.map Prod.snd) ∧ va_P (zD (xZ X)) gcls (gW (xZ X) h) H ∧ va_S (gA (xZ X)) (xH X) H locs ∧ lv_has ls (xn X) (gEL (zb (xZ X)) lv)
def gWW (X : gX) (H : Heap) (locs : List Loc) (pc : Nat) (ls : Array Slot) (st : List gV) : Prop :=
  W (xp X) (zl (xZ X)) (xe X) (xR X) (xs X) (xm X) (xa X) (xb X) (xme X) (xc X) H locs (xce X) (xsl X) (xQ X) (F0 (xm X) pc ls (st.map (gem (zb (xZ X)))))
def gr (x : Option gO) (o : gO) (M : gM) (X : gX) (h : gH) (pc : Nat) (lv : gL) (st : List gV) : Prop :=
  x = some o → gKn M X → gRl st → ∀ (H : Heap) (locs : List Loc) (ls : Array Slot), gSt X h lv H locs ls → gWW X H locs pc ls st
/- the words of a program: guards, binds -/
def gd (c : Bool) (x : Option gO) : Option gO := if c then x else none
def gb (x : Option gO) (k : gH → Int → Option gO) : Option gO := match x with
  | some o => k o.1 o.2
  | none => none
def gs (h : gH) (k : gH → Option gO) : Option gO := k h
def gj {α : Type} (j : α) (k : α → Option gO) : Option gO := k j
def gix (n : Nat) (i : Int) : Bool := decide (0 ≤ i) && decide (i < (n : Int))
def gz (r : Int) : Bool := decide (r = 0 ∨ r = 1)
def gnz (b : Int) : Bool := decide (b ≠ 0)
def gcl (i ci : Nat) : Bool := decide (gsh i = .inr ci)
def gia (i : Nat) : Bool := match gsh i with
  | .inl (0, _) => true
  | _ => false
def gadd (x y : Int) : Int := (Int32.ofInt x + Int32.ofInt y).toInt
def gsub (x y : Int) : Int := (Int32.ofInt x - Int32.ofInt y).toInt
def gmul (x y : Int) : Int := (Int32.ofInt x * Int32.ofInt y).toInt
def gdiv (x y : Int) : Int := (Int32.ofInt x / Int32.ofInt y).toInt
def grem (x y : Int) : Int := (Int32.ofInt x - Int32.ofInt x / Int32.ofInt y * Int32.ofInt y).toInt
def gand (x y : Int) : Int := (Int32.ofInt x &&& Int32.ofInt y).toInt
def gor (x y : Int) : Int := (Int32.ofInt x ||| Int32.ofInt y).toInt
def gxor (x y : Int) : Int := (Int32.ofInt x ^^^ Int32.ofInt y).toInt
def gshl (x y : Int) : Int := (Int32.ofInt x <<< (Int32.ofInt y &&& 31)).toInt
def gshr (x y : Int) : Int := (Int32.ofInt x >>> (Int32.ofInt y &&& 31)).toInt
def gushr (x y : Int) : Int := ((Int32.ofInt x).toUInt32 >>> ((Int32.ofInt y).toUInt32 &&& Int32.toUInt32 31)).toInt32.toInt
def gl2i (x : Int) : Int := (Int64.ofInt x).toInt32.toInt
def gladd (x y : Int) : Int := (Int64.ofInt x + Int64.ofInt y).toInt
def glmul (x y : Int) : Int := (Int64.ofInt x * Int64.ofInt y).toInt
def gland (x y : Int) : Int := (Int64.ofInt x &&& Int64.ofInt y).toInt
def glrem (x y : Int) : Int := (Int64.ofInt x - Int64.ofInt x / Int64.ofInt y * Int64.ofInt y).toInt
def glcmp (x y : Int) : Int := if y < x then 1 else if x = y then 0 else -1
