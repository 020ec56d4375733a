/-! a small machine over a heap of numbered cells: what an instruction asks, as a predicate; pure -/
abbrev Hp : Type := (Nat → Nat → Int32) × (Nat → Nat → Int64)
abbrev Pst : Type := Option Value → Hp → Prop
abbrev Shp : Type := (Nat × Nat) ⊕ (Nat × List (Nat × Nat))
abbrev Ops : Type := Instr × Nat × Nat × Nat × Nat
abbrev Kon : Type := Nat → List Value → List Value → Hp → Prop
abbrev Evt : Type := Nat → List Value → Hp → Pst → Prop
def hs (h : Hp) (i : Nat) (f : Nat → Int32) : Hp := (fun a => bif Nat.beq a i then f else h.1 a, h.2)
def hsL (h : Hp) (i k : Nat) (x : Int64) : Hp := (h.1, fun a b => bif Nat.beq a i && Nat.beq b k then x else h.2 a b)
/-- a written number -/
def cI : Int → Int32
  | .ofNat k => Int32.ofNat k
  | .negSucc k => -(Int32.ofNat (k + 1))
def unv : Value := .retAddr 0
def isun : Value → Bool
  | .retAddr _ => true
  | _ => false
/-- the static rows: PAIRS, ACTS, CALF_LESS, OTHER_STARCH, OTHER_KNITTER, WHOLE_HEEL, WORN_HEEL; then the bytes of the one text -/
def sta : Nat → List Int32
  | 0 => [1, 2, 3, 4, 5, 12, 13, 14, 15, 23, 24, 25, 34, 35, 45]
  | 1 => [0, 1, 2, 3, 4, 9]
  | 2 => [0, 0, 2, 0, 2]
  | 3 => [2, 2, 2, 0, 2]
  | 4 => [3, 3, 3, 3, 0]
  | 5 => [0, 2, 0, 0, 0]
  | 6 => [1, 0, 1, 1, 1]
  | 7 => [107, 108, 121, 98, 114]
  | _ => []
def nthV : List Value → Nat → Option Value
  | [], _ => none
  | v :: _, 0 => some v
  | _ :: l, n + 1 => nthV l n
def nthF : List (Nat × Nat) → Nat → Option (Nat × Nat)
  | [], _ => none
  | v :: _, 0 => some v
  | _ :: l, n + 1 => nthF l n
def setV : List Value → Nat → Value → List Value
  | [], _, _ => []
  | _ :: l, 0, x => x :: l
  | v :: l, n + 1, x => v :: setV l n x
/-- the second half of a long: what stands before it is a long only while this stands -/
def sec : Value := .retAddr 1
def put1 (L : List Value) (i : Nat) (x : Value) : List Value := setV L i x
def put2 (L : List Value) (i : Nat) (x : Value) : List Value := setV (setV L i x) (i + 1) sec
def issec : Value → Bool
  | .retAddr n => Nat.beq n 1
  | _ => false
def popn : Nat → List Value → List Value → Option (List Value × List Value)
  | 0, acc, S => some (acc, S)
  | n + 1, acc, v :: S => popn n (v :: acc) S
  | _ + 1, _, [] => none
def catS : List Value → Nat
  | [] => 0
  | .long _ :: S => 2 + catS S
  | .double _ :: S => 2 + catS S
  | _ :: S => 1 + catS S
def qI (K : Int32 → Hp → Prop) : Pst := fun r h => match r with
  | some (.int v) => K v h
  | _ => False
def qL (K : Int64 → Hp → Prop) : Pst := fun r h => match r with
  | some (.long v) => K v h
  | _ => False
def qV (K : Hp → Prop) : Pst := fun r h => match r with
  | none => K h
  | _ => False
def rty : Nat → Option FieldType
  | 0 => none
  | 1 => some .int
  | 2 => some .boolean
  | 3 => some .long
  | 4 => some .byte
  | _ => some .char
/-- an array's length and contents: a cell of the heap, or a static row; of kind 0 int, 1 byte, 2 boolean -/
def arr (sh : Nat → Option Shp) (h : Hp) (i kd : Nat) : Option (Nat × (Nat → Int32)) :=
  bif Nat.blt i 100 then (match sh i with
    | some (.inl (k, n)) => bif Nat.beq k kd then some (n, h.1 i) else none
    | _ => none)
  else bif Nat.blt i 107 then (bif Nat.beq kd 0 then some ((sta (i - 100)).length, fun j => (sta (i - 100)).getD j 0) else none)
  else bif Nat.beq i 107 && Nat.beq kd 1 then some ((sta 7).length, fun j => (sta 7).getD j 0) else none
def arn (sh : Nat → Option Shp) (i kd : Nat) : Option Nat :=
  bif Nat.blt i 100 then (match sh i with
    | some (.inl (k, n)) => bif Nat.beq k kd then some n else none
    | _ => none)
  else none
def akd (sh : Nat → Option Shp) (i : Nat) : Nat :=
  bif Nat.blt i 100 then (match sh i with
    | some (.inl (k, _)) => k
    | _ => 9)
  else bif Nat.beq i 107 then 1 else 0
def aty : Nat → FieldType
  | 0 => .int
  | 1 => .byte
  | _ => .boolean
def iLd (K : Kon) (pc n : Nat) (L S : List Value) (h : Hp) (i : Nat) : Prop := match nthV L i with
  | some (.int x) => K (pc + n) L (.int x :: S) h
  | _ => False
def aLd (K : Kon) (pc n : Nat) (L S : List Value) (h : Hp) (i : Nat) : Prop := match nthV L i with
  | some (.ref x) => K (pc + n) L (.ref x :: S) h
  | _ => False
def lLd (K : Kon) (pc n : Nat) (L S : List Value) (h : Hp) (i : Nat) : Prop := match nthV L i, nthV L (i + 1) with
  | some (.long x), some v => bif issec v then K (pc + n) L (.long x :: S) h else False
  | _, _ => False
def iSt (K : Kon) (pc n : Nat) (L S : List Value) (h : Hp) (i : Nat) : Prop := match S, nthV L i with
  | .int x :: S, some _ => K (pc + n) (put1 L i (.int x)) S h
  | _, _ => False
def aSt (K : Kon) (pc n : Nat) (L S : List Value) (h : Hp) (i : Nat) : Prop := match S, nthV L i with
  | .ref x :: S, some _ => K (pc + n) (put1 L i (.ref x)) S h
  | _, _ => False
def lSt (K : Kon) (pc n : Nat) (L S : List Value) (h : Hp) (i : Nat) : Prop := match S, nthV L (i + 1) with
  | .long x :: S, some _ => K (pc + n) (put2 L i (.long x)) S h
  | _, _ => False
def bI (f : Int32 → Int32 → Int32) (K : Kon) (pc : Nat) (L S : List Value) (h : Hp) : Prop := match S with
  | .int y :: .int x :: S => K (pc + 1) L (.int (f x y) :: S) h
  | _ => False
def bD (f : Int32 → Int32 → Int32) (K : Kon) (pc : Nat) (L S : List Value) (h : Hp) : Prop := match S with
  | .int y :: .int x :: S => ¬ y = 0 ∧ K (pc + 1) L (.int (f x y) :: S) h
  | _ => False
def bL (f : Int64 → Int64 → Int64) (K : Kon) (pc : Nat) (L S : List Value) (h : Hp) : Prop := match S with
  | .long y :: .long x :: S => K (pc + 1) L (.long (f x y) :: S) h
  | _ => False
def bLD (f : Int64 → Int64 → Int64) (K : Kon) (pc : Nat) (L S : List Value) (h : Hp) : Prop := match S with
  | .long y :: .long x :: S => ¬ y = 0 ∧ K (pc + 1) L (.long (f x y) :: S) h
  | _ => False
def uI (f : Int32 → Int32) (K : Kon) (pc : Nat) (L S : List Value) (h : Hp) : Prop := match S with
  | .int x :: S => K (pc + 1) L (.int (f x) :: S) h
  | _ => False
def brZ (c : ClassFile.Cond) (K : Kon) (pc t : Nat) (L S : List Value) (h : Hp) : Prop := match S with
  | .int x :: S => (match c with
    | .eq => (x = 0 → K t L S h) ∧ (¬ x = 0 → K (pc + 3) L S h)
    | .ne => (¬ x = 0 → K t L S h) ∧ (x = 0 → K (pc + 3) L S h)
    | .lt => (x < 0 → K t L S h) ∧ (¬ x < 0 → K (pc + 3) L S h)
    | .ge => (0 ≤ x → K t L S h) ∧ (¬ 0 ≤ x → K (pc + 3) L S h)
    | .gt => (0 < x → K t L S h) ∧ (¬ 0 < x → K (pc + 3) L S h)
    | .le => (x ≤ 0 → K t L S h) ∧ (¬ x ≤ 0 → K (pc + 3) L S h))
  | _ => False
def brI (c : ClassFile.Cond) (K : Kon) (pc t : Nat) (L S : List Value) (h : Hp) : Prop := match S with
  | .int y :: .int x :: S => (match c with
    | .eq => (x = y → K t L S h) ∧ (¬ x = y → K (pc + 3) L S h)
    | .ne => (¬ x = y → K t L S h) ∧ (x = y → K (pc + 3) L S h)
    | .lt => (x < y → K t L S h) ∧ (¬ x < y → K (pc + 3) L S h)
    | .ge => (y ≤ x → K t L S h) ∧ (¬ y ≤ x → K (pc + 3) L S h)
    | .gt => (y < x → K t L S h) ∧ (¬ y < x → K (pc + 3) L S h)
    | .le => (x ≤ y → K t L S h) ∧ (¬ x ≤ y → K (pc + 3) L S h))
  | _ => False
/-- a switch over keys in order: (key, offset) -/
def swt (x : Int32) (G : Int → Prop) (d : Int) : List (Int × Int) → Prop
  | [] => G d
  | (c, o) :: l => (x = cI c → G o) ∧ (¬ x = cI c → swt x G d l)
def keysFrom (c : Int) : List Int → List (Int × Int)
  | [] => []
  | o :: l => (c, o) :: keysFrom (c + 1) l
def aL (K : Kon) (pc : Nat) (L S : List Value) (h : Hp) (sh : Nat → Option Shp) (kd : Nat) : Prop := match S with
  | .int j :: .ref i :: S => (match arr sh h i kd with
    | some (n, f) => vp_in j n ∧ K (pc + 1) L (.int (f j.toNatClampNeg) :: S) h
    | none => False)
  | _ => False
def bLo (K : Kon) (pc : Nat) (L S : List Value) (h : Hp) (sh : Nat → Option Shp) : Prop := match S with
  | .int j :: .ref i :: S => (match akd sh i with
    | 1 => aL K pc L (.int j :: .ref i :: S) h sh 1
    | 2 => aL K pc L (.int j :: .ref i :: S) h sh 2
    | _ => False)
  | _ => False
def aS (nr : Int32 → Int32) (K : Kon) (pc : Nat) (L S : List Value) (h : Hp) (sh : Nat → Option Shp) (kd : Nat) : Prop := match S with
  | .int x :: .int j :: .ref i :: S => (match arn sh i kd with
    | some n => vp_in j n ∧ K (pc + 1) L S (hs h i (upd (h.1 i) j.toNatClampNeg (nr x)))
    | none => False)
  | _ => False
def bSt (K : Kon) (pc : Nat) (L S : List Value) (h : Hp) (sh : Nat → Option Shp) : Prop := match S with
  | .int x :: .int j :: .ref i :: S => (match akd sh i with
    | 1 => aS (vp_nar .byte) K pc L (.int x :: .int j :: .ref i :: S) h sh 1
    | 2 => aS (vp_nar .boolean) K pc L (.int x :: .int j :: .ref i :: S) h sh 2
    | _ => False)
  | _ => False
def aLn (K : Kon) (pc : Nat) (L S : List Value) (h : Hp) (sh : Nat → Option Shp) : Prop := match S with
  | .ref i :: S => (match arr sh h i (akd sh i) with
    | some (n, _) => K (pc + 1) L (.int (Int32.ofNat n) :: S) h
    | none => False)
  | _ => False
/-- getfield of field k of class ci; ci 100: the text, whose field 0 is its bytes, 1 its coder -/
def gF (K : Kon) (pc : Nat) (L S : List Value) (h : Hp) (sh : Nat → Option Shp) (ci k : Nat) : Prop := match S with
  | .ref i :: S => bif Nat.beq ci 100 then (bif Nat.beq i 110 then (match k with
      | 0 => K (pc + 3) L (.ref 107 :: S) h
      | _ => K (pc + 3) L (.int 0 :: S) h) else False)
    else bif Nat.blt i 100 then (match sh i with
      | some (.inr (c, fs)) => bif Nat.beq c ci then (match nthF fs k with
        | some (3, j) => K (pc + 3) L (.ref j :: S) h
        | some (2, _) => K (pc + 3) L (.long (h.2 i k) :: S) h
        | some (_, _) => K (pc + 3) L (.int (h.1 i k) :: S) h
        | none => False) else False
      | _ => False) else False
  | _ => False
def pF (K : Kon) (pc : Nat) (L S : List Value) (h : Hp) (sh : Nat → Option Shp) (ci k : Nat) : Prop := match S with
  | .int x :: .ref i :: S => bif Nat.blt i 100 then (match sh i with
      | some (.inr (c, fs)) => bif Nat.beq c ci then (match nthF fs k with
        | some (0, _) => K (pc + 3) L S (hs h i (upd (h.1 i) k x))
        | some (1, _) => narrow .boolean (.int x) = .int x ∧ K (pc + 3) L S (hs h i (upd (h.1 i) k x))
        | _ => False) else False
      | _ => False) else False
  | .long x :: .ref i :: S => bif Nat.blt i 100 then (match sh i with
      | some (.inr (c, fs)) => bif Nat.beq c ci then (match nthF fs k with
        | some (2, _) => K (pc + 3) L S (hsL h i k x)
        | _ => False) else False
      | _ => False) else False
  | _ => False
def gS (K : Kon) (pc : Nat) (L S : List Value) (h : Hp) (a : Nat) : Prop :=
  bif Nat.beq a 200 then K (pc + 3) L (.int 1 :: S) h
  else bif Nat.ble 100 a && Nat.blt a 107 then K (pc + 3) L (.ref a :: S) h else False
def rK (rt : Nat) (K : Kon) (pc : Nat) (L S : List Value) : Pst := match rt with
  | 0 => qV (fun h => K (pc + 3) L S h)
  | 3 => qL (fun v h => K (pc + 3) L (.long v :: S) h)
  | _ => qI (fun v h => K (pc + 3) L (.int v :: S) h)
/-- a virtual call of y, n arguments, the receiver of class ci -/
def cV (E : Evt) (K : Kon) (pc : Nat) (L S : List Value) (h : Hp) (sh : Nat → Option Shp) (y n rt ci : Nat) : Prop := match popn n [] S with
  | some (As, .ref i :: S) => bif Nat.ble (catS S) 8 && (bif Nat.beq ci 100 then Nat.beq i 110 else Nat.blt i 100 && (match sh i with
      | some (.inr (c, _)) => Nat.beq c ci
      | _ => false)) then E y (.ref i :: As) h (rK rt K pc L S) else False
  | _ => False
def cS (E : Evt) (K : Kon) (pc : Nat) (L S : List Value) (h : Hp) (y n rt : Nat) : Prop := match popn n [] S with
  | some (As, S) => bif Nat.ble (catS S) 8 then E y As h (rK rt K pc L S) else False
  | _ => False
def mx (x y : Int32) : Int32 := if x < y then y else x
def mn (x y : Int32) : Int32 := if y < x then y else x
def ab (x : Int32) : Int32 := if 0 ≤ x then x else 0 - x
def acp (K : Kon) (pc : Nat) (L S : List Value) (h : Hp) (sh : Nat → Option Shp) : Prop := match S with
  | .int n :: .int dp :: .ref i :: .int sp :: .ref j :: S => bif Nat.ble (catS S) 8 then (match arn sh j (akd sh i), arn sh i (akd sh i) with
    | some n0, some n1 => ¬ sp < 0 ∧ ¬ dp < 0 ∧ ¬ n < 0 ∧ sp.toNatClampNeg + n.toNatClampNeg ≤ n0 ∧ dp.toNatClampNeg + n.toNatClampNeg ≤ n1 ∧ (∀ q, q < n.toNatClampNeg → fits (aty (akd sh i)) (.int (h.1 j (sp.toNatClampNeg + q))) = true) ∧ K (pc + 3) L S (hs h i (va_cpy (h.1 j) (h.1 i) sp.toNatClampNeg dp.toNatClampNeg n.toNatClampNeg))
    | _, _ => False) else False
  | _ => False
def m2 (f : Int32 → Int32 → Int32) (K : Kon) (pc : Nat) (L S : List Value) (h : Hp) : Prop := match S with
  | .int y :: .int x :: S => bif Nat.ble (catS S) 8 then K (pc + 3) L (.int (f x y) :: S) h else False
  | _ => False
def m1 (f : Int32 → Int32) (K : Kon) (pc : Nat) (L S : List Value) (h : Hp) : Prop := match S with
  | .int x :: S => bif Nat.ble (catS S) 8 then K (pc + 3) L (.int (f x) :: S) h else False
  | _ => False
def iRet (rt : Nat) (Q : Pst) (S : List Value) (h : Hp) : Prop := match S with
  | [.int v] => (match rt with
    | 1 => Q (some (.int v)) h
    | 2 => narrow .boolean (.int v) = .int v ∧ Q (some (.int v)) h
    | 4 => narrow .byte (.int v) = .int v ∧ Q (some (.int v)) h
    | _ => False)
  | _ => False
def lRet (rt : Nat) (Q : Pst) (S : List Value) (h : Hp) : Prop := match S with
  | [.long v] => (match rt with
    | 3 => Q (some (.long v)) h
    | _ => False)
  | _ => False
def vRet (rt : Nat) (Q : Pst) (S : List Value) (h : Hp) : Prop := match S with
  | [] => (match rt with
    | 0 => Q none h
    | _ => False)
  | _ => False
def dup1 (K : Kon) (pc : Nat) (L S : List Value) (h : Hp) : Prop := match S with
  | .int x :: S => K (pc + 1) L (.int x :: .int x :: S) h
  | .ref x :: S => K (pc + 1) L (.ref x :: .ref x :: S) h
  | _ => False
def dup22 (K : Kon) (pc : Nat) (L S : List Value) (h : Hp) : Prop := match S with
  | .int y :: .ref x :: S => K (pc + 1) L (.int y :: .ref x :: .int y :: .ref x :: S) h
  | _ => False
def pop1 (K : Kon) (pc : Nat) (L S : List Value) (h : Hp) : Prop := match S with
  | .int _ :: S => K (pc + 1) L S h
  | _ => False
def iinC (K : Kon) (pc : Nat) (L S : List Value) (h : Hp) (i : Nat) (n : Int) : Prop := match nthV L i with
  | some (.int x) => K (pc + 3) (put1 L i (.int (x + cI n))) S h
  | _ => False
def swi (K : Kon) (pc : Nat) (L S : List Value) (h : Hp) (d : Int) (l : List (Int × Int)) : Prop := match S with
  | .int x :: S => swt x (fun o => K ((pc : Int) + o).toNat L S h) d l
  | _ => False
def i2lC (K : Kon) (pc : Nat) (L S : List Value) (h : Hp) : Prop := match S with
  | .int x :: S => K (pc + 1) L (.long x.toInt64 :: S) h
  | _ => False
def l2iC (K : Kon) (pc : Nat) (L S : List Value) (h : Hp) : Prop := match S with
  | .long x :: S => K (pc + 1) L (.int x.toInt32 :: S) h
  | _ => False
/-- what one instruction asks -/
def st1 (E : Evt) (sh : Nat → Option Shp) (rt : Nat) (o : Ops) (K : Kon) (Q : Pst) (pc : Nat) (L S : List Value) (h : Hp) : Prop :=
  match o with
  | (i, a, b, c, d) => match i with
    | .iconst n => K (pc + 1) L (.int (cI n) :: S) h
    | .bipush n => K (pc + 2) L (.int (cI n) :: S) h
    | .sipush n => K (pc + 3) L (.int (cI n) :: S) h
    | .ldc _ => (match a with
      | 0 => K (pc + 2) L (.int (Int32.ofNat c) :: S) h
      | _ => K (pc + 2) L (.ref 110 :: S) h)
    | .ldc_w _ => K (pc + 3) L (.int (Int32.ofNat c) :: S) h
    | .ldc2_w _ => K (pc + 3) L (.long (Int64.ofNat c) :: S) h
    | .iload_n k => iLd K pc 1 L S h k.val
    | .iload k => iLd K pc 2 L S h k
    | .aload_n k => aLd K pc 1 L S h k.val
    | .aload k => aLd K pc 2 L S h k
    | .lload_n k => lLd K pc 1 L S h k.val
    | .lload k => lLd K pc 2 L S h k
    | .istore_n k => iSt K pc 1 L S h k.val
    | .istore k => iSt K pc 2 L S h k
    | .astore_n k => aSt K pc 1 L S h k.val
    | .astore k => aSt K pc 2 L S h k
    | .lstore_n k => lSt K pc 1 L S h k.val
    | .lstore k => lSt K pc 2 L S h k
    | .iinc k n => iinC K pc L S h k n
    | .iadd => bI (fun x y => x + y) K pc L S h
    | .isub => bI (fun x y => x - y) K pc L S h
    | .imul => bI (fun x y => x * y) K pc L S h
    | .iand => bI (fun x y => x &&& y) K pc L S h
    | .ior => bI (fun x y => x ||| y) K pc L S h
    | .ixor => bI (fun x y => x ^^^ y) K pc L S h
    | .ishl => bI (fun x y => x <<< (y &&& 31)) K pc L S h
    | .ishr => bI (fun x y => x >>> (y &&& 31)) K pc L S h
    | .iushr => bI (fun x y => (x.toUInt32 >>> (y.toUInt32 &&& Int32.toUInt32 31)).toInt32) K pc L S h
    | .idiv => bD (fun x y => x / y) K pc L S h
    | .irem => bD (fun x y => x - x / y * y) K pc L S h
    | .ladd => bL (fun x y => x + y) K pc L S h
    | .lmul => bL (fun x y => x * y) K pc L S h
    | .land => bL (fun x y => x &&& y) K pc L S h
    | .ldiv => bLD (fun x y => x / y) K pc L S h
    | .lrem => bLD (fun x y => x - x / y * y) K pc L S h
    | .i2l => i2lC K pc L S h
    | .l2i => l2iC K pc L S h
    | .i2b => uI (fun x => x.toInt8.toInt32) K pc L S h
    | .i2c => uI (fun x => (x.toUInt32 % 65536).toInt32) K pc L S h
    | .dup => dup1 K pc L S h
    | .dup2 => dup22 K pc L S h
    | .pop => pop1 K pc L S h
    | .goto _ => K a L S h
    | .ifCond c _ => brZ c K pc a L S h
    | .if_icmp c _ => brI c K pc a L S h
    | .tableswitch dflt lo _ offs => swi K pc L S h dflt (keysFrom lo offs.toList)
    | .lookupswitch dflt ps => swi K pc L S h dflt ps.toList
    | .iaload => aL K pc L S h sh 0
    | .baload => bLo K pc L S h sh
    | .iastore => aS (fun x => x) K pc L S h sh 0
    | .bastore => bSt K pc L S h sh
    | .arraylength => aLn K pc L S h sh
    | .getfield _ => gF K pc L S h sh a b
    | .putfield _ => pF K pc L S h sh a b
    | .getstatic _ => gS K pc L S h a
    | .invokevirtual _ => cV E K pc L S h sh a (c % 16) (c / 16) d
    | .invokestatic _ => (match d with
      | 1 => m2 mx K pc L S h
      | 2 => m2 mn K pc L S h
      | 3 => m1 ab K pc L S h
      | 4 => acp K pc L S h sh
      | _ => cS E K pc L S h a (c % 16) (c / 16))
    | .ireturn => iRet rt Q S h
    | .lreturn => lRet rt Q S h
    | .return_ => vRet rt Q S h
    | _ => False
def stp (E : Evt) (sh : Nat → Option Shp) (C : Nat → Option Ops) (rt : Nat) (K : Kon) (Q : Pst) (pc : Nat) (L S : List Value) (h : Hp) : Prop := match C pc with
  | some o => st1 E sh rt o K Q pc L S h
  | none => False
/-- from here the method comes to its end with Q -/
def PP (E : Evt) (sh : Nat → Option Shp) (C : Nat → Option Ops) (rt : Nat) (Q : Pst) (pc : Nat) (L S : List Value) (h : Hp) : Prop :=
  ∀ X : Kon, (∀ pc L S h, stp E sh C rt X Q pc L S h → X pc L S h) → X pc L S h
