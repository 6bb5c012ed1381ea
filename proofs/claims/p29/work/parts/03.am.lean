/-! THE ABSTRACT MACHINE: objects are numbers; a heap is how many there are and how many slots, each one's kind and length, and what ints, longs and references their slots hold. 0 is the script, 1 the class's static row. Kinds: 0 to 12 the classes, 20 int[], 21 long[], 22 byte[], 23 boolean[], 24 Player[], 99 none yet. -/
abbrev AH : Type := (Nat × Nat) × (Nat → Nat × Nat) × (Nat → Nat → Int32) × (Nat → Nat → Int64) × (Nat → Nat → Option Nat)
def AN (h : AH) : Nat := h.1.1
def AT (h : AH) : Nat := h.1.2
def AK (h : AH) : Nat → Nat × Nat := h.2.1
def AI (h : AH) : Nat → Nat → Int32 := h.2.2.1
def AL (h : AH) : Nat → Nat → Int64 := h.2.2.2.1
def AR (h : AH) : Nat → Nat → Option Nat := h.2.2.2.2
def up2 {α : Type} (f : Nat → Nat → α) (i j : Nat) (x : α) : Nat → Nat → α := fun a b => if a = i ∧ b = j then x else f a b
def stI (h : AH) (i j : Nat) (x : Int32) : AH := (h.1, h.2.1, up2 h.2.2.1 i j x, h.2.2.2)
def stL (h : AH) (i j : Nat) (x : Int64) : AH := (h.1, h.2.1, h.2.2.1, up2 h.2.2.2.1 i j x, h.2.2.2.2)
def stR (h : AH) (i j : Nat) (x : Option Nat) : AH := (h.1, h.2.1, h.2.2.1, h.2.2.2.1, up2 h.2.2.2.2 i j x)
def up1 {α : Type} (f : Nat → α) (n : Nat) (x : α) : Nat → α := fun i => if i = n then x else f i
/-- the number of the n-th object: the 20th (a row that the class makes since its third form) bears the number 46, the next ones the number that they had without it -/
def sgm (n : Nat) : Nat := if n = 20 then 46 else if 20 < n ∧ n ≤ 46 then n - 1 else n
def sgi (i : Nat) : Nat := if i = 46 then 20 else if 20 ≤ i ∧ i < 46 then i + 1 else i
theorem sgi_m (n : Nat) : sgi (sgm n) = n := by
  unfold sgi sgm
  repeat' split
  all_goals omega
theorem sgm_i (i : Nat) : sgm (sgi i) = i := by
  unfold sgi sgm
  repeat' split
  all_goals omega
theorem sgm_2 {n : Nat} (h : 2 ≤ n) : 2 ≤ sgm n := by
  unfold sgm
  repeat' split
  all_goals omega
theorem sgi_2 {i : Nat} (h : 2 ≤ i) : 2 ≤ sgi i := by
  unfold sgi
  repeat' split
  all_goals omega
theorem sgm_47 {n : Nat} (h : 47 ≤ n) : sgm n = n := by
  unfold sgm
  repeat' split
  all_goals omega
theorem sgi_47 {i n : Nat} (h : 47 ≤ n) : n ≤ sgi i ↔ n ≤ i := by
  unfold sgi
  repeat' split
  all_goals omega
def NX (h : AH) : Nat := sgm (AN h)
def newO (h : AH) (kd len : Nat) : AH := ((h.1.1 + 1, h.1.2 + len), up1 h.2.1 (sgm h.1.1) (kd, len), up1 h.2.2.1 (sgm h.1.1) (fun _ => 0), up1 h.2.2.2.1 (sgm h.1.1) (fun _ => 0), up1 h.2.2.2.2 (sgm h.1.1) (fun _ => none))
abbrev St : Type := Nat × List Value × List Value × AH
abbrev Act : Type := St ⊕ ((Nat × List Value × List Value) ⊕ (Option Value))
abbrev mk0 : Value := .retAddr 0
def isLong (v : Option Value) : Bool := match v with
  | some w => Nat.beq w.category 2
  | none => false
def cln (L : List Value) (i : Nat) : List Value := match i with
  | 0 => L
  | j + 1 => bif isLong L[j]? then L.set j mk0 else L
def sto1 (L : List Value) (i : Nat) (v : Value) : List Value := (cln L i).set i v
def sto2 (L : List Value) (i : Nat) (v : Value) : List Value := ((cln L i).set i v).set (i + 1) mk0
def exL : List Value → List Value
  | [] => []
  | v :: r => bif isLong (some v) then v :: mk0 :: exL r else v :: exL r
def ini (n : Nat) (args : List Value) : List Value := exL args ++ List.replicate (n - (exL args).length) mk0
def nx (pc : Nat) (L S : List Value) (h : AH) : Option Act := some (.inl (pc, L, S, h))
def okC (c k : Nat) : Bool := Nat.beq k c
def ftg (c j : Nat) : Nat := match tyT c j with
  | .int => 0
  | .long => 1
  | .boolean => 3
  | _ => 2
def rdf (t : Nat) (h : AH) (i j : Nat) : Value := match t with
  | 0 => .int (AI h i j)
  | 1 => .long (AL h i j)
  | 2 => va_rf (AR h i j)
  | _ => .int (AI h i j)
def isB (x : Int32) : Bool := decide (x = 0) || decide (x = 1)
def wrf (t : Nat) (h : AH) (i j : Nat) (v : Value) : Option AH := match v with
  | .int x => match t with
    | 0 => some (stI h i j x)
    | 3 => if isB x = true then some (stI h i j x) else none
    | _ => none
  | .long x => match t with
    | 1 => some (stL h i j x)
    | _ => none
  | .ref a => match t with
    | 2 => some (stR h i j (some a))
    | _ => none
  | .null => match t with
    | 2 => some (stR h i j none)
    | _ => none
  | _ => none
def tsw (x : Int32) : List (Nat × Nat) → Nat → Nat
  | [], d => d
  | (v, t) :: r, d => if x = Int32.ofNat v then t else tsw x r d
def inR (h : AH) (i : Nat) (x : Int32) : Bool := decide (¬ x < 0) && decide (x.toNatClampNeg < (AK h i).2)
def catOK (l : List Value) : Bool := Nat.ble ((l.map fun v => v.category).sum) 8
def asI (v : Option Value) : Option Int32 := match v with
  | some (.int x) => some x
  | _ => none
def asL (v : Option Value) : Option Int64 := match v with
  | some (.long x) => some x
  | _ => none
def isA (v : Value) : Bool := match v with
  | .ref _ => true
  | .null => true
  | _ => false
def cal (j : Nat) (args rest : List Value) : Option Act := if (catOK rest && Nat.ble (exL args).length (mMax j)) = true then some (.inr (.inl (j, args, rest))) else none
def bin (S : List Value) (pc : Nat) (L : List Value) (h : AH) (f : Int32 → Int32 → Int32) : Option Act := match S with
  | .int y :: .int x :: S' => nx pc L (.int (f x y) :: S') h
  | _ => none
def binL (S : List Value) (pc : Nat) (L : List Value) (h : AH) (f : Int64 → Int64 → Int64) : Option Act := match S with
  | .long y :: .long x :: S' => nx pc L (.long (f x y) :: S') h
  | _ => none
def shL (S : List Value) (pc : Nat) (L : List Value) (h : AH) (f : Int64 → Int32 → Int64) : Option Act := match S with
  | .int y :: .long x :: S' => nx pc L (.long (f x y) :: S') h
  | _ => none
def un1 (S : List Value) (pc : Nat) (L : List Value) (h : AH) (f : Int32 → Value) : Option Act := match S with
  | .int x :: S' => nx pc L (f x :: S') h
  | _ => none
def brI (S : List Value) (L : List Value) (h : AH) (f : Int32 → Nat) : Option Act := match S with
  | .int x :: S' => nx (f x) L S' h
  | _ => none
def brII (S : List Value) (L : List Value) (h : AH) (f : Int32 → Int32 → Nat) : Option Act := match S with
  | .int y :: .int x :: S' => nx (f x y) L S' h
  | _ => none
def loI (i : Nat) (pc : Nat) (L S : List Value) (h : AH) : Option Act := match L[i]? with
  | some (.int x) => nx pc L (.int x :: S) h
  | _ => none
def loL (i : Nat) (pc : Nat) (L S : List Value) (h : AH) : Option Act := match L[i]? with
  | some (.long x) => nx pc L (.long x :: S) h
  | _ => none
def loA (i : Nat) (pc : Nat) (L S : List Value) (h : AH) : Option Act := match L[i]? with
  | some (.ref x) => nx pc L (.ref x :: S) h
  | some .null => nx pc L (.null :: S) h
  | _ => none
def soI (i : Nat) (pc : Nat) (L S : List Value) (h : AH) : Option Act := match S with
  | .int x :: S' => if Nat.blt i L.length = true then nx pc (sto1 L i (.int x)) S' h else none
  | _ => none
def soL (i : Nat) (pc : Nat) (L S : List Value) (h : AH) : Option Act := match S with
  | .long x :: S' => if Nat.blt (i + 1) L.length = true then nx pc (sto2 L i (.long x)) S' h else none
  | _ => none
def soA (i : Nat) (pc : Nat) (L S : List Value) (h : AH) : Option Act := match S with
  | .ref x :: S' => if Nat.blt i L.length = true then nx pc (sto1 L i (.ref x)) S' h else none
  | .null :: S' => if Nat.blt i L.length = true then nx pc (sto1 L i .null) S' h else none
  | _ => none
def ald (S : List Value) (pc : Nat) (L : List Value) (h : AH) (ok : Nat → Bool) (f : Nat → Nat → Value) : Option Act := match S with
  | .int x :: .ref i :: S' => if (ok (AK h i).1 && inR h i x) = true then nx pc L (f i x.toNatClampNeg :: S') h else none
  | _ => none
def ast (S : List Value) (pc : Nat) (L : List Value) (h : AH) (ok : Nat → Bool) (g : Nat → Nat → Value → Option AH) : Option Act := match S with
  | v :: .int x :: .ref i :: S' => if (Nat.ble 2 i && ok (AK h i).1 && inR h i x) = true then (match g i x.toNatClampNeg v with
    | some h' => nx pc L S' h'
    | none => none) else none
  | _ => none
def newA (S : List Value) (pc : Nat) (L : List Value) (h : AH) (kd : Nat) : Option Act := match S with
  | .int x :: S' => if (decide (¬ x < 0) && Nat.ble x.toNatClampNeg 1000000) = true then nx pc L (.ref (NX h) :: S') (newO h kd x.toNatClampNeg) else none
  | _ => none
def retI (k : Nat) (S : List Value) : Option Act := match S with
  | [.int x] => match mRet k with
    | some .int => some (.inr (.inr (some (.int x))))
    | some .boolean => if isB x = true then some (.inr (.inr (some (.int x)))) else none
    | _ => none
  | _ => none
def mmx (S : List Value) (pc : Nat) (L : List Value) (h : AH) (f : Int32 → Int32 → Int32) : Option Act := match S with
  | .int y :: .int x :: S' => if catOK S' = true then nx pc L (.int (f x y) :: S') h else none
  | _ => none
def act (k pc : Nat) (e : OpE) (L S : List Value) (h : AH) : Option Act := match e.2.1 with
  | .iconst _ => nx (pc + e.1) L (.int e.2.2.1 :: S) h
  | .bipush _ => nx (pc + e.1) L (.int e.2.2.1 :: S) h
  | .sipush _ => nx (pc + e.1) L (.int e.2.2.1 :: S) h
  | .ldc _ => nx (pc + e.1) L (.int e.2.2.1 :: S) h
  | .ldc_w _ => nx (pc + e.1) L (.int e.2.2.1 :: S) h
  | .lconst _ => nx (pc + e.1) L (.long e.2.2.2.1 :: S) h
  | .ldc2_w _ => nx (pc + e.1) L (.long e.2.2.2.1 :: S) h
  | .iload i => loI i (pc + e.1) L S h
  | .iload_n i => loI i (pc + e.1) L S h
  | .lload i => loL i (pc + e.1) L S h
  | .lload_n i => loL i (pc + e.1) L S h
  | .aload i => loA i (pc + e.1) L S h
  | .aload_n i => loA i (pc + e.1) L S h
  | .istore i => soI i (pc + e.1) L S h
  | .istore_n i => soI i (pc + e.1) L S h
  | .lstore i => soL i (pc + e.1) L S h
  | .lstore_n i => soL i (pc + e.1) L S h
  | .astore i => soA i (pc + e.1) L S h
  | .astore_n i => soA i (pc + e.1) L S h
  | .iinc _ _ => match L[e.2.2.2.2.1]? with
    | some (.int x) => nx (pc + e.1) (sto1 L e.2.2.2.2.1 (.int (x + e.2.2.1))) S h
    | _ => none
  | .iadd => bin S (pc + e.1) L h (fun x y => x + y)
  | .isub => bin S (pc + e.1) L h (fun x y => x - y)
  | .imul => bin S (pc + e.1) L h (fun x y => x * y)
  | .iand => bin S (pc + e.1) L h (fun x y => x &&& y)
  | .ior => bin S (pc + e.1) L h (fun x y => x ||| y)
  | .ixor => bin S (pc + e.1) L h (fun x y => x ^^^ y)
  | .ishl => bin S (pc + e.1) L h (fun x y => x <<< (y &&& 31))
  | .ishr => bin S (pc + e.1) L h (fun x y => x >>> (y &&& 31))
  | .iushr => bin S (pc + e.1) L h (fun x y => (x.toUInt32 >>> (y.toUInt32 &&& Int32.toUInt32 31)).toInt32)
  | .idiv => match S with
    | .int y :: .int x :: S' => if y = 0 then none else nx (pc + e.1) L (.int (x / y) :: S') h
    | _ => none
  | .irem => match S with
    | .int y :: .int x :: S' => if y = 0 then none else nx (pc + e.1) L (.int (x - x / y * y) :: S') h
    | _ => none
  | .ladd => binL S (pc + e.1) L h (fun x y => x + y)
  | .lmul => binL S (pc + e.1) L h (fun x y => x * y)
  | .land => binL S (pc + e.1) L h (fun x y => x &&& y)
  | .lor => binL S (pc + e.1) L h (fun x y => x ||| y)
  | .ldiv => match S with
    | .long y :: .long x :: S' => if y = 0 then none else nx (pc + e.1) L (.long (x / y) :: S') h
    | _ => none
  | .lrem => match S with
    | .long y :: .long x :: S' => if y = 0 then none else nx (pc + e.1) L (.long (x - x / y * y) :: S') h
    | _ => none
  | .lshl => shL S (pc + e.1) L h (fun x y => x <<< (y.toInt64 &&& 63))
  | .lshr => shL S (pc + e.1) L h (fun x y => x >>> (y.toInt64 &&& 63))
  | .lushr => shL S (pc + e.1) L h (fun x y => (x.toUInt64 >>> (y.toInt64.toUInt64 &&& Int64.toUInt64 63)).toInt64)
  | .lcmp => match S with
    | .long y :: .long x :: S' => nx (pc + e.1) L (.int (lg_cmp x y) :: S') h
    | _ => none
  | .i2l => un1 S (pc + e.1) L h (fun x => .long x.toInt64)
  | .i2b => un1 S (pc + e.1) L h (fun x => .int x.toInt8.toInt32)
  | .l2i => match S with
    | .long x :: S' => nx (pc + e.1) L (.int x.toInt32 :: S') h
    | _ => none
  | .dup => match S with
    | .int x :: S' => nx (pc + e.1) L (.int x :: .int x :: S') h
    | .ref x :: S' => nx (pc + e.1) L (.ref x :: .ref x :: S') h
    | _ => none
  | .ifCond .eq _ => brI S L h (fun x => if x = 0 then e.2.2.2.2.1 else pc + 3)
  | .ifCond .ne _ => brI S L h (fun x => if x = 0 then pc + 3 else e.2.2.2.2.1)
  | .ifCond .lt _ => brI S L h (fun x => if x < 0 then e.2.2.2.2.1 else pc + 3)
  | .ifCond .ge _ => brI S L h (fun x => if x < 0 then pc + 3 else e.2.2.2.2.1)
  | .ifCond .gt _ => brI S L h (fun x => if 0 < x then e.2.2.2.2.1 else pc + 3)
  | .ifCond .le _ => brI S L h (fun x => if 0 < x then pc + 3 else e.2.2.2.2.1)
  | .if_icmp .eq _ => brII S L h (fun x y => if x = y then e.2.2.2.2.1 else pc + 3)
  | .if_icmp .ne _ => brII S L h (fun x y => if x = y then pc + 3 else e.2.2.2.2.1)
  | .if_icmp .lt _ => brII S L h (fun x y => if x < y then e.2.2.2.2.1 else pc + 3)
  | .if_icmp .ge _ => brII S L h (fun x y => if x < y then pc + 3 else e.2.2.2.2.1)
  | .if_icmp .gt _ => brII S L h (fun x y => if y < x then e.2.2.2.2.1 else pc + 3)
  | .if_icmp .le _ => brII S L h (fun x y => if y < x then pc + 3 else e.2.2.2.2.1)
  | .goto _ => nx e.2.2.2.2.1 L S h
  | .ifnull _ => match S with
    | .null :: S' => nx e.2.2.2.2.1 L S' h
    | .ref _ :: S' => nx (pc + 3) L S' h
    | _ => none
  | .ifnonnull _ => match S with
    | .null :: S' => nx (pc + 3) L S' h
    | .ref _ :: S' => nx e.2.2.2.2.1 L S' h
    | _ => none
  | .tableswitch _ _ _ _ => brI S L h (fun x => tsw x e.2.2.2.2.2.2 e.2.2.2.2.1)
  | .getfield _ => match S with
    | .ref i :: S' => if okC e.2.2.2.2.2.1 (AK h i).1 = true then nx (pc + e.1) L (rdf (ftg e.2.2.2.2.2.1 e.2.2.2.2.1) h i e.2.2.2.2.1 :: S') h else none
    | _ => none
  | .putfield _ => match S with
    | v :: .ref i :: S' => if (Nat.ble 2 i && okC e.2.2.2.2.2.1 (AK h i).1) = true then (match wrf (ftg e.2.2.2.2.2.1 e.2.2.2.2.1) h i e.2.2.2.2.1 v with
      | some h' => nx (pc + e.1) L S' h'
      | none => none) else none
    | _ => none
  | .iaload => ald S (pc + e.1) L h (fun k => Nat.beq k 20) (fun i j => .int (AI h i j))
  | .baload => ald S (pc + e.1) L h (fun k => Nat.beq k 22 || Nat.beq k 23) (fun i j => .int (AI h i j))
  | .laload => ald S (pc + e.1) L h (fun k => Nat.beq k 21) (fun i j => .long (AL h i j))
  | .aaload => ald S (pc + e.1) L h (fun k => Nat.beq k 24) (fun i j => va_rf (AR h i j))
  | .iastore => ast S (pc + e.1) L h (fun k => Nat.beq k 20) (fun i j v => match v with
    | .int x => some (stI h i j x)
    | _ => none)
  | .bastore => ast S (pc + e.1) L h (fun k => Nat.beq k 22 || Nat.beq k 23) (fun i j v => match v with
    | .int x => some (stI h i j (bif Nat.beq (AK h i).1 22 then vp_nar .byte x else vp_nar .boolean x))
    | _ => none)
  | .lastore => ast S (pc + e.1) L h (fun k => Nat.beq k 21) (fun i j v => match v with
    | .long x => some (stL h i j x)
    | _ => none)
  | .aastore => ast S (pc + e.1) L h (fun k => Nat.beq k 24) (fun i j v => match v with
    | .ref x => if (Nat.ble 2 x && (Nat.beq (AK h x).1 0 || Nat.beq (AK h x).1 1 || Nat.beq (AK h x).1 2 || Nat.beq (AK h x).1 4 || Nat.beq (AK h x).1 7)) = true then some (stR h i j (some x)) else none
    | _ => none)
  | .arraylength => match S with
    | .ref i :: S' => if Nat.beq (AK h i).1 20 || Nat.beq (AK h i).1 21 || Nat.beq (AK h i).1 24 then nx (pc + e.1) L (.int (Int32.ofNat (AK h i).2) :: S') h else none
    | _ => none
  | .newarray _ => newA S (pc + e.1) L h e.2.2.2.2.1
  | .anewarray _ => newA S (pc + e.1) L h 24
  | .new _ => nx (pc + e.1) L (.ref (NX h) :: S) (newO h e.2.2.2.2.1 (nF e.2.2.2.2.1))
  | .instanceof _ => match S with
    | .ref i :: S' => match e.2.2.2.2.2.2.lookup (AK h i).1 with
      | some r => nx (pc + e.1) L (.int (Int32.ofNat r) :: S') h
      | none => none
    | _ => none
  | .aconst_null => nx (pc + e.1) L (.null :: S) h
  | .getstatic _ => nx (pc + e.1) L (.ref 1 :: S) h
  | .invokevirtual _ => match S.drop e.2.2.2.2.2.1 with
    | .ref i :: S' => match e.2.2.2.2.2.2.lookup (AK h i).1 with
      | some j => cal j (.ref i :: (S.take e.2.2.2.2.2.1).reverse) S'
      | none => none
    | _ => none
  | .invokespecial _ => match S.drop e.2.2.2.2.2.1 with
    | .ref i :: S' => bif Nat.beq e.2.2.2.2.1 9999 then (if catOK S' = true then nx (pc + 3) L S' h else none) else cal e.2.2.2.2.1 (.ref i :: (S.take e.2.2.2.2.2.1).reverse) S'
    | _ => none
  | .invokestatic _ => bif Nat.beq e.2.2.2.2.1 9001 then mmx S (pc + 3) L h (fun x y => if x < y then y else x) else bif Nat.beq e.2.2.2.2.1 9002 then mmx S (pc + 3) L h (fun x y => if y < x then y else x) else if Nat.ble e.2.2.2.2.2.1 S.length = true then cal e.2.2.2.2.1 (S.take e.2.2.2.2.2.1).reverse (S.drop e.2.2.2.2.2.1) else none
  | .ireturn => retI k S
  | .lreturn => match S with
    | [.long x] => if mRet k = some .long then some (.inr (.inr (some (.long x)))) else none
    | _ => none
  | .areturn => match S with
    | [v] => if isA v = true then some (.inr (.inr (some v))) else none
    | _ => none
  | .return_ => match S with
    | [] => some (.inr (.inr none))
    | _ => none
  | _ => none
def exec : Nat → Nat → Nat → Nat → List Value → List Value → AH → Option (Option Value × AH)
  | 0, _, _, _, _, _, _ => none
  | n + 1, d, k, pc, L, S, h => match opAt k pc with
    | none => none
    | some e => match act k pc e L S h with
      | none => none
      | some (.inl q) => exec n d k q.1 q.2.1 q.2.2.1 q.2.2.2
      | some (.inr (.inr v)) => some (v, h)
      | some (.inr (.inl q)) => match d with
        | 0 => none
        | d' + 1 => match exec n d' q.1 0 (ini (mMax q.1) q.2.1) [] h with
          | none => none
          | some r => exec n d k (pc + 3) L (r.1.toList ++ q.2.2) r.2
def castN : List (Nat × Nat) := []
/-- what the pool says of an instruction, as the tables have it -/
def chkF (k own idx c b : Nat) : Bool := flT.any (fun e => Nat.beq e.2.1 own && Nat.beq e.2.2.1 idx && Nat.beq e.2.2.2.1 c && Nat.beq e.2.2.2.2 b)
def chkP (k own c b : Nat) : Bool := !((TT c b).2.2.2) || (decide ((mName k).name = "<init>") && decide ((TT c b).1 = rcl own))
def chk (k pc : Nat) (e : OpE) : Bool := match e.2.1 with
  | .iconst n => decide (Int32.ofInt n = e.2.2.1) && Nat.beq e.1 1
  | .bipush n => decide ((Int8.ofInt n).toInt32 = e.2.2.1) && Nat.beq e.1 2
  | .sipush n => decide ((Int16.ofInt n).toInt32 = e.2.2.1) && Nat.beq e.1 3
  | .ldc idx => Nat.beq e.1 2 && ldT.any (fun q => Nat.beq q.2.1 (mOwn k) && Nat.beq q.2.2.1 idx && decide (q.2.2.2 = e.2.2.1))
  | .ldc_w idx => Nat.beq e.1 3 && ldT.any (fun q => Nat.beq q.2.1 (mOwn k) && Nat.beq q.2.2.1 idx && decide (q.2.2.2 = e.2.2.1))
  | .ldc2_w idx => Nat.beq e.1 3 && ldT2.any (fun q => Nat.beq q.2.1 (mOwn k) && Nat.beq q.2.2.1 idx && decide (q.2.2.2 = e.2.2.2.1))
  | .lconst n => Nat.beq e.1 1 && decide (Int64.ofNat (n : Nat) = e.2.2.2.1)
  | .iload _ | .lload _ | .aload _ | .istore _ | .lstore _ | .astore _ => Nat.beq e.1 2
  | .iinc i n => Nat.beq e.1 3 && Nat.beq i e.2.2.2.2.1 && decide (Int32.ofInt n = e.2.2.1)
  | .ifCond _ off | .if_icmp _ off | .goto off | .ifnull off | .ifnonnull off => Nat.beq e.1 3 && decide ((pc : Int) + off = (e.2.2.2.2.1 : Int))
  | .tableswitch d lo hi offs => decide ((pc : Int) + d = (e.2.2.2.2.1 : Int)) && decide (0 ≤ lo) && decide (hi < 1000) && decide (e.2.2.2.2.2.2 = (List.range (hi - lo + 1).toNat).map (fun t => (lo.toNat + t, ((pc : Int) + offs.getD t 0).toNat))) && decide (offs.size = (hi - lo + 1).toNat) && decide (lo ≤ hi) && offs.all (fun o => decide (0 ≤ (pc : Int) + o))
  | .getfield idx => Nat.beq e.1 3 && chkF k (mOwn k) idx e.2.2.2.2.2.1 e.2.2.2.2.1
  | .putfield idx => Nat.beq e.1 3 && chkF k (mOwn k) idx e.2.2.2.2.2.1 e.2.2.2.2.1 && chkP k (mOwn k) e.2.2.2.2.2.1 e.2.2.2.2.1
  | .invokevirtual idx => Nat.beq e.1 3 && e.2.2.2.2.2.2.all (fun q => Nat.beq (mArg q.2) e.2.2.2.2.2.1 && (vT.any (fun r => Nat.beq r.2.2.2.1 (mOwn k) && Nat.beq r.2.2.2.2.1 idx && Nat.beq r.2.2.2.2.2.1 q.1 && Nat.beq r.2.2.2.2.2.2 q.2) || uT.any (fun r => Nat.beq (r.getD 5 0) (mOwn k) && Nat.beq (r.getD 6 0) idx && Nat.beq (r.getD 7 0) q.1 && Nat.beq (r.getD 8 0) q.2)))
  | .invokestatic idx => Nat.beq e.1 3 && (bif Nat.beq e.2.2.2.2.1 9001 then mxT.any (fun r => Nat.beq r.2.1 (mOwn k) && Nat.beq r.2.2 idx) else bif Nat.beq e.2.2.2.2.1 9002 then mnT.any (fun r => Nat.beq r.2.1 (mOwn k) && Nat.beq r.2.2 idx) else Nat.beq (mArg e.2.2.2.2.1) e.2.2.2.2.2.1 && (sT.any (fun r => Nat.beq r.2.2.1 (mOwn k) && Nat.beq r.2.2.2.1 idx && Nat.beq r.2.2.2.2 e.2.2.2.2.1) || snT.any (fun r => Nat.beq r.2.2.1 (mOwn k) && Nat.beq r.2.2.2.1 idx && Nat.beq r.2.2.2.2 e.2.2.2.2.1)))
  | .invokespecial idx => Nat.beq e.1 3 && (bif Nat.beq e.2.2.2.2.1 9999 then Nat.beq e.2.2.2.2.2.1 0 && oT.any (fun r => Nat.beq r.2.1 (mOwn k) && Nat.beq r.2.2 idx) else Nat.beq (mArg e.2.2.2.2.1) e.2.2.2.2.2.1 && (cT.any (fun r => Nat.beq r.2.2.1 (mOwn k) && Nat.beq r.2.2.2.1 idx && Nat.beq r.2.2.2.2 e.2.2.2.2.1) || cnT.any (fun r => Nat.beq r.2.2.1 (mOwn k) && Nat.beq r.2.2.2.1 idx && Nat.beq r.2.2.2.2 e.2.2.2.2.1)))
  | .new idx => Nat.beq e.1 3 && nT.any (fun r => Nat.beq r.2.2.1 (mOwn k) && Nat.beq r.2.2.2.1 idx && Nat.beq r.2.2.2.2 e.2.2.2.2.1)
  | .newarray t => Nat.beq e.1 2 && (match t with
    | .int => Nat.beq e.2.2.2.2.1 20
    | .long => Nat.beq e.2.2.2.2.1 21
    | _ => false)
  | .baload => false
  | .bastore => false
  | .aastore => false
  | .instanceof _ => false
  | .getstatic _ => false
  | .anewarray idx => Nat.beq e.1 3 && Nat.beq (mOwn k) 11 && Nat.beq idx 61
  | .areturn => Nat.beq e.1 1 && (match mRet k with
    | some (.object _) => true
    | some (.array _) => true
    | _ => false)
  | .return_ => Nat.beq e.1 1 && (match mRet k with
    | none => true
    | _ => false)
  | _ => Nat.beq e.1 1
def chkL (k : Nat) (l : List (Nat × OpE)) : Bool := l.all (fun e => chk k e.1 e.2)
theorem ck_0 : chkL 0 op_0 = true := by decide +kernel
theorem ck_1 : chkL 1 op_1 = true := by decide +kernel
theorem ck_2 : chkL 2 op_2 = true := by decide +kernel
theorem ck_3 : chkL 3 op_3 = true := by decide +kernel
theorem ck_4 : chkL 4 op_4 = true := by decide +kernel
theorem ck_5 : chkL 5 op_5 = true := by decide +kernel
theorem ck_6 : chkL 6 op_6 = true := by decide +kernel
theorem ck_7 : chkL 7 op_7 = true := by decide +kernel
theorem ck_8 : chkL 8 op_8 = true := by decide +kernel
theorem ck_9 : chkL 9 op_9 = true := by decide +kernel
theorem ck_10 : chkL 10 op_10 = true := by decide +kernel
theorem ck_11 : chkL 11 op_11 = true := by decide +kernel
theorem ck_12 : chkL 12 op_12 = true := by decide +kernel
theorem ck_13 : chkL 13 op_13 = true := by decide +kernel
theorem ck_14 : chkL 14 op_14 = true := by decide +kernel
theorem ck_15 : chkL 15 op_15 = true := by decide +kernel
theorem ck_16 : chkL 16 op_16 = true := by decide +kernel
theorem ck_17 : chkL 17 op_17 = true := by decide +kernel
theorem ck_18 : chkL 18 op_18 = true := by decide +kernel
theorem ck_19 : chkL 19 op_19 = true := by decide +kernel
theorem ck_20 : chkL 20 op_20 = true := by decide +kernel
theorem ck_21 : chkL 21 op_21 = true := by decide +kernel
theorem ck_22 : chkL 22 op_22 = true := by decide +kernel
theorem ck_23 : chkL 23 op_23 = true := by decide +kernel
theorem ck_24 : chkL 24 op_24 = true := by decide +kernel
theorem ck_25 : chkL 25 op_25 = true := by decide +kernel
theorem ck_26 : chkL 26 op_26 = true := by decide +kernel
theorem ck_27 : chkL 27 op_27 = true := by decide +kernel
theorem ck_28 : chkL 28 op_28 = true := by decide +kernel
theorem ck_29 : chkL 29 op_29 = true := by decide +kernel
theorem ck_30 : chkL 30 op_30 = true := by decide +kernel
theorem ck_31 : chkL 31 op_31 = true := by decide +kernel
theorem ck_32 : chkL 32 op_32 = true := by decide +kernel
theorem ck_33 : chkL 33 op_33 = true := by decide +kernel
theorem ck_34 : chkL 34 op_34 = true := by decide +kernel
theorem ck_35 : chkL 35 op_35 = true := by decide +kernel
theorem ck_36 : chkL 36 op_36 = true := by decide +kernel
theorem ck_37 : chkL 37 op_37 = true := by decide +kernel
theorem ck_38 : chkL 38 op_38 = true := by decide +kernel
theorem ck_39 : chkL 39 op_39 = true := by decide +kernel
theorem ck_40 : chkL 40 op_40 = true := by decide +kernel
theorem ck_41 : chkL 41 op_41 = true := by decide +kernel
theorem ck_42 : chkL 42 op_42 = true := by decide +kernel
theorem ck_43 : chkL 43 op_43 = true := by decide +kernel
theorem ck_44 : chkL 44 op_44 = true := by decide +kernel
theorem ck_45 : chkL 45 op_45 = true := by decide +kernel
theorem ck_46 : chkL 46 op_46 = true := by decide +kernel
theorem ck_47 : chkL 47 op_47 = true := by decide +kernel
theorem ck_48 : chkL 48 op_48 = true := by decide +kernel
theorem ck_49 : chkL 49 op_49 = true := by decide +kernel
theorem ck_50 : chkL 50 op_50 = true := by decide +kernel
theorem ck_51 : chkL 51 op_51 = true := by decide +kernel
theorem ck_52 : chkL 52 op_52 = true := by decide +kernel
theorem ck_53 : chkL 53 op_53 = true := by decide +kernel
theorem ck_54 : chkL 54 op_54 = true := by decide +kernel
theorem ck_55 : chkL 55 op_55 = true := by decide +kernel
theorem ck_56 : chkL 56 op_56 = true := by decide +kernel
theorem ck_57 : chkL 57 op_57 = true := by decide +kernel
theorem ck_58 : chkL 58 op_58 = true := by decide +kernel
theorem ck_59 : chkL 59 op_59 = true := by decide +kernel
theorem ck_60 : chkL 60 op_60 = true := by decide +kernel
theorem ck_61 : chkL 61 op_61 = true := by decide +kernel
theorem ck_62 : chkL 62 op_62 = true := by decide +kernel
theorem ck_63 : chkL 63 op_63 = true := by decide +kernel
theorem ck_64 : chkL 64 op_64 = true := by decide +kernel
theorem ck_65 : chkL 65 op_65 = true := by decide +kernel
theorem ck_66 : chkL 66 op_66 = true := by decide +kernel
theorem ck_67 : chkL 67 op_67 = true := by decide +kernel
theorem ck_68 : chkL 68 op_68 = true := by decide +kernel
theorem ck_69 : chkL 69 op_69 = true := by decide +kernel
theorem ck_70 : chkL 70 op_70 = true := by decide +kernel
theorem ck_71 : chkL 71 op_71 = true := by decide +kernel
theorem ck_72 : chkL 72 op_72 = true := by decide +kernel
theorem ck_73 : chkL 73 op_73 = true := by decide +kernel
theorem ck_74 : chkL 74 op_74 = true := by decide +kernel
theorem ck_75 : chkL 75 op_75 = true := by decide +kernel
theorem ck_76 : chkL 76 op_76 = true := by decide +kernel
theorem ck_77 : chkL 77 op_77 = true := by decide +kernel
theorem ck_78 : chkL 78 op_78 = true := by decide +kernel
theorem ck_79 : chkL 79 op_79 = true := by decide +kernel
theorem ck_80 : chkL 80 op_80 = true := by decide +kernel
theorem ck_81 : chkL 81 op_81 = true := by decide +kernel
theorem ck_82 : chkL 82 op_82 = true := by decide +kernel
theorem ck_83 : chkL 83 op_83 = true := by decide +kernel
theorem ck_84 : chkL 84 op_84 = true := by decide +kernel
theorem ck_85 : chkL 85 op_85 = true := by decide +kernel
theorem ck_86 : chkL 86 op_86 = true := by decide +kernel
theorem ck_87 : chkL 87 op_87 = true := by decide +kernel
theorem ck_88 : chkL 88 op_88 = true := by decide +kernel
theorem ck_89 : chkL 89 op_89 = true := by decide +kernel
theorem ck_90 : chkL 90 op_90 = true := by decide +kernel
theorem ck_91 : chkL 91 op_91 = true := by decide +kernel
theorem ck_92 : chkL 92 op_92 = true := by decide +kernel
theorem ck_93 : chkL 93 op_93 = true := by decide +kernel
theorem ck_94 : chkL 94 op_94 = true := by decide +kernel
theorem ck_95 : chkL 95 op_95 = true := by decide +kernel
theorem ck_96 : chkL 96 op_96 = true := by decide +kernel
theorem ck_97 : chkL 97 op_97 = true := by decide +kernel
theorem ck_98 : chkL 98 op_98 = true := by decide +kernel
theorem ck_99 : chkL 99 op_99 = true := by decide +kernel
theorem ck_100 : chkL 100 op_100 = true := by decide +kernel
theorem ck_101 : chkL 101 op_101 = true := by decide +kernel
theorem ck_102 : chkL 102 op_102 = true := by decide +kernel
theorem ck_103 : chkL 103 op_103 = true := by decide +kernel
theorem ck_104 : chkL 104 op_104 = true := by decide +kernel
theorem ck_105 : chkL 105 op_105 = true := by decide +kernel
theorem ck_106 : chkL 106 op_106 = true := by decide +kernel
theorem ck_107 : chkL 107 op_107 = true := by decide +kernel
theorem ck_108 : chkL 108 op_108 = true := by decide +kernel
theorem ck_109 : chkL 109 op_109 = true := by decide +kernel
theorem ck_110 : chkL 110 op_110 = true := by decide +kernel
theorem ck_111 : chkL 111 op_111 = true := by decide +kernel
theorem ck_112 : chkL 112 op_112 = true := by decide +kernel
theorem ck_113 : chkL 113 op_113 = true := by decide +kernel
theorem ck_114 : chkL 114 op_114 = true := by decide +kernel
theorem ck_115 : chkL 115 op_115 = true := by decide +kernel
theorem ck_116 : chkL 116 op_116 = true := by decide +kernel
theorem ck_117 : chkL 117 op_117 = true := by decide +kernel
theorem ck_118 : chkL 118 op_118 = true := by decide +kernel
theorem ck_119 : chkL 119 op_119 = true := by decide +kernel
theorem ck_120 : chkL 120 op_120 = true := by decide +kernel
theorem ck_121 : chkL 121 op_121 = true := by decide +kernel
theorem ck_122 : chkL 122 op_122 = true := by decide +kernel
theorem ck_123 : chkL 123 op_123 = true := by decide +kernel
theorem ck_124 : chkL 124 op_124 = true := by decide +kernel
theorem ck_125 : chkL 125 op_125 = true := by decide +kernel
theorem ck_126 : chkL 126 op_126 = true := by decide +kernel
theorem ck_127 : chkL 127 op_127 = true := by decide +kernel
theorem ck_128 : chkL 128 op_128 = true := by decide +kernel
theorem ck_129 : chkL 129 op_129 = true := by decide +kernel
theorem ck_130 : chkL 130 op_130 = true := by decide +kernel
theorem ck_131 : chkL 131 op_131 = true := by decide +kernel
theorem ck_132 : chkL 132 op_132 = true := by decide +kernel
theorem ck_133 : chkL 133 op_133 = true := by decide +kernel
theorem ck_134 : chkL 134 op_134 = true := by decide +kernel
theorem ck_135 : chkL 135 op_135 = true := by decide +kernel
theorem ck_136 : chkL 136 op_136 = true := by decide +kernel
theorem ck_137 : chkL 137 op_137 = true := by decide +kernel
theorem ck_138 : chkL 138 op_138 = true := by decide +kernel
theorem ck_139 : chkL 139 op_139 = true := by decide +kernel
theorem ck_140 : chkL 140 op_140 = true := by decide +kernel
theorem ck_141 : chkL 141 op_141 = true := by decide +kernel
theorem ck_142 : chkL 142 op_142 = true := by decide +kernel
theorem ck_143 : chkL 143 op_143 = true := by decide +kernel
theorem ck_144 : chkL 144 op_144 = true := by decide +kernel
theorem ck_145 : chkL 145 op_145 = true := by decide +kernel
theorem ck_146 : chkL 146 op_146 = true := by decide +kernel
theorem ck_147 : chkL 147 op_147 = true := by decide +kernel
theorem ck_148 : chkL 148 op_148 = true := by decide +kernel
theorem ck_149 : chkL 149 op_149 = true := by decide +kernel
theorem ck_150 : chkL 150 op_150 = true := by decide +kernel
theorem ck_151 : chkL 151 op_151 = true := by decide +kernel
theorem ck_152 : chkL 152 op_152 = true := by decide +kernel
theorem ck_153 : chkL 153 op_153 = true := by decide +kernel
theorem ck_154 : chkL 154 op_154 = true := by decide +kernel
theorem ck_155 : chkL 155 op_155 = true := by decide +kernel
theorem ck_156 : chkL 156 op_156 = true := by decide +kernel
theorem ck_157 : chkL 157 op_157 = true := by decide +kernel
theorem ck_158 : chkL 158 op_158 = true := by decide +kernel
theorem ck_159 : chkL 159 op_159 = true := by decide +kernel
theorem ck_160 : chkL 160 op_160 = true := by decide +kernel
theorem ck_161 : chkL 161 op_161 = true := by decide +kernel
theorem ck_162 : chkL 162 op_162 = true := by decide +kernel
theorem ck_163 : chkL 163 op_163 = true := by decide +kernel
theorem ck_164 : chkL 164 op_164 = true := by decide +kernel
theorem ck_165 : chkL 165 op_165 = true := by decide +kernel
theorem ck_166 : chkL 166 op_166 = true := by decide +kernel
theorem ck_167 : chkL 167 op_167 = true := by decide +kernel
theorem ck_168 : chkL 168 op_168 = true := by decide +kernel
theorem ck_169 : chkL 169 op_169 = true := by decide +kernel
theorem ck_170 : chkL 170 op_170 = true := by decide +kernel
theorem ck_171 : chkL 171 op_171 = true := by decide +kernel
theorem ck_172 : chkL 172 op_172 = true := by decide +kernel
theorem ck_173 : chkL 173 op_173 = true := by decide +kernel
theorem ck_174 : chkL 174 op_174 = true := by decide +kernel
theorem ck_175 : chkL 175 op_175 = true := by decide +kernel
theorem ck_176 : chkL 176 op_176 = true := by decide +kernel
theorem ck_177 : chkL 177 op_177 = true := by decide +kernel
theorem ck_178 : chkL 178 op_178 = true := by decide +kernel
theorem ck_179 : chkL 179 op_179 = true := by decide +kernel
theorem ck_180 : chkL 180 op_180 = true := by decide +kernel
theorem ck_181 : chkL 181 op_181 = true := by decide +kernel
theorem ck_182 : chkL 182 op_182 = true := by decide +kernel
theorem ck_183 : chkL 183 op_183 = true := by decide +kernel
theorem ck_184 : chkL 184 op_184 = true := by decide +kernel
theorem ck_185 : chkL 185 op_185 = true := by decide +kernel
theorem ck_186 : chkL 186 op_186 = true := by decide +kernel
theorem ck_187 : chkL 187 op_187 = true := by decide +kernel
theorem ck_188 : chkL 188 op_188 = true := by decide +kernel
theorem ck_189 : chkL 189 op_189 = true := by decide +kernel
theorem ck_190 : chkL 190 op_190 = true := by decide +kernel
theorem ck_191 : chkL 191 op_191 = true := by decide +kernel
theorem ck_192 : chkL 192 op_192 = true := by decide +kernel
theorem ck_193 : chkL 193 op_193 = true := by decide +kernel
theorem ck_194 : chkL 194 op_194 = true := by decide +kernel
theorem ck_195 : chkL 195 op_195 = true := by decide +kernel
theorem ck_196 : chkL 196 op_196 = true := by decide +kernel
theorem ck_197 : chkL 197 op_197 = true := by decide +kernel
theorem ck_198 : chkL 198 op_198 = true := by decide +kernel
theorem ck_199 : chkL 199 op_199 = true := by decide +kernel
theorem ck_200 : chkL 200 op_200 = true := by decide +kernel
theorem ck_201 : chkL 201 op_201 = true := by decide +kernel
theorem ck_202 : chkL 202 op_202 = true := by decide +kernel
theorem ck_203 : chkL 203 op_203 = true := by decide +kernel
theorem ck_204 : chkL 204 op_204 = true := by decide +kernel
