/-! THE SMALL MACHINE: numbers are whole numbers (an int is Int32.ofInt of one, a long Int64.ofInt), objects are numbers of a list; one step, runs, and the value of a run -/
abbrev zV : Type := Int ⊕ (Int ⊕ Option Nat)
abbrev zI (z : Int) : zV := Sum.inl z
abbrev zL (z : Int) : zV := Sum.inr (Sum.inl z)
abbrev zR (o : Nat) : zV := Sum.inr (Sum.inr (some o))
abbrev zN : zV := Sum.inr (Sum.inr none)
/-- objects: kind, length, references; kinds: under 100 the class, 100 int[], 101 byte[], 102 boolean[], 103 long[], 104 .. arrays of references -/
abbrev zS : Type := List (Nat × Nat × List (Option Nat))
abbrev zH : Type := Nat → Nat → Int
/-- an instruction: its place, its length, itself, two numbers, a constant, a switch's targets, which locals live -/
abbrev zE : Type := Nat × Nat × Jvm.ClassFile.Instr × Nat × Nat × Int × List (Int × Nat) × List Bool
/-- what a step does: on at an index; back; a call of a method with these numbers of arguments -/
abbrev zO : Type := (Nat × List zV × List zV × zS × zH) ⊕ (Option zV ⊕ (Nat × List zV × List zV × List zV))
def zC (S : zS) (o : Nat) : Nat × Nat × List (Option Nat) := S.getD o (999, 0, [])
/-- an int's value; a long's; a byte's; a boolean's -/
def zw (z : Int) : Int := z.bmod 4294967296
def zwl (z : Int) : Int := z.bmod 18446744073709551616
def zb8 (z : Int) : Int := z.bmod 256
def zb1 (z : Int) : Int := z % 2
def zu (h : zH) (o k : Nat) (z : Int) : zH := fun o' k' => if o' = o ∧ k' = k then z else h o' k'
def zkill : List Bool → List zV → List zV
  | true :: bs, v :: vs => v :: zkill bs vs
  | false :: bs, _ :: vs => zN :: zkill bs vs
  | [], vs => vs
  | _ :: _, [] => []
def zwide (v : zV) : Bool := match v with
  | .inr (.inl _) => true
  | _ => false
/-- a local is stored: a long before it is gone -/
def zset : Nat → zV → List zV → List zV
  | _, _, [] => []
  | 0, v, _ :: vs => v :: vs
  | 1, v, w :: vs => (if zwide w then zN else w) :: zset 0 v vs
  | n + 2, v, w :: vs => w :: zset (n + 1) v vs
/-- a long is stored: what stands in its second half is gone -/
def zset2 (k : Nat) (v : zV) (L : List zV) : List zV := zset k v (zset (k + 1) zN L)
def zcond (c : Jvm.ClassFile.Cond) (a b : Int) : Bool := match c with
  | .eq => decide (a = b)
  | .ne => decide (¬ a = b)
  | .lt => decide (a < b)
  | .ge => decide (b ≤ a)
  | .gt => decide (b < a)
  | .le => decide (a ≤ b)
/-- the first hit of a switch -/
def zfind (z : Int) : List (Int × Nat) → Nat → Nat
  | [], d => d
  | q :: qs, d => if q.1 = z then q.2 else zfind z qs d
/-- the fields' types: 0 int, 1 long, 2 boolean, 3 a reference, 9 none of these -/
def zty (t : FieldType) : Nat := match t with
  | .int => 0
  | .long => 1
  | .boolean => 2
  | .object _ => 3
  | .array _ => 3
  | _ => 9
def zTys : Nat → Nat → FieldType := fun ci => match ci with
  | 0 => tyX0 | 1 => tyX1 | 2 => tyX2 | 3 => tyX3 | 4 => tyX4 | 5 => tyX5 | 6 => tyX6 | 7 => tyX7 | 8 => tyX8 | 9 => tyX9 | _ => tyX10
/-- how many fields -/
def zNf : Nat → Nat := fun ci => match ci with
  | 0 => 13 | 1 => 9 | 2 => 7 | 3 => 10 | 4 => 13 | 5 => 11 | 6 => 4 | 7 => 8 | 8 => 3 | 9 => 10 | 10 => 63 | _ => 0
def zidx (z : Int) (n : Nat) : Option Nat := if 0 ≤ zw z ∧ zw z < n then some (zw z).toNat else none
def znext (i : Nat) (L st : List zV) (S : zS) (h : zH) : Option zO := some (.inl (i, L, st, S, h))
def zload (i k : Nat) (t : Nat) (L st : List zV) (S : zS) (h : zH) : Option zO := match t, L[k]? with
  | 0, some (.inl z) => znext (i + 1) L (zI z :: st) S h
  | 1, some (.inr (.inl z)) => znext (i + 1) L (zL z :: st) S h
  | 2, some (.inr (.inr (some o))) => znext (i + 1) L (zR o :: st) S h
  | _, _ => none
def zstore (i k : Nat) (t : Nat) (L st : List zV) (S : zS) (h : zH) : Option zO := match t, st with
  | 0, .inl z :: r => if k < L.length then znext (i + 1) (zset k (zI z) L) r S h else none
  | 1, .inr (.inl z) :: r => if k + 1 < L.length then znext (i + 1) (zset2 k (zL z) L) r S h else none
  | 2, .inr (.inr (some o)) :: r => if k < L.length then znext (i + 1) (zset k (zR o) L) r S h else none
  | _, _ => none
def zbin (f : Int → Int → Int) (i : Nat) (L st : List zV) (S : zS) (h : zH) : Option zO := match st with
  | .inl b :: .inl a :: r => znext (i + 1) L (zI (f a b) :: r) S h
  | _ => none
def zbinL (f : Int → Int → Int) (i : Nat) (L st : List zV) (S : zS) (h : zH) : Option zO := match st with
  | .inr (.inl b) :: .inr (.inl a) :: r => znext (i + 1) L (zL (f a b) :: r) S h
  | _ => none
/-- a pushed number -/
def zpush (v : zV) (i : Nat) (L st : List zV) (S : zS) (h : zH) : Option zO := znext (i + 1) L (v :: st) S h
def zshl (a b : Int) : Int := a * 2 ^ (b % 32).toNat
def zshr (a b : Int) : Int := zw a / 2 ^ (b % 32).toNat
def zushr (a b : Int) : Int := a % 4294967296 / 2 ^ (b % 32).toNat
def zband (a b : Int) : Int := (Int32.ofInt a &&& Int32.ofInt b).toInt
def zbxor (a b : Int) : Int := (Int32.ofInt a ^^^ Int32.ofInt b).toInt
def zlor (a b : Int) : Int := (Int64.ofInt a ||| Int64.ofInt b).toInt
def zlcmp (a b : Int) : Int := if zwl a < zwl b then -1 else if zwl a = zwl b then 0 else 1
def zget (ci k i : Nat) (L st : List zV) (S : zS) (h : zH) : Option zO := match st with
  | .inr (.inr (some o)) :: r => if (zC S o).1 = ci then
      match zty (zTys ci k) with
      | 0 => znext (i + 1) L (zI (h o k) :: r) S h
      | 1 => znext (i + 1) L (zL (h o k) :: r) S h
      | 2 => znext (i + 1) L (zI (zb1 (h o k)) :: r) S h
      | 3 => match (zC S o).2.2.getD k none with
        | some q => znext (i + 1) L (zR q :: r) S h
        | none => none
      | _ => none
    else none
  | _ => none
/-- the references of an object changed -/
def zrset (S : zS) (o k : Nat) (v : Option Nat) : zS := S.set o ((zC S o).1, (zC S o).2.1, (zC S o).2.2.set k v)
def zput (ci k i : Nat) (L st : List zV) (S : zS) (h : zH) : Option zO := match st with
  | v :: .inr (.inr (some o)) :: r => if (zC S o).1 = ci then
      match zty (zTys ci k), v with
      | 0, .inl z => znext (i + 1) L r S (zu h o k z)
      | 1, .inr (.inl z) => znext (i + 1) L r S (zu h o k z)
      | 2, .inl z => if z = 0 ∨ z = 1 then znext (i + 1) L r S (zu h o k z) else none
      | 3, .inr (.inr (some q)) => znext (i + 1) L r (zrset S o k (some q)) h
      | _, _ => none
    else none
  | _ => none
/-- what an element reads as -/
def zald (kd i : Nat) (L st : List zV) (S : zS) (h : zH) : Option zO := match st with
  | .inl x :: .inr (.inr (some o)) :: r => if (zC S o).1 = kd then
      match zidx x (zC S o).2.1 with
      | none => none
      | some j => match kd with
        | 100 => znext (i + 1) L (zI (h o j) :: r) S h
        | 101 => znext (i + 1) L (zI (zb8 (h o j)) :: r) S h
        | 102 => znext (i + 1) L (zI (zb1 (h o j)) :: r) S h
        | 103 => znext (i + 1) L (zL (h o j) :: r) S h
        | _ => match (zC S o).2.2.getD j none with
          | some q => znext (i + 1) L (zR q :: r) S h
          | none => none
    else none
  | _ => none
/-- the script's elements; its length -/
def zsld (i : Nat) (L st : List zV) (S : zS) (h : zH) : Option zO := match st with
  | .inl x :: .inr (.inr (some 0)) :: r => match zidx x (zC S 0).2.1 with
      | none => none
      | some j => znext (i + 1) L (zI (h 0 j) :: r) S h
  | _ => none
def zlen (kd i : Nat) (L st : List zV) (S : zS) (h : zH) : Option zO := match st with
  | .inr (.inr (some o)) :: r => if kd = 108 ∧ o = 0 ∨ (zC S o).1 = kd ∧ 100 ≤ kd ∧ kd < 108 then znext (i + 1) L (zI (zC S o).2.1 :: r) S h else none
  | _ => none
def zast (kd i : Nat) (L st : List zV) (S : zS) (h : zH) : Option zO := match st with
  | v :: .inl x :: .inr (.inr (some o)) :: r => if (zC S o).1 = kd then
      match zidx x (zC S o).2.1 with
      | none => none
      | some j => match v with
        | .inl z => if 100 ≤ kd ∧ kd < 103 then znext (i + 1) L r S (zu h o j z) else none
        | .inr (.inl z) => if kd = 103 then znext (i + 1) L r S (zu h o j z) else none
        | .inr (.inr (some q)) => if kd = 104 ∧ (zC S q).1 = 7 ∨ kd = 105 ∧ (zC S q).1 = 2 ∨ kd = 106 ∧ (zC S q).1 = 8 ∨ kd = 107 ∧ (zC S q).1 = 0 then znext (i + 1) L r (zrset S o j (some q)) h else none
        | _ => none
    else none
  | _ => none
/-- a number of an object that there is -/
def zvalid (n : Nat) (v : zV) : Bool := match v with
  | .inr (.inr (some o)) => decide (o < n)
  | _ => true
def zvalidS (S : zS) : Bool := S.all fun c => c.2.2.all fun r => match r with
  | some q => decide (q < S.length)
  | none => true
/-- a new object, or array, is the last of the list -/
def zmake (kd n nr i : Nat) (L st : List zV) (S : zS) (h : zH) : Option zO :=
  if (zvalidS S && L.all (zvalid S.length) && st.all (zvalid S.length)) = true ∧ S.length < 1000000 then
    znext (i + 1) L (zR S.length :: st) (S ++ [(kd, n, List.replicate nr none)]) (fun o k => if o = S.length then 0 else h o k)
  else none
def znewa (kd : Nat) (i : Nat) (L st : List zV) (S : zS) (h : zH) : Option zO := match st with
  | .inl x :: r => match zidx x 100000 with
    | some n => zmake kd n (if kd < 104 then 0 else n) i L r S h
    | none => none
  | _ => none
/-- the words that are left below a call's arguments -/
def zwds (st : List zV) : Nat := (st.map fun v => if zwide v = true then 2 else 1).sum
def zcall (m n : Nat) (L st : List zV) : Option zO := if n ≤ st.length ∧ zwds (st.drop n) ≤ 8 then some (.inr (.inr (m, L, st.take n, st.drop n))) else none
/-- a constructor's call -/
def zcallI (m n : Nat) (L st : List zV) : Option zO := match st[n - 1]? with
  | some (.inr (.inr (some _))) => zcall m n L st
  | _ => none
/-- a call of an instance's method: the object is of the method's class -/
def zcallV (m n : Nat) (ci : Int) (L st : List zV) (S : zS) : Option zO := match st[n - 1]? with
  | some (.inr (.inr (some o))) => if ((zC S o).1 : Int) = ci then zcall m n L st else none
  | _ => none
def zcpy (h : zH) (o1 s o2 d n : Nat) : zH := fun o k => if o = o2 ∧ d ≤ k ∧ k < d + n then h o1 (s + (k - d)) else h o k
def zcopy (i : Nat) (L st : List zV) (S : zS) (h : zH) : Option zO := match st with
  | [.inl n, .inl d, .inr (.inr (some o2)), .inl s, .inr (.inr (some o1))] =>
    if (zC S o1).1 = (zC S o2).1 ∧ ((zC S o1).1 = 100 ∨ (zC S o1).1 = 101) ∧ 0 ≤ zw s ∧ 0 ≤ zw d ∧ 0 ≤ zw n ∧ zw s + zw n ≤ (zC S o1).2.1 ∧ zw d + zw n ≤ (zC S o2).2.1 then
      znext (i + 1) L [] S (zcpy h o1 (zw s).toNat o2 (zw d).toNat (zw n).toNat) else none
  | _ => none
def zbranch (c : Bool) (t i : Nat) (L st : List zV) (S : zS) (h : zH) : Option zO := if c = true then znext t L st S h else znext (i + 1) L st S h
def zif (c : Jvm.ClassFile.Cond) (t i : Nat) (L st : List zV) (S : zS) (h : zH) : Option zO := match st with
  | .inl a :: r => zbranch (zcond c (zw a) 0) t i L r S h
  | _ => none
def zcmp (c : Jvm.ClassFile.Cond) (t i : Nat) (L st : List zV) (S : zS) (h : zH) : Option zO := match st with
  | .inl b :: .inl a :: r => zbranch (zcond c (zw a) (zw b)) t i L r S h
  | _ => none
def zswitch (d : Nat) (ts : List (Int × Nat)) (L st : List zV) (S : zS) (h : zH) : Option zO := match st with
  | .inl a :: r => znext (zfind (zw a) ts d) L r S h
  | _ => none
def ziinc (k : Nat) (n : Int) (i : Nat) (L st : List zV) (S : zS) (h : zH) : Option zO := match L[k]? with
  | some (.inl z) => znext (i + 1) (zset k (zI (z + n)) L) st S h
  | _ => none
def zdiv (f : Int → Int → Int) (i : Nat) (L st : List zV) (S : zS) (h : zH) : Option zO := match st with
  | .inl b :: .inl a :: r => if zw b = 0 then none else znext (i + 1) L (zI (f (zw a) (zw b)) :: r) S h
  | _ => none
def zun (f : Int → Int) (i : Nat) (L st : List zV) (S : zS) (h : zH) : Option zO := match st with
  | .inl a :: r => znext (i + 1) L (zI (f a) :: r) S h
  | _ => none
/-- a text's length; its byte at a place -/
def zsln (i : Nat) (L st : List zV) (S : zS) (h : zH) : Option zO := match st with
  | .inr (.inr (some o)) :: r => if 1000000 ≤ o ∧ o < 1000012 ∧ zwds r ≤ 8 then znext (i + 1) L (zI (zsl (o - 1000000)) :: r) S h else none
  | _ => none
def zsch (i : Nat) (L st : List zV) (S : zS) (h : zH) : Option zO := match st with
  | .inl x :: .inr (.inr (some o)) :: r => if 1000000 ≤ o ∧ o < 1000012 ∧ zwds r ≤ 8 then (match zidx x (zsl (o - 1000000)) with
      | none => none
      | some j => znext (i + 1) L (zI (zsc (o - 1000000) j) :: r) S h) else none
  | _ => none
def zback (v : Option zV) : Option zO := some (.inr (.inl v))
/-- one instruction -/
def zstp (e : zE) (i : Nat) (L st : List zV) (S : zS) (h : zH) : Option zO := match e.2.2.1 with
  | .aload k => zload i k 2 L st S h
  | .aload_n k => zload i k 2 L st S h
  | .iload k => zload i k 0 L st S h
  | .iload_n k => zload i k 0 L st S h
  | .lload k => zload i k 1 L st S h
  | .lload_n k => zload i k 1 L st S h
  | .istore k => zstore i k 0 L st S h
  | .istore_n k => zstore i k 0 L st S h
  | .lstore k => zstore i k 1 L st S h
  | .lstore_n k => zstore i k 1 L st S h
  | .astore k => zstore i k 2 L st S h
  | .astore_n k => zstore i k 2 L st S h
  | .iconst n => zpush (zI n) i L st S h
  | .bipush n => zpush (zI n) i L st S h
  | .sipush n => zpush (zI n) i L st S h
  | .lconst n => zpush (zL (n : Nat)) i L st S h
  | .ldc _ => if e.2.2.2.1 = 0 then zpush (zI e.2.2.2.2.2.1) i L st S h else zpush (zR (1000000 + e.2.2.2.2.2.1.toNat)) i L st S h
  | .ldc_w _ => zpush (zI e.2.2.2.2.2.1) i L st S h
  | .ldc2_w _ => zpush (zL e.2.2.2.2.2.1) i L st S h
  | .iadd => zbin (fun a b => a + b) i L st S h
  | .isub => zbin (fun a b => a - b) i L st S h
  | .imul => zbin (fun a b => a * b) i L st S h
  | .iand => zbin zband i L st S h
  | .ixor => zbin zbxor i L st S h
  | .ishl => zbin zshl i L st S h
  | .ishr => zbin zshr i L st S h
  | .iushr => zbin zushr i L st S h
  | .idiv => zdiv Int.tdiv i L st S h
  | .irem => zdiv Int.tmod i L st S h
  | .ineg => zun (fun a => -a) i L st S h
  | .i2b => zun zb8 i L st S h
  | .i2l => match st with
    | .inl a :: r => znext (i + 1) L (zL (zw a) :: r) S h
    | _ => none
  | .ladd => zbinL (fun a b => a + b) i L st S h
  | .lsub => zbinL (fun a b => a - b) i L st S h
  | .lmul => zbinL (fun a b => a * b) i L st S h
  | .lor => zbinL zlor i L st S h
  | .lshl => match st with
    | .inl b :: .inr (.inl a) :: r => znext (i + 1) L (zL (a * 2 ^ (b % 64).toNat) :: r) S h
    | _ => none
  | .lcmp => match st with
    | .inr (.inl b) :: .inr (.inl a) :: r => znext (i + 1) L (zI (zlcmp a b) :: r) S h
    | _ => none
  | .dup => match st with
    | v :: r => if zwide v then none else znext (i + 1) L (v :: v :: r) S h
    | _ => none
  | .dup2 => match st with
    | v :: w :: r => if zwide v || zwide w then none else znext (i + 1) L (v :: w :: v :: w :: r) S h
    | _ => none
  | .pop => match st with
    | v :: r => if zwide v then none else znext (i + 1) L r S h
    | _ => none
  | .iinc k n => ziinc k n i L st S h
  | .ifCond c _ => zif c e.2.2.2.1 i L st S h
  | .if_icmp c _ => zcmp c e.2.2.2.1 i L st S h
  | .goto _ => znext e.2.2.2.1 L st S h
  | .tableswitch .. => zswitch e.2.2.2.1 e.2.2.2.2.2.2.1 L st S h
  | .lookupswitch .. => zswitch e.2.2.2.1 e.2.2.2.2.2.2.1 L st S h
  | .getfield _ => zget e.2.2.2.1 e.2.2.2.2.1 i L st S h
  | .putfield _ => zput e.2.2.2.1 e.2.2.2.2.1 i L st S h
  | .iaload => if e.2.2.2.1 = 108 then zsld i L st S h else zald e.2.2.2.1 i L st S h
  | .baload => zald e.2.2.2.1 i L st S h
  | .laload => zald e.2.2.2.1 i L st S h
  | .aaload => zald e.2.2.2.1 i L st S h
  | .iastore => zast e.2.2.2.1 i L st S h
  | .bastore => zast e.2.2.2.1 i L st S h
  | .lastore => zast e.2.2.2.1 i L st S h
  | .aastore => zast e.2.2.2.1 i L st S h
  | .arraylength => zlen e.2.2.2.1 i L st S h
  | .newarray _ => znewa e.2.2.2.1 i L st S h
  | .anewarray _ => znewa e.2.2.2.1 i L st S h
  | .new _ => zmake e.2.2.2.1 e.2.2.2.2.1 e.2.2.2.2.1 i L st S h
  | .invokevirtual _ => if e.2.2.2.1 = 10002 then zsln i L st S h else if e.2.2.2.1 = 10003 then zsch i L st S h else zcallV e.2.2.2.1 e.2.2.2.2.1 e.2.2.2.2.2.1 L st S
  | .invokestatic _ => if e.2.2.2.1 = 10001 then zcopy i L st S h else zcall e.2.2.2.1 e.2.2.2.2.1 L st
  | .invokespecial _ => if e.2.2.2.1 = 10000 then (match st with
      | [.inr (.inr (some _))] => znext (i + 1) L [] S h
      | _ => none) else zcallI e.2.2.2.1 e.2.2.2.2.1 L st
  | .ireturn => match st with
    | [.inl z] => if e.2.2.2.1 = 0 ∨ z = 0 ∨ z = 1 then zback (some (zI z)) else none
    | _ => none
  | .lreturn => match st with
    | [.inr (.inl z)] => zback (some (zL z))
    | _ => none
  | .areturn => match st with
    | [.inr (.inr (some o))] => zback (some (zR o))
    | _ => none
  | .return_ => match st with
    | [] => zback none
    | _ => none
  | _ => none
def zent : Nat → List zV → List zV
  | n, [] => List.replicate n zN
  | 0, _ :: _ => []
  | 1, v :: _ => [v]
  | n + 2, v :: vs => if zwide v then v :: zN :: zent n vs else v :: zent (n + 1) vs
/-- a run with so many steps -/
def zex (tb : Nat → Nat → Option zE) (nl : Nat → Nat) : Nat → Nat → Nat → List zV → List zV → zS → zH → Option (Option zV × zS × zH)
  | 0, _, _, _, _, _, _ => none
  | f + 1, m, i, L, st, S, h => match tb m i with
    | none => none
    | some e => match zstp e i (zkill e.2.2.2.2.2.2.2 L) st S h with
      | none => none
      | some (.inl (j, L', st', S', h')) => zex tb nl f m j L' st' S' h'
      | some (.inr (.inl v)) => some (v, S, h)
      | some (.inr (.inr (m', L', as, st'))) => if nl m' < zwds as then none else match zex tb nl f m' 0 (zent (nl m') as.reverse) [] S h with
        | none => none
        | some (v, S1, h1) => if S1.length = S.length ∨ (L'.all (zvalid S.length) && st'.all (zvalid S.length)) = true then zex tb nl f m (i + 1) L' (v.toList ++ st') S1 h1 else none
