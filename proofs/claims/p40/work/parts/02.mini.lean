/-! A small pure machine: the class's and the law's code run over a heap of numbers. -/
abbrev mV : Type := Int ⊕ (Int ⊕ Option Nat)
abbrev mI (x : Int) : mV := .inl x
abbrev mJ (x : Int) : mV := .inr (.inl x)
abbrev mP (o : Option Nat) : mV := .inr (.inr o)
/-- kinds and sizes of the cells; their contents; may cells still be made -/
abbrev mH : Type := List (Nat × Nat) × (Nat → Nat → Int) × Bool
abbrev mE : Type := Instr × Nat × Nat × Nat × Nat
abbrev mLs : Type := List (Option mV)
/-- goes on | calls | returns | throws -/
abbrev mO : Type := (Nat × mLs × List mV × mH × Nat × Nat) ⊕ ((Nat × List mV × List mV) ⊕ (Option mV ⊕ Nat))
def m32 (x : Int) : Int := (Int32.ofInt x).toInt
def m64 (x : Int) : Int := (Int64.ofInt x).toInt
def mup (hp : Nat → Nat → Int) (a i : Nat) (x : Int) : Nat → Nat → Int := fun b j => if b = a then (if j = i then x else hp b j) else hp b j
def mnx (pc : Nat) (L : mLs) (st : List mV) (h : mH) : Option mO := some (.inl (pc, L, st, h, 0, 0))
def mi1 (st : List mV) (f : Int → List mV → Option mO) : Option mO := match st with
  | .inl x :: r => f x r
  | _ => none
def mi2 (st : List mV) (f : Int → Int → List mV → Option mO) : Option mO := match st with
  | .inl y :: .inl x :: r => f x y r
  | _ => none
def mj2 (st : List mV) (f : Int → Int → List mV → Option mO) : Option mO := match st with
  | .inr (.inl y) :: .inr (.inl x) :: r => f x y r
  | _ => none
def mji (st : List mV) (f : Int → Int → List mV → Option mO) : Option mO := match st with
  | .inl y :: .inr (.inl x) :: r => f x y r
  | _ => none
def mp1 (st : List mV) (f : Nat → List mV → Option mO) : Option mO := match st with
  | .inr (.inr (some a)) :: r => f a r
  | _ => none
/-- an index and an array below it -/
def mix (st : List mV) (f : Nat → Int → List mV → Option mO) : Option mO := match st with
  | .inl i :: .inr (.inr (some a)) :: r => f a i r
  | _ => none
def mci (i : Nat) (L : mLs) (f : Int → Option mO) : Option mO := match L[i]? with
  | some (some (.inl x)) => f x
  | _ => none
def mcj (i : Nat) (L : mLs) (f : Int → Option mO) : Option mO := match L[i]? with
  | some (some (.inr (.inl x))) => f x
  | _ => none
def mcp (i : Nat) (L : mLs) (f : Nat → Option mO) : Option mO := match L[i]? with
  | some (some (.inr (.inr (some a)))) => f a
  | _ => none
/-- is there no long before place i -/
def mok (i : Nat) (L : mLs) : Bool := match i with
  | 0 => true
  | i + 1 => match L[i]? with
    | some (some (.inr (.inl _))) => false
    | _ => true
def mst (i : Nat) (v : mV) (pc : Nat) (L : mLs) (r : List mV) (h : mH) : Option mO := if i < L.length ∧ mok i L = true then mnx pc (L.set i (some v)) r h else none
def mcat (v : mV) : Nat := match v with
  | .inr (.inl _) => 2
  | _ => 1
def mis1 (v : mV) : Bool := match v with
  | .inr (.inl _) => false
  | _ => true
/-- the cell a is of kind kd: its size -/
def msz (h : mH) (a kd : Nat) : Option Nat := match h.1[a]? with
  | some (k, n) => if k = kd then some n else none
  | none => none
def mcnd (c : Jvm.ClassFile.Cond) (x y : Int) : Bool := match c with
  | .eq => decide (x = y)
  | .ne => decide (x ≠ y)
  | .lt => decide (x < y)
  | .ge => decide (y ≤ x)
  | .gt => decide (y < x)
  | .le => decide (x ≤ y)
def mif (c : Jvm.ClassFile.Cond) (x y : Int) (t f : Option mO) : Option mO := if mcnd c x y = true then t else f
/-- read the element i of the array a of kind kd -/
def mrd (h : mH) (kd a : Nat) (i : Int) (f : Int → Option mO) : Option mO := match msz h a kd with
  | some n => if 0 ≤ m32 i ∧ m32 i < n then f (h.2.1 a (m32 i).toNat) else none
  | none => none
def mwr (h : mH) (kd a : Nat) (i x : Int) (f : mH → Option mO) : Option mO := match msz h a kd with
  | some n => if 2 ≤ a ∧ 0 ≤ m32 i ∧ m32 i < n then f (h.1, mup h.2.1 a (m32 i).toNat x, h.2.2) else none
  | none => none
/-- a new cell of kind kd, size n, all of it d -/
def mnew (h : mH) (kd n : Nat) (d : Nat → Int) (f : Nat → mH → Option mO) : Option mO := if h.2.2 = true then f h.1.length (h.1 ++ [(kd, n)], (fun b j => if b = h.1.length then d j else h.2.1 b j), true) else none
def mpay (ds : Nat) (o : Option mO) : Option mO := match o with
  | some (.inl (pc, L, st, h, dc, s)) => some (.inl (pc, L, st, h, dc + 1, s + ds))
  | _ => none
def mref (v : Int) (f : Option Nat → Option mO) : Option mO := if 0 ≤ v then f (some v.toNat) else f none
/-- a call's arguments, n of them, off the stack -/
def mcall (k n : Nat) (st : List mV) : Option mO := if n ≤ st.length ∧ ((st.take n).all mis1) = true ∧ ((st.drop n).map mcat).sum ≤ 8 then some (.inr (.inl (k, (st.take n).reverse, st.drop n))) else none
def mobj (h : mH) (c : Nat) (v : Option mV) : Bool := match v with
  | some (.inr (.inr (some a))) => decide (2 ≤ a) && (match msz h a (16 + c) with | some _ => true | none => false)
  | _ => false
def mkArr : ArrayType → Nat
  | .int => 0
  | .boolean => 1
  | _ => 9
def mstep (fd : Nat → Nat → Int) (nf : Nat → Nat) (e : mE) (pc : Nat) (L : mLs) (st : List mV) (h : mH) : Option mO :=
  let i := e.1
  let n := pc + e.2.1
  let a := e.2.2.1
  let b := e.2.2.2.1
  let c := e.2.2.2.2
  match i with
  | .aload_n k => mcp k L fun q => mnx n L (mP (some q) :: st) h
  | .aload k => mcp k L fun q => mnx n L (mP (some q) :: st) h
  | .iload_n k => mci k L fun x => mnx n L (mI x :: st) h
  | .iload k => mci k L fun x => mnx n L (mI x :: st) h
  | .lload_n k => mcj k L fun x => mnx n L (mJ x :: st) h
  | .lload k => mcj k L fun x => mnx n L (mJ x :: st) h
  | .iconst x => mnx n L (mI x :: st) h
  | .bipush x => if -128 ≤ x ∧ x < 128 then mnx n L (mI x :: st) h else none
  | .sipush x => if -32768 ≤ x ∧ x < 32768 then mnx n L (mI x :: st) h else none
  | .lconst x => mnx n L (mJ (x : Nat) :: st) h
  | .ldc _ => mnx n L (mI a :: st) h
  | .ldc_w _ => mnx n L (mI a :: st) h
  | .istore_n k => mi1 st fun x r => mst k (mI x) n L r h
  | .istore k => mi1 st fun x r => mst k (mI x) n L r h
  | .astore_n k => mp1 st fun q r => mst k (mP (some q)) n L r h
  | .astore k => mp1 st fun q r => mst k (mP (some q)) n L r h
  | .lstore_n k => (match st with
    | .inr (.inl x) :: r => if (k : Nat) + 1 < L.length ∧ mok k L = true then mnx n ((L.set k (some (mJ x))).set (k + 1) none) r h else none
    | _ => none)
  | .lstore k => (match st with
    | .inr (.inl x) :: r => if k + 1 < L.length ∧ mok k L = true then mnx n ((L.set k (some (mJ x))).set (k + 1) none) r h else none
    | _ => none)
  | .iinc k x => mci k L fun y => mst k (mI (y + x)) n L st h
  | .iadd => mi2 st fun x y r => mnx n L (mI (x + y) :: r) h
  | .isub => mi2 st fun x y r => mnx n L (mI (x - y) :: r) h
  | .imul => mi2 st fun x y r => mnx n L (mI (x * y) :: r) h
  | .idiv => mi2 st fun x y r => if m32 y = 0 then none else mnx n L (mI (Int32.ofInt x / Int32.ofInt y).toInt :: r) h
  | .irem => mi2 st fun x y r => if m32 y = 0 then none else mnx n L (mI (Int32.ofInt x - Int32.ofInt x / Int32.ofInt y * Int32.ofInt y).toInt :: r) h
  | .iand => mi2 st fun x y r => mnx n L (mI (Int32.ofInt x &&& Int32.ofInt y).toInt :: r) h
  | .ior => mi2 st fun x y r => mnx n L (mI (Int32.ofInt x ||| Int32.ofInt y).toInt :: r) h
  | .ishl => mi2 st fun x y r => mnx n L (mI (Int32.ofInt x <<< (Int32.ofInt y &&& 31)).toInt :: r) h
  | .ishr => mi2 st fun x y r => mnx n L (mI (Int32.ofInt x >>> (Int32.ofInt y &&& 31)).toInt :: r) h
  | .iushr => mi2 st fun x y r => mnx n L (mI (((Int32.ofInt x).toUInt32 >>> ((Int32.ofInt y).toUInt32 &&& Int32.toUInt32 31)).toInt32).toInt :: r) h
  | .ineg => mi1 st fun x r => mnx n L (mI (-x) :: r) h
  | .i2l => mi1 st fun x r => mnx n L (mJ (m32 x) :: r) h
  | .lcmp => mj2 st fun x y r => mnx n L (mI (if m64 x < m64 y then -1 else if m64 x = m64 y then 0 else 1) :: r) h
  | .land => mj2 st fun x y r => mnx n L (mJ (Int64.ofInt x &&& Int64.ofInt y).toInt :: r) h
  | .lor => mj2 st fun x y r => mnx n L (mJ (Int64.ofInt x ||| Int64.ofInt y).toInt :: r) h
  | .lshl => mji st fun x y r => mnx n L (mJ (Int64.ofInt x <<< ((Int32.ofInt y).toInt64 &&& 63)).toInt :: r) h
  | .lshr => mji st fun x y r => mnx n L (mJ (Int64.ofInt x >>> ((Int32.ofInt y).toInt64 &&& 63)).toInt :: r) h
  | .dup => (match st with
    | v :: r => if mis1 v = true then mnx n L (v :: v :: r) h else none
    | _ => none)
  | .dup2 => (match st with
    | v :: w :: r => if mis1 v = true ∧ mis1 w = true then mnx n L (v :: w :: v :: w :: r) h else none
    | _ => none)
  | .pop => (match st with
    | v :: r => if mis1 v = true then mnx n L r h else none
    | _ => none)
  | .goto _ => mnx a L st h
  | .ifCond k _ => mi1 st fun x r => mif k (m32 x) 0 (mnx a L r h) (mnx n L r h)
  | .if_icmp k _ => mi2 st fun x y r => mif k (m32 x) (m32 y) (mnx a L r h) (mnx n L r h)
  | .tableswitch d lo hi offs => mi1 st fun x r => if m32 x < lo ∨ hi < m32 x then (if 0 ≤ (pc : Int) + d then mnx ((pc : Int) + d).toNat L r h else none) else (match offs[(m32 x - lo).toNat]? with
    | some off => if 0 ≤ (pc : Int) + off then mnx ((pc : Int) + off).toNat L r h else none
    | none => none)
  | .getfield _ => mp1 st fun q r => (match msz h q (16 + a) with
    | some N => if 2 ≤ q ∧ b < N then (if c = 1 then (if 0 ≤ h.2.1 q b then mnx n L (mP (some (h.2.1 q b).toNat) :: r) h else none) else mnx n L (mI (h.2.1 q b) :: r) h) else none
    | none => none)
  | .putfield _ => (match st with
    | .inl x :: .inr (.inr (some q)) :: r => (match msz h q (16 + a) with
      | some N => if 2 ≤ q ∧ b < N ∧ (c = 0 ∨ (c = 2 ∧ (x = 0 ∨ x = 1))) then mnx n L r (h.1, mup h.2.1 q b x, h.2.2) else none
      | none => none)
    | .inr (.inr (some v)) :: .inr (.inr (some q)) :: r => (match msz h q (16 + a) with
      | some N => if 2 ≤ q ∧ b < N ∧ c = 1 then mnx n L r (h.1, mup h.2.1 q b v, h.2.2) else none
      | none => none)
    | _ => none)
  | .getstatic _ => mnx n L (mP (some 1) :: st) h
  | .arraylength => mp1 st fun q r => (match h.1[q]? with
    | some (k, N) => if k ≤ 6 ∧ N < 2147483648 then mnx n L (mI N :: r) h else none
    | none => none)
  | .iaload => mix st fun q x r => mrd h 0 q x fun y => mnx n L (mI y :: r) h
  | .baload => mix st fun q x r => mrd h 1 q x fun y => mnx n L (mI y :: r) h
  | .aaload => mix st fun q x r => mrd h a q x fun y => if 0 ≤ y then mnx n L (mP (some y.toNat) :: r) h else none
  | .iastore => (match st with
    | .inl y :: .inl x :: .inr (.inr (some q)) :: r => mwr h 0 q x y fun h' => mnx n L r h'
    | _ => none)
  | .bastore => (match st with
    | .inl y :: .inl x :: .inr (.inr (some q)) :: r => if y = 0 ∨ y = 1 then mwr h 1 q x y fun h' => mnx n L r h' else none
    | _ => none)
  | .aastore => (match st with
    | .inr (.inr (some y)) :: .inl x :: .inr (.inr (some q)) :: r => if mobj h b (some (mP (some y))) = true then mwr h a q x y fun h' => mnx n L r h' else none
    | _ => none)
  | .newarray t => mi1 st fun x r => if 0 ≤ m32 x ∧ m32 x < 100000 ∧ mkArr t ≤ 2 then mpay (m32 x).toNat (mnew h (mkArr t) (m32 x).toNat (fun _ => 0) fun q h' => mnx n L (mP (some q) :: r) h') else none
  | .anewarray _ => mi1 st fun x r => if 0 ≤ m32 x ∧ m32 x < 100000 then mpay (m32 x).toNat (mnew h a (m32 x).toNat (fun _ => -1) fun q h' => mnx n L (mP (some q) :: r) h') else none
  | .new _ => if b = 1 then (if st = [] then some (.inr (.inr (.inr a))) else none) else mpay (nf a) (mnew h (16 + a) (nf a) (fd a) fun q h' => mnx n L (mP (some q) :: st) h')
  | .invokestatic _ => mcall a b st
  | .invokevirtual _ => if mobj h c (st[b]?) = true then mcall a (b + 1) st else none
  | .invokespecial _ => if c = 99 then mp1 st fun _ r => (if (r.map mcat).sum ≤ 8 then mnx n L r h else none) else (match st[b]? with
    | some (.inr (.inr (some _))) => mcall a (b + 1) st
    | _ => none)
  | .ireturn => mi1 st fun x r => if r = [] ∧ (c = 0 ∨ x = 0 ∨ x = 1) then some (.inr (.inr (.inl (some (mI x))))) else none
  | .lreturn => (match st with
    | [.inr (.inl x)] => some (.inr (.inr (.inl (some (mJ x)))))
    | _ => none)
  | .areturn => (match st with
    | [.inr (.inr (some q))] => some (.inr (.inr (.inl (some (mP (some q))))))
    | _ => none)
  | .return_ => if st = [] then some (.inr (.inr (.inl none))) else none
  | _ => none
abbrev mR : Type := (Option mV ⊕ Nat) × mH × Nat × Nat
def mbump (c s : Nat) (r : Option mR) : Option mR := match r with
  | some (o, h, c', s') => some (o, h, c + c', s + s')
  | none => none
def mentry (vs : List mV) (n : Nat) : mLs := vs.map some ++ List.replicate (n - vs.length) none
/-- the program: its code, its catches (method, pc, exception: where it goes on, the local that the exception goes into), its numbers of locals -/
abbrev mProg : Type := (Nat → Nat → Option mE) × (Nat → Nat → Nat → Option (Nat × Nat)) × (Nat → Nat) × (Nat → Nat → Int) × (Nat → Nat)
def mrun (P : mProg) : Nat → Nat → Nat → mLs → List mV → mH → Option mR
  | 0, _, _, _, _, _ => none
  | f + 1, k, pc, L, st, h => match P.1 k pc with
    | none => none
    | some e => match mstep P.2.2.2.1 P.2.2.2.2 e pc L st h with
      | none => none
      | some (.inl (pc', L', st', h', dc, ds)) => mbump dc ds (mrun P f k pc' L' st' h')
      | some (.inr (.inl (k', as, rest))) => (match mrun P f k' 0 (mentry as (P.2.2.1 k')) [] h with
        | none => none
        | some (.inl v, h', c, s) => mbump c s (mrun P f k (pc + 3) L (v.toList ++ rest) h')
        | some (.inr E, h', c, s) => (match P.2.1 k pc E with
          | none => some (.inr E, h', c, s)
          | some (pc', i) => if mok i L = true then mbump c s (mrun P f k pc' (L.set i none) [] h') else none))
      | some (.inr (.inr (.inl v))) => some (.inl v, h, 0, 0)
      | some (.inr (.inr (.inr E))) => some (.inr E, (h.1, h.2.1, false), 1, 6)
/-- an instruction's length -/
def mlen (i : Instr) (n : Nat) : Bool := match i with
  | .aload _ | .iload _ | .lload _ | .bipush _ | .istore _ | .astore _ | .lstore _ | .ldc _ | .newarray _ => n == 2
  | .sipush _ | .iinc _ _ | .ldc_w _ | .goto _ | .ifCond _ _ | .if_icmp _ _ | .getfield _ | .putfield _ | .getstatic _ | .new _ | .anewarray _ | .invokestatic _ | .invokevirtual _ | .invokespecial _ => n == 3
  | .tableswitch _ _ _ _ => true
  | _ => n == 1
