/-! The pure machine: values, layouts, stores, one step in continuation form -/
abbrev AV : Type := Int32 ⊕ (Int64 ⊕ ((Nat × Option Nat) ⊕ (Nat × Nat)))
abbrev vI (x : Int32) : AV := .inl x
abbrev vJ (x : Int64) : AV := .inr (.inl x)
abbrev vR (t : Nat) (o : Option Nat) : AV := .inr (.inr (.inl (t, o)))
/-- a constant: a text, its bytes, a static row, a reference that nobody asks -/
abbrev vC (t w : Nat) : AV := .inr (.inr (.inr (t, w)))
/-- kind and length of each address, the next address, the slots used -/
abbrev Lay : Type := (Nat → Nat) × (Nat → Nat) × Nat × Nat
/-- ints, references, longs by address and place -/
abbrev Sto : Type := (Nat → Nat → Int32) × (Nat → Nat → Option Nat) × (Nat → Nat → Int64)
abbrev TI : Type := Instr × Nat × (Nat × Nat × Nat) × Int32 × Int64 × List (Int32 × Nat)
abbrev CLT (O : Type) : Type := Nat → Lay → Sto → List AV → (Option AV → Lay → Sto → Option O) → Option O
abbrev GOT (O : Type) : Type := Nat → List (Option AV) → List AV → Lay → Sto → Option O
abbrev RKT (O : Type) : Type := Option AV → Lay → Sto → Option O
def pL (L : Lay) (k n w : Nat) : Lay := (fun a => if a = L.2.2.1 then k else L.1 a, fun a => if a = L.2.2.1 then n else L.2.1 a, L.2.2.1 + 1, L.2.2.2 + w)
def sI (σ : Sto) (a k : Nat) (v : Int32) : Sto := (fun a' k' => if a' = a ∧ k' = k then v else σ.1 a' k', σ.2)
def sR (σ : Sto) (a k : Nat) (v : Option Nat) : Sto := (σ.1, fun a' k' => if a' = a ∧ k' = k then v else σ.2.1 a' k', σ.2.2)
def sJ (σ : Sto) (a k : Nat) (v : Int64) : Sto := (σ.1, σ.2.1, fun a' k' => if a' = a ∧ k' = k then v else σ.2.2 a' k')
def zS (σ : Sto) (a : Nat) : Sto := (fun a' k' => if a' = a then 0 else σ.1 a' k', fun a' k' => if a' = a then none else σ.2.1 a' k', fun a' k' => if a' = a then 0 else σ.2.2 a' k')
/-- a new cell: its address, the layout, the store -/
def al (L : Lay) (σ : Sto) (k n w : Nat) : Option (Nat × Lay × Sto) := some (L.2.2.1, pL L k n w, zS σ L.2.2.1)
def inb (i : Int32) (n : Nat) : Bool := decide (¬ (i < 0 ∨ n ≤ i.toNatClampNeg))
def rI (L : Lay) (σ : Sto) (a : Nat) (i : Int32) : Option Int32 := if inb i (L.2.1 a) = true then some (σ.1 a i.toNatClampNeg) else none
def rR (L : Lay) (σ : Sto) (a : Nat) (i : Int32) : Option (Option Nat) := if inb i (L.2.1 a) = true then some (σ.2.1 a i.toNatClampNeg) else none
def wI (L : Lay) (σ : Sto) (a : Nat) (i v : Int32) : Option Sto := if inb i (L.2.1 a) = true then some (sI σ a i.toNatClampNeg v) else none
def wR (L : Lay) (σ : Sto) (a : Nat) (i : Int32) (v : Option Nat) : Option Sto := if inb i (L.2.1 a) = true then some (sR σ a i.toNatClampNeg v) else none
def nSh (x : Int32) : Int32 := vp_nar .short x
def nBo (x : Int32) : Int32 := vp_nar .boolean x
def dv (x y : Int32) : Option Int32 := if y = 0 then none else some (x / y)
def rm (x y : Int32) : Option Int32 := if y = 0 then none else some (x - x / y * y)
/-- what a small type keeps: 1 boolean, 2 char, 3 byte, 4 short -/
def nty (t : Nat) : FieldType := match t with
  | 1 => .boolean
  | 2 => .char
  | 3 => .byte
  | 4 => .short
  | _ => .int
def ckN (t : Nat) (x : Int32) : Option Unit := if narrow (nty t) (.int x) = .int x ∧ fits (nty t) (.int x) = true then some () else none
def lget : List (Option AV) → Nat → Option AV
  | [], _ => none
  | x :: _, 0 => x
  | _ :: r, k + 1 => lget r k
def lput : List (Option AV) → Nat → AV → List (Option AV)
  | [], _, _ => []
  | _ :: r, 0, v => some v :: r
  | x :: r, k + 1, v => x :: lput r k v
def lclr : List (Option AV) → Nat → List (Option AV)
  | [], _ => []
  | _ :: r, 0 => none :: r
  | x :: r, k + 1 => x :: lclr r k
/-- is the place ahead of it a long's? -/
def lwd (lc : List (Option AV)) (a : Nat) : Bool := match a with
  | 0 => false
  | k + 1 => match lget lc k with
    | some (.inr (.inl _)) => true
    | _ => false
/-- may a place not be stored to? -/
def lwid (lc : List (Option AV)) (a : Nat) : Bool := Nat.ble lc.length a || lwd lc a
def spl : Nat → List AV → List AV → Option (List AV × List AV)
  | 0, acc, r => some (acc, r)
  | k + 1, acc, x :: r => spl k (x :: acc) r
  | _ + 1, _, [] => none
def psh : Option AV → List AV → List AV
  | none, r => r
  | some x, r => x :: r
/-- the words that a stack takes -/
def catl : List AV → Nat
  | [] => 0
  | .inr (.inl _) :: r => catl r + 2
  | _ :: r => catl r + 1
def swc {O : Type} (x : Int32) (d : Nat) (go : Nat → Option O) : List (Int32 × Nat) → Option O
  | [] => go d
  | q :: r => if x = q.1 then go q.2 else swc x d go r
/-- the classes' fields: 0 an int, 1 a long, t + 2 a reference to the kind t -/
def ftab : List (List Nat) := [[12, 0, 0, 0, 0, 22, 22, 22], [22, 0, 22, 0, 11, 0, 22, 0], [0, 0, 0, 0, 0, 0, 22, 22, 0], [22], [0, 0, 0, 0, 0], [22, 22, 22, 22, 0], [22, 22, 22, 0, 22, 0, 0, 0, 0, 0], [12, 22, 22, 0, 22, 22, 1], [23, 0], [22, 0, 0, 0, 0], [22, 0, 25, 0, 0], [12, 9, 26, 0, 7, 11, 3, 3, 0, 5, 27, 0, 8, 10, 10], [0, 0, 0, 22, 0, 22, 22, 22, 22, 22, 22, 22, 22, 0, 22, 22, 0, 22, 22, 22, 22, 22, 22, 22, 22, 0, 0, 0, 22, 0, 22, 22, 22, 22, 22, 22, 22, 22, 22, 0, 22, 22, 23, 22, 24, 24, 22, 0, 22, 22, 22, 22, 0, 0, 0, 0, 0, 0, 0, 0, 0, 22, 23]]
def ntab : List (List Nat) := [[0, 0, 0, 0, 0, 0, 0, 0], [0, 0, 0, 0, 0, 0, 0, 0], [0, 0, 0, 0, 0, 0, 0, 0, 0], [0], [0, 0, 0, 0, 0], [0, 0, 0, 0, 0], [0, 0, 0, 0, 0, 0, 0, 0, 0, 0], [0, 0, 0, 0, 0, 0, 0], [0, 0], [0, 0, 0, 0, 0], [0, 0, 0, 0, 0], [0, 0, 0, 0, 0, 0, 0, 0, 1, 0, 0, 0, 0, 0, 0], [0, 0, 0, 0, 0, 0, 0, 0, 0, 0, 0, 0, 0, 0, 0, 0, 0, 0, 0, 0, 0, 0, 0, 0, 0, 0, 0, 1, 0, 0, 0, 0, 0, 0, 0, 0, 0, 0, 0, 0, 0, 0, 0, 0, 0, 0, 0, 0, 0, 0, 0, 0, 1, 0, 0, 0, 1, 0, 0, 0, 0, 0, 0]]
def nth (l : List Nat) (k : Nat) : Nat := match l, k with
  | [], _ => 0
  | x :: _, 0 => x
  | _ :: r, k + 1 => nth r k
def nthl (l : List (List Nat)) (k : Nat) : List Nat := match l, k with
  | [], _ => []
  | x :: _, 0 => x
  | _ :: r, k + 1 => nthl r k
def ftc (k j : Nat) : Nat := nth (nthl ftab k) j
def fnc (k j : Nat) : Nat := nth (nthl ntab k) j
def nf (k : Nat) : Nat := (nthl ftab k).length
/-- the kind that an array's places refer to -/
def etg (k : Nat) : Nat := match k with
  | 23 => 2
  | 24 => 0
  | _ => 4
/-- constants: the texts' bytes, the static rows -/
def stab : List (List Int32) := [[0, 0, 0, 1, 1], [1000000, 100, 9999, 12, 20]]
def ctab : List (List Int32) := [[101, 112, 109, 120, 98, 114, 121, 110, 118, 100], [97, 108, 99], [115, 116, 97, 110, 100, 115], [110, 111, 116, 105, 99, 101], [108, 105, 102, 101], [115, 116, 97, 110, 100, 115], [110, 111, 116, 105, 99, 101], [108, 105, 102, 101]]
def cnth (l : List Int32) (k : Nat) : Int32 := match l, k with
  | [], _ => 0
  | x :: _, 0 => x
  | _ :: r, k + 1 => cnth r k
def cnthl (l : List (List Int32)) (k : Nat) : List Int32 := match l, k with
  | [], _ => []
  | x :: _, 0 => x
  | _ :: r, k + 1 => cnthl r k
def cal (t w : Nat) : List Int32 := bif Nat.beq t 1 then cnthl ctab w else cnthl stab w
def rC (t w : Nat) (i : Int32) : Option Int32 := if inb i (cal t w).length = true then some (cnth (cal t w) i.toNatClampNeg) else none
def fval (k j : Nat) (σ : Sto) (x : Nat) : AV := match ftc k j with
  | 0 => vI (σ.1 x j)
  | 1 => vJ (σ.2.2 x j)
  | t + 2 => vR t (σ.2.1 x j)
def putI (σ : Sto) (x j : Nat) (y : Int32) : Option Sto := some (sI σ x j y)
def putJ (σ : Sto) (x j : Nat) (y : Int64) : Option Sto := some (sJ σ x j y)
def putR (σ : Sto) (x j : Nat) (y : Option Nat) : Option Sto := some (sR σ x j y)
/-- what putfield writes -/
def fput (k j : Nat) (σ : Sto) (x : Nat) (v : AV) : Option Sto := match ftc k j, v with
  | 0, .inl y => bif Nat.beq (fnc k j) 0 then putI σ x j y else (ckN (fnc k j) y).bind fun _ => putI σ x j y
  | 1, .inr (.inl y) => putJ σ x j y
  | t + 2, .inr (.inr (.inl q)) => bif Nat.beq q.1 t then putR σ x j q.2 else none
  | _, _ => none
def cpS (σ : Sto) (x : Nat) (i : Int32) (y : Nat) (j n : Int32) : Sto := (fun a k => if a = y then va_cpy (σ.1 x) (σ.1 y) i.toNatClampNeg j.toNatClampNeg n.toNatClampNeg k else σ.1 a k, σ.2)
def okC (L : Lay) (σ : Sto) (x : Nat) (i : Int32) (y : Nat) (j n : Int32) : Bool := decide (¬ i < 0) && decide (¬ j < 0) && decide (¬ n < 0) && decide (i.toNatClampNeg + n.toNatClampNeg ≤ L.2.1 x) && decide (j.toNatClampNeg + n.toNatClampNeg ≤ L.2.1 y) && (List.range n.toNatClampNeg).all (fun z => fits .short (.int (σ.1 x (i.toNatClampNeg + z))))
def cmpc {O : Type} (c : ClassFile.Cond) (x y : Int32) (t f : Option O) : Option O := match c with
  | .eq => if x = y then t else f
  | .ne => if x = y then f else t
  | .lt => if x < y then t else f
  | .ge => if y ≤ x then t else f
  | .gt => if y < x then t else f
  | .le => if x ≤ y then t else f
def stp {O : Type} (tb : Nat → TI) (rt : Nat × Nat) (fl : Bool × Bool) (cl : CLT O) (Rk : RKT O) (go : GOT O) (pc : Nat) (lc : List (Option AV)) (st : List AV) (L : Lay) (σ : Sto) : Option O :=
  match tb pc with
  | (ins, nx, (a, b, c), v, w, sw) =>
  match ins with
  | .iconst _ | .bipush _ | .sipush _ => go nx lc (vI v :: st) L σ
  | .ldc _ | .ldc_w _ => bif Nat.beq a 0 then go nx lc (vI v :: st) L σ else go nx lc (vC 0 b :: st) L σ
  | .lconst _ | .ldc2_w _ => go nx lc (vJ w :: st) L σ
  | .aconst_null => go nx lc (vR 99 none :: st) L σ
  | .iload _ | .iload_n _ => match lget lc a with
    | some (.inl x) => go nx lc (vI x :: st) L σ
    | _ => none
  | .lload _ | .lload_n _ => match lget lc a with
    | some (.inr (.inl x)) => go nx lc (vJ x :: st) L σ
    | _ => none
  | .aload _ | .aload_n _ => match lget lc a with
    | some (.inr (.inr x)) => go nx lc (.inr (.inr x) :: st) L σ
    | _ => none
  | .istore _ | .istore_n _ => match st with
    | .inl x :: r => bif lwid lc a then none else go nx (lput lc a (vI x)) r L σ
    | _ => none
  | .lstore _ | .lstore_n _ => match st with
    | .inr (.inl x) :: r => bif lwid lc a || Nat.ble lc.length (a + 1) then none else go nx (lclr (lput lc a (vJ x)) (a + 1)) r L σ
    | _ => none
  | .astore _ | .astore_n _ => match st with
    | .inr (.inr x) :: r => bif lwid lc a then none else go nx (lput lc a (.inr (.inr x))) r L σ
    | _ => none
  | .iinc _ _ => match lget lc a with
    | some (.inl x) => bif lwid lc a then none else go nx (lput lc a (vI (x + v))) st L σ
    | _ => none
  | .iadd => match st with
    | .inl y :: .inl x :: r => go nx lc (vI (x + y) :: r) L σ
    | _ => none
  | .isub => match st with
    | .inl y :: .inl x :: r => go nx lc (vI (x - y) :: r) L σ
    | _ => none
  | .imul => match st with
    | .inl y :: .inl x :: r => go nx lc (vI (x * y) :: r) L σ
    | _ => none
  | .idiv => match st with
    | .inl y :: .inl x :: r => (dv x y).bind fun z => go nx lc (vI z :: r) L σ
    | _ => none
  | .irem => match st with
    | .inl y :: .inl x :: r => (rm x y).bind fun z => go nx lc (vI z :: r) L σ
    | _ => none
  | .ineg => match st with
    | .inl x :: r => go nx lc (vI (-x) :: r) L σ
    | _ => none
  | .iand => match st with
    | .inl y :: .inl x :: r => go nx lc (vI (x &&& y) :: r) L σ
    | _ => none
  | .ior => match st with
    | .inl y :: .inl x :: r => go nx lc (vI (x ||| y) :: r) L σ
    | _ => none
  | .ishl => match st with
    | .inl y :: .inl x :: r => go nx lc (vI (x <<< (y &&& 31)) :: r) L σ
    | _ => none
  | .ishr => match st with
    | .inl y :: .inl x :: r => go nx lc (vI (x >>> (y &&& 31)) :: r) L σ
    | _ => none
  | .iushr => match st with
    | .inl y :: .inl x :: r => go nx lc (vI (x.toUInt32 >>> (y.toUInt32 &&& Int32.toUInt32 31)).toInt32 :: r) L σ
    | _ => none
  | .i2l => match st with
    | .inl x :: r => go nx lc (vJ x.toInt64 :: r) L σ
    | _ => none
  | .i2s => match st with
    | .inl x :: r => go nx lc (vI x.toInt16.toInt32 :: r) L σ
    | _ => none
  | .i2b => match st with
    | .inl x :: r => go nx lc (vI x.toInt8.toInt32 :: r) L σ
    | _ => none
  | .i2c => match st with
    | .inl x :: r => go nx lc (vI (x.toUInt32 % 65536).toInt32 :: r) L σ
    | _ => none
  | .l2i => match st with
    | .inr (.inl x) :: r => go nx lc (vI x.toInt32 :: r) L σ
    | _ => none
  | .ladd => match st with
    | .inr (.inl y) :: .inr (.inl x) :: r => go nx lc (vJ (x + y) :: r) L σ
    | _ => none
  | .lsub => match st with
    | .inr (.inl y) :: .inr (.inl x) :: r => go nx lc (vJ (x - y) :: r) L σ
    | _ => none
  | .land => match st with
    | .inr (.inl y) :: .inr (.inl x) :: r => go nx lc (vJ (x &&& y) :: r) L σ
    | _ => none
  | .lor => match st with
    | .inr (.inl y) :: .inr (.inl x) :: r => go nx lc (vJ (x ||| y) :: r) L σ
    | _ => none
  | .lshl => match st with
    | .inl y :: .inr (.inl x) :: r => go nx lc (vJ (x <<< (y.toInt64 &&& 63)) :: r) L σ
    | _ => none
  | .lshr => match st with
    | .inl y :: .inr (.inl x) :: r => go nx lc (vJ (x >>> (y.toInt64 &&& 63)) :: r) L σ
    | _ => none
  | .lushr => match st with
    | .inl y :: .inr (.inl x) :: r => go nx lc (vJ (x.toUInt64 >>> (y.toInt64.toUInt64 &&& Int64.toUInt64 63)).toInt64 :: r) L σ
    | _ => none
  | .lcmp => match st with
    | .inr (.inl y) :: .inr (.inl x) :: r => go nx lc (vI (lg_cmp x y) :: r) L σ
    | _ => none
  | .dup => match st with
    | .inl x :: r => go nx lc (vI x :: vI x :: r) L σ
    | .inr (.inr x) :: r => go nx lc (.inr (.inr x) :: .inr (.inr x) :: r) L σ
    | _ => none
  | .dup2 => match st with
    | .inl y :: .inr (.inr x) :: r => go nx lc (vI y :: .inr (.inr x) :: vI y :: .inr (.inr x) :: r) L σ
    | _ => none
  | .pop => match st with
    | .inl _ :: r => go nx lc r L σ
    | .inr (.inr _) :: r => go nx lc r L σ
    | _ => none
  | .goto _ => go a lc st L σ
  | .ifCond k _ => match st with
    | .inl x :: r => cmpc k x 0 (go a lc r L σ) (go nx lc r L σ)
    | _ => none
  | .if_icmp k _ => match st with
    | .inl y :: .inl x :: r => cmpc k x y (go a lc r L σ) (go nx lc r L σ)
    | _ => none
  | .ifnull _ => match st with
    | .inr (.inr (.inl q)) :: r => q.2.elim (go a lc r L σ) (fun _ => go nx lc r L σ)
    | _ => none
  | .ifnonnull _ => match st with
    | .inr (.inr (.inl q)) :: r => q.2.elim (go nx lc r L σ) (fun _ => go a lc r L σ)
    | _ => none
  | .tableswitch _ _ _ _ | .lookupswitch _ _ => match st with
    | .inl x :: r => swc x a (fun t => go t lc r L σ) sw
    | _ => none
  | .getfield _ => match st with
    | .inr (.inr (.inl q)) :: r => bif Nat.beq q.1 a && Nat.ble a 12 then q.2.bind fun x => go nx lc (fval a b σ x :: r) L σ else none
    | .inr (.inr (.inr q)) :: r => bif Nat.beq a 50 && Nat.beq q.1 0 then (bif Nat.beq b 0 then go nx lc (vC 1 q.2 :: r) L σ else go nx lc (vI 0 :: r) L σ) else none
    | _ => none
  | .getstatic _ => bif Nat.beq a 0 then go nx lc (vI v :: st) L σ else go nx lc (vC c b :: st) L σ
  | .putfield _ => match st with
    | y :: .inr (.inr (.inl q)) :: r => bif fl.2 then none else bif Nat.beq q.1 a then q.2.bind fun x => (fput a b σ x y).bind fun σ' => go nx lc r L σ' else none
    | _ => none
  | .iaload => match st with
    | .inl i :: .inr (.inr (.inl q)) :: r => bif Nat.beq q.1 20 then q.2.bind fun x => (rI L σ x i).bind fun y => go nx lc (vI y :: r) L σ else none
    | .inl i :: .inr (.inr (.inr q)) :: r => bif Nat.beq q.1 2 then (rC 2 q.2 i).bind fun y => go nx lc (vI y :: r) L σ else none
    | _ => none
  | .saload => match st with
    | .inl i :: .inr (.inr (.inl q)) :: r => bif Nat.beq q.1 21 then q.2.bind fun x => (rI L σ x i).bind fun y => go nx lc (vI y :: r) L σ else none
    | _ => none
  | .baload => match st with
    | .inl i :: .inr (.inr (.inl q)) :: r => bif Nat.beq q.1 22 then q.2.bind fun x => (rI L σ x i).bind fun y => go nx lc (vI y :: r) L σ else none
    | .inl i :: .inr (.inr (.inr q)) :: r => bif Nat.beq q.1 1 then (rC 1 q.2 i).bind fun y => go nx lc (vI y :: r) L σ else none
    | _ => none
  | .aaload => match st with
    | .inl i :: .inr (.inr (.inl q)) :: r => bif Nat.ble 23 q.1 && Nat.ble q.1 25 then q.2.bind fun x => (rR L σ x i).bind fun y => go nx lc (vR (etg q.1) y :: r) L σ else none
    | _ => none
  | .iastore => match st with
    | .inl y :: .inl i :: .inr (.inr (.inl q)) :: r => bif fl.2 then none else bif Nat.beq q.1 20 then q.2.bind fun x => (wI L σ x i y).bind fun σ' => go nx lc r L σ' else none
    | _ => none
  | .sastore => match st with
    | .inl y :: .inl i :: .inr (.inr (.inl q)) :: r => bif fl.2 then none else bif Nat.beq q.1 21 then q.2.bind fun x => (wI L σ x i (nSh y)).bind fun σ' => go nx lc r L σ' else none
    | _ => none
  | .bastore => match st with
    | .inl y :: .inl i :: .inr (.inr (.inl q)) :: r => bif fl.2 then none else bif Nat.beq q.1 22 then q.2.bind fun x => (wI L σ x i (nBo y)).bind fun σ' => go nx lc r L σ' else none
    | _ => none
  | .aastore => match st with
    | .inr (.inr (.inl z)) :: .inl i :: .inr (.inr (.inl q)) :: r => bif fl.2 then none else bif Nat.ble 23 q.1 && Nat.ble q.1 25 && Nat.beq z.1 (etg q.1) then q.2.bind fun x => z.2.bind fun y => (wR L σ x i (some y)).bind fun σ' => go nx lc r L σ' else none
    | _ => none
  | .arraylength => match st with
    | .inr (.inr (.inl q)) :: r => bif Nat.ble 20 q.1 && Nat.ble q.1 25 then q.2.bind fun x => go nx lc (vI (nI (L.2.1 x)) :: r) L σ else none
    | .inr (.inr (.inr q)) :: r => bif Nat.beq q.1 1 then go nx lc (vI (nI (cal 1 q.2).length) :: r) L σ else none
    | _ => none
  | .new _ => bif fl.1 then none else bif fl.2 then none else (al L σ a 0 (nf a)).bind fun q => go nx lc (vR a (some q.1) :: st) q.2.1 q.2.2
  | .newarray _ | .anewarray _ => match st with
    | .inl n :: r => bif fl.1 then none else bif fl.2 then none else if n = nI b then (al L σ a b b).bind fun q => go nx lc (vR a (some q.1) :: r) q.2.1 q.2.2 else none
    | _ => none
  | .invokestatic _ => bif Nat.beq a 1 then (match st with
      | .inl n :: .inl j :: .inr (.inr (.inl q')) :: .inl i :: .inr (.inr (.inl q)) :: r => bif fl.2 then none else bif Nat.beq q.1 21 && Nat.beq q'.1 21 && Nat.ble (catl r) 8 then q.2.bind fun x => q'.2.bind fun y => if okC L σ x i y j n = true then go nx lc r L (cpS σ x i y j n) else none else none
      | _ => none) else bif Nat.beq a 1000 then (match st with
      | .inl y :: .inl x :: r => bif Nat.ble (catl r) 8 then go nx lc (vI (if x < y then y else x) :: r) L σ else none
      | _ => none) else bif Nat.beq a 1001 then (match st with
      | .inl y :: .inl x :: r => bif Nat.ble (catl r) 8 then go nx lc (vI (if y < x then y else x) :: r) L σ else none
      | _ => none) else match spl b [] st with
    | some (as, r) => bif Nat.ble (catl r) 8 then cl a L σ as (fun q L' σ' => go nx lc (psh q r) L' σ') else none
    | none => none
  | .invokevirtual _ => match spl b [] st with
    | some (as, .inr (.inr (.inl q)) :: r) => bif Nat.beq q.1 c && Nat.ble c 12 && Nat.ble (catl r) 8 then q.2.bind fun x => cl a L σ (vR q.1 (some x) :: as) (fun q L' σ' => go nx lc (psh q r) L' σ') else none
    | some (as, .inr (.inr (.inr q)) :: r) => bif Nat.beq c 50 && Nat.beq q.1 0 && Nat.ble (catl r) 8 then cl a L σ (vC 0 q.2 :: as) (fun q L' σ' => go nx lc (psh q r) L' σ') else none
    | _ => none
  | .invokespecial _ => bif Nat.beq a 0 then (match st with
      | .inr (.inr (.inl q)) :: r => bif Nat.ble (catl r) 8 then q.2.bind fun _ => go nx lc r L σ else none
      | _ => none) else match spl b [] st with
    | some (as, .inr (.inr (.inl q)) :: r) => bif Nat.beq q.1 c && Nat.ble c 12 && Nat.ble (catl r) 8 then q.2.bind fun x => cl a L σ (vR q.1 (some x) :: as) (fun q L' σ' => go nx lc (psh q r) L' σ') else none
    | _ => none
  | .ireturn => match st with
    | [.inl x] => bif Nat.beq rt.1 0 then Rk (some (vI x)) L σ else bif Nat.ble rt.1 4 then (ckN rt.1 x).bind fun _ => Rk (some (vI x)) L σ else none
    | _ => none
  | .areturn => match st with
    | [.inr (.inr (.inl q))] => bif Nat.beq rt.1 5 then (bif Nat.beq q.1 rt.2 then Rk (some (vR rt.2 q.2)) L σ else q.2.elim (Rk (some (vR rt.2 none)) L σ) (fun _ => none)) else none
    | _ => none
  | .return_ => match st with
    | [] => bif Nat.beq rt.1 6 then Rk none L σ else none
    | _ => none
  | _ => none
def ex {O : Type} (tb : Nat → TI) (sp : Nat → Bool) (rt : Nat × Nat) (fl : Bool × Bool) (cl : CLT O) (K : GOT O) (Rk : RKT O) : Nat → GOT O
  | 0 => fun _ _ _ _ _ => none
  | n + 1 => stp tb rt fl cl Rk (fun pc lc st L σ => bif sp pc then K pc lc st L σ else ex tb sp rt fl cl K Rk n pc lc st L σ)
