/-! A SMALL MACHINE: what a method's code does to numbers alone. A reference is a role (a place in zSh); the world's numbers are a pair of functions. -/
abbrev zF : Type := Nat → Nat → Int32
abbrev zL : Type := Nat → Nat → Int64
abbrev zS : Type := zF × zL
/-- an instruction, read ahead: (instr, next pc, a, b, c, e, place of its word, int, long, targets) -/
abbrev zOp : Type := Instr × Nat × Nat × Nat × Nat × Nat × Nat × Int32 × Int64 × List (Int32 × Nat)
abbrev zLo : Type := List (Option Value)
abbrev zPo : Type := Option Value → zS → Prop
abbrev zCa : Type := Nat → List Value → zS → zPo → Prop
abbrev zX : Type := Nat → zLo → List Value → zS → Prop
def zK (r : Nat) : zKd := zSh.getD r (9, 0, [])
def zIsO (r ci : Nat) : Bool := Nat.beq (zK r).1 0 && Nat.beq (zK r).2.1 ci
def zSl (r j : Nat) : Nat × Nat := (zK r).2.2.getD j (9, 0)
def zTo (r j : Nat) : Nat := (zSl r j).2
def zIsI (r : Nat) : Bool := Nat.beq (zK r).1 1
def zIsJ (r : Nat) : Bool := Nat.beq (zK r).1 2
def zN (r : Nat) : Nat := (zK r).2.1
def zG (b : Bool) (P : Prop) : Prop := match b with
  | true => P
  | false => False
def zSI (σ : zS) (r j : Nat) (x : Int32) : zS := (fun a => if a = r then upd (σ.1 a) j x else σ.1 a, σ.2)
def zSJ (σ : zS) (r j : Nat) (x : Int64) : zS := (σ.1, fun a => if a = r then vp_updL (σ.2 a) j x else σ.2 a)
def zSR (σ : zS) (r : Nat) (f : Nat → Int32) : zS := (fun a => if a = r then f else σ.1 a, σ.2)
-- what is taken off the stack
def zI (st : List Value) (k : Int32 → List Value → Prop) : Prop := match st with
  | .int x :: r => k x r
  | _ => False
def zJ (st : List Value) (k : Int64 → List Value → Prop) : Prop := match st with
  | .long x :: r => k x r
  | _ => False
def zA (st : List Value) (k : Nat → List Value → Prop) : Prop := match st with
  | .ref x :: r => k x r
  | _ => False
def zII (st : List Value) (k : Int32 → Int32 → List Value → Prop) : Prop := zI st fun y r => zI r fun x r => k x y r
def zJJ (st : List Value) (k : Int64 → Int64 → List Value → Prop) : Prop := zJ st fun y r => zJ r fun x r => k x y r
def zAI (st : List Value) (k : Nat → Int32 → List Value → Prop) : Prop := zI st fun i r => zA r fun a r => k a i r
def zCat : Value → Nat
  | .long _ => 2
  | .double _ => 2
  | _ => 1
def zV1 (st : List Value) (k : Value → List Value → Prop) : Prop := match st with
  | v :: r => zG (Nat.beq (zCat v) 1) (k v r)
  | _ => False
def zLg (ls : zLo) (i : Nat) (k : Value → Prop) : Prop := match ls.getD i none with
  | some v => k v
  | none => False
def zLi (ls : zLo) (i : Nat) (k : Int32 → Prop) : Prop := zLg ls i fun v => match v with
  | .int x => k x
  | _ => False
def zLj (ls : zLo) (i : Nat) (k : Int64 → Prop) : Prop := zLg ls i fun v => match v with
  | .long x => k x
  | _ => False
def zLa (ls : zLo) (i : Nat) (k : Nat → Prop) : Prop := zLg ls i fun v => match v with
  | .ref x => k x
  | _ => False
def zNo2 : Option Value → Option Value
  | some (.long _) => none
  | some (.double _) => none
  | o => o
def zS1 (v : Value) : zLo → Nat → zLo
  | [], _ => []
  | _ :: r, 0 => some v :: r
  | o :: r, 1 => zNo2 o :: zS1 v r 0
  | o :: r, i + 2 => o :: zS1 v r (i + 1)
def zS2 (v : Value) : zLo → Nat → zLo
  | [], _ => []
  | [_], _ => [none]
  | _ :: _ :: r, 0 => some v :: none :: r
  | o :: r, 1 => zNo2 o :: zS2 v r 0
  | o :: r, i + 2 => o :: zS2 v r (i + 1)
def zAr : List Value → zLo
  | [] => []
  | v :: r => match zCat v with
    | 2 => some v :: none :: zAr r
    | _ => some v :: zAr r
def zPn : Nat → List Value → List Value → (List Value → List Value → Prop) → Prop
  | 0, acc, st, k => k acc st
  | _ + 1, _, [], _ => False
  | n + 1, acc, v :: st, k => zPn n (v :: acc) st k
def zRc (av : List Value) (ci : Nat) : Bool := match av with
  | .ref r :: _ => zIsO r ci
  | _ => false
def zW8 : List Value → Nat
  | [] => 0
  | v :: r => zCat v + zW8 r
-- what a call hands back
def zPI (k : Int32 → zS → Prop) : zPo := fun r σ => ∃ x : Int32, r = some (.int x) ∧ k x σ
def zPJ (k : Int64 → zS → Prop) : zPo := fun r σ => ∃ x : Int64, r = some (.long x) ∧ k x σ
def zPV (k : zS → Prop) : zPo := fun r σ => r = none ∧ k σ
def zTb (x : Int32) (X : Nat → Prop) (d : Nat) : List (Int32 × Nat) → Prop
  | [] => X d
  | q :: r => (x = q.1 → X q.2) ∧ (¬ x = q.1 → zTb x X d r)
def zRI (st : List Value) (k : Int32 → Prop) : Prop := match st with
  | [.int x] => k x
  | _ => False
def zRJ (st : List Value) (k : Int64 → Prop) : Prop := match st with
  | [.long x] => k x
  | _ => False
def zRV (st : List Value) (k : Prop) : Prop := match st with
  | [] => k
  | _ => False
def zIf (c : Prop) (A B : Prop) : Prop := (c → A) ∧ (¬ c → B)
def zIl (sc : Option (Nat × (Nat → Int32))) (σ : zS) (q : Nat) (i : Int32) (k : Int32 → Prop) : Prop := match zIsI q with
  | true => vp_in i (zN q) ∧ k (σ.1 q i.toNatClampNeg)
  | false => match sc with
    | some s => zG (Nat.beq q 80) (vp_in i s.1 ∧ k (s.2 i.toNatClampNeg))
    | none => False
def zLe (sc : Option (Nat × (Nat → Int32))) (q : Nat) (k : Int32 → Prop) : Prop := match zIsI q || zIsJ q with
  | true => k (nI (zN q))
  | false => match sc with
    | some s => zG (Nat.beq q 80) (k (nI s.1))
    | none => False
/-- one instruction -/
def zEx (sc : Option (Nat × (Nat → Int32))) (C : zCa) (post : zPo) (X : zX) (o : zOp) (ls : zLo) (st : List Value) (σ : zS) : Prop := match o with
  | (i, n, a, b, c, e, _, v, w, tb) => match i with
    | .iconst _ => X n ls (.int v :: st) σ
    | .bipush _ => X n ls (.int v :: st) σ
    | .sipush _ => X n ls (.int v :: st) σ
    | .ldc _ => X n ls (.int v :: st) σ
    | .lconst _ => X n ls (.long w :: st) σ
    | .ldc2_w _ => X n ls (.long w :: st) σ
    | .iload_n _ => zLi ls a fun x => X n ls (.int x :: st) σ
    | .iload _ => zLi ls a fun x => X n ls (.int x :: st) σ
    | .lload_n _ => zLj ls a fun x => X n ls (.long x :: st) σ
    | .lload _ => zLj ls a fun x => X n ls (.long x :: st) σ
    | .aload_n _ => zLa ls a fun x => X n ls (.ref x :: st) σ
    | .aload _ => zLa ls a fun x => X n ls (.ref x :: st) σ
    | .istore_n _ => zI st fun x r => zG (Nat.blt a ls.length) (X n (zS1 (.int x) ls a) r σ)
    | .istore _ => zI st fun x r => zG (Nat.blt a ls.length) (X n (zS1 (.int x) ls a) r σ)
    | .lstore_n _ => zJ st fun x r => zG (Nat.blt (a + 1) ls.length) (X n (zS2 (.long x) ls a) r σ)
    | .lstore _ => zJ st fun x r => zG (Nat.blt (a + 1) ls.length) (X n (zS2 (.long x) ls a) r σ)
    | .astore_n _ => zA st fun x r => zG (Nat.blt a ls.length) (X n (zS1 (.ref x) ls a) r σ)
    | .iinc _ _ => zLi ls a fun x => X n (zS1 (.int (x + v)) ls a) st σ
    | .iadd => zII st fun x y r => X n ls (.int (x + y) :: r) σ
    | .isub => zII st fun x y r => X n ls (.int (x - y) :: r) σ
    | .imul => zII st fun x y r => X n ls (.int (x * y) :: r) σ
    | .iand => zII st fun x y r => X n ls (.int (x &&& y) :: r) σ
    | .ishl => zII st fun x y r => X n ls (.int (x <<< (y &&& 31)) :: r) σ
    | .ishr => zII st fun x y r => X n ls (.int (x >>> (y &&& 31)) :: r) σ
    | .idiv => zII st fun x y r => ¬ y = 0 ∧ X n ls (.int (x / y) :: r) σ
    | .irem => zII st fun x y r => ¬ y = 0 ∧ X n ls (.int (x - x / y * y) :: r) σ
    | .ineg => zI st fun x r => X n ls (.int (-x) :: r) σ
    | .ladd => zJJ st fun x y r => X n ls (.long (x + y) :: r) σ
    | .lsub => zJJ st fun x y r => X n ls (.long (x - y) :: r) σ
    | .lmul => zJJ st fun x y r => X n ls (.long (x * y) :: r) σ
    | .ldiv => zJJ st fun x y r => ¬ y = 0 ∧ X n ls (.long (x / y) :: r) σ
    | .lcmp => zJJ st fun x y r => X n ls (.int (lg_cmp x y) :: r) σ
    | .i2l => zI st fun x r => X n ls (.long x.toInt64 :: r) σ
    | .l2i => zJ st fun x r => X n ls (.int x.toInt32 :: r) σ
    | .dup => zV1 st fun v r => X n ls (v :: v :: r) σ
    | .pop => zV1 st fun _ r => X n ls r σ
    | .dup2 => zV1 st fun v r => zV1 r fun u r => X n ls (v :: u :: v :: u :: r) σ
    | .ifCond .eq _ => zI st fun x r => zIf (x = 0) (X a ls r σ) (X n ls r σ)
    | .ifCond .ne _ => zI st fun x r => zIf (x = 0) (X n ls r σ) (X a ls r σ)
    | .ifCond .lt _ => zI st fun x r => zIf (x < 0) (X a ls r σ) (X n ls r σ)
    | .ifCond .ge _ => zI st fun x r => zIf (x < 0) (X n ls r σ) (X a ls r σ)
    | .ifCond .gt _ => zI st fun x r => zIf (x ≤ 0) (X n ls r σ) (X a ls r σ)
    | .ifCond .le _ => zI st fun x r => zIf (x ≤ 0) (X a ls r σ) (X n ls r σ)
    | .if_icmp .eq _ => zII st fun x y r => zIf (x = y) (X a ls r σ) (X n ls r σ)
    | .if_icmp .ne _ => zII st fun x y r => zIf (x = y) (X n ls r σ) (X a ls r σ)
    | .if_icmp .lt _ => zII st fun x y r => zIf (x < y) (X a ls r σ) (X n ls r σ)
    | .if_icmp .ge _ => zII st fun x y r => zIf (x < y) (X n ls r σ) (X a ls r σ)
    | .if_icmp .gt _ => zII st fun x y r => zIf (x ≤ y) (X n ls r σ) (X a ls r σ)
    | .if_icmp .le _ => zII st fun x y r => zIf (x ≤ y) (X a ls r σ) (X n ls r σ)
    | .goto _ => X a ls st σ
    | .tableswitch _ _ _ _ => zI st fun x r => zTb x (fun p => X p ls r σ) a tb
    | .lookupswitch _ _ => zI st fun x r => zTb x (fun p => X p ls r σ) a tb
    | .getfield _ => zA st fun q r => zG (zIsO q a && Nat.beq (zSl q b).1 c) (match c with
      | 0 => X n ls (.ref (zTo q b) :: r) σ
      | 1 => X n ls (.int (σ.1 q b) :: r) σ
      | 2 => X n ls (.int (σ.1 q b) :: r) σ
      | 3 => X n ls (.long (σ.2 q b) :: r) σ
      | _ => False)
    | .putfield _ => match c with
      | 1 => zI st fun x r => zA r fun q r => zG (zIsO q a && Nat.beq (zSl q b).1 1) (X n ls r (zSI σ q b x))
      | 2 => zI st fun x r => zA r fun q r => zG (zIsO q a && Nat.beq (zSl q b).1 2) (zG (x == 0 || x == 1) (X n ls r (zSI σ q b x)))
      | 3 => zJ st fun x r => zA r fun q r => zG (zIsO q a && Nat.beq (zSl q b).1 3) (X n ls r (zSJ σ q b x))
      | _ => False
    | .iaload => zAI st fun q i r => zIl sc σ q i fun x => X n ls (.int x :: r) σ
    | .laload => zAI st fun q i r => zG (zIsJ q) (vp_in i (zN q) ∧ X n ls (.long (σ.2 q i.toNatClampNeg) :: r) σ)
    | .iastore => zI st fun x r => zAI r fun q i r => zG (zIsI q) (vp_in i (zN q) ∧ X n ls r (zSI σ q i.toNatClampNeg x))
    | .lastore => zJ st fun x r => zAI r fun q i r => zG (zIsJ q) (vp_in i (zN q) ∧ X n ls r (zSJ σ q i.toNatClampNeg x))
    | .arraylength => zA st fun q r => zLe sc q fun x => X n ls (.int x :: r) σ
    | .invokevirtual _ => zPn b [] st fun av r => zG (zRc av e && Nat.ble (zW8 r) 8) (match c with
      | 0 => C a av σ (zPV fun σ => X n ls r σ)
      | 1 => C a av σ (zPI fun x σ => X n ls (.int x :: r) σ)
      | _ => C a av σ (zPJ fun x σ => X n ls (.long x :: r) σ))
    | .invokestatic _ => match e with
      | 0 => zPn b [] st fun av r => zG (Nat.ble (zW8 r) 8) (match c with
        | 0 => C a av σ (zPV fun σ => X n ls r σ)
        | 1 => C a av σ (zPI fun x σ => X n ls (.int x :: r) σ)
        | _ => C a av σ (zPJ fun x σ => X n ls (.long x :: r) σ))
      | 1 => zII st fun x y r => zG (Nat.ble (zW8 r) 8) (X n ls (.int (if x < y then y else x) :: r) σ)
      | 2 => zII st fun x y r => zG (Nat.ble (zW8 r) 8) (X n ls (.int (if y < x then y else x) :: r) σ)
      | 3 => zI st fun x r => zG (Nat.ble (zW8 r) 8) (X n ls (.int (if 0 ≤ x then x else 0 - x) :: r) σ)
      | _ => False
    | .ireturn => zRI st fun x => match c with
      | 1 => zG (x == 0 || x == 1) (post (some (.int x)) σ)
      | _ => post (some (.int x)) σ
    | .lreturn => zRJ st fun x => post (some (.long x)) σ
    | .return_ => zRV st (post none σ)
    | _ => False
/-! what a program checks of the code -/
def zTbOk (pc : Nat) : Int → List Int → List (Int32 × Nat) → Bool
  | _, [], [] => true
  | k, o :: os, q :: tb => decide (q.1.toInt = k) && decide ((pc : Int) + o = (q.2 : Int)) && zTbOk pc (k + 1) os tb
  | _, _, _ => false
def zLkOk (pc : Nat) : List (Int × Int) → List (Int32 × Nat) → Bool
  | [], [] => true
  | o :: os, q :: tb => decide (q.1.toInt = o.1) && decide ((pc : Int) + o.2 = (q.2 : Int)) && zLkOk pc os tb
  | _, _ => false
def zRk (r : Option FieldType) (c : Nat) : Bool := match r, c with
  | none, 0 => true
  | some .int, 1 => true
  | some .boolean, 1 => true
  | some .long, 2 => true
  | _, _ => false
def zKt : Nat → FieldType
  | 1 => .int
  | 2 => .boolean
  | _ => .long
def zFl (own : String) (idx a b g : Nat) : Bool := decide (lw_tbl[g]? = some (.fieldLink own idx ((zCl a).2.1 b).1 ((zCl a).2.1 b).2.1 ((zCl a).2.1 b).2.2.1))
def zFn (own : String) (idx a b g : Nat) : Bool := decide (lw_tbl[g]? = some (.fieldLinkNest own idx ((zCl a).2.1 b).1 ((zCl a).2.1 b).2.1 ((zCl a).2.1 b).2.2.1 "RatePlanner"))
/-- the code at a place is this instruction, read ahead -/
def zOk (mi pc : Nat) (o : zOp) : Bool := match o with
  | (i, n, a, b, c, e, g, v, w, tb) => Nat.blt pc n && decide (decode (zBy mi) pc = .ok (i, n - pc)) && (match i with
    | .iconst z => Nat.beq (n - pc) 1 && decide (Int32.ofInt z = v)
    | .bipush z => Nat.beq (n - pc) 2 && decide ((Int8.ofInt z).toInt32 = v)
    | .sipush z => Nat.beq (n - pc) 3 && decide ((Int16.ofInt z).toInt32 = v)
    | .ldc idx => Nat.beq (n - pc) 2 && decide (lw_tbl[g]? = some (.constant (zY mi).cls idx v))
    | .lconst z => Nat.beq (n - pc) 1 && decide (Int64.ofNat (z : Nat) = w)
    | .ldc2_w idx => Nat.beq (n - pc) 3 && decide (lw_tbl[g]? = some (.constantLong (zY mi).cls idx w))
    | .iload_n k => Nat.beq (n - pc) 1 && Nat.beq k.val a
    | .iload k => Nat.beq (n - pc) 2 && Nat.beq k a
    | .lload_n k => Nat.beq (n - pc) 1 && Nat.beq k.val a
    | .lload k => Nat.beq (n - pc) 2 && Nat.beq k a
    | .aload_n k => Nat.beq (n - pc) 1 && Nat.beq k.val a
    | .aload k => Nat.beq (n - pc) 2 && Nat.beq k a
    | .istore_n k => Nat.beq (n - pc) 1 && Nat.beq k.val a
    | .istore k => Nat.beq (n - pc) 2 && Nat.beq k a
    | .lstore_n k => Nat.beq (n - pc) 1 && Nat.beq k.val a
    | .lstore k => Nat.beq (n - pc) 2 && Nat.beq k a
    | .astore_n k => Nat.beq (n - pc) 1 && Nat.beq k.val a
    | .iinc k z => Nat.beq (n - pc) 3 && Nat.beq k a && decide (Int32.ofInt z = v)
    | .ifCond _ off => Nat.beq (n - pc) 3 && decide ((pc : Int) + off = (a : Int))
    | .if_icmp _ off => Nat.beq (n - pc) 3 && decide ((pc : Int) + off = (a : Int))
    | .goto off => Nat.beq (n - pc) 3 && decide ((pc : Int) + off = (a : Int))
    | .tableswitch d lo hi offs => decide ((pc : Int) + d = (a : Int)) && decide (hi = lo + (offs.toList.length : Int) - 1) && zTbOk pc lo offs.toList tb
    | .lookupswitch d ps => decide ((pc : Int) + d = (a : Int)) && (ps.toList.zip (ps.toList.drop 1)).all (fun (x, y) => x.1 < y.1) && zLkOk pc ps.toList tb
    | .getfield idx => Nat.beq (n - pc) 3 && Nat.blt a 12 && Nat.blt b (zCl a).2.2 && (zFl (zY mi).cls idx a b g || zFn (zY mi).cls idx a b g)
    | .putfield idx => Nat.beq (n - pc) 3 && Nat.blt a 12 && Nat.blt b (zCl a).2.2 && zFl (zY mi).cls idx a b g && !((zCl a).2.1 b).2.2.2 && decide (parseFieldDescriptor ((zCl a).2.1 b).2.2.1 = some (zKt c))
    | .invokevirtual idx => Nat.beq (n - pc) 3 && Nat.blt a 85 && !(Nat.beq a nL_law) && !(zMs a) && Nat.beq e (zMc a) && !(decide ((zY a).name = "<init>")) && Nat.blt 0 b && decide ((parseMethodDescriptor (zY a).desc).map (fun d => d.parameters.length) = some (b - 1)) && zRk (zRt a) c &&
      (decide (lw_tbl[g]? = some (.methodLink (zY mi).cls idx (zY a))) || decide (lw_tbl[g]? = some (.methodLinkNest (zY mi).cls idx (zY a) "RatePlanner")))
    | .invokestatic idx => Nat.beq (n - pc) 3 && (match e with
      | 0 => Nat.blt a 85 && !(Nat.beq a nL_law) && zMs a && decide ((parseMethodDescriptor (zY a).desc).map (fun d => d.parameters.length) = some b) && zRk (zRt a) c &&
        (decide (lw_tbl[g]? = some (.methodLink (zY mi).cls idx (zY a))) || decide (lw_tbl[g]? = some (.methodLinkNest (zY mi).cls idx (zY a) "RatePlanner")))
      | 1 => decide (lw_tbl[g]? = some (.methodLink (zY mi).cls idx Lib.Math.max.name))
      | 2 => decide (lw_tbl[g]? = some (.methodLink (zY mi).cls idx Lib.Math.min.name))
      | 3 => decide (lw_tbl[g]? = some (.methodLink (zY mi).cls idx Lib.Math.abs.name))
      | _ => false)
    | .ireturn => Nat.beq (n - pc) 1 && (match zRt mi, c with
      | some .int, 0 => true
      | some .boolean, 1 => true
      | _, _ => false)
    | .lreturn => Nat.beq (n - pc) 1 && decide (zRt mi = some .long)
    | .return_ => Nat.beq (n - pc) 1 && decide (zRt mi = none)
    | _ => Nat.beq (n - pc) 1)
def zOks (mi : Nat) : List zOp → Nat → Bool
  | [], _ => true
  | o :: r, p => zOk mi p o && zOks mi r o.2.1
