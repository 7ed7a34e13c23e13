/-! the tables as the small machine reads them, and what a program checks of them -/
def zMe (mi : Nat) : zMr := zMt.getD mi (⟨"", "", ""⟩, ⟨#[]⟩, 0, none, 99, false, 0, 0, 0, 0)
def zY (mi : Nat) : MethodName := (zMe mi).1
def zBy (mi : Nat) : ByteArray := (zMe mi).2.1
def zMl (mi : Nat) : Nat := (zMe mi).2.2.1
def zRt (mi : Nat) : Option FieldType := (zMe mi).2.2.2.1
def zMc (mi : Nat) : Nat := (zMe mi).2.2.2.2.1
def zMs (mi : Nat) : Bool := (zMe mi).2.2.2.2.2.1
def zP1 (mi : Nat) : Nat := (zMe mi).2.2.2.2.2.2.1
def zP2 (mi : Nat) : Nat := (zMe mi).2.2.2.2.2.2.2.1
def zP3 (mi : Nat) : Nat := (zMe mi).2.2.2.2.2.2.2.2.1
def zP4 (mi : Nat) : Nat := (zMe mi).2.2.2.2.2.2.2.2.2
def zCl (a : Nat) : vw_C := vwCl.getD a ("", fun _ => ("", "", "", false), 0)
def zNst : Cond → Bool
  | .methodLinkNest .. => true
  | .fieldLinkNest .. => true
  | _ => false
def zTg : List Cond := lw_tbl.filter goodWord
def zNw : List Cond := lw_tbl.filter zNst
theorem zin (p : Nat) {w : Cond} (h : lw_tbl[p]? = some w) (hg : goodWord w = true) : w ∈ zTg := List.mem_filter.mpr ⟨List.mem_of_getElem? h, hg⟩
theorem zinN (p : Nat) {w : Cond} (h : lw_tbl[p]? = some w) (hg : zNst w = true) : w ∈ zNw := List.mem_filter.mpr ⟨List.mem_of_getElem? h, hg⟩
theorem zTg_good {w : Cond} (h : w ∈ zTg) : w ∈ lw_tbl ∧ ((w.onTables && w.keeps) = true ∨ ∃ ty, w = .arrayClass ty) := ⟨(List.mem_filter.mp h).1, good_of_word (List.mem_filter.mp h).2⟩
def zNoH (y : MethodName) : Bool := decide (y.cls ≠ "java/lang/invoke/MethodHandle") && decide (y.cls ≠ "java/lang/invoke/VarHandle")
/-- a method's own row is true -/
def zMv (mi : Nat) : Bool := decide (lw_tbl[zP1 mi]? = some (.code (zY mi) (zBy mi) (zMl mi) (zRt mi))) && decide (lw_tbl[zP4 mi]? = some (.initialized (zY mi).cls)) && zNoH (zY mi) && plainName (zY mi).cls && Nat.ble (zMl mi) 13 &&
  (match zMs mi with
  | true => decide (lw_tbl[zP2 mi]? = some (.static (zY mi)))
  | false => decide (lw_tbl[zP2 mi]? = some (.instanceMethod (zY mi))) && (decide ((zY mi).name = "<init>") || decide (lw_tbl[zP3 mi]? = some (.selects (zY mi).cls (zY mi) (zY mi)))) && Nat.blt (zMc mi) 13 && decide ((zCl (zMc mi)).1 = (zY mi).cls))
/-- a class's row is true -/
def zCv (q : vw_C) : Bool := (u_ws q.1 q.2.1 q.2.2).all (fun w => decide (w ∈ lw_tbl) && goodWord w) && (List.range q.2.2).all fun k => (parseFieldDescriptor (q.2.1 k).2.2.1).isSome && (List.range q.2.2).all fun j => Nat.beq j k || decide ((q.2.1 j).2.1 ≠ (q.2.1 k).2.1)
def zTbOk (pc : Nat) : Int → List Int → List (Int32 × Nat) → Bool
  | _, [], [] => true
  | k, o :: os, q :: tb => decide (q.1.toInt = k) && decide ((pc : Int) + o = (q.2 : Int)) && zTbOk pc (k + 1) os tb
  | _, _, _ => false
def zLkOk (pc : Nat) : List (Int × Int) → List (Int32 × Nat) → Bool
  | [], [] => true
  | o :: os, q :: tb => decide (q.1.toInt = o.1) && decide ((pc : Int) + o.2 = (q.2 : Int)) && zLkOk pc os tb
  | _, _ => false
def zRk (r : Option FieldType) (c : Nat) : Bool := match r, c with
  | none, 0 => true
  | some .int, 1 => true
  | some .boolean, 1 => true
  | some .long, 2 => true
  | _, _ => false
def zKt : Nat → FieldType
  | 1 => .int
  | 2 => .boolean
  | _ => .long
def zFl (own : String) (idx a b g : Nat) : Bool := decide (lw_tbl[g]? = some (.fieldLink own idx ((zCl a).2.1 b).1 ((zCl a).2.1 b).2.1 ((zCl a).2.1 b).2.2.1))
def zFn (own : String) (idx a b g : Nat) : Bool := decide (lw_tbl[g]? = some (.fieldLinkNest own idx ((zCl a).2.1 b).1 ((zCl a).2.1 b).2.1 ((zCl a).2.1 b).2.2.1 "RatePlanner"))
/-- the code at a place is this instruction, read ahead -/
def zOk (mi pc : Nat) (o : zOp) : Bool := match o with
  | (i, n, a, b, c, e, g, v, w, tb) => Nat.blt pc n && decide (decode (zBy mi) pc = .ok (i, n - pc)) && (match i with
    | .iconst z => Nat.beq (n - pc) 1 && decide (Int32.ofInt z = v)
    | .bipush z => Nat.beq (n - pc) 2 && decide ((Int8.ofInt z).toInt32 = v)
    | .sipush z => Nat.beq (n - pc) 3 && decide ((Int16.ofInt z).toInt32 = v)
    | .ldc idx => Nat.beq (n - pc) 2 && decide (lw_tbl[g]? = some (.constant (zY mi).cls idx v))
    | .lconst z => Nat.beq (n - pc) 1 && decide (Int64.ofNat (z : Nat) = w)
    | .ldc2_w idx => Nat.beq (n - pc) 3 && decide (lw_tbl[g]? = some (.constantLong (zY mi).cls idx w))
    | .iload_n k => Nat.beq (n - pc) 1 && Nat.beq k.val a
    | .iload k => Nat.beq (n - pc) 2 && Nat.beq k a
    | .lload_n k => Nat.beq (n - pc) 1 && Nat.beq k.val a
    | .lload k => Nat.beq (n - pc) 2 && Nat.beq k a
    | .aload_n k => Nat.beq (n - pc) 1 && Nat.beq k.val a
    | .aload k => Nat.beq (n - pc) 2 && Nat.beq k a
    | .istore_n k => Nat.beq (n - pc) 1 && Nat.beq k.val a
    | .istore k => Nat.beq (n - pc) 2 && Nat.beq k a
    | .lstore_n k => Nat.beq (n - pc) 1 && Nat.beq k.val a
    | .lstore k => Nat.beq (n - pc) 2 && Nat.beq k a
    | .iinc k z => Nat.beq (n - pc) 3 && Nat.beq k a && decide (Int32.ofInt z = v)
    | .ifCond _ off => Nat.beq (n - pc) 3 && decide ((pc : Int) + off = (a : Int))
    | .if_icmp _ off => Nat.beq (n - pc) 3 && decide ((pc : Int) + off = (a : Int))
    | .goto off => Nat.beq (n - pc) 3 && decide ((pc : Int) + off = (a : Int))
    | .tableswitch d lo hi offs => decide ((pc : Int) + d = (a : Int)) && decide (hi = lo + (offs.toList.length : Int) - 1) && zTbOk pc lo offs.toList tb
    | .lookupswitch d ps => decide ((pc : Int) + d = (a : Int)) && (ps.toList.zip (ps.toList.drop 1)).all (fun (x, y) => x.1 < y.1) && zLkOk pc ps.toList tb
    | .getfield idx => Nat.beq (n - pc) 3 && Nat.blt a 13 && Nat.blt b (zCl a).2.2 && (zFl (zY mi).cls idx a b g || zFn (zY mi).cls idx a b g)
    | .putfield idx => Nat.beq (n - pc) 3 && Nat.blt a 13 && Nat.blt b (zCl a).2.2 && zFl (zY mi).cls idx a b g && !((zCl a).2.1 b).2.2.2 && decide (parseFieldDescriptor ((zCl a).2.1 b).2.2.1 = some (zKt c))
    | .invokevirtual idx => Nat.beq (n - pc) 3 && Nat.blt a 213 && !(Nat.beq a nL_law) && !(zMs a) && Nat.beq e (zMc a) && !(decide ((zY a).name = "<init>")) && Nat.blt 0 b && decide ((parseMethodDescriptor (zY a).desc).map (fun d => d.parameters.length) = some (b - 1)) && zRk (zRt a) c &&
      (decide (lw_tbl[g]? = some (.methodLink (zY mi).cls idx (zY a))) || decide (lw_tbl[g]? = some (.methodLinkNest (zY mi).cls idx (zY a) "RatePlanner")))
    | .invokestatic idx => Nat.beq (n - pc) 3 && (match c with
      | 10 => decide (lw_tbl[g]? = some (.methodLink (zY mi).cls idx Lib.Math.max.name))
      | 11 => decide (lw_tbl[g]? = some (.methodLink (zY mi).cls idx Lib.Math.min.name))
      | 12 => decide (lw_tbl[g]? = some (.methodLink (zY mi).cls idx Lib.Math.abs.name))
      | 13 => decide (lw_tbl[g]? = some (.methodLink (zY mi).cls idx arraycopyName))
      | _ => Nat.blt a 213 && !(Nat.beq a nL_law) && zMs a && decide ((parseMethodDescriptor (zY a).desc).map (fun d => d.parameters.length) = some b) && zRk (zRt a) c &&
        (decide (lw_tbl[g]? = some (.methodLink (zY mi).cls idx (zY a))) || decide (lw_tbl[g]? = some (.methodLinkNest (zY mi).cls idx (zY a) "RatePlanner"))))
    | .ireturn => Nat.beq (n - pc) 1 && (match zRt mi, c with
      | some .int, 0 => true
      | some .boolean, 1 => true
      | _, _ => false)
    | .lreturn => Nat.beq (n - pc) 1 && decide (zRt mi = some .long)
    | .return_ => Nat.beq (n - pc) 1 && decide (zRt mi = none)
    | _ => Nat.beq (n - pc) 1)
def zOks (mi : Nat) : List zOp → Nat → Bool
  | [], _ => true
  | o :: r, p => zOk mi p o && zOks mi r o.2.1
