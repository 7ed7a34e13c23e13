/-! the tables as the small machine reads them, and what a program checks of them -/
def zMe (mi : Nat) : zMr := zMt.getD mi (⟨"", "", ""⟩, ⟨#[]⟩, 0, none, 99, false, 0, 0, 0, 0)
def zY (mi : Nat) : MethodName := (zMe mi).1
def zBy (mi : Nat) : ByteArray := (zMe mi).2.1
def zMl (mi : Nat) : Nat := (zMe mi).2.2.1
def zRt (mi : Nat) : Option FieldType := (zMe mi).2.2.2.1
def zMc (mi : Nat) : Nat := (zMe mi).2.2.2.2.1
def zMs (mi : Nat) : Bool := (zMe mi).2.2.2.2.2.1
def zP1 (mi : Nat) : Nat := (zMe mi).2.2.2.2.2.2.1
def zP2 (mi : Nat) : Nat := (zMe mi).2.2.2.2.2.2.2.1
def zP3 (mi : Nat) : Nat := (zMe mi).2.2.2.2.2.2.2.2.1
def zP4 (mi : Nat) : Nat := (zMe mi).2.2.2.2.2.2.2.2.2
def zCl (a : Nat) : vw_C := vwCl.getD a ("", fun _ => ("", "", "", false), 0)
def zNst : Cond → Bool
  | .methodLinkNest .. => true
  | .fieldLinkNest .. => true
  | _ => false
def zTg : List Cond := lw_tbl.filter goodWord
def zNw : List Cond := lw_tbl.filter zNst
theorem zin (p : Nat) {w : Cond} (h : lw_tbl[p]? = some w) (hg : goodWord w = true) : w ∈ zTg := List.mem_filter.mpr ⟨List.mem_of_getElem? h, hg⟩
theorem zinN (p : Nat) {w : Cond} (h : lw_tbl[p]? = some w) (hg : zNst w = true) : w ∈ zNw := List.mem_filter.mpr ⟨List.mem_of_getElem? h, hg⟩
theorem zTg_good {w : Cond} (h : w ∈ zTg) : w ∈ lw_tbl ∧ ((w.onTables && w.keeps) = true ∨ ∃ ty, w = .arrayClass ty) := ⟨(List.mem_filter.mp h).1, good_of_word (List.mem_filter.mp h).2⟩
def zNoH (y : MethodName) : Bool := decide (y.cls ≠ "java/lang/invoke/MethodHandle") && decide (y.cls ≠ "java/lang/invoke/VarHandle")
/-- a method's own row is true -/
def zMv (mi : Nat) : Bool := decide (lw_tbl[zP1 mi]? = some (.code (zY mi) (zBy mi) (zMl mi) (zRt mi))) && decide (lw_tbl[zP4 mi]? = some (.initialized (zY mi).cls)) && zNoH (zY mi) && plainName (zY mi).cls && Nat.ble (zMl mi) 13 &&
  (match zMs mi with
  | true => decide (lw_tbl[zP2 mi]? = some (.static (zY mi)))
  | false => decide (lw_tbl[zP2 mi]? = some (.instanceMethod (zY mi))) && (decide ((zY mi).name = "<init>") || decide (lw_tbl[zP3 mi]? = some (.selects (zY mi).cls (zY mi) (zY mi)))) && Nat.blt (zMc mi) 12 && decide ((zCl (zMc mi)).1 = (zY mi).cls))
/-- a class's row is true -/
def zCv (q : vw_C) : Bool := (u_ws q.1 q.2.1 q.2.2).all (fun w => decide (w ∈ lw_tbl) && goodWord w) && (List.range q.2.2).all fun k => (parseFieldDescriptor (q.2.1 k).2.2.1).isSome && (List.range q.2.2).all fun j => Nat.beq j k || decide ((q.2.1 j).2.1 ≠ (q.2.1 k).2.1)
