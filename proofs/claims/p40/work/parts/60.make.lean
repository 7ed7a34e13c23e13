/-! the makings: a world that grows; the steps of a constructor -/
def jFs (j : Nat) : Int32 := [10, 11, 13, 14, 16, 18].getD j 0
def jFv (j : Nat) : Value := .int (jFs j)
/-- int and long rows of zeros -/
def jI (cI : ClassId) (n : Nat) : va_E := .inl (cI, n, .inl fun _ => 0)
def jJ (cJ : ClassId) (n : Nat) : va_E := .inl (cJ, n, .inr (.inl fun _ => 0))
/-- a world, its k-th cell changed, and what is new -/
def jW (ws : va_W) (k : Nat) (x : Nat × va_E) (L : va_W) : va_W := ws.set k x ++ L
theorem jW_0 {ws : va_W} {k : Nat} {x : Nat × va_E} (h : ws[k]? = some x) : jW ws k x [] = ws := by
  obtain ⟨h1, h2⟩ := List.getElem?_eq_some_iff.mp h
  unfold jW
  rw [List.append_nil, ← h2, List.set_getElem_self]
theorem jW_get {ws : va_W} {k : Nat} {x : Nat × va_E} {L : va_W} (h : k < ws.length) : (jW ws k x L)[k]? = some x := by
  unfold jW
  rw [List.getElem?_append_left (by rw [List.length_set]; exact h), List.getElem?_set_self h]
theorem jW_old {ws : va_W} {k j : Nat} {x : Nat × va_E} {L : va_W} (h : j < ws.length) (hj : j ≠ k) : (jW ws k x L)[j]? = ws[j]? := by
  unfold jW
  rw [List.getElem?_append_left (by rw [List.length_set]; exact h), List.getElem?_set_ne (Ne.symm hj)]
theorem jW_new {ws : va_W} {k : Nat} {x : Nat × va_E} {L : va_W} (j : Nat) : (jW ws k x L)[ws.length + j]? = L[j]? := by
  unfold jW
  rw [List.getElem?_append_right (by rw [List.length_set]; omega), List.length_set, Nat.add_sub_cancel_left]
theorem jW_set {ws : va_W} {k : Nat} {x y : Nat × va_E} {L : va_W} (h : k < ws.length) : (jW ws k x L).set k y = jW ws k y L := by
  unfold jW
  rw [List.set_append_left _ _ (by rw [List.length_set]; exact h), List.set_set]
theorem jW_setn {ws : va_W} {k : Nat} {x y : Nat × va_E} {L : va_W} (j : Nat) : (jW ws k x L).set (ws.length + j) y = jW ws k x (L.set j y) := by
  unfold jW
  rw [List.set_append_right _ _ (by rw [List.length_set]; omega), List.length_set, Nat.add_sub_cancel_left]
theorem jW_app {ws : va_W} {k : Nat} {x : Nat × va_E} {L M : va_W} : jW ws k x L ++ M = jW ws k x (L ++ M) := by
  unfold jW
  rw [List.append_assoc]
theorem jW_len {ws : va_W} {k : Nat} {x : Nat × va_E} {L : va_W} : (jW ws k x L).length = ws.length + L.length := by
  unfold jW
  rw [List.length_append, List.length_set]
theorem jW_jW {ws : va_W} {k : Nat} {x y : Nat × va_E} {L M : va_W} (j : Nat) : jW (jW ws k x L) (ws.length + j) y M = jW ws k x (L.set j y ++ M) := by
  show (jW ws k x L).set (ws.length + j) y ++ M = _
  rw [jW_setn, jW_app]
/-- what a making is given, and what it hands back -/
def jmB (D : va_G) (cI cJ : ClassId) (t sz : Nat) (ws : va_W) : State → Prop := fun U => U.heap.size = sz ∧ va_P D vwCl ws U.heap ∧ va_K D vwCl [(cI, .int), (cJ, .long)] U ∧ (∀ w ∈ zNw, va_Nw w U) ∧ va_D (fun _ => True) ws ∧ va_Z "RatePlanner" "FIRST_STEPS" "[I" (.ref t) (va_A ws sz) U U.heap ∧ va_T .int t 6 jFv (va_A ws sz) U U.heap
def jmQ (D : va_G) (sz : Nat) (ws : va_W) (post : va_W → Prop) : Array Value → State → Outcome → State → Prop := fun _ st oc t => (∃ ws' : va_W, oc = .returned none ∧ post ws' ∧ va_P D vwCl ws' t.heap ∧ va_D (va_A ws sz) ws') ∧ va_F (va_A ws sz) st t
abbrev jmR (d c sl : Nat) : Room := { frames := d, cells := c, slots := sl, locals := 32 * d }
def jmC (l : Launch) (D : va_G) (cI cJ : ClassId) (t d c sl mi : Nat) (av : List Value) (ws : va_W) (post : va_W → Prop) : Prop :=
  ∀ sz : Nat, Met l (zY mi) (zWs mi) (jmR d c sl) (va_Pc av (jmB D cI cJ t sz ws)) (jmQ D sz ws post) c sl (va_A ws sz)
theorem jmB_blind (D : va_G) (cI cJ : ClassId) (t sz : Nat) (ws : va_W) (av : List Value) : FrameBlind (va_Pc av (jmB D cI cJ t sz ws)) := by
  intro a U g mk q
  obtain ⟨q0, q1, qP, qK, qN, qD, qZ, qT⟩ := q
  exact ⟨q0, q1, qP, va_K.moved (u := U) (U := U.calling g mk a) (Vm.Alike.refl U.vm) qK, fun w hw => zNw_same hw (u := U) (U := U.calling g mk a) rfl (qN w hw), qD, va_Z.moved (u := U) (U := U.calling g mk a) (Vm.Alike.refl U.vm) qZ, va_T.moved (u := U) (U := U.calling g mk a) (Vm.Alike.refl U.vm) qT⟩
/-- what holds in a making's frame -/
def jmX (p : Program) (l : Launch) (R : Room) (s : State) (m : MethodId) (args : Array Value) (meth : Method) (c : Code) (D : va_G) (cI cJ : ClassId) (t : Nat) (A : Nat → Prop) (d mi : Nat) : Prop :=
  p.tables.exec = Jvm.exec ∧ c.code = zBy mi ∧ c.maxLocals = zMl mi ∧ s.vm.findClass (zY mi).cls = some m.cls ∧ (∀ w ∈ zTg, w.before args s = true) ∧ (∀ w ∈ zNw, va_Nw w s) ∧ va_K D vwCl [(cI, .int), (cJ, .long)] s ∧ (∀ q, s.heap.size ≤ q → A q) ∧ va_Z "RatePlanner" "FIRST_STEPS" "[I" (.ref t) A s s.heap ∧ va_T .int t 6 jFv A s s.heap ∧ d + 1 ≤ R.frames ∧ 32 * (d + 1) ≤ R.locals
def jmG (p : Program) (l : Launch) (e : Env) (R : Room) (s : State) (m : MethodId) (args : Array Value) (below : List Frame) (meth : Method) (c : Code) (Q : State → Prop) (D : va_G) (A : Nat → Prop) (nL pc : Nat) (lv : List (Nat × Value)) (st : List Value) (ws : va_W) (cells slots : Nat) : Prop :=
  ∀ (H : Heap) (locs : List Loc) (ls : Array Slot), va_P D vwCl ws H → va_D A ws → va_S A s.heap H locs → lv_has ls nL lv → W p l e R s m args below meth c H locs cells slots Q (F0 m pc ls st)
section JM
variable {p : Program} {l : Launch} {e : Env} {R : Room} {s : State} {m : MethodId} {args : Array Value} {below : List Frame} {meth : Method} {c : Code} {cells slots : Nat} {Q : State → Prop} {D : va_G} {cI cJ : ClassId} {t : Nat} {A : Nat → Prop} {d mi nL pc : Nat} {lv : List (Nat × Value)} {st : List Value} {ws : va_W}
theorem jm_aload {k : Fin 4} {x : Nat} (K : jmX p l R s m args meth c D cI cJ t A d mi) (hd : decode (zBy mi) pc = .ok (.aload_n k, 1)) (j : Nat) (hj : lv[j]? = some ((k : Nat), .ref x)) (h : jmG p l e R s m args below meth c Q D A nL (pc + 1) lv (.ref x :: st) ws cells slots) : jmG p l e R s m args below meth c Q D A nL pc lv st ws cells slots :=
  fun H locs ls hP hD hS hl => lv_aload_n K.1 K.2.1 hd rfl (lv_at hl j hj) (h H locs ls hP hD hS hl)
theorem jm_iload {k : Fin 4} {x : Int32} (K : jmX p l R s m args meth c D cI cJ t A d mi) (hd : decode (zBy mi) pc = .ok (.iload_n k, 1)) (j : Nat) (hj : lv[j]? = some ((k : Nat), .int x)) (h : jmG p l e R s m args below meth c Q D A nL (pc + 1) lv (.int x :: st) ws cells slots) : jmG p l e R s m args below meth c Q D A nL pc lv st ws cells slots :=
  fun H locs ls hP hD hS hl => lv_iload_n K.1 K.2.1 hd rfl (lv_at hl j hj) (h H locs ls hP hD hS hl)
theorem jm_iconst {n : Int} {v : Int32} (K : jmX p l R s m args meth c D cI cJ t A d mi) (hd : decode (zBy mi) pc = .ok (.iconst n, 1)) (hv : Int32.ofInt n = v) (h : jmG p l e R s m args below meth c Q D A nL (pc + 1) lv (.int v :: st) ws cells slots) : jmG p l e R s m args below meth c Q D A nL pc lv st ws cells slots :=
  fun H locs ls hP hD hS hl => lv_iconst K.1 K.2.1 hd hv (h H locs ls hP hD hS hl)
theorem jm_bipush {n : Int} {v : Int32} (K : jmX p l R s m args meth c D cI cJ t A d mi) (hd : decode (zBy mi) pc = .ok (.bipush n, 2)) (hv : (Int8.ofInt n).toInt32 = v) (h : jmG p l e R s m args below meth c Q D A nL (pc + 2) lv (.int v :: st) ws cells slots) : jmG p l e R s m args below meth c Q D A nL pc lv st ws cells slots :=
  fun H locs ls hP hD hS hl => lv_bipush K.1 K.2.1 hd hv (h H locs ls hP hD hS hl)
theorem jm_sipush {n : Int} {v : Int32} (K : jmX p l R s m args meth c D cI cJ t A d mi) (hd : decode (zBy mi) pc = .ok (.sipush n, 3)) (hv : (Int16.ofInt n).toInt32 = v) (h : jmG p l e R s m args below meth c Q D A nL (pc + 3) lv (.int v :: st) ws cells slots) : jmG p l e R s m args below meth c Q D A nL pc lv st ws cells slots :=
  fun H locs ls hP hD hS hl => lv_sipush K.1 K.2.1 hd hv (h H locs ls hP hD hS hl)
theorem jm_ldc {idx g : Nat} {v : Int32} (K : jmX p l R s m args meth c D cI cJ t A d mi) (hd : decode (zBy mi) pc = .ok (.ldc idx, 2)) (hg : lw_tbl[g]? = some (.constant (zY mi).cls idx v)) (h : jmG p l e R s m args below meth c Q D A nL (pc + 2) lv (.int v :: st) ws cells slots) : jmG p l e R s m args below meth c Q D A nL pc lv st ws cells slots :=
  fun H locs ls hP hD hS hl => lv_ldc K.1 K.2.1 K.2.2.2.1 (K.2.2.2.2.1 _ (zin g hg rfl)) hd (h H locs ls hP hD hS hl)
theorem jm_dup {x : Nat} (K : jmX p l R s m args meth c D cI cJ t A d mi) (hd : decode (zBy mi) pc = .ok (.dup, 1)) (h : jmG p l e R s m args below meth c Q D A nL (pc + 1) lv (.ref x :: .ref x :: st) ws cells slots) : jmG p l e R s m args below meth c Q D A nL pc lv (.ref x :: st) ws cells slots :=
  fun H locs ls hP hD hS hl => lv_dup K.1 K.2.1 hd rfl (h H locs ls hP hD hS hl)
theorem jm_iadd {x y : Int32} (K : jmX p l R s m args meth c D cI cJ t A d mi) (hd : decode (zBy mi) pc = .ok (.iadd, 1)) (h : jmG p l e R s m args below meth c Q D A nL (pc + 1) lv (.int (x + y) :: st) ws cells slots) : jmG p l e R s m args below meth c Q D A nL pc lv (.int y :: .int x :: st) ws cells slots :=
  fun H locs ls hP hD hS hl => lv_iadd K.1 K.2.1 hd (h H locs ls hP hD hS hl)
theorem jm_irem {x y : Int32} (K : jmX p l R s m args meth c D cI cJ t A d mi) (hd : decode (zBy mi) pc = .ok (.irem, 1)) (hn : ¬ y = 0) (h : jmG p l e R s m args below meth c Q D A nL (pc + 1) lv (.int (x - x / y * y) :: st) ws cells slots) : jmG p l e R s m args below meth c Q D A nL pc lv (.int y :: .int x :: st) ws cells slots :=
  fun H locs ls hP hD hS hl => lv_irem K.1 K.2.1 hd hn (h H locs ls hP hD hS hl)
theorem jm_idiv {x y : Int32} (K : jmX p l R s m args meth c D cI cJ t A d mi) (hd : decode (zBy mi) pc = .ok (.idiv, 1)) (hn : ¬ y = 0) (h : jmG p l e R s m args below meth c Q D A nL (pc + 1) lv (.int (x / y) :: st) ws cells slots) : jmG p l e R s m args below meth c Q D A nL pc lv (.int y :: .int x :: st) ws cells slots :=
  fun H locs ls hP hD hS hl => lv_idiv K.1 K.2.1 hd hn (h H locs ls hP hD hS hl)
theorem jm_ishl {x y : Int32} (K : jmX p l R s m args meth c D cI cJ t A d mi) (hd : decode (zBy mi) pc = .ok (.ishl, 1)) (h : jmG p l e R s m args below meth c Q D A nL (pc + 1) lv (.int (x <<< (y &&& 31)) :: st) ws cells slots) : jmG p l e R s m args below meth c Q D A nL pc lv (.int y :: .int x :: st) ws cells slots :=
  fun H locs ls hP hD hS hl => lv_ishl K.1 K.2.1 hd (h H locs ls hP hD hS hl)
theorem jm_istore {k : Fin 4} {x : Int32} {lv' : List (Nat × Value)} (K : jmX p l R s m args meth c D cI cJ t A d mi) (hd : decode (zBy mi) pc = .ok (.istore_n k, 1)) (hn : (k : Nat) < nL) (hl' : ((k : Nat), Value.int x) :: lv.filter (fun q => !(q.1 == (k : Nat)) && !(q.1 + 1 == (k : Nat) && q.2.category == 2)) = lv') (h : jmG p l e R s m args below meth c Q D A nL (pc + 1) lv' st ws cells slots) : jmG p l e R s m args below meth c Q D A nL pc lv (.int x :: st) ws cells slots :=
  fun H locs ls hP hD hS hl => lv_istore_n K.1 K.2.1 hd rfl hl hn hl' (fun ls2 hl2 => h H locs ls2 hP hD hS hl2)
theorem jm_astore {k : Fin 4} {x : Nat} {lv' : List (Nat × Value)} (K : jmX p l R s m args meth c D cI cJ t A d mi) (hd : decode (zBy mi) pc = .ok (.astore_n k, 1)) (hn : (k : Nat) < nL) (hl' : ((k : Nat), Value.ref x) :: lv.filter (fun q => !(q.1 == (k : Nat)) && !(q.1 + 1 == (k : Nat) && q.2.category == 2)) = lv') (h : jmG p l e R s m args below meth c Q D A nL (pc + 1) lv' st ws cells slots) : jmG p l e R s m args below meth c Q D A nL pc lv (.ref x :: st) ws cells slots :=
  fun H locs ls hP hD hS hl => lv_astore_n K.1 K.2.1 hd rfl hl hn hl' (fun ls2 hl2 => h H locs ls2 hP hD hS hl2)
theorem jm_iinc {i k : Nat} {n : Int} {x v : Int32} {lv' : List (Nat × Value)} (K : jmX p l R s m args meth c D cI cJ t A d mi) (hd : decode (zBy mi) pc = .ok (.iinc i n, 3)) (hk : lv[k]? = some (i, .int x)) (hv : x + Int32.ofInt n = v) (hn : i < nL) (hl' : (i, Value.int v) :: lv.filter (fun q => !(q.1 == i) && !(q.1 + 1 == i && q.2.category == 2)) = lv') (h : jmG p l e R s m args below meth c Q D A nL (pc + 3) lv' st ws cells slots) : jmG p l e R s m args below meth c Q D A nL pc lv st ws cells slots :=
  fun H locs ls hP hD hS hl => lv_iinc K.1 K.2.1 hd hl hk hv hn hl' (fun ls2 hl2 => h H locs ls2 hP hD hS hl2)
theorem jm_goto {off : Int} {tgt : Nat} (K : jmX p l R s m args meth c D cI cJ t A d mi) (hd : decode (zBy mi) pc = .ok (.goto off, 3)) (ht : (pc : Int) + off = (tgt : Int)) (h : jmG p l e R s m args below meth c Q D A nL tgt lv st ws cells slots) : jmG p l e R s m args below meth c Q D A nL pc lv st ws cells slots :=
  fun H locs ls hP hD hS hl => lv_goto K.1 K.2.1 hd ht (h H locs ls hP hD hS hl)
theorem jm_icmp_ge {x y : Int32} {off : Int} {tgt : Nat} (K : jmX p l R s m args meth c D cI cJ t A d mi) (hd : decode (zBy mi) pc = .ok (.if_icmp .ge off, 3)) (ht : (pc : Int) + off = (tgt : Int)) (h1 : y ≤ x → jmG p l e R s m args below meth c Q D A nL tgt lv st ws cells slots) (h2 : ¬ y ≤ x → jmG p l e R s m args below meth c Q D A nL (pc + 3) lv st ws cells slots) : jmG p l e R s m args below meth c Q D A nL pc lv (.int y :: .int x :: st) ws cells slots :=
  fun H locs ls hP hD hS hl => lv_icmp_ge K.1 K.2.1 hd ht (fun z => h1 z H locs ls hP hD hS hl) (fun z => h2 z H locs ls hP hD hS hl)
theorem jm_sub {lv' : List (Nat × Value)} (ks : List Nat) (hks : lv_pick lv ks = lv') (h : jmG p l e R s m args below meth c Q D A nL pc lv' st ws cells slots) : jmG p l e R s m args below meth c Q D A nL pc lv st ws cells slots :=
  fun H locs ls hP hD hS hl => h H locs ls hP hD hS (lv_sub hl ks hks)
theorem jm_w {ws' : va_W} (hw : ws' = ws) (h : jmG p l e R s m args below meth c Q D A nL pc lv st ws' cells slots) : jmG p l e R s m args below meth c Q D A nL pc lv st ws cells slots := by
  subst hw
  exact h
theorem jm_obj {idx g x : Nat} (K : jmX p l R s m args meth c D cI cJ t A d mi) (hnL : nL = zMl mi) (hd : decode (zBy mi) pc = .ok (.invokespecial idx, 3)) (hg : lw_tbl[g]? = some (.methodLink (zY mi).cls idx Lib.objectInit)) (h : jmG p l e R s m args below meth c Q D A nL (pc + 3) lv [] ws cells slots) : jmG p l e R s m args below meth c Q D A nL pc lv [.ref x] ws cells slots := by
  obtain ⟨hx, hb, hml, hown, hts, hnw, hK, hA, hZ, hT, hfr, hlo⟩ := K
  intro H locs ls hP hD hS hl
  refine W.objInit hx hb hown (hts _ (zin g hg rfl)) (hts _ (zin 35 (by decide +kernel) rfl)) (hts _ (zin 36 (by decide +kernel) rfl)) rfl (by rw [hml, ← hnL]; exact hl.1) rfl hd (by omega) (by show 2 * 0 + 0 + 12 ≤ R.locals; omega) ?_
  exact h H locs ls hP hD hS hl
theorem jm_newi {n : Int32} {N : Nat} (K : jmX p l R s m args meth c D cI cJ t A d mi) (hd : decode (zBy mi) pc = .ok (.newarray .int, 2)) (hn : ¬ n < 0) (hN : n.toNatClampNeg = N) (hb4 : N * 4 ≤ 536870912) (hc : cells + 1 ≤ R.cells) (hs : slots + N ≤ R.slots) (h : ∀ q : Nat, jmG p l e R s m args below meth c Q D A nL (pc + 2) lv (.ref q :: st) (ws ++ [(q, jI cI N)]) (cells + 1) (slots + N)) : jmG p l e R s m args below meth c Q D A nL pc lv (.int n :: st) ws cells slots := by
  obtain ⟨hx, hb, hml, hown, hts, hnw, hK, hA, hZ, hT, hfr, hlo⟩ := K
  intro H locs ls hP hD hS hl
  refine va_newa (atype := .int) (ty := .int) (a0 := (N, .inl fun _ => 0)) hx hb (hts _ (zin 59 (by decide +kernel) rfl)) rfl hK hP hD hS hA (fun _ => rfl) hn hN hb4 hc hs hd (fun q cA H1 hK1 hP1 hD1 hS1 => ?_)
  have e1 := (hK1.2 2 (cA, .int) rfl).2
  have e2 := (hK.2 0 (cI, .int) rfl).2
  have e : cA = cI := Option.some.inj ((show s.vm.findClass _ = some cA from e1).symm.trans (show s.vm.findClass _ = some cI from e2))
  subst e
  exact h q H1 locs ls hP1 hD1 hS1 hl
theorem jm_newj {n : Int32} {N : Nat} (K : jmX p l R s m args meth c D cI cJ t A d mi) (hd : decode (zBy mi) pc = .ok (.newarray .long, 2)) (hn : ¬ n < 0) (hN : n.toNatClampNeg = N) (hb4 : N * 8 ≤ 536870912) (hc : cells + 1 ≤ R.cells) (hs : slots + N ≤ R.slots) (h : ∀ q : Nat, jmG p l e R s m args below meth c Q D A nL (pc + 2) lv (.ref q :: st) (ws ++ [(q, jJ cJ N)]) (cells + 1) (slots + N)) : jmG p l e R s m args below meth c Q D A nL pc lv (.int n :: st) ws cells slots := by
  obtain ⟨hx, hb, hml, hown, hts, hnw, hK, hA, hZ, hT, hfr, hlo⟩ := K
  intro H locs ls hP hD hS hl
  refine va_newa (atype := .long) (ty := .long) (a0 := (N, .inr (.inl fun _ => 0))) hx hb (hts _ (zin 333 (by decide +kernel) rfl)) rfl hK hP hD hS hA (fun _ => rfl) hn hN hb4 hc hs hd (fun q cA H1 hK1 hP1 hD1 hS1 => ?_)
  have e1 := (hK1.2 2 (cA, .long) rfl).2
  have e2 := (hK.2 1 (cJ, .long) rfl).2
  have e : cA = cJ := Option.some.inj ((show s.vm.findClass _ = some cA from e1).symm.trans (show s.vm.findClass _ = some cJ from e2))
  subst e
  exact h q H1 locs ls hP1 hD1 hS1 hl
/-- a new object of the a-th class -/
theorem jm_new {idx a g1 g2 g3 : Nat} {fs : List Value} (K : jmX p l R s m args meth c D cI cJ t A d mi) (hd : decode (zBy mi) pc = .ok (.new idx, 3)) (ha : a < 12) (h1 : lw_tbl[g1]? = some (.classLink (zY mi).cls idx (zCl a).1)) (h2 : lw_tbl[g2]? = some (.instantiable (zCl a).1 (zCl a).2.2)) (h3 : lw_tbl[g3]? = some (.initialized (zCl a).1)) (ty : Nat → FieldType) (hty : ∀ k, k < (zCl a).2.2 → parseFieldDescriptor ((zCl a).2.1 k).2.2.1 = some (ty k)) (hfs : ∀ k, k < (zCl a).2.2 → defaultValue (ty k) = vp_V fs k) (N : Nat) (hN : (zCl a).2.2 = N) (hc : cells + 1 ≤ R.cells) (hs : slots + N ≤ R.slots) (h : ∀ q : Nat, jmG p l e R s m args below meth c Q D A nL (pc + 3) lv (.ref q :: st) (ws ++ [(q, .inr (a, fs))]) (cells + 1) (slots + N)) : jmG p l e R s m args below meth c Q D A nL pc lv st ws cells slots := by
  obtain ⟨hx, hb, hml, hown, hts, hnw, hK, hA, hZ, hT, hfr, hlo⟩ := K
  intro H locs ls hP hD hS hl
  subst hN
  obtain ⟨hcl2, hcv⟩ := zCl_get ha
  obtain ⟨hin, -, -⟩ := zCv_spec hcv
  exact va_new (ci := a) (fs := fs) hx hb hts hin ty hty hown (hts _ (zin g1 h1 rfl)) (hts _ (zin g2 h2 rfl)) (hts _ (zin g3 h3 rfl)) hK hP hD hS hA hcl2 hfs hc hs hd (fun q H1 hP1 hD1 hS1 => h q H1 locs ls hP1 hD1 hS1 hl)
theorem jm_put {idx a b g x q0 : Nat} {ty : FieldType} {v : Value} {fs : List Value} (K : jmX p l R s m args meth c D cI cJ t A d mi) (hi : meth.name = "<init>") (hd : decode (zBy mi) pc = .ok (.putfield idx, 3)) (ha : a < 12) (hb2 : b < (zCl a).2.2) (hg : zFl (zY mi).cls idx a b g = true) (hdc : ((zCl a).2.1 b).1 = (zY mi).cls) (hty : parseFieldDescriptor ((zCl a).2.1 b).2.2.1 = some ty) (hn : narrow ty v = v) (hf : fits ty v = true) (hq : ws[q0]? = some (x, .inr (a, fs))) (hl2 : b < fs.length) (h : jmG p l e R s m args below meth c Q D A nL (pc + 3) lv st (ws.set q0 (x, .inr (a, fs.set b v))) cells slots) : jmG p l e R s m args below meth c Q D A nL pc lv (v :: .ref x :: st) ws cells slots := by
  obtain ⟨hx, hb, hml, hown, hts, hnw, hK, hA, hZ, hT, hfr, hlo⟩ := K
  intro H locs ls hP hD hS hl
  obtain ⟨hcl2, hcv⟩ := zCl_get ha
  obtain ⟨hin, hty2, hnm⟩ := zCv_spec hcv
  cases hfin : ((zCl a).2.1 b).2.2.2 with
  | true => exact va_putF (D := D) (ty := ty) (v := v) hx hb hts hin _ hty2 hnm hown hK hP hD hS q0 hq hcl2 b hb2 (hts _ (zFl_spec hg)) (fun _ h9 => h9) hfin hi hdc hty hn hf hl2 hd (fun H1 locs1 hP1 hD1 hS1 => h H1 locs1 ls hP1 hD1 hS1 hl)
  | false => exact va_put (D := D) (ty := ty) (v := v) hx hb hts hin _ hty2 hnm hown hK hP hD hS q0 hq hcl2 b hb2 (hts _ (zFl_spec hg)) (fun _ h9 => h9) hfin hty hn hf hl2 hd (fun H1 locs1 hP1 hD1 hS1 => h H1 locs1 ls hP1 hD1 hS1 hl)
theorem jm_get {idx a b g x q0 : Nat} {v : Value} {fs : List Value} (K : jmX p l R s m args meth c D cI cJ t A d mi) (hd : decode (zBy mi) pc = .ok (.getfield idx, 3)) (ha : a < 12) (hb2 : b < (zCl a).2.2) (hg : zFl (zY mi).cls idx a b g = true) (hq : ws[q0]? = some (x, .inr (a, fs))) (hv : fs[b]? = some v) (h : jmG p l e R s m args below meth c Q D A nL (pc + 3) lv (v :: st) ws cells slots) : jmG p l e R s m args below meth c Q D A nL pc lv (.ref x :: st) ws cells slots := by
  obtain ⟨hx, hb, hml, hown, hts, hnw, hK, hA, hZ, hT, hfr, hlo⟩ := K
  intro H locs ls hP hD hS hl
  obtain ⟨hcl2, hcv⟩ := zCl_get ha
  obtain ⟨hin, -, -⟩ := zCv_spec hcv
  exact va_get (D := D) hx hb hts hin hown hK hP q0 hq hcl2 b hb2 (hts _ (zFl_spec hg)) (fun _ h9 => h9) hv hd (h H locs ls hP hD hS hl)
theorem jm_iast {q0 x N k : Nat} {f : Nat → Int32} {i v : Int32} (K : jmX p l R s m args meth c D cI cJ t A d mi) (hd : decode (zBy mi) pc = .ok (.iastore, 1)) (hq : ws[q0]? = some (x, .inl (cI, N, .inl f))) (hin : vp_in i N) (hk : i.toNatClampNeg = k) (h : jmG p l e R s m args below meth c Q D A nL (pc + 1) lv st (ws.set q0 (x, .inl (cI, N, .inl (upd f k v)))) cells slots) : jmG p l e R s m args below meth c Q D A nL pc lv (.int v :: .int i :: .ref x :: st) ws cells slots := by
  obtain ⟨hx, hb, hml, hown, hts, hnw, hK, hA, hZ, hT, hfr, hlo⟩ := K
  subst hk
  intro H locs ls hP hD hS hl
  exact va_iast hx hb hK hP hD hS q0 0 hq rfl hin hd (fun H1 locs1 hP1 hD1 hS1 => h H1 locs1 ls hP1 hD1 hS1 hl)
theorem jm_alen {q0 x N : Nat} {f : Nat → Int32} {v : Int32} (K : jmX p l R s m args meth c D cI cJ t A d mi) (hd : decode (zBy mi) pc = .ok (.arraylength, 1)) (hq : ws[q0]? = some (x, .inl (cI, N, .inl f))) (hv : Int32.ofNat N = v) (h : jmG p l e R s m args below meth c Q D A nL (pc + 1) lv (.int v :: st) ws cells slots) : jmG p l e R s m args below meth c Q D A nL pc lv (.ref x :: st) ws cells slots := by
  obtain ⟨hx, hb, hml, hown, hts, hnw, hK, hA, hZ, hT, hfr, hlo⟩ := K
  intro H locs ls hP hD hS hl
  exact va_alen hx hb hK hP q0 0 hq rfl hv hd (h H locs ls hP hD hS hl)
theorem jm_ret {post : va_W → Prop} {ws0 : va_W} (K : jmX p l R s m args meth c D cI cJ t A d mi) (hr : meth.sig.returnType = none) (hlk : meth.locks = false) (hd : decode (zBy mi) pc = .ok (.return_, 1)) (hA : A = va_A ws0 s.heap.size) (hp : post ws) : jmG p l e R s m args below meth c (MQ below (jmQ D s.heap.size ws0 post) args s cells slots (va_A ws0 s.heap.size)) D A nL pc lv [] ws cells slots := by
  subst hA
  intro H locs ls hP hD hS hl
  exact W.vret K.1 K.2.1 hr (fun t ht hW => ⟨⟨ws, rfl, hp, by rw [ht]; exact hP, hD⟩, hS.F ht⟩) hS.2.2 hd (hlocks := hlk)
/-- a call of a constructor -/
theorem jm_call {idx a g b cc ss : Nat} {As : List Value} {post : va_W → Prop} (K : jmX p l R s m args meth c D cI cJ t A d mi) (hnL : nL = zMl mi) (hM : jmC l D cI cJ t d cc ss a (.ref b :: As) ws post) (hd : decode (zBy mi) pc = .ok (.invokespecial idx, 3)) (ha : a < 85) (ha2 : a ≠ nL_law) (hrt : zRt a = none) (hst : zMs a = false) (hnm : (zY a).name = "<init>") (na : Nat) (hna : As.length = na) (hpar : (parseMethodDescriptor (zY a).desc).map (fun d => d.parameters.length) = some na) (hg : lw_tbl[g]? = some (.methodLink (zY mi).cls idx (zY a)) ∨ lw_tbl[g]? = some (.methodLinkNest (zY mi).cls idx (zY a) "RatePlanner")) (hc : cells + cc ≤ R.cells) (hs : slots + ss ≤ R.slots) (hsum : (st.map fun v => v.category).sum ≤ 8) {st2 : List Value} (hst2 : st2 = As.reverse ++ .ref b :: st) (h : ∀ ws' : va_W, post ws' → jmG p l e R s m args below meth c Q D A nL (pc + 3) lv st ws' (cells + cc) (slots + ss)) : jmG p l e R s m args below meth c Q D A nL pc lv st2 ws cells slots := by
  obtain ⟨hx, hb, hml, hown, hts, hnw, hK, hA, hZ, hT, hfr, hlo⟩ := K
  intro H locs ls hP hD hS hl
  subst hst2
  subst hna
  obtain ⟨m1, m2, m3, m4, m5, m6, m7⟩ := zMv_spec ha ha2
  obtain ⟨n1, -, -, -⟩ := m7 hst
  rw [hrt] at m1
  have hz : ∀ q, va_A ws H.size q → A q := fun q hq => by
    rcases hq with ⟨k, e, h1⟩ | h1
    · exact hD.2 k (q, e) h1
    · exact hA q (Nat.le_trans hS.1 h1)
  have hpre : PreS s H (va_Pc (.ref b :: As) (jmB D cI cJ t H.size ws)) (.ref b :: As) := ⟨jmB_blind D cI cJ t H.size ws _, fun U hU hW => ⟨rfl, by rw [hU], by rw [hU]; exact hP, va_K.moved hW.alike hK, fun w hw => zNw_warm hw hW (hnw w hw), hD.weaken (fun _ _ _ _ => trivial), by rw [hU]; exact ((hZ.kept hS.2.1).moved hW.alike).narrow hz, by rw [hU]; exact ((hT.kept hS.2.1).moved hW.alike).narrow hz⟩⟩
  have hml2 : c.maxLocals = ls.size := by rw [hml, ← hnL]; exact hl.1.symm
  have hroom : (jmR d cc ss).frames + 1 ≤ R.frames ∧ 8 + (zMl a + 11) + (jmR d cc ss).locals ≤ R.locals := ⟨hfr, by show 8 + (zMl a + 11) + 32 * d ≤ R.locals; omega⟩
  have hw : ∀ w ∈ zWs a, w ∈ zTg := fun w hw => by
    rcases List.mem_cons.mp hw with rfl | hw
    · rw [hrt]; exact m1
    · exact hw
  have hrun : va_Run p l e R s m args below meth c H locs cells slots cc ss (F0 m pc ls (As.reverse ++ .ref b :: st)) st (jmQ D H.size ws post (Value.ref b :: As).toArray) (va_A ws H.size) := by
    rcases hg with hg | hg
    · exact va_runI (Ts := zTg) (own := (zY mi).cls) (index := idx) (n := As.length) ⟨hx, hb, hml, hown, hts⟩ (hM H.size) (cwI As.length hts (zTg_GoodIn hw) (by rw [← hrt]; rfl) rfl rfl (hts _ m2) (hts _ (zin g hg rfl)) (hts _ n1) hnm ⟨m3.1, m3.2, hpar⟩ hroom) hpre rfl rfl (by show ls.size = zMl mi; rw [← hml2, hml]) rfl (lv_room hsum) hd ⟨hc, hs⟩
    · exact va_runIN (Ts := zTg) (own := (zY mi).cls) (host := "RatePlanner") (index := idx) (n := As.length) ⟨hx, hb, hml, hown, hts⟩ (hM H.size) ⟨va_cnB As.length hts (zTg_GoodIn hw) (by rw [← hrt]; rfl) rfl rfl (hnw _ (zinN g hg rfl)) (hts _ m2) ⟨m3.1, m3.2, hpar⟩ hroom, hnm, hts _ n1⟩ hpre rfl rfl (by show ls.size = zMl mi; rw [← hml2, hml]) rfl (lv_room hsum) hd ⟨hc, hs⟩
  intro T hT2 X
  obtain ⟨v, st₀, u, T', L, h0, X', hL, e1, e2, hQa, stp⟩ := hrun T hT2 X
  obtain ⟨⟨ws', hr, hp, hP1, hD1⟩, hF⟩ := hQa
  cases hr
  have hS1 : va_S A s.heap T'.heap (locs ++ L) := by
    subst h0
    rw [e1]
    refine ⟨Nat.le_trans hS.1 hF.1, fun q h1 h2 => ?_, fun q hq => ?_⟩
    · rw [hF.2 q (Nat.lt_of_lt_of_le h1 hS.1) (fun z => h2 (hz q z))]
      exact hS.2.1 q h1 h2
    · rcases List.mem_append.mp hq with h3 | h3
      · exact hS.2.2 q h3
      · exact hz _ (hL q h3)
  obtain ⟨t2, a1, b1⟩ := h ws' hp T'.heap (locs ++ L) ls (by rw [e1]; exact hP1) (hD1.weaken (fun k q _ h3 => hz q.1 h3)) hS1 hl T' rfl X'
  exact ⟨t2, stp t2 a1, b1⟩
end JM
theorem jm_at (l : Launch) (t k : Nat) (hk : k < 6) : Met l (zY nX11_at) (zWs nX11_at) (jmR 0 0 0) (va_Pc [.ref t, .int (iI (k : Int))] (fun U => va_T .int t 6 jFv (fun _ => False) U U.heap)) (va_Qi (fun (r : Int32) (_ : Unit) => r = jFs k) (fun _ _ => True) (fun _ => False)) 0 0 (fun _ => False) := by
  refine Met.ofW (cc := zBy nX11_at) (maxL := zMl nX11_at) (ret := zRt nX11_at) (by decide +kernel) rfl ?_
  intro p e s m args below meth c s₁ B hml hv
  obtain ⟨rfl, hT⟩ := hv
  have hx := B.exec
  have hb := B.bytes
  have hr : meth.sig.returnType = some .int := B.returns.trans (by decide +kernel)
  have hlocks := B.notSynchronized
  have hS : va_S (fun _ => False) s.heap s.heap [] := va_S.rf
  have hl := lv_entry ([.ref t, .int (iI (k : Int))]) (n := zMl nX11_at) (Nat.le_of_ble_eq_true rfl)
  rw [lg_entry_eq]
  generalize (lg_sl ([.ref t, .int (iI (k : Int))]) ++ List.replicate (zMl nX11_at - (lg_sl ([.ref t, .int (iI (k : Int))])).length) Slot.unset).toArray = ls at hl ⊢
  have hl : lv_has ls 2 [(0, .ref t), (1, .int (iI (k : Int)))] := hl
  refine lv_iload_n hx hb (by decide +kernel : decode (zBy nX11_at) 0 = .ok (.iload_n 1, 1)) rfl (lv_at hl 1 rfl) ?_
  refine lv_if_lt (tgt := 16) hx hb (by decide +kernel : decode (zBy nX11_at) 1 = .ok (.ifCond .lt 15, 3)) (by decide) (fun z => ?_) (fun _ => ?_)
  · rw [show (0 : Int32) = iI 0 from rfl, iI_lt (by omega) (by omega) (by omega) (by omega)] at z
    omega
  refine lv_iload_n hx hb (by decide +kernel : decode (zBy nX11_at) 4 = .ok (.iload_n 1, 1)) rfl (lv_at hl 1 rfl) ?_
  refine lv_aload_n hx hb (by decide +kernel : decode (zBy nX11_at) 5 = .ok (.aload_n 0, 1)) rfl (lv_at hl 0 rfl) ?_
  refine va_tlen (v := 6) hx hb hT hS rfl (by decide +kernel : decode (zBy nX11_at) 6 = .ok (.arraylength, 1)) ?_
  refine lv_icmp_ge (tgt := 16) hx hb (by decide +kernel : decode (zBy nX11_at) 7 = .ok (.if_icmp .ge 9, 3)) (by decide) (fun z => ?_) (fun _ => ?_)
  · rw [show (6 : Int32) = iI 6 from rfl, iI_le (by omega) (by omega) (by omega) (by omega)] at z
    omega
  refine lv_aload_n hx hb (by decide +kernel : decode (zBy nX11_at) 10 = .ok (.aload_n 0, 1)) rfl (lv_at hl 0 rfl) ?_
  refine lv_iload_n hx hb (by decide +kernel : decode (zBy nX11_at) 11 = .ok (.iload_n 1, 1)) rfl (lv_at hl 1 rfl) ?_
  refine va_ti (v := .int (jFs k)) hx hb hT hS (vin_k hk (by decide)) (by rw [iI_k (by omega)]; rfl) (by decide +kernel : decode (zBy nX11_at) 12 = .ok (.iaload, 1)) ?_
  refine lv_goto (tgt := 17) hx hb (by decide +kernel : decode (zBy nX11_at) 13 = .ok (.goto 4, 3)) (by decide) ?_
  exact W.iret hx hb hr (fun t ht hW => ⟨⟨_, (), rfl, rfl, trivial⟩, hS.F ht⟩) hS.2.2 (by decide +kernel : decode (zBy nX11_at) 17 = .ok (.ireturn, 1))
section JN
variable {p : Program} {l : Launch} {e : Env} {R : Room} {s : State} {m : MethodId} {args : Array Value} {below : List Frame} {meth : Method} {c : Code} {cells slots : Nat} {Q : State → Prop} {D : va_G} {cI cJ : ClassId} {t : Nat} {A : Nat → Prop} {d mi nL pc : Nat} {lv : List (Nat × Value)} {st : List Value} {ws : va_W}
theorem jm_gets {idx g : Nat} (K : jmX p l R s m args meth c D cI cJ t A d mi) (hd : decode (zBy mi) pc = .ok (.getstatic idx, 3)) (hg : lw_tbl[g]? = some (.fieldLinkNest (zY mi).cls idx "RatePlanner" "FIRST_STEPS" "[I" "RatePlanner")) (h : jmG p l e R s m args below meth c Q D A nL (pc + 3) lv (.ref t :: st) ws cells slots) : jmG p l e R s m args below meth c Q D A nL pc lv st ws cells slots := by
  obtain ⟨hx, hb, hml, hown, hts, hnw, hK, hA, hZ, hT, hfr, hlo⟩ := K
  intro H locs ls hP hD hS hl
  exact va_getsN hx hb hZ hS hown (va_Nw.use rfl (hnw _ (zinN g hg rfl))) (fun _ h9 => h9) hd (h H locs ls hP hD hS hl)
theorem jm_callAt {idx g k : Nat} (K : jmX p l R s m args meth c D cI cJ t A d mi) (hnL : nL = zMl mi) (hk : k < 6) (hd : decode (zBy mi) pc = .ok (.invokestatic idx, 3)) (hg : lw_tbl[g]? = some (.methodLinkNest (zY mi).cls idx (zY nX11_at) "RatePlanner")) (hsum : (st.map fun v => v.category).sum ≤ 8) (hc : cells ≤ R.cells) (hs : slots ≤ R.slots) (h : jmG p l e R s m args below meth c Q D A nL (pc + 3) lv (.int (jFs k) :: st) ws cells slots) : jmG p l e R s m args below meth c Q D A nL pc lv (.int (iI (k : Int)) :: .ref t :: st) ws cells slots := by
  obtain ⟨hx, hb, hml, hown, hts, hnw, hK, hA, hZ, hT, hfr, hlo⟩ := K
  intro H locs ls hP hD hS hl
  obtain ⟨m1, m2, m3, m4, m5, m6, m7⟩ := zMv_spec (a := nX11_at) (by decide) (by decide)
  have n1 := m6 (by decide +kernel)
  have hpre : PreS s H (va_Pc [.ref t, .int (iI (k : Int))] (fun U => va_T .int t 6 jFv (fun _ => False) U U.heap)) [.ref t, .int (iI (k : Int))] := ⟨fun a U g mk q => by
    obtain ⟨q0, qT⟩ := q
    exact ⟨q0, va_T.moved (u := U) (U := U.calling g mk a) (Vm.Alike.refl U.vm) qT⟩, fun U hU hW => ⟨rfl, by
    show va_T .int t 6 jFv (fun _ => False) U U.heap
    rw [hU]
    exact ((hT.kept hS.2.1).moved hW.alike).narrow (fun _ z => z.elim)⟩⟩
  have hw : ∀ w ∈ zWs nX11_at, w ∈ zTg := fun w hw => by
    rcases List.mem_cons.mp hw with rfl | hw
    · exact m1
    · exact hw
  refine va_calli (va_runSN (Ts := zTg) (own := (zY mi).cls) (host := "RatePlanner") (index := idx) (n := 2) (As := [.ref t, .int (iI (k : Int))]) (rest := st) ⟨hx, hb, hml, hown, hts⟩ (jm_at l t k hk) ⟨va_cnB 2 hts (zTg_GoodIn hw) rfl rfl rfl (hnw _ (zinN g hg rfl)) (hts _ m2) ⟨m3.1, m3.2, by decide +kernel⟩ ⟨by show 0 + 1 ≤ R.frames; omega, by show 8 + (zMl nX11_at + 11) + 32 * 0 ≤ R.locals; omega⟩, hts _ n1, trivial⟩ hpre rfl rfl (by show ls.size = zMl mi; rw [← hnL]; exact hl.1) rfl (lv_room hsum) hd ⟨hc, hs⟩) hS (fun q _ z => z.elim) (fun q z => z.elim) (fun r u T2 H1 locs1 ht hvm hp hB hz hkk hS1 => ?_)
  subst hp
  exact h H1 locs1 ls (hP.kept (fun k x hx2 => hkk x.1 ((hP k x hx2).lt) (fun z => z.elim))) hD hS1 hl
end JN
/-- a constructor, from its entry -/
theorem jm_start {l : Launch} {D : va_G} {cI cJ : ClassId} {t d c sl mi : Nat} {av : List Value} {ws : va_W} {post : va_W → Prop} (ha : mi < 85) (ha2 : mi ≠ nL_law) (hlen : (lg_sl av).length ≤ zMl mi) (hnm : (zY mi).name = "<init>") (hrt : zRt mi = none)
    (h : ∀ (p : Program) (e : Env) (s : State) (m : MethodId) (below : List Frame) (meth : Method) (c0 : Code), jmX p l (jmR (d + 1) c sl) s m av.toArray meth c0 D cI cJ t (va_A ws s.heap.size) d mi → meth.name = "<init>" → meth.sig.returnType = none → meth.locks = false → jmG p l e (jmR (d + 1) c sl) s m av.toArray below meth c0 (MQ below (jmQ D s.heap.size ws post) av.toArray s c sl (va_A ws s.heap.size)) D (va_A ws s.heap.size) (zMl mi) 0 (lv_args 0 av) [] ws 0 0) : jmC l D cI cJ t (d + 1) c sl mi av ws post := by
  intro sz
  obtain ⟨m1, m2, m3, m4, m5, m6, m7⟩ := zMv_spec ha ha2
  refine Met.ofW (cc := zBy mi) (maxL := zMl mi) (ret := zRt mi) m4 rfl ?_
  intro p e s m args below meth c0 s₁ B hml hv
  obtain ⟨rfl, hsz, hP, hK, hN, hD0, hZ, hT⟩ := hv
  subst hsz
  have hts0 := atoms_spec (ws := zWs mi) B.pre
  have hts : ∀ w ∈ zTg, w.before _ s = true := fun w hw => hts0 w (List.mem_cons_of_mem _ hw)
  have hown : s.vm.findClass (zY mi).cls = some m.cls := findClass_of_methodNamed B.named
  have hD := hD0.self (sz := s.heap.size)
  have K : jmX p l (jmR (d + 1) c sl) s m av.toArray meth c0 D cI cJ t (va_A ws s.heap.size) d mi := ⟨B.exec, B.bytes, hml, hown, hts, hN, hK, fun q h => Or.inr h, hZ, hT, Nat.le_refl _, Nat.le_refl _⟩
  rw [lg_entry_eq]
  exact h p e s m below meth c0 K ((name_of_methodNamed B.named B.method).1.trans hnm) (B.returns.trans hrt) B.notSynchronized s.heap [] _ hP hD va_S.rf (lv_entry av hlen)
