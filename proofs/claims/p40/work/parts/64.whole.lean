/-! the law, from its entry -/
/-! THE CLAIM OUT OF ONE WALK OF THE LAW'S BODY. Your part is whole_start (and what it stands on); all else here is the same for every law, but numbers. -/
def R_law : String := "RatePlannerLaw"
def lw_P (b : Addr) (xs : List Int32) (args : Array Value) (s : State) : Prop := args = #[.ref b] ∧ s.IntsAt b xs ∧ xs.length ≤ 260 ∧ (Jvm.Cond.and given_1 narrow_1).before args s = true
def lw_Q (_ : Array Value) (s : State) (o : Outcome) (t : State) : Prop := o = .returned (some (.int 1)) ∧ Framed s o t [] 64 2311
def lw_Z (below : List Frame) (a : Array Value) (s : State) : State → Prop := fun t => ∃ o, t.status = .running ∧ Ended t below o ∧ lw_Q a s o t
/-- the law's own end, with 1 on the stack, nothing written that was there before, its room as the claim has it -/
theorem lw_ret {p : Program} {l : Launch} {e : Env} {s : State} {m : MethodId} {below : List Frame} {meth : Method} {c : Code} {b : Nat} (hx : p.tables.exec = Jvm.exec) (hb : c.code = code) (hr : meth.sig.returnType = ret) (hlocks : meth.locks = false) {pc : Nat} {H : Heap} {ls : Array Slot} (hdg : decode code pc = .ok (.ireturn, 1)) : W p l e room_1 s m #[Value.ref b] below meth c H [] 64 2311 (lw_Z below #[Value.ref b] s) (F0 m pc ls [.int 1]) := by
  intro T hT X
  obtain ⟨fs, hret, hrun, hended, hW, hframe⟩ := X.leave (v := some (.int 1)) (hlocks := hlocks) (fun h => by rw [hr] at h; cases h)
  have hmeth' : T.vm.method? m = some meth := X.method'
  refine ⟨T.setFrames fs, ?_, .returned (some (.int 1)), hrun, hended, rfl, ⟨_, rfl⟩, hW, hframe⟩
  jvm_step X.here [X.here.top, hx, hb, hdg, hmeth', hr, ret, narrow_b1]
  (try refine ⟨rfl, ?_⟩); (try refine ⟨rfl, ?_⟩)
  first | (intro acts; rw [hret _ acts rfl rfl rfl]) | rw [hret _ _ rfl rfl rfl]
  exact Steps.refl _
/-- what holds at the law's entry: the machine, the code, the tables' words (any of lw_tbl by 'hts w (by decide +kernel)'), the script of L ints xs at the cell b, what the Statement gives of the start (any of its parts by flat_of_before) -/
def lw_At (p : Program) (s : State) (m : MethodId) (meth : Method) (c : Code) (b L : Nat) (xs : Nat → Int32) : Prop :=
  p.tables.exec = Jvm.exec ∧ c.code = code ∧ meth.sig.returnType = ret ∧ c.maxLocals = 7 ∧ s.vm.findClass R_law = some m.cls ∧ (∀ w ∈ lw_tbl, w.before #[Value.ref b] s = true) ∧ va_X b L xs s s.heap ∧ b < s.heap.size ∧ meth.locks = false ∧ (Jvm.Cond.and given_1 narrow_1).before #[Value.ref b] s = true
theorem jInst : (vwCl.all fun q => lw_tbl.contains (.instantiable q.1 q.2.2)) = true := by decide +kernel
/-- behind the makings the small machine goes on -/
theorem lw_rest {p : Program} {l : Launch} {e : Env} {s : State} {m : MethodId} {below : List Frame} {meth : Method} {c : Code} {b L : Nat} {xs : Nat → Int32} {D : va_G} {cI cJ : ClassId} {t : Nat} (hL : L ≤ 260) (K : jmX p l room_1 s m #[Value.ref b] meth c D cI cJ t (fun q => s.heap.size ≤ q) 8 nL_law) (hr : meth.sig.returnType = ret) (hlocks : meth.locks = false) (hX : va_X b L xs s s.heap) (hbl : b < s.heap.size) (qs : List Nat) : jmG p l e room_1 s m #[Value.ref b] below meth c (lw_Z below #[Value.ref b] s) D (fun q => s.heap.size ≤ q) 7 13 [(2, .ref (qs.getD 63 0)), (1, .ref (qs.getD 0 0)), (0, .ref b)] [] (zW (jAd b qs) cI cJ jSg) 64 2311 := by
  obtain ⟨hx, hb, hml, hown, hts, hnw, hK, hA, hZ, hT, hfr, hlo⟩ := K
  intro H locs ls hP hD hS hl
  have hsh : ∀ k, k < zSh.length → ∃ e : va_E, (zW (jAd b qs) cI cJ jSg)[k]? = some (jAd b qs k, e) := fun k hk => ⟨_, zW_get (jAd b qs) cI cJ jSg (List.getElem?_eq_getElem hk)⟩
  have hinj : ∀ i j, i < zSh.length → j < zSh.length → jAd b qs i = jAd b qs j → i = j := fun i j hi hj e2 => by
    obtain ⟨x, hx2⟩ := hsh i hi
    obtain ⟨y, hy2⟩ := hsh j hj
    exact hD.1 i j _ _ hx2 hy2 e2
  have hAd : ∀ k, k < zSh.length → s.heap.size ≤ jAd b qs k := fun k hk => by
    obtain ⟨x, hx2⟩ := hsh k hk
    exact hD.2 k _ hx2
  have K2 : zCx p l room_1 s m #[Value.ref b] meth c 64 2311 D cI cJ (jAd b qs) (fun q => s.heap.size ≤ q) 8 nL_law := ⟨hx, hb, hml, hown, hts, hnw, hK, hinj, hAd, hA, Nat.le_refl _, Nat.le_refl _, hfr, hlo⟩
  have hX2 : zClosed (some (L, xs)) (zCallS (some (L, xs)) 8) lw_po nL_law (zXs p l e room_1 s m #[Value.ref b] below meth c 64 2311 (lw_Z below #[Value.ref b] s) D cI cJ (jAd b qs) (fun q => s.heap.size ≤ q) nL_law) := by
    refine zClosed_of K2 (fun t2 ht2 => ?_) (fun a av σ po h1 h2 h3 => zSound (some (L, xs)) l D cI cJ (jAd b qs) hinj 8 a av σ po h1 h2 h3) (fun x σ H locs ls pc hp hP hS hdg ht => ?_) (fun x σ H locs ls pc hp hP hS hdg ht => ?_) (fun σ H locs ls pc hp hP hS hdg ht => ?_)
    · cases ht2
      exact ⟨hX, hbl, Nat.not_le.mpr hbl⟩
    · have e1 : x = 1 := by
        have e2 : some (Value.int x) = some (Value.int 1) := hp
        exact Value.int.inj (Option.some.inj e2)
      subst e1
      exact va_forget hS.2.2 (lw_ret hx hb hr hlocks hdg)
    · have e2 : some (Value.long x) = some (Value.int 1) := hp
      cases e2
    · have e2 : (none : Option Value) = some (Value.int 1) := hp
      cases e2
  exact lw_13 hX2 hL jG_K rfl rfl rfl (fun _ _ => rfl) H locs ls hP hS ⟨lv_sub hl [2, 1, 0] rfl, Nat.le_of_ble_eq_true rfl⟩
set_option maxHeartbeats 4000000 in
set_option maxRecDepth 100000 in
theorem whole_start {p : Program} {e : Env} {s : State} {m : MethodId} {below : List Frame} {meth : Method} {c : Code} (l : Launch) (hflags : l.flags = flags0) {b L : Nat} {xs : Nat → Int32} (hL : L ≤ 260) (C0 : lw_At p s m meth c b L xs) : W p l e room_1 s m #[Value.ref b] below meth c s.heap [] 0 0 (lw_Z below #[Value.ref b] s) (entryFrame m ([Value.ref b] : List Value).toArray 7) := by
  obtain ⟨hx, hb, hr, hml, hown, hts, hX, hbl, hlocks, hgv⟩ := id C0
  have htg : ∀ w ∈ zTg, w.before #[Value.ref b] s = true := fun w hw => hts w (zTg_good hw).1
  have hnw : ∀ w ∈ zNw, va_Nw w s := fun w hw => by
    have hk := zNw_kind hw
    have hw2 := hts w (List.mem_filter.mp hw).1
    refine va_Nw.of ?_ hw2
    cases w <;> first | rfl | (exact absurd hk (by simp [zNst]))
  have hK13 : ∀ k : Nat, ∃ (cC : ClassId) (iS : Nat → Nat), ∀ q, vwCl[k]? = some q → u_Kn s q.1 q.2.1 q.2.2 cC iS := by
    intro k
    cases hq : vwCl[k]? with
    | none => exact ⟨0, fun _ => 0, fun q h => by cases h⟩
    | some q =>
      have hm := List.mem_of_getElem? hq
      have hi : (Cond.instantiable q.1 q.2.2) ∈ lw_tbl := List.contains_iff_mem.mp (List.all_eq_true.mp jInst q hm)
      obtain ⟨cC, iS, h⟩ := u_known (n := q.2.2) htg (zCv_spec (List.all_eq_true.mp zCv_all q hm)).1 (hts _ hi)
      exact ⟨cC, iS, fun q' h' => by cases h'; exact h⟩
  obtain ⟨D, hD13⟩ : ∃ D : va_G, ∀ (k : Nat) (q : vw_C), vwCl[k]? = some q → u_Kn s q.1 q.2.1 q.2.2 (D.1 k) (D.2 k) := ⟨(fun k => Classical.choose (hK13 k), fun k => Classical.choose (Classical.choose_spec (hK13 k))), fun k q hq => Classical.choose_spec (Classical.choose_spec (hK13 k)) q hq⟩
  obtain ⟨cI, kI, compI, i1, i2, i3⟩ := Cond.arrayClass_spec (type := .int) (show (Cond.arrayClass .int).holds #[Value.ref b] s none s [] = true from htg _ (zin 59 (by decide +kernel) rfl))
  obtain ⟨cJ, kJ, compJ, j1, j2, j3⟩ := Cond.arrayClass_spec (type := .long) (show (Cond.arrayClass .long).holds #[Value.ref b] s none s [] = true from htg _ (zin 333 (by decide +kernel) rfl))
  have hK : va_K D vwCl [(cI, .int), (cJ, .long)] s := ⟨hD13, fun k q hq => by
    match k, hq with
    | 0, hq =>
      cases hq
      exact ⟨fun n z => ⟨fun k h => (by cases h), kI, i2, compI, i3⟩, i1⟩
    | 1, hq =>
      cases hq
      exact ⟨fun n z => ⟨fun k h => (by cases h), kJ, j2, compJ, j3⟩, j1⟩
    | k + 2, hq => simp at hq⟩
  have hA : ∀ q : Nat, s.heap.size ≤ q → (fun q : Nat => s.heap.size ≤ q) q := fun _ h => h
  have hfl := flat_of_before _ hgv
  have hnA : ∀ a : Nat, a < s.heap.size → ¬ (fun q : Nat => s.heap.size ≤ q) a := fun a h => Nat.not_le.mpr h
  obtain ⟨t, ht1, hT⟩ := va_Tof (tm := .static "RatePlanner" "FIRST_STEPS" "[I") (ty := .int) (N := 6) (f := jFv) (A := fun q : Nat => s.heap.size ≤ q) (args := #[Value.ref b]) (s := s) (by decide) (hfl _ (by decide +kernel)) (va_eqt (z := 6) (hfl _ (by decide +kernel))) (fun j hj => by
    match j, hj with
    | 0, _ => exact va_eqt (z := 10) (hfl _ (by decide +kernel))
    | 1, _ => exact va_eqt (z := 11) (hfl _ (by decide +kernel))
    | 2, _ => exact va_eqt (z := 13) (hfl _ (by decide +kernel))
    | 3, _ => exact va_eqt (z := 14) (hfl _ (by decide +kernel))
    | 4, _ => exact va_eqt (z := 16) (hfl _ (by decide +kernel))
    | 5, _ => exact va_eqt (z := 18) (hfl _ (by decide +kernel))
    | j + 6, hj => omega) hnA
  have hZ : va_Z "RatePlanner" "FIRST_STEPS" "[I" (.ref t) (fun q : Nat => s.heap.size ≤ q) s s.heap := va_Zref (hts _ (List.mem_of_getElem? (i := 215) (by decide +kernel))) (htg _ (zin 16 (by decide +kernel) rfl)) ht1 hnA
  have K : jmX p l room_1 s m #[Value.ref b] meth c D cI cJ t (fun q : Nat => s.heap.size ≤ q) 8 nL_law := ⟨hx, hb, hml, hown, htg, hnw, hK, hA, hZ, hT, by decide, by decide⟩
  have hl := lv_entry ([.ref b]) (n := 7) (Nat.le_of_ble_eq_true rfl)
  rw [lg_entry_eq]
  generalize (lg_sl ([.ref b]) ++ List.replicate (7 - (lg_sl ([.ref b])).length) Slot.unset).toArray = ls at hl ⊢
  have hl : lv_has ls 7 [(0, .ref b)] := hl
  suffices hg : jmG p l e room_1 s m #[Value.ref b] below meth c (lw_Z below #[Value.ref b] s) D (fun q : Nat => s.heap.size ≤ q) 7 0 [(0, .ref b)] [] [] 0 0 from hg s.heap [] ls (fun k q h => by simp at h) ⟨fun i j p q h => by simp at h, fun k q h => by simp at h⟩ va_S.rf hl
  refine jm_new (idx := 45) (a := 11) (g1 := 29) (g2 := 30) (g3 := 16) (fs := [.null, .null, .null, .null, .null, .null, .null, .null, .null, .null, .null, .null]) K (by decide +kernel) (by decide) (by decide +kernel) (by decide +kernel) (by decide +kernel) (fun k => [.object "RatePlanner$Clip", .object "RatePlanner$Settings", .object "RatePlanner$Plan", .object "RatePlanner$Text", .object "RatePlanner$Layout", .object "RatePlanner$Model", .object "RatePlanner$Course", .object "RatePlanner$Maker", .object "RatePlanner$Mender", .object "RatePlanner$Finder", .object "RatePlanner$Slot", .object "RatePlanner$Slot"].getD k .int) (by decide +kernel) (by decide +kernel) 12 (by decide) (Nat.le_of_ble_eq_true rfl) (Nat.le_of_ble_eq_true rfl) (fun q0 => ?_)
  refine jm_dup K (by decide +kernel) ?_
  refine jm_call (idx := 86) (a := nX11_init) (g := 31) (cc := 62) (ss := 2235) (As := []) (b := q0) K rfl (jc_Planner 5 l D cI cJ t (k := 0) rfl) (by decide +kernel) (by decide) (by decide) (by decide +kernel) (by decide +kernel) (by decide +kernel) 0 rfl (by decide +kernel) (Or.inl (by decide +kernel)) (Nat.le_of_ble_eq_true rfl) (Nat.le_of_ble_eq_true rfl) (Nat.le_of_ble_eq_true rfl) rfl (fun ws2 hp => ?_)
  obtain ⟨q1, q2, q3, q4, q5, q6, q7, q8, q9, q10, q11, q12, q13, q14, q15, q16, q17, q18, q19, q20, q21, q22, q23, q24, q25, q26, q27, q28, q29, q30, q31, q32, q33, q34, q35, q36, q37, q38, q39, q40, q41, q42, q43, q44, q45, q46, q47, q48, q49, q50, q51, q52, q53, q54, q55, q56, q57, q58, q59, q60, q61, q62, rfl⟩ := hp
  refine jm_astore (k := 1) (lv' := [(1, .ref q0), (0, .ref b)]) K (by decide +kernel) (by decide) rfl ?_
  refine jm_w (ws' := ([(q0, .inr (11, [.ref q1, .ref q4, .ref q9, .ref q11, .ref q16, .ref q24, .ref q26, .ref q32, .ref q34, .ref q39, .ref q41, .ref q52])), (q1, .inr (0, [.int 0, .ref q2, .ref q3])), (q2, jI cI 60), (q3, jI cI 60), (q4, .inr (8, [.int 12, .int 2, .int 10, .int 45, .int 60000, .int 90, .int 4000, .int 0, .ref q5, .ref q6, .ref q7, .ref q8])), (q5, .inl (cI, 60, .inl (jWt 60))), (q6, jI cI 6), (q7, jI cI 6), (q8, jI cI 6), (q9, .inr (7, [.int 0, .ref q10])), (q10, jI cI 60), (q11, .inr (10, [.int 0, .ref q12, .ref q15, .int 0, .int 0, .int 0])), (q12, .inr (0, [.int 0, .ref q13, .ref q14])), (q13, jI cI 60), (q14, jI cI 60), (q15, jI cI 100), (q16, .inr (3, [.int 0, .int 0, .int 0, .ref q17, .ref q18, .ref q19, .ref q20, .ref q21, .ref q22, .ref q23])), (q17, jI cI 60), (q18, jI cI 60), (q19, jI cI 60), (q20, jI cI 60), (q21, jI cI 60), (q22, jI cI 60), (q23, jI cI 60), (q24, .inr (6, [.ref q16, .ref q4, .ref q25])), (q25, .inl (cI, 52, .inl (jSt 52))), (q26, .inr (1, [.int 0, .ref q27, .ref q28, .ref q29, .ref q30, .ref q31, .ref q24, .int 0, .int 0, .int 0])), (q27, jI cI 60), (q28, jI cI 60), (q29, jI cI 60), (q30, jI cI 60), (q31, jI cI 60), (q32, .inr (4, [.ref q24, .ref q4, .ref q16, .ref q26, .ref q33])), (q33, jI cI 60), (q34, .inr (5, [.ref q24, .ref q4, .ref q16, .ref q26, .ref q35, .ref q36, .ref q37, .ref q38])), (q35, jI cI 60), (q36, jI cI 60), (q37, jJ cJ 60), (q38, jJ cJ 60), (q39, .inr (2, [.ref q4, .ref q16, .ref q26, .ref q32, .ref q40])), (q40, jI cI 60), (q41, .inr (9, [.int 0, .ref q42, .ref q45, .ref q50])), (q42, .inr (0, [.int 0, .ref q43, .ref q44])), (q43, jI cI 60), (q44, jI cI 60), (q45, .inr (8, [.int 12, .int 2, .int 10, .int 45, .int 60000, .int 90, .int 4000, .int 0, .ref q46, .ref q47, .ref q48, .ref q49])), (q46, .inl (cI, 60, .inl (jWt 60))), (q47, jI cI 6), (q48, jI cI 6), (q49, jI cI 6), (q50, .inr (7, [.int 0, .ref q51])), (q51, jI cI 60), (q52, .inr (9, [.int 0, .ref q53, .ref q56, .ref q61])), (q53, .inr (0, [.int 0, .ref q54, .ref q55])), (q54, jI cI 60), (q55, jI cI 60), (q56, .inr (8, [.int 12, .int 2, .int 10, .int 45, .int 60000, .int 90, .int 4000, .int 0, .ref q57, .ref q58, .ref q59, .ref q60])), (q57, .inl (cI, 60, .inl (jWt 60))), (q58, jI cI 6), (q59, jI cI 6), (q60, jI cI 6), (q61, .inr (7, [.int 0, .ref q62])), (q62, jI cI 60)] : va_W)) rfl ?_
  refine jm_bipush (n := 64) (v := 64) K (by decide +kernel) (by decide) ?_
  refine jm_newi (N := 64) K (by decide +kernel) (by decide) (by decide) (by decide) (Nat.le_of_ble_eq_true rfl) (Nat.le_of_ble_eq_true rfl) (fun q63 => ?_)
  refine jm_astore (k := 2) (lv' := [(2, .ref q63), (1, .ref q0), (0, .ref b)]) K (by decide +kernel) (by decide) rfl ?_
  refine jm_w (ws' := zW (jAd b [q0, q1, q2, q3, q4, q5, q6, q7, q8, q9, q10, q11, q12, q13, q14, q15, q16, q17, q18, q19, q20, q21, q22, q23, q24, q25, q26, q27, q28, q29, q30, q31, q32, q33, q34, q35, q36, q37, q38, q39, q40, q41, q42, q43, q44, q45, q46, q47, q48, q49, q50, q51, q52, q53, q54, q55, q56, q57, q58, q59, q60, q61, q62, q63]) cI cJ jSg) (jW_all cI cJ b q0 q1 q2 q3 q4 q5 q6 q7 q8 q9 q10 q11 q12 q13 q14 q15 q16 q17 q18 q19 q20 q21 q22 q23 q24 q25 q26 q27 q28 q29 q30 q31 q32 q33 q34 q35 q36 q37 q38 q39 q40 q41 q42 q43 q44 q45 q46 q47 q48 q49 q50 q51 q52 q53 q54 q55 q56 q57 q58 q59 q60 q61 q62 q63).symm ?_
  exact lw_rest (l := l) hL K hr hlocks hX hbl [q0, q1, q2, q3, q4, q5, q6, q7, q8, q9, q10, q11, q12, q13, q14, q15, q16, q17, q18, q19, q20, q21, q22, q23, q24, q25, q26, q27, q28, q29, q30, q31, q32, q33, q34, q35, q36, q37, q38, q39, q40, q41, q42, q43, q44, q45, q46, q47, q48, q49, q50, q51, q52, q53, q54, q55, q56, q57, q58, q59, q60, q61, q62, q63]
set_option maxHeartbeats 4000000 in
theorem lw_walk (l : Launch) (hflags : l.flags = flags0) (b : Addr) (xs : List Int32) : MetFree l x (headSpec (Jvm.Cond.code x code maxLocals ret :: tables_1) room_1) (lw_P b xs) (fun _ _ _ _ _ => True) lw_Q := by
  refine MetFree.of_bodyS (code := code) (maxLocals := maxLocals) (ret := ret) (by decide) ?_ ?_
  · intro args s m h hn
    obtain ⟨meth, c, h1, h2, h3, h4, h5, h6, -, -⟩ := Cond.code_spec hn (atoms_spec (ws := Jvm.Cond.code x code maxLocals ret :: tables_1) h _ List.mem_cons_self)
    exact ⟨meth, c, h1, h2, h3, h4, h5, h6⟩
  · intro p e s m args below meth c s₁ B hml0 hP _
    obtain ⟨rfl, hx, hbd, hgv⟩ := hP
    obtain ⟨scr, harrAt, hlist, hof, hsmall⟩ := hx
    obtain ⟨hcb, hkn, -, -⟩ := State.arrayAt?_spec harrAt
    have hown : s.vm.findClass R_law = some m.cls := findClass_of_methodNamed B.named
    have hts0 : ∀ c ∈ (Jvm.Cond.code x code maxLocals ret :: tables_1), c.before #[Value.ref b] s = true := atoms_spec (ws := Jvm.Cond.code x code maxLocals ret :: tables_1) B.pre
    have hts : ∀ w ∈ lw_tbl, w.before #[Value.ref b] s = true := k2_hts_sels lw_privs (fun w hw => hts0 w (List.mem_cons_of_mem _ hw)) lw_privs_ok
    have hml : c.maxLocals = 7 := B.maxLocals_eq (hts0 _ List.mem_cons_self)
    have X₀ : Stand p l e room_1 s m #[Value.ref b] below meth c s₁ [] 0 0 := Stand.of_body B
    have hh0 : s₁.heap = s.heap := by rw [B.state]; rfl
    have hsz : scr.slots.size = xs.length := by rw [← Array.length_toList, hlist, List.length_map]
    have hval : ∀ j : Nat, j < xs.length → scr.slots[j]? = some (.int (xs.getD j 0)) := fun j hj => by
      rw [← Array.getElem?_toList, hlist]
      simp [hj]
    have hbl : b < s.heap.size := (Array.getElem?_eq_some_iff.mp hcb).1
    have hX : va_X b xs.length (fun j => xs.getD j 0) s s.heap := ⟨scr, hcb, hof, hkn, hsz, hval⟩
    have K : W p l e room_1 s m #[Value.ref b] below meth c s₁.heap [] 0 0 (lw_Z below #[Value.ref b] s) (entryFrame m ([Value.ref b] : List Value).toArray 7) := by
      rw [hh0]
      exact whole_start l hflags hbd ⟨B.exec, B.bytes, B.returns, hml, hown, hts, hX, hbl, B.notSynchronized, hgv⟩
    obtain ⟨t, a1, o, b1, b2, b3⟩ := K s₁ rfl X₀
    exact ⟨t, o, a1, b1, b2, b3⟩
theorem lw_pre_spec {args : Array Value} {s : State} (h : (Jvm.Cond.and given_1 narrow_1).before args s = true) (hr : rest_1_c.before args s = true) : ∃ (b : Addr) (xs : List Int32), lw_P b xs args s := by
  have hs := flat_of_before _ h
  have hq := flat_of_before _ hr
  have hc : (Cond.count 1).before args s = true := hs _ (by decide +kernel)
  have harr : (Cond.arrayOf (.arg 0) .int).before args s = true := hs _ (by decide +kernel)
  have hle : (Cond.le (.length (.arg 0)) (.int 260)).before args s = true := hs _ (by decide +kernel)
  have hlen : (Cond.isInt (.length (.arg 0))).before args s = true := hq _ (by decide +kernel)
  have hall : (Cond.all (.arg 0) (.isInt (.elem (.arg 0) (.index 0)))).before args s = true := hq _ (by decide +kernel)
  obtain ⟨b, xs, hb, hx⟩ := State.ints_of_pre rfl harr hlen hall
  have hsm : xs.length < 2 ^ 31 := hx.choose_spec.2.2.2
  have hev : (Term.length (.arg 0)).eval args s none [] s = some (.int xs.length.toInt32) := hx.length_eval hb
  have hv := Cond.le_ints hev (show (Term.int 260).eval args s none [] s = some (.int 260) from rfl)
  have hd : xs.length.toInt32 ≤ 260 := by
    simpa [Cond.before, Cond.holds, hv] using hle
  have hN : xs.length ≤ 260 := (Int32.ofNat_le_ofNat hsm (by decide)).mp (show Int32.ofNat xs.length ≤ Int32.ofNat 260 from hd)
  exact ⟨b, xs, Cond.one_arg hc (show args[0]? = some (.ref b) from hb), hx, hN, h⟩
theorem lw_comes (l : Launch) (hflags : l.flags = flags0) : Comes l x (Jvm.Cond.code x code maxLocals ret :: tables_1) room_1 (fun tb e args s => Calls_1 tb e args s ∧ rest_1 tb e args s ∧ Pre_1 tb e args s)
    (fun _ _ args s o t => lw_Q args s o t) := by
  intro p e ha hc hk s m args below hf hfit hheap happ hpre
  obtain ⟨b, xs, hP⟩ := lw_pre_spec hpre.2.2 hpre.2.1
  obtain ⟨k, o, h1, h2, h3, hQ⟩ := lw_walk l hflags b xs p e ha hc hk s m args below hf ((Spec.applies_iff_loose hf).mp happ).1 hP trivial
  exact ⟨k, o, h1, h2, h3, hQ⟩
theorem lw_frame {s t : State} {o : Outcome} {args : Array Value} (h : Framed s o t [] 64 2311) :
    Framed s o t (fieldLocs frame_1_writes args s ++ arrayLocs frame_1_arrays args s ++ staticLocs frame_1_statics s) 64 2311 := h
theorem lw_limb (L : Cond) (hL : ∀ (args : Array Value) (s t : State), L.after args s (.returned (some (.int 1))) t = true) :
    ArmFor flags0 classFile x code maxLocals ret World_1 tables_1 room_1 Calls_1 rest_1 Pre_1
      (fun tb e a s o t => postC L tb e a s o t ∧ Framed s o t (fieldLocs frame_1_writes a s ++ arrayLocs frame_1_arrays a s ++ staticLocs frame_1_statics s) 64 2311) := by
  intro l hflags _ _ p e ha hc hk s m args below hf hfit hheap happ hpre
  obtain ⟨k, o, h1, h2, h3, rfl, hF⟩ := lw_comes l hflags p e ha hc hk s m args below hf hfit hheap happ hpre
  exact ⟨k, _, h1, h2, h3, hL args s _, lw_frame hF⟩
theorem i_vc : Claimed_1_1 ∧ Claimed_1_2 := ⟨lw_limb limb_1_1 (fun args s t => by simp [limb_1_1, Cond.after, Cond.holds, Cond.value]), lw_limb limb_1_2 (fun args s t => Cond.after_iff.mpr (by
  first | (rw [show limb_1_2 = Cond.eq .result (.int 1) from rfl, Cond.eq_ints (x := 1) (y := 1) rfl rfl]; simp; done) | (simp [limb_1_2, Cond.value, Term.eval]; done)))⟩

