/-! the small machine is the machine: one instruction -/
def zClosed (sc : Option (Nat × (Nat → Int32))) (C : zCa) (post : zPo) (mi : Nat) (X : zX) : Prop :=
  (∀ (Z : zX) (pc : Nat) (o : zOp) (ls : zLo) (st : List Value) (σ : zS), (∀ (pc : Nat) (ls : zLo) (st : List Value) (σ : zS), Z pc ls st σ → X pc ls st σ) → zOk mi pc o = true → zEx sc C post Z o ls st σ → X pc ls st σ) ∧
  ∀ (ms : List (Nat × List Bool)) (pc : Nat) (ls : zLo) (st : List Value) (σ : zS), X pc (zMk ms pc ls) st σ → X pc ls st σ
def zCall : Nat → zCa
  | 0 => fun _ _ _ _ => False
  | d + 1 => fun mi av σ post => zG (Nat.ble (zAr av).length (zMl mi)) (∀ X : zX, zClosed none (zCall d) post mi X → X 0 (zAr av ++ List.replicate (zMl mi - (zAr av).length) none) [] σ)
/-- the same, of the law's own methods, which see the script -/
def zCallS (sc : Option (Nat × (Nat → Int32))) : Nat → zCa
  | 0 => fun _ _ _ _ => False
  | d + 1 => fun mi av σ post => zG (Nat.ble (zAr av).length (zMl mi)) (∀ X : zX, zClosed sc (zCallS sc d) post mi X → X 0 (zAr av ++ List.replicate (zMl mi - (zAr av).length) none) [] σ)
theorem zPn_mono : ∀ (n : Nat) (acc st : List Value) (k k2 : List Value → List Value → Prop), (∀ av r, k av r → k2 av r) → zPn n acc st k → zPn n acc st k2
  | 0, _, _, _, _, hk, h => hk _ _ h
  | _ + 1, _, [], _, _, _, h => False.elim h
  | n + 1, acc, v :: st, k, k2, hk, h => zPn_mono n (v :: acc) st k k2 hk h
theorem zG_imp2 {b : Bool} {P Q : Prop} (f : P → Q) (h : zG b P) : zG b Q := by
  obtain ⟨rfl, h2⟩ := zG_inv h
  exact f h2
theorem zEx_mono {sc : Option (Nat × (Nat → Int32))} {C C2 : zCa} (hC : ∀ a av σ po, C a av σ po → C2 a av σ po) {post : zPo} {Z : zX} {o : zOp} {lv : zLo} {st : List Value} {σ : zS} (h : zEx none C post Z o lv st σ) : zEx sc C2 post Z o lv st σ := by
  obtain ⟨i, n, a, b, c, e, g, v, w, tb⟩ := o
  cases i with
  | iaload =>
    obtain ⟨q, i, r, rfl, h0⟩ := zAI_inv (show zAI st fun q i r => zIl none σ q i fun x => Z n lv (.int x :: r) σ from h)
    show zIl sc σ q i fun x => Z n lv (.int x :: r) σ
    unfold zIl at h0 ⊢
    cases hz : zIsI q with
    | true => rw [hz] at h0; exact h0
    | false => rw [hz] at h0; exact False.elim h0
  | arraylength =>
    obtain ⟨q, r, rfl, h0⟩ := zA_inv (show zA st fun q r => zLe none q fun x => Z n lv (.int x :: r) σ from h)
    show zLe sc q fun x => Z n lv (.int x :: r) σ
    unfold zLe at h0 ⊢
    cases hz : (zIsI q || zIsJ q) with
    | true => rw [hz] at h0; exact h0
    | false => rw [hz] at h0; exact False.elim h0
  | invokevirtual z => exact zPn_mono b [] st _ _ (fun av r hq => zG_imp2 (fun q => by
    match c, q with
    | 0, q => exact hC _ _ _ _ q
    | 1, q => exact hC _ _ _ _ q
    | k + 2, q => exact hC _ _ _ _ q) hq) h
  | invokestatic z =>
    match e, h with
    | 0, h => exact zPn_mono b [] st _ _ (fun av r hq => zG_imp2 (fun q => by
      match c, q with
      | 0, q => exact hC _ _ _ _ q
      | 1, q => exact hC _ _ _ _ q
      | k + 2, q => exact hC _ _ _ _ q) hq) h
    | 1, h => exact h
    | 2, h => exact h
    | 3, h => exact h
    | k + 4, h => exact False.elim h
  | ifCond cd z => cases cd <;> exact h
  | if_icmp cd z => cases cd <;> exact h
  | getfield z => exact h
  | putfield z => exact h
  | _ => first | exact h | exact False.elim h
/-- what a method does that never sees the script, it does beside it -/
theorem zUp {sc : Option (Nat × (Nat → Int32))} : ∀ {d a : Nat} {av : List Value} {σ : zS} {post : zPo}, zCall d a av σ post → zCallS sc d a av σ post
  | 0, _, _, _, _, h => False.elim h
  | d + 1, a, av, σ, post, h => zG_imp2 (fun hr X hX => hr X ⟨fun Z pc o ls st σ hZ hk hx => hX.1 Z pc o ls st σ hZ hk (zEx_mono (fun _ _ _ _ q => zUp q) hx), hX.2⟩) h
def zSeq (sc : Option (Nat × (Nat → Int32))) (C : zCa) (post : zPo) (X : zX) (ms : List (Nat × List Bool)) : List zOp → Nat → zX
  | [], _ => fun pc ls st σ => X pc (zMk ms pc ls) st σ
  | o :: r, p => fun pc ls st σ => match Nat.beq pc p with
    | true => zEx sc C post (zSeq sc C post X ms r o.2.1) o ls st σ
    | false => zSeq sc C post X ms r o.2.1 pc ls st σ
theorem zSeq_ok {sc : Option (Nat × (Nat → Int32))} {C : zCa} {post : zPo} {mi : Nat} {X : zX} (hX : zClosed sc C post mi X) (ms : List (Nat × List Bool)) : ∀ (is : List zOp) (p pc : Nat) (ls : zLo) (st : List Value) (σ : zS), zOks mi is p = true → zSeq sc C post X ms is p pc ls st σ → X pc ls st σ
  | [], p, pc, ls, st, σ, _, h => hX.2 ms pc ls st σ h
  | o :: r, p, pc, ls, st, σ, hk, h => by
    simp only [zOks, Bool.and_eq_true] at hk
    simp only [zSeq] at h
    cases e : Nat.beq pc p with
    | true =>
      rw [e] at h
      have e2 := Nat.eq_of_beq_eq_true e
      subst e2
      exact hX.1 _ pc o ls st σ (fun pc ls st σ h => zSeq_ok hX ms r o.2.1 pc ls st σ hk.2 h) hk.1 h
    | false =>
      rw [e] at h
      exact zSeq_ok hX ms r o.2.1 pc ls st σ hk.2 h
def zWs (mi : Nat) : List Cond := .code (zY mi) (zBy mi) (zMl mi) (zRt mi) :: zTg
def zRm (d : Nat) : Room := { frames := d, cells := 0, slots := 0, locals := 32 * d }
def zA0 (ad : Nat → Nat) (sz : Nat) : Nat → Prop := fun q => (∃ k, k < zSh.length ∧ ad k = q) ∨ sz ≤ q
def zQ (D : va_G) (cI cJ : ClassId) (ad : Nat → Nat) (sz : Nat) (post : zPo) : Array Value → State → Outcome → State → Prop := fun _ st oc t => (∃ (r : Option Value) (σ : zS), oc = .returned r ∧ post r σ ∧ va_P D vwCl (zW ad cI cJ σ) t.heap) ∧ va_F (zA0 ad sz) st t
def zB (sc : Option (Nat × (Nat → Int32))) (D : va_G) (cI cJ : ClassId) (ad : Nat → Nat) (sz : Nat) (σ : zS) : State → Prop := fun U => U.heap.size = sz ∧ va_P D vwCl (zW ad cI cJ σ) U.heap ∧ va_K D vwCl [(cI, .int), (cJ, .long)] U ∧ (∀ w ∈ zNw, va_Nw w U) ∧ ∀ t, sc = some t → va_X (ad 80) t.1 t.2 U U.heap ∧ ad 80 < sz ∧ ∀ k, k < zSh.length → ad k ≠ ad 80
def zCon (sc : Option (Nat × (Nat → Int32))) (l : Launch) (D : va_G) (cI cJ : ClassId) (ad : Nat → Nat) (d : Nat) (mi : Nat) (av : List Value) (σ : zS) (post : zPo) : Prop :=
  ∀ sz : Nat, Met l (zY mi) (zWs mi) (zRm d) (va_Pc (av.map (zR ad)) (zB sc D cI cJ ad sz σ)) (zQ D cI cJ ad sz post) 0 0 (zA0 ad sz)
theorem zLen {bs : ByteArray} {pc n k : Nat} {i : Instr} (h1 : Nat.blt pc n = true) (h2 : decode bs pc = .ok (i, n - pc)) (h3 : Nat.beq (n - pc) k = true) : n = pc + k ∧ decode bs pc = .ok (i, k) := by
  have a := Nat.le_of_ble_eq_true h1
  have b := Nat.eq_of_beq_eq_true h3
  exact ⟨by omega, by rw [← b]; exact h2⟩
theorem zW_inv {ad : Nat → Nat} {cI cJ : ClassId} {σ : zS} {k : Nat} {q : Nat × va_E} (h : (zW ad cI cJ σ)[k]? = some q) : k < zSh.length ∧ q.1 = ad k := by
  have hl : k < (zW ad cI cJ σ).length := (List.getElem?_eq_some_iff.mp h).1
  have hz : (zW ad cI cJ σ).length = zSh.length := zWA_len ad cI cJ σ zSh 0
  rw [hz] at hl
  have e := zW_get ad cI cJ σ (List.getElem?_eq_getElem hl)
  rw [h] at e
  exact ⟨hl, congrArg Prod.fst (Option.some.inj e)⟩
theorem zD_of {ad : Nat → Nat} {cI cJ : ClassId} {A : Nat → Prop} (hi : ∀ i j, i < zSh.length → j < zSh.length → ad i = ad j → i = j) (hA : ∀ k, k < zSh.length → A (ad k)) (σ : zS) : va_D A (zW ad cI cJ σ) := by
  refine ⟨fun i j x y hx hy e => ?_, fun k q h => ?_⟩
  · obtain ⟨h1, h2⟩ := zW_inv hx
    obtain ⟨h3, h4⟩ := zW_inv hy
    exact hi i j h1 h3 (by rw [← h2, ← h4, e])
  · obtain ⟨h1, h2⟩ := zW_inv h
    rw [h2]
    exact hA k h1
section ZS
variable {p : Program} {l : Launch} {e : Env} {R : Room} {s : State} {m : MethodId} {args : Array Value} {below : List Frame} {meth : Method} {c : Code} {H : Heap} {locs : List Loc} {cells slots : Nat} {Q : State → Prop}
theorem z_callG {pc : Nat} {ls : Array Slot} {rest st0 : List Value} {Qa : State → Outcome → State → Prop} {free : Addr → Prop} (hr : va_Run p l e R s m args below meth c H locs cells slots 0 0 (F0 m pc ls st0) rest Qa free)
    (kk : ∀ (v : Option Value) (st₀ t : State) (H1 : Heap) (L : List Loc), st₀.heap = H → t.heap = H1 → Qa st₀ (.returned v) t → (∀ q ∈ L, free q.base) → W p l e R s m args below meth c H1 (locs ++ L) cells slots Q (F0 m (pc + 3) ls (v.toList ++ rest))) : W p l e R s m args below meth c H locs cells slots Q (F0 m pc ls st0) := by
  intro T hT X
  obtain ⟨v, st₀, t, T', L, h0, X', hL, e1, e2, hq, st⟩ := hr T hT X
  obtain ⟨t2, a1, b1⟩ := kk v st₀ t T'.heap L h0 e1.symm hq hL T' rfl X'
  exact ⟨t2, st t2 a1, b1⟩
theorem zS_call {ad : Nat → Nat} {A : Nat → Prop} {H0 H1 : Heap} {st₀ t : State} {L : List Loc} (hS : va_S A H0 H locs) (hAd : ∀ k, k < zSh.length → A (ad k)) (hA : ∀ q, H0.size ≤ q → A q) (h0 : st₀.heap = H) (hF : va_F (zA0 ad H.size) st₀ t) (ht : t.heap = H1) (hL : ∀ q ∈ L, zA0 ad H.size q.base) : va_S A H0 H1 (locs ++ L) := by
  subst h0; subst ht
  have hz : ∀ q, zA0 ad st₀.heap.size q → A q := by
    intro q h
    rcases h with ⟨k, h1, h2⟩ | h
    · rw [← h2]; exact hAd k h1
    · exact hA q (Nat.le_trans hS.1 h)
  refine ⟨Nat.le_trans hS.1 hF.1, fun q h1 h2 => ?_, fun q hq => ?_⟩
  · rw [hF.2 q (Nat.lt_of_lt_of_le h1 hS.1) (fun z => h2 (hz q z))]
    exact hS.2.1 q h1 h2
  · rcases List.mem_append.mp hq with h | h
    · exact hS.2.2 q h
    · exact hz _ (hL q h)
end ZS
theorem zTg_GoodIn {ws : List Cond} (h : ∀ w ∈ ws, w ∈ zTg) : GoodIn zTg ws := fun w hw => ⟨h w hw, (zTg_good (h w hw)).2⟩
theorem zMv_spec {a : Nat} (h : a < 85) (h2 : a ≠ nL_law) : (Cond.code (zY a) (zBy a) (zMl a) (zRt a) ∈ zTg) ∧ (Cond.initialized (zY a).cls ∈ zTg) ∧ ((zY a).cls ≠ "java/lang/invoke/MethodHandle" ∧ (zY a).cls ≠ "java/lang/invoke/VarHandle") ∧ plainName (zY a).cls = true ∧ zMl a ≤ 13 ∧
    (zMs a = true → Cond.static (zY a) ∈ zTg) ∧ (zMs a = false → Cond.instanceMethod (zY a) ∈ zTg ∧ ((zY a).name = "<init>" ∨ Cond.selects (zY a).cls (zY a) (zY a) ∈ zTg) ∧ zMc a < 12 ∧ (zCl (zMc a)).1 = (zY a).cls) := by
  have h3 := zMv_all a h h2
  simp only [zMv, zNoH, Bool.and_eq_true, decide_eq_true_eq] at h3
  obtain ⟨⟨⟨⟨⟨h4, h5⟩, h6⟩, h7⟩, h8⟩, h9⟩ := h3
  refine ⟨zin _ h4 rfl, zin _ h5 rfl, h6, h7, Nat.le_of_ble_eq_true h8, fun q => ?_, fun q => ?_⟩
  · rw [q] at h9
    exact zin _ (of_decide_eq_true h9) rfl
  · rw [q] at h9
    simp only [Bool.and_eq_true, Bool.or_eq_true, decide_eq_true_eq] at h9
    obtain ⟨⟨⟨g1, g2⟩, g3⟩, g4⟩ := h9
    exact ⟨zin _ g1 rfl, g2.imp id (fun z => zin _ z rfl), Nat.le_of_ble_eq_true g3, g4⟩
theorem zCl_get {a : Nat} (h : a < 12) : vwCl[a]? = some ((zCl a).1, (zCl a).2.1, (zCl a).2.2) ∧ zCv (zCl a) = true := by
  have hl : a < vwCl.length := h
  have e : vwCl[a]? = some (zCl a) := by
    unfold zCl
    rw [List.getD_eq_getElem?_getD, List.getElem?_eq_getElem hl]
    rfl
  exact ⟨e, List.all_eq_true.mp zCv_all _ (List.mem_of_getElem? e)⟩
theorem zCv_spec {q : vw_C} (h : zCv q = true) : (∀ w ∈ u_ws q.1 q.2.1 q.2.2, w ∈ zTg) ∧ (∀ k, k < q.2.2 → parseFieldDescriptor (q.2.1 k).2.2.1 = some ((parseFieldDescriptor (q.2.1 k).2.2.1).getD .int)) ∧ (∀ a, a < q.2.2 → ∀ b, b < q.2.2 → a ≠ b → (q.2.1 a).2.1 ≠ (q.2.1 b).2.1) := by
  simp only [zCv, Bool.and_eq_true] at h
  obtain ⟨h1, h2⟩ := h
  refine ⟨fun w hw => ?_, fun k hk => ?_, fun a ha b hb hab => ?_⟩
  · have e := List.all_eq_true.mp h1 w hw
    simp only [Bool.and_eq_true, decide_eq_true_eq] at e
    exact List.mem_filter.mpr e
  · have e := List.all_eq_true.mp h2 k (List.mem_range.mpr hk)
    simp only [Bool.and_eq_true] at e
    obtain ⟨v, hv⟩ := Option.isSome_iff_exists.mp e.1
    rw [hv]; rfl
  · have e := List.all_eq_true.mp h2 b (List.mem_range.mpr hb)
    simp only [Bool.and_eq_true] at e
    have e2 := List.all_eq_true.mp e.2 a (List.mem_range.mpr ha)
    simp only [Bool.or_eq_true, decide_eq_true_eq] at e2
    rcases e2 with e2 | e2
    · exact absurd (Nat.eq_of_beq_eq_true e2) hab
    · exact e2
theorem zNw_kind {w : Cond} (h : w ∈ zNw) : zNst w = true := (List.mem_filter.mp h).2
theorem zNw_same {w : Cond} (h : w ∈ zNw) {u U : State} (hv : u.vm = U.vm) (hZ : va_Nw w u) : va_Nw w U := by
  have hk := zNw_kind h
  cases w <;> first | (exact va_Nw.same rfl hv hZ) | (exact absurd hk (by simp [zNst]))
theorem zNw_warm {w : Cond} (h : w ∈ zNw) {s U : State} (hW : s.WarmedH U.vm) (hZ : va_Nw w s) : va_Nw w U := by
  have hk := zNw_kind h
  cases w <;> first | (exact va_Nw.warmF hW hZ) | (exact va_Nw.warmM hW hZ) | (exact absurd hk (by simp [zNst]))
theorem zB_blind (sc : Option (Nat × (Nat → Int32))) (D : va_G) (cI cJ : ClassId) (ad : Nat → Nat) (sz : Nat) (σ : zS) (av : List Value) : FrameBlind (va_Pc av (zB sc D cI cJ ad sz σ)) := by
  intro a U g mk q
  obtain ⟨q0, q1, qP, qK, qN, qX⟩ := q
  exact ⟨q0, q1, qP, va_K.moved (u := U) (U := U.calling g mk a) (Vm.Alike.refl U.vm) qK, fun w hw => zNw_same hw (u := U) (U := U.calling g mk a) rfl (qN w hw), fun t ht => ⟨va_X.moved (u := U) (U := U.calling g mk a) (Vm.Alike.refl U.vm) (qX t ht).1, (qX t ht).2⟩⟩
