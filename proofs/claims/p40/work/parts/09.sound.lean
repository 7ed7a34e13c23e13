/-! one instruction, whichever; a method of any depth -/
theorem zRI_inv {st : List Value} {k : Int32 → Prop} (h : zRI st k) : ∃ x, st = [.int x] ∧ k x := by
  unfold zRI at h
  split at h
  · exact ⟨_, rfl, h⟩
  · exact False.elim h
theorem zRJ_inv {st : List Value} {k : Int64 → Prop} (h : zRJ st k) : ∃ x, st = [.long x] ∧ k x := by
  unfold zRJ at h
  split at h
  · exact ⟨_, rfl, h⟩
  · exact False.elim h
theorem zRV_inv {st : List Value} {k : Prop} (h : zRV st k) : st = [] ∧ k := by
  unfold zRV at h
  split at h
  · exact ⟨rfl, h⟩
  · exact False.elim h
section ZE
variable {p : Program} {l : Launch} {e : Env} {R : Room} {s : State} {m : MethodId} {args : Array Value} {below : List Frame} {meth : Method} {c : Code} {cells slots : Nat} {Q : State → Prop} {D : va_G} {cI cJ : ClassId} {ad : Nat → Nat} {A : Nat → Prop} {d mi : Nat}
variable {sc : Option (Nat × (Nat → Int32))} {C : zCa} {post : zPo} {Z : zX}
theorem zEx_ok (K : zCx p l R s m args meth c cells slots D cI cJ ad A d mi)
    (hsc : ∀ t, sc = some t → va_X (ad 80) t.1 t.2 s s.heap ∧ ad 80 < s.heap.size ∧ ¬ A (ad 80))
    (hC : ∀ (a : Nat) (av : List Value) (σ : zS) (po : zPo), a < 85 → a ≠ nL_law → C a av σ po → zCon sc l D cI cJ ad d a av σ po)
    (hRi : ∀ (x : Int32) (σ : zS) (H : Heap) (locs : List Loc) (ls : Array Slot) (pc : Nat), post (some (.int x)) σ → va_P D vwCl (zW ad cI cJ σ) H → va_S A s.heap H locs → decode (zBy mi) pc = .ok (.ireturn, 1) → (zRt mi = some .int ∨ (zRt mi = some .boolean ∧ (x == 0 || x == 1) = true)) → W p l e R s m args below meth c H locs cells slots Q (F0 m pc ls [.int x]))
    (hRl : ∀ (x : Int64) (σ : zS) (H : Heap) (locs : List Loc) (ls : Array Slot) (pc : Nat), post (some (.long x)) σ → va_P D vwCl (zW ad cI cJ σ) H → va_S A s.heap H locs → decode (zBy mi) pc = .ok (.lreturn, 1) → zRt mi = some .long → W p l e R s m args below meth c H locs cells slots Q (F0 m pc ls [.long x]))
    (hRv : ∀ (σ : zS) (H : Heap) (locs : List Loc) (ls : Array Slot) (pc : Nat), post none σ → va_P D vwCl (zW ad cI cJ σ) H → va_S A s.heap H locs → decode (zBy mi) pc = .ok (.return_, 1) → zRt mi = none → W p l e R s m args below meth c H locs cells slots Q (F0 m pc ls []))
    (hZ : zZX p l e R s m args below meth c cells slots Q D cI cJ ad A mi Z) {pc : Nat} {o : zOp} {lv : zLo} {st : List Value} {σ : zS} (hk : zOk mi pc o = true) (h : zEx sc C post Z o lv st σ) : zXs p l e R s m args below meth c cells slots Q D cI cJ ad A mi pc lv st σ := by
  obtain ⟨i, n, a, b, k1, e1, g, v, w, tb⟩ := o
  cases i with
  | iconst z => exact zo_iconst K hZ hk h
  | bipush z => exact zo_bipush K hZ hk h
  | sipush z => exact zo_sipush K hZ hk h
  | ldc z => exact zo_ldc K hZ hk h
  | lconst z => exact zo_lconst K hZ hk h
  | ldc2_w z => exact zo_ldc2 K hZ hk h
  | iload_n z => exact zo_iload_n K hZ hk h
  | iload z => exact zo_iload K hZ hk h
  | lload_n z => exact zo_lload_n K hZ hk h
  | lload z => exact zo_lload K hZ hk h
  | aload_n z => exact zo_aload_n K hZ hk h
  | aload z => exact zo_aload K hZ hk h
  | istore_n z => exact zo_istore_n K hZ hk h
  | istore z => exact zo_istore K hZ hk h
  | lstore_n z => exact zo_lstore_n K hZ hk h
  | lstore z => exact zo_lstore K hZ hk h
  | astore_n z => exact zo_astore_n K hZ hk h
  | iinc z y => exact zo_iinc K hZ hk h
  | iadd => exact zo_iadd K hZ hk h
  | isub => exact zo_isub K hZ hk h
  | imul => exact zo_imul K hZ hk h
  | iand => exact zo_iand K hZ hk h
  | ishl => exact zo_ishl K hZ hk h
  | ishr => exact zo_ishr K hZ hk h
  | idiv => exact zo_idiv K hZ hk h
  | irem => exact zo_irem K hZ hk h
  | ladd => exact zo_ladd K hZ hk h
  | lsub => exact zo_lsub K hZ hk h
  | lmul => exact zo_lmul K hZ hk h
  | ldiv => exact zo_ldiv K hZ hk h
  | lcmp => exact zo_lcmp K hZ hk h
  | ineg => exact zo_ineg K hZ hk h
  | i2l => exact zo_i2l K hZ hk h
  | l2i => exact zo_l2i K hZ hk h
  | dup => exact zo_dup K hZ hk h
  | pop => exact zo_pop K hZ hk h
  | dup2 => exact zo_dup2 K hZ hk h
  | laload => exact zo_laload K hZ hk h
  | iastore => exact zo_iastore K hZ hk h
  | lastore => exact zo_lastore K hZ hk h
  | iaload => exact zo_iaload hsc K hZ hk h
  | arraylength => exact zo_arraylength hsc K hZ hk h
  | goto z => exact zo_goto K hZ hk h
  | tableswitch x y z t => exact zo_tableswitch K hZ hk h
  | lookupswitch x y => exact zo_lookupswitch K hZ hk h
  | getfield z => exact zo_getfield K hZ hk h
  | putfield z => exact zo_putfield K hZ hk h
  | invokevirtual z => exact zo_invokevirtual hsc hC K hZ hk h
  | invokestatic z => exact zo_invokestatic hsc hC K hZ hk h
  | ifCond cd z => cases cd with
    | eq => exact zo_if_eq K hZ hk h
    | ne => exact zo_if_ne K hZ hk h
    | lt => exact zo_if_lt K hZ hk h
    | ge => exact zo_if_ge K hZ hk h
    | gt => exact zo_if_gt K hZ hk h
    | le => exact zo_if_le K hZ hk h
  | if_icmp cd z => cases cd with
    | eq => exact zo_icmp_eq K hZ hk h
    | ne => exact zo_icmp_ne K hZ hk h
    | lt => exact zo_icmp_lt K hZ hk h
    | ge => exact zo_icmp_ge K hZ hk h
    | gt => exact zo_icmp_gt K hZ hk h
    | le => exact zo_icmp_le K hZ hk h
  | ireturn =>
    intro H locs ls hP hS hl
    simp only [zOk, Bool.and_eq_true, decide_eq_true_eq] at hk
    simp only [zEx] at h
    obtain ⟨⟨hn, hdg⟩, h1, h2⟩ := hk
    obtain ⟨rfl, hd2⟩ := zLen hn hdg h1
    obtain ⟨x, rfl, h3⟩ := zRI_inv h
    refine hRi x σ H locs ls pc ?_ hP hS hd2 ?_
    · match k1, h3 with
      | 0, h3 => exact h3
      | 1, h3 => exact (zG_inv h3).2
      | k + 2, h3 => exact h3
    · match zRt mi, k1, h2, h3 with
      | some .int, _, _, _ => exact Or.inl rfl
      | some .boolean, 1, _, h3 => exact Or.inr ⟨rfl, (zG_inv h3).1⟩
      | some .boolean, 0, h2, _ => exact absurd h2 (by simp)
      | some .boolean, k + 2, h2, _ => exact absurd h2 (by simp)
  | lreturn =>
    intro H locs ls hP hS hl
    simp only [zOk, Bool.and_eq_true, decide_eq_true_eq] at hk
    simp only [zEx] at h
    obtain ⟨⟨hn, hdg⟩, h1, h2⟩ := hk
    obtain ⟨rfl, hd2⟩ := zLen hn hdg h1
    obtain ⟨x, rfl, h3⟩ := zRJ_inv h
    exact hRl x σ H locs ls pc h3 hP hS hd2 h2
  | return_ =>
    intro H locs ls hP hS hl
    simp only [zOk, Bool.and_eq_true, decide_eq_true_eq] at hk
    simp only [zEx] at h
    obtain ⟨⟨hn, hdg⟩, h1, h2⟩ := hk
    obtain ⟨rfl, hd2⟩ := zLen hn hdg h1
    obtain ⟨rfl, h3⟩ := zRV_inv h
    exact hRv σ H locs ls pc h3 hP hS hd2 h2
  | _ => exact False.elim h
theorem zClosed_of (K : zCx p l R s m args meth c cells slots D cI cJ ad A d mi)
    (hsc : ∀ t, sc = some t → va_X (ad 80) t.1 t.2 s s.heap ∧ ad 80 < s.heap.size ∧ ¬ A (ad 80))
    (hC : ∀ (a : Nat) (av : List Value) (σ : zS) (po : zPo), a < 85 → a ≠ nL_law → C a av σ po → zCon sc l D cI cJ ad d a av σ po)
    (hRi : ∀ (x : Int32) (σ : zS) (H : Heap) (locs : List Loc) (ls : Array Slot) (pc : Nat), post (some (.int x)) σ → va_P D vwCl (zW ad cI cJ σ) H → va_S A s.heap H locs → decode (zBy mi) pc = .ok (.ireturn, 1) → (zRt mi = some .int ∨ (zRt mi = some .boolean ∧ (x == 0 || x == 1) = true)) → W p l e R s m args below meth c H locs cells slots Q (F0 m pc ls [.int x]))
    (hRl : ∀ (x : Int64) (σ : zS) (H : Heap) (locs : List Loc) (ls : Array Slot) (pc : Nat), post (some (.long x)) σ → va_P D vwCl (zW ad cI cJ σ) H → va_S A s.heap H locs → decode (zBy mi) pc = .ok (.lreturn, 1) → zRt mi = some .long → W p l e R s m args below meth c H locs cells slots Q (F0 m pc ls [.long x]))
    (hRv : ∀ (σ : zS) (H : Heap) (locs : List Loc) (ls : Array Slot) (pc : Nat), post none σ → va_P D vwCl (zW ad cI cJ σ) H → va_S A s.heap H locs → decode (zBy mi) pc = .ok (.return_, 1) → zRt mi = none → W p l e R s m args below meth c H locs cells slots Q (F0 m pc ls [])) : zClosed sc C post mi (zXs p l e R s m args below meth c cells slots Q D cI cJ ad A mi) :=
  ⟨fun Z pc o ls st σ hZ hk h => zEx_ok K hsc hC hRi hRl hRv hZ hk h, fun ms pc ls st σ h H locs ls2 hP hS hl => h H locs ls2 hP hS (hl.mk ms pc)⟩
end ZE
theorem zSound (sc : Option (Nat × (Nat → Int32))) (l : Launch) (D : va_G) (cI cJ : ClassId) (ad : Nat → Nat) (hinj : ∀ i j, i < zSh.length → j < zSh.length → ad i = ad j → i = j) : ∀ (d a : Nat) (av : List Value) (σ : zS) (post : zPo), a < 85 → a ≠ nL_law → zCallS sc d a av σ post → zCon sc l D cI cJ ad d a av σ post
  | 0, a, av, σ, post, _, _, h => False.elim h
  | d + 1, a, av, σ, post, ha, hna, h => by
    intro sz
    obtain ⟨hb0, hrun⟩ := zG_inv h
    obtain ⟨m1, m2, m3, m4, m5, m6, m7⟩ := zMv_spec ha hna
    refine Met.ofW (cc := zBy a) (maxL := zMl a) (ret := zRt a) m4 rfl ?_
    intro p e s m args below meth c s₁ B hml hv
    obtain ⟨rfl, hsz, hP, hK, hN, hX⟩ := hv
    subst hsz
    have hts0 := atoms_spec (ws := zWs a) B.pre
    have hts : ∀ w ∈ zTg, w.before _ s = true := fun w hw => hts0 w (List.mem_cons_of_mem _ hw)
    have hown : s.vm.findClass (zY a).cls = some m.cls := findClass_of_methodNamed B.named
    have hx := B.exec
    have hbb := B.bytes
    have hr := B.returns
    have hlocks := B.notSynchronized
    have K : zCx p l (headSpec (zWs a) (zRm (d + 1))).room s m _ meth c 0 0 D cI cJ ad (zA0 ad s.heap.size) d a := ⟨hx, hbb, hml, hown, hts, hN, hK, hinj, fun k hk => Or.inl ⟨k, hk, rfl⟩, fun q hq => Or.inr hq, Nat.zero_le _, Nat.zero_le _, Nat.le_refl _, Nat.le_refl _⟩
    rw [lg_entry_eq]
    exact hrun _ (zClosed_of (e := e) (below := below) (Q := MQ below (zQ D cI cJ ad s.heap.size post) (av.map (zR ad)).toArray s 0 0 (zA0 ad s.heap.size)) K (fun t ht => ⟨(hX t ht).1, (hX t ht).2.1, fun z => z.elim (fun ⟨k, h1, h2⟩ => (hX t ht).2.2 k h1 h2) (fun z => absurd (hX t ht).2.1 (Nat.not_lt.mpr z))⟩) (fun a av σ po h1 h2 h3 => zSound sc l D cI cJ ad hinj d a av σ po h1 h2 h3)
      (fun x σ H locs ls pc hp hP hS hdg ht => by
        rcases ht with ht | ⟨ht, hb⟩
        · exact W.iret hx hbb (hr.trans ht) (fun t ht hW => ⟨⟨_, σ, rfl, hp, by rw [ht]; exact hP⟩, hS.F ht⟩) hS.2.2 hdg
        · exact W.zret (ty := .boolean) hx hbb (hr.trans ht) (z01_nar hb) (fun t ht hW => ⟨⟨_, σ, rfl, hp, by rw [ht]; exact hP⟩, hS.F ht⟩) hS.2.2 hdg)
      (fun x σ H locs ls pc hp hP hS hdg ht => W.lret hx hbb (hr.trans ht) (fun t ht hW => ⟨⟨_, σ, rfl, hp, by rw [ht]; exact hP⟩, hS.F ht⟩) hS.2.2 hdg)
      (fun σ H locs ls pc hp hP hS hdg ht => W.vret hx hbb (hr.trans ht) (fun t ht hW => ⟨⟨_, σ, rfl, hp, by rw [ht]; exact hP⟩, hS.F ht⟩) hS.2.2 hdg)) s.heap [] _ hP va_S.rf (zHas.entry ad av (zMl a) (Nat.le_of_ble_eq_true hb0))
