/-! the small machine's instruction is the machine's -/
/-- what holds in a method's frame -/
def zCx (p : Program) (l : Launch) (R : Room) (s : State) (m : MethodId) (args : Array Value) (meth : Method) (c : Code) (cells slots : Nat) (D : va_G) (cI cJ : ClassId) (ad : Nat → Nat) (A : Nat → Prop) (d mi : Nat) : Prop :=
  p.tables.exec = Jvm.exec ∧ c.code = zBy mi ∧ c.maxLocals = zMl mi ∧ s.vm.findClass (zY mi).cls = some m.cls ∧ (∀ w ∈ zTg, w.before args s = true) ∧ (∀ w ∈ zNw, va_Nw w s) ∧ va_K D vwCl [(cI, .int), (cJ, .long)] s ∧ (∀ i j, i < zSh.length → j < zSh.length → ad i = ad j → i = j) ∧ (∀ k, k < zSh.length → A (ad k)) ∧ (∀ q, s.heap.size ≤ q → A q) ∧ cells ≤ R.cells ∧ slots ≤ R.slots ∧ d + 1 ≤ R.frames ∧ 32 * (d + 1) ≤ R.locals
theorem z01_nar {x : Int32} (h : (x == 0 || x == 1) = true) : narrow .boolean (.int x) = .int x := by
  simp only [Bool.or_eq_true, beq_iff_eq] at h
  rcases h with rfl | rfl <;> rfl
section ZX
variable {p : Program} {l : Launch} {e : Env} {R : Room} {s : State} {m : MethodId} {args : Array Value} {below : List Frame} {meth : Method} {c : Code} {cells slots : Nat} {Q : State → Prop} {D : va_G} {cI cJ : ClassId} {ad : Nat → Nat} {A : Nat → Prop} {d mi : Nat}
def zXs (p : Program) (l : Launch) (e : Env) (R : Room) (s : State) (m : MethodId) (args : Array Value) (below : List Frame) (meth : Method) (c : Code) (cells slots : Nat) (Q : State → Prop) (D : va_G) (cI cJ : ClassId) (ad : Nat → Nat) (A : Nat → Prop) (mi : Nat) : zX := fun pc lv st σ =>
  ∀ (H : Heap) (locs : List Loc) (ls : Array Slot), va_P D vwCl (zW ad cI cJ σ) H → va_S A s.heap H locs → zHas ad ls (zMl mi) lv → W p l e R s m args below meth c H locs cells slots Q (F0 m pc ls (st.map (zR ad)))
variable {sc : Option (Nat × (Nat → Int32))} {C : zCa} {post : zPo} {Z : zX} {pc n a b k1 e1 g : Nat} {v : Int32} {w : Int64} {tb : List (Int32 × Nat)} {lv : zLo} {st : List Value} {σ : zS}
abbrev zZX (p : Program) (l : Launch) (e : Env) (R : Room) (s : State) (m : MethodId) (args : Array Value) (below : List Frame) (meth : Method) (c : Code) (cells slots : Nat) (Q : State → Prop) (D : va_G) (cI cJ : ClassId) (ad : Nat → Nat) (A : Nat → Prop) (mi : Nat) (Z : zX) : Prop := ∀ (pc : Nat) (ls : zLo) (st : List Value) (σ : zS), Z pc ls st σ → zXs p l e R s m args below meth c cells slots Q D cI cJ ad A mi pc ls st σ
theorem zo_iconst {z : Int} (K : zCx p l R s m args meth c cells slots D cI cJ ad A d mi) (hZ : zZX p l e R s m args below meth c cells slots Q D cI cJ ad A mi Z) (hk : zOk mi pc (.iconst z, n, a, b, k1, e1, g, v, w, tb) = true) (h : zEx sc C post Z (.iconst z, n, a, b, k1, e1, g, v, w, tb) lv st σ) : zXs p l e R s m args below meth c cells slots Q D cI cJ ad A mi pc lv st σ := by
  obtain ⟨hx, hb, hml, hown, hts, hnw, hK, hinj, hAd, hA, hcl, hsl, hfr, hlo⟩ := K
  intro H locs ls hP hS hl
  simp only [zOk, Bool.and_eq_true, decide_eq_true_eq] at hk
  simp only [zEx] at h
  obtain ⟨⟨hn, hdg⟩, hk⟩ := hk
  obtain ⟨rfl, hd2⟩ := zLen hn hdg hk.1
  exact lv_iconst hx hb hd2 hk.2 (hZ _ _ _ _ h H locs ls hP hS hl)
theorem zo_bipush {z : Int} (K : zCx p l R s m args meth c cells slots D cI cJ ad A d mi) (hZ : zZX p l e R s m args below meth c cells slots Q D cI cJ ad A mi Z) (hk : zOk mi pc (.bipush z, n, a, b, k1, e1, g, v, w, tb) = true) (h : zEx sc C post Z (.bipush z, n, a, b, k1, e1, g, v, w, tb) lv st σ) : zXs p l e R s m args below meth c cells slots Q D cI cJ ad A mi pc lv st σ := by
  obtain ⟨hx, hb, hml, hown, hts, hnw, hK, hinj, hAd, hA, hcl, hsl, hfr, hlo⟩ := K
  intro H locs ls hP hS hl
  simp only [zOk, Bool.and_eq_true, decide_eq_true_eq] at hk
  simp only [zEx] at h
  obtain ⟨⟨hn, hdg⟩, hk⟩ := hk
  obtain ⟨rfl, hd2⟩ := zLen hn hdg hk.1
  exact lv_bipush hx hb hd2 hk.2 (hZ _ _ _ _ h H locs ls hP hS hl)
theorem zo_sipush {z : Int} (K : zCx p l R s m args meth c cells slots D cI cJ ad A d mi) (hZ : zZX p l e R s m args below meth c cells slots Q D cI cJ ad A mi Z) (hk : zOk mi pc (.sipush z, n, a, b, k1, e1, g, v, w, tb) = true) (h : zEx sc C post Z (.sipush z, n, a, b, k1, e1, g, v, w, tb) lv st σ) : zXs p l e R s m args below meth c cells slots Q D cI cJ ad A mi pc lv st σ := by
  obtain ⟨hx, hb, hml, hown, hts, hnw, hK, hinj, hAd, hA, hcl, hsl, hfr, hlo⟩ := K
  intro H locs ls hP hS hl
  simp only [zOk, Bool.and_eq_true, decide_eq_true_eq] at hk
  simp only [zEx] at h
  obtain ⟨⟨hn, hdg⟩, hk⟩ := hk
  obtain ⟨rfl, hd2⟩ := zLen hn hdg hk.1
  exact lv_sipush hx hb hd2 hk.2 (hZ _ _ _ _ h H locs ls hP hS hl)
theorem zo_lconst {z : Fin 2} (K : zCx p l R s m args meth c cells slots D cI cJ ad A d mi) (hZ : zZX p l e R s m args below meth c cells slots Q D cI cJ ad A mi Z) (hk : zOk mi pc (.lconst z, n, a, b, k1, e1, g, v, w, tb) = true) (h : zEx sc C post Z (.lconst z, n, a, b, k1, e1, g, v, w, tb) lv st σ) : zXs p l e R s m args below meth c cells slots Q D cI cJ ad A mi pc lv st σ := by
  obtain ⟨hx, hb, hml, hown, hts, hnw, hK, hinj, hAd, hA, hcl, hsl, hfr, hlo⟩ := K
  intro H locs ls hP hS hl
  simp only [zOk, Bool.and_eq_true, decide_eq_true_eq] at hk
  simp only [zEx] at h
  obtain ⟨⟨hn, hdg⟩, hk⟩ := hk
  obtain ⟨rfl, hd2⟩ := zLen hn hdg hk.1
  exact lv_lconst hx hb hd2 hk.2 (hZ _ _ _ _ h H locs ls hP hS hl)
theorem zo_ldc {idx : Nat} (K : zCx p l R s m args meth c cells slots D cI cJ ad A d mi) (hZ : zZX p l e R s m args below meth c cells slots Q D cI cJ ad A mi Z) (hk : zOk mi pc (.ldc idx, n, a, b, k1, e1, g, v, w, tb) = true) (h : zEx sc C post Z (.ldc idx, n, a, b, k1, e1, g, v, w, tb) lv st σ) : zXs p l e R s m args below meth c cells slots Q D cI cJ ad A mi pc lv st σ := by
  obtain ⟨hx, hb, hml, hown, hts, hnw, hK, hinj, hAd, hA, hcl, hsl, hfr, hlo⟩ := K
  intro H locs ls hP hS hl
  simp only [zOk, Bool.and_eq_true, decide_eq_true_eq] at hk
  simp only [zEx] at h
  obtain ⟨⟨hn, hdg⟩, hk⟩ := hk
  obtain ⟨rfl, hd2⟩ := zLen hn hdg hk.1
  exact lv_ldc hx hb hown (hts _ (zin _ hk.2 rfl)) hd2 (hZ _ _ _ _ h H locs ls hP hS hl)
theorem zo_ldc2 {idx : Nat} (K : zCx p l R s m args meth c cells slots D cI cJ ad A d mi) (hZ : zZX p l e R s m args below meth c cells slots Q D cI cJ ad A mi Z) (hk : zOk mi pc (.ldc2_w idx, n, a, b, k1, e1, g, v, w, tb) = true) (h : zEx sc C post Z (.ldc2_w idx, n, a, b, k1, e1, g, v, w, tb) lv st σ) : zXs p l e R s m args below meth c cells slots Q D cI cJ ad A mi pc lv st σ := by
  obtain ⟨hx, hb, hml, hown, hts, hnw, hK, hinj, hAd, hA, hcl, hsl, hfr, hlo⟩ := K
  intro H locs ls hP hS hl
  simp only [zOk, Bool.and_eq_true, decide_eq_true_eq] at hk
  simp only [zEx] at h
  obtain ⟨⟨hn, hdg⟩, hk⟩ := hk
  obtain ⟨rfl, hd2⟩ := zLen hn hdg hk.1
  exact lv_ldc2 hx hb hown (hts _ (zin _ hk.2 rfl)) hd2 (hZ _ _ _ _ h H locs ls hP hS hl)
theorem zo_iload_n {z : Fin 4} (K : zCx p l R s m args meth c cells slots D cI cJ ad A d mi) (hZ : zZX p l e R s m args below meth c cells slots Q D cI cJ ad A mi Z) (hk : zOk mi pc (.iload_n z, n, a, b, k1, e1, g, v, w, tb) = true) (h : zEx sc C post Z (.iload_n z, n, a, b, k1, e1, g, v, w, tb) lv st σ) : zXs p l e R s m args below meth c cells slots Q D cI cJ ad A mi pc lv st σ := by
  obtain ⟨hx, hb, hml, hown, hts, hnw, hK, hinj, hAd, hA, hcl, hsl, hfr, hlo⟩ := K
  intro H locs ls hP hS hl
  simp only [zOk, Bool.and_eq_true, decide_eq_true_eq] at hk
  simp only [zEx] at h
  obtain ⟨⟨hn, hdg⟩, hk⟩ := hk
  obtain ⟨rfl, hd2⟩ := zLen hn hdg hk.1
  obtain ⟨x, hg, h⟩ := zLi_inv h
  exact lv_iload_n hx hb hd2 (Nat.eq_of_beq_eq_true hk.2) (hl.at hg) (hZ _ _ _ _ h H locs ls hP hS hl)
theorem zo_iload {z : Nat} (K : zCx p l R s m args meth c cells slots D cI cJ ad A d mi) (hZ : zZX p l e R s m args below meth c cells slots Q D cI cJ ad A mi Z) (hk : zOk mi pc (.iload z, n, a, b, k1, e1, g, v, w, tb) = true) (h : zEx sc C post Z (.iload z, n, a, b, k1, e1, g, v, w, tb) lv st σ) : zXs p l e R s m args below meth c cells slots Q D cI cJ ad A mi pc lv st σ := by
  obtain ⟨hx, hb, hml, hown, hts, hnw, hK, hinj, hAd, hA, hcl, hsl, hfr, hlo⟩ := K
  intro H locs ls hP hS hl
  simp only [zOk, Bool.and_eq_true, decide_eq_true_eq] at hk
  simp only [zEx] at h
  obtain ⟨⟨hn, hdg⟩, hk⟩ := hk
  obtain ⟨rfl, hd2⟩ := zLen hn hdg hk.1
  have hz := Nat.eq_of_beq_eq_true hk.2
  subst hz
  obtain ⟨x, hg, h5⟩ := zLi_inv h
  exact lv_iload hx hb hd2 (hl.at hg) (hZ _ _ _ _ h5 H locs ls hP hS hl)
theorem zo_lload_n {z : Fin 4} (K : zCx p l R s m args meth c cells slots D cI cJ ad A d mi) (hZ : zZX p l e R s m args below meth c cells slots Q D cI cJ ad A mi Z) (hk : zOk mi pc (.lload_n z, n, a, b, k1, e1, g, v, w, tb) = true) (h : zEx sc C post Z (.lload_n z, n, a, b, k1, e1, g, v, w, tb) lv st σ) : zXs p l e R s m args below meth c cells slots Q D cI cJ ad A mi pc lv st σ := by
  obtain ⟨hx, hb, hml, hown, hts, hnw, hK, hinj, hAd, hA, hcl, hsl, hfr, hlo⟩ := K
  intro H locs ls hP hS hl
  simp only [zOk, Bool.and_eq_true, decide_eq_true_eq] at hk
  simp only [zEx] at h
  obtain ⟨⟨hn, hdg⟩, hk⟩ := hk
  obtain ⟨rfl, hd2⟩ := zLen hn hdg hk.1
  obtain ⟨x, hg, h⟩ := zLj_inv h
  exact lv_lload_n hx hb hd2 (Nat.eq_of_beq_eq_true hk.2) (hl.at hg) (hZ _ _ _ _ h H locs ls hP hS hl)
theorem zo_lload {z : Nat} (K : zCx p l R s m args meth c cells slots D cI cJ ad A d mi) (hZ : zZX p l e R s m args below meth c cells slots Q D cI cJ ad A mi Z) (hk : zOk mi pc (.lload z, n, a, b, k1, e1, g, v, w, tb) = true) (h : zEx sc C post Z (.lload z, n, a, b, k1, e1, g, v, w, tb) lv st σ) : zXs p l e R s m args below meth c cells slots Q D cI cJ ad A mi pc lv st σ := by
  obtain ⟨hx, hb, hml, hown, hts, hnw, hK, hinj, hAd, hA, hcl, hsl, hfr, hlo⟩ := K
  intro H locs ls hP hS hl
  simp only [zOk, Bool.and_eq_true, decide_eq_true_eq] at hk
  simp only [zEx] at h
  obtain ⟨⟨hn, hdg⟩, hk⟩ := hk
  obtain ⟨rfl, hd2⟩ := zLen hn hdg hk.1
  have hz := Nat.eq_of_beq_eq_true hk.2
  subst hz
  obtain ⟨x, hg, h5⟩ := zLj_inv h
  exact lv_lload hx hb hd2 (hl.at hg) (hZ _ _ _ _ h5 H locs ls hP hS hl)
theorem zo_aload_n {z : Fin 4} (K : zCx p l R s m args meth c cells slots D cI cJ ad A d mi) (hZ : zZX p l e R s m args below meth c cells slots Q D cI cJ ad A mi Z) (hk : zOk mi pc (.aload_n z, n, a, b, k1, e1, g, v, w, tb) = true) (h : zEx sc C post Z (.aload_n z, n, a, b, k1, e1, g, v, w, tb) lv st σ) : zXs p l e R s m args below meth c cells slots Q D cI cJ ad A mi pc lv st σ := by
  obtain ⟨hx, hb, hml, hown, hts, hnw, hK, hinj, hAd, hA, hcl, hsl, hfr, hlo⟩ := K
  intro H locs ls hP hS hl
  simp only [zOk, Bool.and_eq_true, decide_eq_true_eq] at hk
  simp only [zEx] at h
  obtain ⟨⟨hn, hdg⟩, hk⟩ := hk
  obtain ⟨rfl, hd2⟩ := zLen hn hdg hk.1
  obtain ⟨x, hg, h⟩ := zLa_inv h
  exact lv_aload_n hx hb hd2 (Nat.eq_of_beq_eq_true hk.2) (hl.at hg) (hZ _ _ _ _ h H locs ls hP hS hl)
theorem zo_aload {z : Nat} (K : zCx p l R s m args meth c cells slots D cI cJ ad A d mi) (hZ : zZX p l e R s m args below meth c cells slots Q D cI cJ ad A mi Z) (hk : zOk mi pc (.aload z, n, a, b, k1, e1, g, v, w, tb) = true) (h : zEx sc C post Z (.aload z, n, a, b, k1, e1, g, v, w, tb) lv st σ) : zXs p l e R s m args below meth c cells slots Q D cI cJ ad A mi pc lv st σ := by
  obtain ⟨hx, hb, hml, hown, hts, hnw, hK, hinj, hAd, hA, hcl, hsl, hfr, hlo⟩ := K
  intro H locs ls hP hS hl
  simp only [zOk, Bool.and_eq_true, decide_eq_true_eq] at hk
  simp only [zEx] at h
  obtain ⟨⟨hn, hdg⟩, hk⟩ := hk
  obtain ⟨rfl, hd2⟩ := zLen hn hdg hk.1
  have hz := Nat.eq_of_beq_eq_true hk.2
  subst hz
  obtain ⟨x, hg, h5⟩ := zLa_inv h
  exact lv_aload hx hb hd2 (hl.at hg) (hZ _ _ _ _ h5 H locs ls hP hS hl)
theorem zo_istore_n {z : Fin 4} (K : zCx p l R s m args meth c cells slots D cI cJ ad A d mi) (hZ : zZX p l e R s m args below meth c cells slots Q D cI cJ ad A mi Z) (hk : zOk mi pc (.istore_n z, n, a, b, k1, e1, g, v, w, tb) = true) (h : zEx sc C post Z (.istore_n z, n, a, b, k1, e1, g, v, w, tb) lv st σ) : zXs p l e R s m args below meth c cells slots Q D cI cJ ad A mi pc lv st σ := by
  obtain ⟨hx, hb, hml, hown, hts, hnw, hK, hinj, hAd, hA, hcl, hsl, hfr, hlo⟩ := K
  intro H locs ls hP hS hl
  simp only [zOk, Bool.and_eq_true, decide_eq_true_eq] at hk
  simp only [zEx] at h
  obtain ⟨⟨hn, hdg⟩, hk⟩ := hk
  obtain ⟨rfl, hd2⟩ := zLen hn hdg hk.1
  obtain ⟨x, r, rfl, h⟩ := zI_inv h
  obtain ⟨hlt, h⟩ := zG_inv h
  exact lv_istore_n hx hb hd2 (Nat.eq_of_beq_eq_true hk.2) hl.1 (Nat.lt_of_lt_of_le (Nat.le_of_ble_eq_true hlt) hl.2) rfl (fun ls2 hl2 => hZ _ _ _ _ h H locs ls2 hP hS (hl.st1 (v := .int x) hl2))
theorem zo_istore {z : Nat} (K : zCx p l R s m args meth c cells slots D cI cJ ad A d mi) (hZ : zZX p l e R s m args below meth c cells slots Q D cI cJ ad A mi Z) (hk : zOk mi pc (.istore z, n, a, b, k1, e1, g, v, w, tb) = true) (h : zEx sc C post Z (.istore z, n, a, b, k1, e1, g, v, w, tb) lv st σ) : zXs p l e R s m args below meth c cells slots Q D cI cJ ad A mi pc lv st σ := by
  obtain ⟨hx, hb, hml, hown, hts, hnw, hK, hinj, hAd, hA, hcl, hsl, hfr, hlo⟩ := K
  intro H locs ls hP hS hl
  simp only [zOk, Bool.and_eq_true, decide_eq_true_eq] at hk
  simp only [zEx] at h
  obtain ⟨⟨hn, hdg⟩, hk⟩ := hk
  obtain ⟨rfl, hd2⟩ := zLen hn hdg hk.1
  obtain ⟨x, r, rfl, h⟩ := zI_inv h
  obtain ⟨hlt, h⟩ := zG_inv h
  have hz := Nat.eq_of_beq_eq_true hk.2
  subst hz
  exact lv_istore hx hb hd2 hl.1 (Nat.lt_of_lt_of_le (Nat.le_of_ble_eq_true hlt) hl.2) rfl (fun ls2 hl2 => hZ _ _ _ _ h H locs ls2 hP hS (hl.st1 (v := .int x) hl2))
theorem zo_astore_n {z : Fin 4} (K : zCx p l R s m args meth c cells slots D cI cJ ad A d mi) (hZ : zZX p l e R s m args below meth c cells slots Q D cI cJ ad A mi Z) (hk : zOk mi pc (.astore_n z, n, a, b, k1, e1, g, v, w, tb) = true) (h : zEx sc C post Z (.astore_n z, n, a, b, k1, e1, g, v, w, tb) lv st σ) : zXs p l e R s m args below meth c cells slots Q D cI cJ ad A mi pc lv st σ := by
  obtain ⟨hx, hb, hml, hown, hts, hnw, hK, hinj, hAd, hA, hcl, hsl, hfr, hlo⟩ := K
  intro H locs ls hP hS hl
  simp only [zOk, Bool.and_eq_true, decide_eq_true_eq] at hk
  simp only [zEx] at h
  obtain ⟨⟨hn, hdg⟩, hk⟩ := hk
  obtain ⟨rfl, hd2⟩ := zLen hn hdg hk.1
  obtain ⟨x, r, rfl, h⟩ := zA_inv h
  obtain ⟨hlt, h⟩ := zG_inv h
  exact lv_astore_n hx hb hd2 (Nat.eq_of_beq_eq_true hk.2) hl.1 (Nat.lt_of_lt_of_le (Nat.le_of_ble_eq_true hlt) hl.2) rfl (fun ls2 hl2 => hZ _ _ _ _ h H locs ls2 hP hS (hl.st1 (v := .ref x) hl2))
theorem zo_lstore_n {z : Fin 4} (K : zCx p l R s m args meth c cells slots D cI cJ ad A d mi) (hZ : zZX p l e R s m args below meth c cells slots Q D cI cJ ad A mi Z) (hk : zOk mi pc (.lstore_n z, n, a, b, k1, e1, g, v, w, tb) = true) (h : zEx sc C post Z (.lstore_n z, n, a, b, k1, e1, g, v, w, tb) lv st σ) : zXs p l e R s m args below meth c cells slots Q D cI cJ ad A mi pc lv st σ := by
  obtain ⟨hx, hb, hml, hown, hts, hnw, hK, hinj, hAd, hA, hcl, hsl, hfr, hlo⟩ := K
  intro H locs ls hP hS hl
  simp only [zOk, Bool.and_eq_true, decide_eq_true_eq] at hk
  simp only [zEx] at h
  obtain ⟨⟨hn, hdg⟩, hk⟩ := hk
  obtain ⟨rfl, hd2⟩ := zLen hn hdg hk.1
  obtain ⟨x, r, rfl, h⟩ := zJ_inv h
  obtain ⟨hlt, h⟩ := zG_inv h
  exact lv_lstore_n hx hb hd2 (Nat.eq_of_beq_eq_true hk.2) hl.1 (Nat.lt_of_lt_of_le (Nat.le_of_ble_eq_true hlt) hl.2) rfl (fun ls2 hl2 => hZ _ _ _ _ h H locs ls2 hP hS (hl.st2 (v := .long x) hl2))
theorem zo_lstore {z : Nat} (K : zCx p l R s m args meth c cells slots D cI cJ ad A d mi) (hZ : zZX p l e R s m args below meth c cells slots Q D cI cJ ad A mi Z) (hk : zOk mi pc (.lstore z, n, a, b, k1, e1, g, v, w, tb) = true) (h : zEx sc C post Z (.lstore z, n, a, b, k1, e1, g, v, w, tb) lv st σ) : zXs p l e R s m args below meth c cells slots Q D cI cJ ad A mi pc lv st σ := by
  obtain ⟨hx, hb, hml, hown, hts, hnw, hK, hinj, hAd, hA, hcl, hsl, hfr, hlo⟩ := K
  intro H locs ls hP hS hl
  simp only [zOk, Bool.and_eq_true, decide_eq_true_eq] at hk
  simp only [zEx] at h
  obtain ⟨⟨hn, hdg⟩, hk⟩ := hk
  obtain ⟨rfl, hd2⟩ := zLen hn hdg hk.1
  obtain ⟨x, r, rfl, h⟩ := zJ_inv h
  obtain ⟨hlt, h⟩ := zG_inv h
  have hz := Nat.eq_of_beq_eq_true hk.2
  subst hz
  exact lv_lstore hx hb hd2 hl.1 (Nat.lt_of_lt_of_le (Nat.le_of_ble_eq_true hlt) hl.2) rfl (fun ls2 hl2 => hZ _ _ _ _ h H locs ls2 hP hS (hl.st2 (v := .long x) hl2))
theorem zo_iinc {z : Nat} {y : Int} (K : zCx p l R s m args meth c cells slots D cI cJ ad A d mi) (hZ : zZX p l e R s m args below meth c cells slots Q D cI cJ ad A mi Z) (hk : zOk mi pc (.iinc z y, n, a, b, k1, e1, g, v, w, tb) = true) (h : zEx sc C post Z (.iinc z y, n, a, b, k1, e1, g, v, w, tb) lv st σ) : zXs p l e R s m args below meth c cells slots Q D cI cJ ad A mi pc lv st σ := by
  obtain ⟨hx, hb, hml, hown, hts, hnw, hK, hinj, hAd, hA, hcl, hsl, hfr, hlo⟩ := K
  intro H locs ls hP hS hl
  simp only [zOk, Bool.and_eq_true, decide_eq_true_eq] at hk
  simp only [zEx] at h
  obtain ⟨⟨hn, hdg⟩, ⟨hk0, hk1⟩, hk2⟩ := hk
  obtain ⟨rfl, hd2⟩ := zLen hn hdg hk0
  have hz := Nat.eq_of_beq_eq_true hk1
  subst hz
  obtain ⟨x, hg, h⟩ := zLi_inv h
  obtain ⟨k, hkk⟩ := List.getElem?_of_mem ((zAs_mem ad lv 0 (z, zR ad (.int x))).mpr ⟨z, .int x, by rw [List.getD_eq_getElem?_getD] at hg; cases e3 : lv[z]? with | none => rw [e3] at hg; simp at hg | some o => (rw [e3] at hg; simp at hg; rw [hg]), by rw [Nat.zero_add]⟩)
  exact lv_iinc (v := x + v) hx hb hd2 hl.1 (k := k) hkk (by rw [hk2]) (hl.lt hg) rfl (fun ls2 hl2 => hZ _ _ _ _ h H locs ls2 hP hS (hl.st1 (v := .int (x + v)) hl2))
theorem zo_iadd (K : zCx p l R s m args meth c cells slots D cI cJ ad A d mi) (hZ : zZX p l e R s m args below meth c cells slots Q D cI cJ ad A mi Z) (hk : zOk mi pc (.iadd, n, a, b, k1, e1, g, v, w, tb) = true) (h : zEx sc C post Z (.iadd, n, a, b, k1, e1, g, v, w, tb) lv st σ) : zXs p l e R s m args below meth c cells slots Q D cI cJ ad A mi pc lv st σ := by
  obtain ⟨hx, hb, hml, hown, hts, hnw, hK, hinj, hAd, hA, hcl, hsl, hfr, hlo⟩ := K
  intro H locs ls hP hS hl
  simp only [zOk, Bool.and_eq_true, decide_eq_true_eq] at hk
  simp only [zEx] at h
  obtain ⟨⟨hn, hdg⟩, hk⟩ := hk
  obtain ⟨rfl, hd2⟩ := zLen hn hdg hk
  obtain ⟨x, y, r, rfl, h⟩ := zII_inv h
  exact lv_iadd hx hb hd2 (hZ _ _ _ _ h H locs ls hP hS hl)
theorem zo_isub (K : zCx p l R s m args meth c cells slots D cI cJ ad A d mi) (hZ : zZX p l e R s m args below meth c cells slots Q D cI cJ ad A mi Z) (hk : zOk mi pc (.isub, n, a, b, k1, e1, g, v, w, tb) = true) (h : zEx sc C post Z (.isub, n, a, b, k1, e1, g, v, w, tb) lv st σ) : zXs p l e R s m args below meth c cells slots Q D cI cJ ad A mi pc lv st σ := by
  obtain ⟨hx, hb, hml, hown, hts, hnw, hK, hinj, hAd, hA, hcl, hsl, hfr, hlo⟩ := K
  intro H locs ls hP hS hl
  simp only [zOk, Bool.and_eq_true, decide_eq_true_eq] at hk
  simp only [zEx] at h
  obtain ⟨⟨hn, hdg⟩, hk⟩ := hk
  obtain ⟨rfl, hd2⟩ := zLen hn hdg hk
  obtain ⟨x, y, r, rfl, h⟩ := zII_inv h
  exact lv_isub hx hb hd2 (hZ _ _ _ _ h H locs ls hP hS hl)
theorem zo_imul (K : zCx p l R s m args meth c cells slots D cI cJ ad A d mi) (hZ : zZX p l e R s m args below meth c cells slots Q D cI cJ ad A mi Z) (hk : zOk mi pc (.imul, n, a, b, k1, e1, g, v, w, tb) = true) (h : zEx sc C post Z (.imul, n, a, b, k1, e1, g, v, w, tb) lv st σ) : zXs p l e R s m args below meth c cells slots Q D cI cJ ad A mi pc lv st σ := by
  obtain ⟨hx, hb, hml, hown, hts, hnw, hK, hinj, hAd, hA, hcl, hsl, hfr, hlo⟩ := K
  intro H locs ls hP hS hl
  simp only [zOk, Bool.and_eq_true, decide_eq_true_eq] at hk
  simp only [zEx] at h
  obtain ⟨⟨hn, hdg⟩, hk⟩ := hk
  obtain ⟨rfl, hd2⟩ := zLen hn hdg hk
  obtain ⟨x, y, r, rfl, h⟩ := zII_inv h
  exact lv_imul hx hb hd2 (hZ _ _ _ _ h H locs ls hP hS hl)
theorem zo_iand (K : zCx p l R s m args meth c cells slots D cI cJ ad A d mi) (hZ : zZX p l e R s m args below meth c cells slots Q D cI cJ ad A mi Z) (hk : zOk mi pc (.iand, n, a, b, k1, e1, g, v, w, tb) = true) (h : zEx sc C post Z (.iand, n, a, b, k1, e1, g, v, w, tb) lv st σ) : zXs p l e R s m args below meth c cells slots Q D cI cJ ad A mi pc lv st σ := by
  obtain ⟨hx, hb, hml, hown, hts, hnw, hK, hinj, hAd, hA, hcl, hsl, hfr, hlo⟩ := K
  intro H locs ls hP hS hl
  simp only [zOk, Bool.and_eq_true, decide_eq_true_eq] at hk
  simp only [zEx] at h
  obtain ⟨⟨hn, hdg⟩, hk⟩ := hk
  obtain ⟨rfl, hd2⟩ := zLen hn hdg hk
  obtain ⟨x, y, r, rfl, h⟩ := zII_inv h
  exact lv_iand hx hb hd2 (hZ _ _ _ _ h H locs ls hP hS hl)
theorem zo_ishl (K : zCx p l R s m args meth c cells slots D cI cJ ad A d mi) (hZ : zZX p l e R s m args below meth c cells slots Q D cI cJ ad A mi Z) (hk : zOk mi pc (.ishl, n, a, b, k1, e1, g, v, w, tb) = true) (h : zEx sc C post Z (.ishl, n, a, b, k1, e1, g, v, w, tb) lv st σ) : zXs p l e R s m args below meth c cells slots Q D cI cJ ad A mi pc lv st σ := by
  obtain ⟨hx, hb, hml, hown, hts, hnw, hK, hinj, hAd, hA, hcl, hsl, hfr, hlo⟩ := K
  intro H locs ls hP hS hl
  simp only [zOk, Bool.and_eq_true, decide_eq_true_eq] at hk
  simp only [zEx] at h
  obtain ⟨⟨hn, hdg⟩, hk⟩ := hk
  obtain ⟨rfl, hd2⟩ := zLen hn hdg hk
  obtain ⟨x, y, r, rfl, h⟩ := zII_inv h
  exact lv_ishl hx hb hd2 (hZ _ _ _ _ h H locs ls hP hS hl)
theorem zo_ishr (K : zCx p l R s m args meth c cells slots D cI cJ ad A d mi) (hZ : zZX p l e R s m args below meth c cells slots Q D cI cJ ad A mi Z) (hk : zOk mi pc (.ishr, n, a, b, k1, e1, g, v, w, tb) = true) (h : zEx sc C post Z (.ishr, n, a, b, k1, e1, g, v, w, tb) lv st σ) : zXs p l e R s m args below meth c cells slots Q D cI cJ ad A mi pc lv st σ := by
  obtain ⟨hx, hb, hml, hown, hts, hnw, hK, hinj, hAd, hA, hcl, hsl, hfr, hlo⟩ := K
  intro H locs ls hP hS hl
  simp only [zOk, Bool.and_eq_true, decide_eq_true_eq] at hk
  simp only [zEx] at h
  obtain ⟨⟨hn, hdg⟩, hk⟩ := hk
  obtain ⟨rfl, hd2⟩ := zLen hn hdg hk
  obtain ⟨x, y, r, rfl, h⟩ := zII_inv h
  exact lv_ishr hx hb hd2 (hZ _ _ _ _ h H locs ls hP hS hl)
theorem zo_idiv (K : zCx p l R s m args meth c cells slots D cI cJ ad A d mi) (hZ : zZX p l e R s m args below meth c cells slots Q D cI cJ ad A mi Z) (hk : zOk mi pc (.idiv, n, a, b, k1, e1, g, v, w, tb) = true) (h : zEx sc C post Z (.idiv, n, a, b, k1, e1, g, v, w, tb) lv st σ) : zXs p l e R s m args below meth c cells slots Q D cI cJ ad A mi pc lv st σ := by
  obtain ⟨hx, hb, hml, hown, hts, hnw, hK, hinj, hAd, hA, hcl, hsl, hfr, hlo⟩ := K
  intro H locs ls hP hS hl
  simp only [zOk, Bool.and_eq_true, decide_eq_true_eq] at hk
  simp only [zEx] at h
  obtain ⟨⟨hn, hdg⟩, hk⟩ := hk
  obtain ⟨rfl, hd2⟩ := zLen hn hdg hk
  obtain ⟨x, y, r, rfl, h0, h⟩ := zII_inv h
  exact lv_idiv hx hb hd2 h0 (hZ _ _ _ _ h H locs ls hP hS hl)
theorem zo_irem (K : zCx p l R s m args meth c cells slots D cI cJ ad A d mi) (hZ : zZX p l e R s m args below meth c cells slots Q D cI cJ ad A mi Z) (hk : zOk mi pc (.irem, n, a, b, k1, e1, g, v, w, tb) = true) (h : zEx sc C post Z (.irem, n, a, b, k1, e1, g, v, w, tb) lv st σ) : zXs p l e R s m args below meth c cells slots Q D cI cJ ad A mi pc lv st σ := by
  obtain ⟨hx, hb, hml, hown, hts, hnw, hK, hinj, hAd, hA, hcl, hsl, hfr, hlo⟩ := K
  intro H locs ls hP hS hl
  simp only [zOk, Bool.and_eq_true, decide_eq_true_eq] at hk
  simp only [zEx] at h
  obtain ⟨⟨hn, hdg⟩, hk⟩ := hk
  obtain ⟨rfl, hd2⟩ := zLen hn hdg hk
  obtain ⟨x, y, r, rfl, h0, h⟩ := zII_inv h
  exact lv_irem hx hb hd2 h0 (hZ _ _ _ _ h H locs ls hP hS hl)
theorem zo_ladd (K : zCx p l R s m args meth c cells slots D cI cJ ad A d mi) (hZ : zZX p l e R s m args below meth c cells slots Q D cI cJ ad A mi Z) (hk : zOk mi pc (.ladd, n, a, b, k1, e1, g, v, w, tb) = true) (h : zEx sc C post Z (.ladd, n, a, b, k1, e1, g, v, w, tb) lv st σ) : zXs p l e R s m args below meth c cells slots Q D cI cJ ad A mi pc lv st σ := by
  obtain ⟨hx, hb, hml, hown, hts, hnw, hK, hinj, hAd, hA, hcl, hsl, hfr, hlo⟩ := K
  intro H locs ls hP hS hl
  simp only [zOk, Bool.and_eq_true, decide_eq_true_eq] at hk
  simp only [zEx] at h
  obtain ⟨⟨hn, hdg⟩, hk⟩ := hk
  obtain ⟨rfl, hd2⟩ := zLen hn hdg hk
  obtain ⟨x, y, r, rfl, h⟩ := zJJ_inv h
  exact lv_ladd hx hb hd2 (hZ _ _ _ _ h H locs ls hP hS hl)
theorem zo_lsub (K : zCx p l R s m args meth c cells slots D cI cJ ad A d mi) (hZ : zZX p l e R s m args below meth c cells slots Q D cI cJ ad A mi Z) (hk : zOk mi pc (.lsub, n, a, b, k1, e1, g, v, w, tb) = true) (h : zEx sc C post Z (.lsub, n, a, b, k1, e1, g, v, w, tb) lv st σ) : zXs p l e R s m args below meth c cells slots Q D cI cJ ad A mi pc lv st σ := by
  obtain ⟨hx, hb, hml, hown, hts, hnw, hK, hinj, hAd, hA, hcl, hsl, hfr, hlo⟩ := K
  intro H locs ls hP hS hl
  simp only [zOk, Bool.and_eq_true, decide_eq_true_eq] at hk
  simp only [zEx] at h
  obtain ⟨⟨hn, hdg⟩, hk⟩ := hk
  obtain ⟨rfl, hd2⟩ := zLen hn hdg hk
  obtain ⟨x, y, r, rfl, h⟩ := zJJ_inv h
  exact lv_lsub hx hb hd2 (hZ _ _ _ _ h H locs ls hP hS hl)
theorem zo_lmul (K : zCx p l R s m args meth c cells slots D cI cJ ad A d mi) (hZ : zZX p l e R s m args below meth c cells slots Q D cI cJ ad A mi Z) (hk : zOk mi pc (.lmul, n, a, b, k1, e1, g, v, w, tb) = true) (h : zEx sc C post Z (.lmul, n, a, b, k1, e1, g, v, w, tb) lv st σ) : zXs p l e R s m args below meth c cells slots Q D cI cJ ad A mi pc lv st σ := by
  obtain ⟨hx, hb, hml, hown, hts, hnw, hK, hinj, hAd, hA, hcl, hsl, hfr, hlo⟩ := K
  intro H locs ls hP hS hl
  simp only [zOk, Bool.and_eq_true, decide_eq_true_eq] at hk
  simp only [zEx] at h
  obtain ⟨⟨hn, hdg⟩, hk⟩ := hk
  obtain ⟨rfl, hd2⟩ := zLen hn hdg hk
  obtain ⟨x, y, r, rfl, h⟩ := zJJ_inv h
  exact lv_lmul hx hb hd2 (hZ _ _ _ _ h H locs ls hP hS hl)
theorem zo_ldiv (K : zCx p l R s m args meth c cells slots D cI cJ ad A d mi) (hZ : zZX p l e R s m args below meth c cells slots Q D cI cJ ad A mi Z) (hk : zOk mi pc (.ldiv, n, a, b, k1, e1, g, v, w, tb) = true) (h : zEx sc C post Z (.ldiv, n, a, b, k1, e1, g, v, w, tb) lv st σ) : zXs p l e R s m args below meth c cells slots Q D cI cJ ad A mi pc lv st σ := by
  obtain ⟨hx, hb, hml, hown, hts, hnw, hK, hinj, hAd, hA, hcl, hsl, hfr, hlo⟩ := K
  intro H locs ls hP hS hl
  simp only [zOk, Bool.and_eq_true, decide_eq_true_eq] at hk
  simp only [zEx] at h
  obtain ⟨⟨hn, hdg⟩, hk⟩ := hk
  obtain ⟨rfl, hd2⟩ := zLen hn hdg hk
  obtain ⟨x, y, r, rfl, h0, h⟩ := zJJ_inv h
  exact lv_ldiv hx hb hd2 h0 (hZ _ _ _ _ h H locs ls hP hS hl)
theorem zo_lcmp (K : zCx p l R s m args meth c cells slots D cI cJ ad A d mi) (hZ : zZX p l e R s m args below meth c cells slots Q D cI cJ ad A mi Z) (hk : zOk mi pc (.lcmp, n, a, b, k1, e1, g, v, w, tb) = true) (h : zEx sc C post Z (.lcmp, n, a, b, k1, e1, g, v, w, tb) lv st σ) : zXs p l e R s m args below meth c cells slots Q D cI cJ ad A mi pc lv st σ := by
  obtain ⟨hx, hb, hml, hown, hts, hnw, hK, hinj, hAd, hA, hcl, hsl, hfr, hlo⟩ := K
  intro H locs ls hP hS hl
  simp only [zOk, Bool.and_eq_true, decide_eq_true_eq] at hk
  simp only [zEx] at h
  obtain ⟨⟨hn, hdg⟩, hk⟩ := hk
  obtain ⟨rfl, hd2⟩ := zLen hn hdg hk
  obtain ⟨x, y, r, rfl, h⟩ := zJJ_inv h
  exact W.lcmp hx hb hd2 (hZ _ _ _ _ h H locs ls hP hS hl)
theorem zo_ineg (K : zCx p l R s m args meth c cells slots D cI cJ ad A d mi) (hZ : zZX p l e R s m args below meth c cells slots Q D cI cJ ad A mi Z) (hk : zOk mi pc (.ineg, n, a, b, k1, e1, g, v, w, tb) = true) (h : zEx sc C post Z (.ineg, n, a, b, k1, e1, g, v, w, tb) lv st σ) : zXs p l e R s m args below meth c cells slots Q D cI cJ ad A mi pc lv st σ := by
  obtain ⟨hx, hb, hml, hown, hts, hnw, hK, hinj, hAd, hA, hcl, hsl, hfr, hlo⟩ := K
  intro H locs ls hP hS hl
  simp only [zOk, Bool.and_eq_true, decide_eq_true_eq] at hk
  simp only [zEx] at h
  obtain ⟨⟨hn, hdg⟩, hk⟩ := hk
  obtain ⟨rfl, hd2⟩ := zLen hn hdg hk
  obtain ⟨x, r, rfl, h⟩ := zI_inv h
  exact lv_ineg hx hb hd2 (hZ _ _ _ _ h H locs ls hP hS hl)
theorem zo_i2l (K : zCx p l R s m args meth c cells slots D cI cJ ad A d mi) (hZ : zZX p l e R s m args below meth c cells slots Q D cI cJ ad A mi Z) (hk : zOk mi pc (.i2l, n, a, b, k1, e1, g, v, w, tb) = true) (h : zEx sc C post Z (.i2l, n, a, b, k1, e1, g, v, w, tb) lv st σ) : zXs p l e R s m args below meth c cells slots Q D cI cJ ad A mi pc lv st σ := by
  obtain ⟨hx, hb, hml, hown, hts, hnw, hK, hinj, hAd, hA, hcl, hsl, hfr, hlo⟩ := K
  intro H locs ls hP hS hl
  simp only [zOk, Bool.and_eq_true, decide_eq_true_eq] at hk
  simp only [zEx] at h
  obtain ⟨⟨hn, hdg⟩, hk⟩ := hk
  obtain ⟨rfl, hd2⟩ := zLen hn hdg hk
  obtain ⟨x, r, rfl, h⟩ := zI_inv h
  exact lv_i2l hx hb hd2 rfl (hZ _ _ _ _ h H locs ls hP hS hl)
theorem zo_l2i (K : zCx p l R s m args meth c cells slots D cI cJ ad A d mi) (hZ : zZX p l e R s m args below meth c cells slots Q D cI cJ ad A mi Z) (hk : zOk mi pc (.l2i, n, a, b, k1, e1, g, v, w, tb) = true) (h : zEx sc C post Z (.l2i, n, a, b, k1, e1, g, v, w, tb) lv st σ) : zXs p l e R s m args below meth c cells slots Q D cI cJ ad A mi pc lv st σ := by
  obtain ⟨hx, hb, hml, hown, hts, hnw, hK, hinj, hAd, hA, hcl, hsl, hfr, hlo⟩ := K
  intro H locs ls hP hS hl
  simp only [zOk, Bool.and_eq_true, decide_eq_true_eq] at hk
  simp only [zEx] at h
  obtain ⟨⟨hn, hdg⟩, hk⟩ := hk
  obtain ⟨rfl, hd2⟩ := zLen hn hdg hk
  obtain ⟨x, r, rfl, h⟩ := zJ_inv h
  exact lv_l2i hx hb hd2 rfl (hZ _ _ _ _ h H locs ls hP hS hl)
theorem zo_dup (K : zCx p l R s m args meth c cells slots D cI cJ ad A d mi) (hZ : zZX p l e R s m args below meth c cells slots Q D cI cJ ad A mi Z) (hk : zOk mi pc (.dup, n, a, b, k1, e1, g, v, w, tb) = true) (h : zEx sc C post Z (.dup, n, a, b, k1, e1, g, v, w, tb) lv st σ) : zXs p l e R s m args below meth c cells slots Q D cI cJ ad A mi pc lv st σ := by
  obtain ⟨hx, hb, hml, hown, hts, hnw, hK, hinj, hAd, hA, hcl, hsl, hfr, hlo⟩ := K
  intro H locs ls hP hS hl
  simp only [zOk, Bool.and_eq_true, decide_eq_true_eq] at hk
  simp only [zEx] at h
  obtain ⟨⟨hn, hdg⟩, hk⟩ := hk
  obtain ⟨rfl, hd2⟩ := zLen hn hdg hk
  obtain ⟨x, r, rfl, h0, h⟩ := zV1_inv h
  exact lv_dup hx hb hd2 (by rw [zCat_R]; exact h0) (hZ _ _ _ _ h H locs ls hP hS hl)
theorem zo_pop (K : zCx p l R s m args meth c cells slots D cI cJ ad A d mi) (hZ : zZX p l e R s m args below meth c cells slots Q D cI cJ ad A mi Z) (hk : zOk mi pc (.pop, n, a, b, k1, e1, g, v, w, tb) = true) (h : zEx sc C post Z (.pop, n, a, b, k1, e1, g, v, w, tb) lv st σ) : zXs p l e R s m args below meth c cells slots Q D cI cJ ad A mi pc lv st σ := by
  obtain ⟨hx, hb, hml, hown, hts, hnw, hK, hinj, hAd, hA, hcl, hsl, hfr, hlo⟩ := K
  intro H locs ls hP hS hl
  simp only [zOk, Bool.and_eq_true, decide_eq_true_eq] at hk
  simp only [zEx] at h
  obtain ⟨⟨hn, hdg⟩, hk⟩ := hk
  obtain ⟨rfl, hd2⟩ := zLen hn hdg hk
  obtain ⟨x, r, rfl, h0, h⟩ := zV1_inv h
  exact lv_pop hx hb hd2 (by rw [zCat_R]; exact h0) (hZ _ _ _ _ h H locs ls hP hS hl)
theorem zo_dup2 (K : zCx p l R s m args meth c cells slots D cI cJ ad A d mi) (hZ : zZX p l e R s m args below meth c cells slots Q D cI cJ ad A mi Z) (hk : zOk mi pc (.dup2, n, a, b, k1, e1, g, v, w, tb) = true) (h : zEx sc C post Z (.dup2, n, a, b, k1, e1, g, v, w, tb) lv st σ) : zXs p l e R s m args below meth c cells slots Q D cI cJ ad A mi pc lv st σ := by
  obtain ⟨hx, hb, hml, hown, hts, hnw, hK, hinj, hAd, hA, hcl, hsl, hfr, hlo⟩ := K
  intro H locs ls hP hS hl
  simp only [zOk, Bool.and_eq_true, decide_eq_true_eq] at hk
  simp only [zEx] at h
  obtain ⟨⟨hn, hdg⟩, hk⟩ := hk
  obtain ⟨rfl, hd2⟩ := zLen hn hdg hk
  obtain ⟨x, r, rfl, h0, h1⟩ := zV1_inv h
  obtain ⟨y, r2, rfl, h2, h⟩ := zV1_inv h1
  exact lv_dup2_11 hx hb hd2 (by rw [zCat_R]; exact h0) (by rw [zCat_R]; exact h2) (hZ _ _ _ _ h H locs ls hP hS hl)
theorem zo_if_eq {off : Int} (K : zCx p l R s m args meth c cells slots D cI cJ ad A d mi) (hZ : zZX p l e R s m args below meth c cells slots Q D cI cJ ad A mi Z) (hk : zOk mi pc (.ifCond .eq off, n, a, b, k1, e1, g, v, w, tb) = true) (h : zEx sc C post Z (.ifCond .eq off, n, a, b, k1, e1, g, v, w, tb) lv st σ) : zXs p l e R s m args below meth c cells slots Q D cI cJ ad A mi pc lv st σ := by
  obtain ⟨hx, hb, hml, hown, hts, hnw, hK, hinj, hAd, hA, hcl, hsl, hfr, hlo⟩ := K
  intro H locs ls hP hS hl
  simp only [zOk, Bool.and_eq_true, decide_eq_true_eq] at hk
  simp only [zEx] at h
  obtain ⟨⟨hn, hdg⟩, hk⟩ := hk
  obtain ⟨rfl, hd2⟩ := zLen hn hdg hk.1
  obtain ⟨x, r, rfl, h⟩ := zI_inv h
  exact lv_if_eq hx hb hd2 hk.2 (fun q => hZ _ _ _ _ (h.1 q) H locs ls hP hS hl) (fun q => hZ _ _ _ _ (h.2 q) H locs ls hP hS hl)
theorem zo_icmp_eq {off : Int} (K : zCx p l R s m args meth c cells slots D cI cJ ad A d mi) (hZ : zZX p l e R s m args below meth c cells slots Q D cI cJ ad A mi Z) (hk : zOk mi pc (.if_icmp .eq off, n, a, b, k1, e1, g, v, w, tb) = true) (h : zEx sc C post Z (.if_icmp .eq off, n, a, b, k1, e1, g, v, w, tb) lv st σ) : zXs p l e R s m args below meth c cells slots Q D cI cJ ad A mi pc lv st σ := by
  obtain ⟨hx, hb, hml, hown, hts, hnw, hK, hinj, hAd, hA, hcl, hsl, hfr, hlo⟩ := K
  intro H locs ls hP hS hl
  simp only [zOk, Bool.and_eq_true, decide_eq_true_eq] at hk
  simp only [zEx] at h
  obtain ⟨⟨hn, hdg⟩, hk⟩ := hk
  obtain ⟨rfl, hd2⟩ := zLen hn hdg hk.1
  obtain ⟨x, y, r, rfl, h⟩ := zII_inv h
  exact lv_icmp_eq hx hb hd2 hk.2 (fun q => hZ _ _ _ _ (h.1 q) H locs ls hP hS hl) (fun q => hZ _ _ _ _ (h.2 q) H locs ls hP hS hl)
theorem zo_if_ne {off : Int} (K : zCx p l R s m args meth c cells slots D cI cJ ad A d mi) (hZ : zZX p l e R s m args below meth c cells slots Q D cI cJ ad A mi Z) (hk : zOk mi pc (.ifCond .ne off, n, a, b, k1, e1, g, v, w, tb) = true) (h : zEx sc C post Z (.ifCond .ne off, n, a, b, k1, e1, g, v, w, tb) lv st σ) : zXs p l e R s m args below meth c cells slots Q D cI cJ ad A mi pc lv st σ := by
  obtain ⟨hx, hb, hml, hown, hts, hnw, hK, hinj, hAd, hA, hcl, hsl, hfr, hlo⟩ := K
  intro H locs ls hP hS hl
  simp only [zOk, Bool.and_eq_true, decide_eq_true_eq] at hk
  simp only [zEx] at h
  obtain ⟨⟨hn, hdg⟩, hk⟩ := hk
  obtain ⟨rfl, hd2⟩ := zLen hn hdg hk.1
  obtain ⟨x, r, rfl, h⟩ := zI_inv h
  exact lv_if_ne hx hb hd2 hk.2 (fun q => hZ _ _ _ _ (h.2 q) H locs ls hP hS hl) (fun q => hZ _ _ _ _ (h.1 q) H locs ls hP hS hl)
theorem zo_icmp_ne {off : Int} (K : zCx p l R s m args meth c cells slots D cI cJ ad A d mi) (hZ : zZX p l e R s m args below meth c cells slots Q D cI cJ ad A mi Z) (hk : zOk mi pc (.if_icmp .ne off, n, a, b, k1, e1, g, v, w, tb) = true) (h : zEx sc C post Z (.if_icmp .ne off, n, a, b, k1, e1, g, v, w, tb) lv st σ) : zXs p l e R s m args below meth c cells slots Q D cI cJ ad A mi pc lv st σ := by
  obtain ⟨hx, hb, hml, hown, hts, hnw, hK, hinj, hAd, hA, hcl, hsl, hfr, hlo⟩ := K
  intro H locs ls hP hS hl
  simp only [zOk, Bool.and_eq_true, decide_eq_true_eq] at hk
  simp only [zEx] at h
  obtain ⟨⟨hn, hdg⟩, hk⟩ := hk
  obtain ⟨rfl, hd2⟩ := zLen hn hdg hk.1
  obtain ⟨x, y, r, rfl, h⟩ := zII_inv h
  exact lv_icmp_ne hx hb hd2 hk.2 (fun q => hZ _ _ _ _ (h.2 q) H locs ls hP hS hl) (fun q => hZ _ _ _ _ (h.1 q) H locs ls hP hS hl)
theorem zo_if_lt {off : Int} (K : zCx p l R s m args meth c cells slots D cI cJ ad A d mi) (hZ : zZX p l e R s m args below meth c cells slots Q D cI cJ ad A mi Z) (hk : zOk mi pc (.ifCond .lt off, n, a, b, k1, e1, g, v, w, tb) = true) (h : zEx sc C post Z (.ifCond .lt off, n, a, b, k1, e1, g, v, w, tb) lv st σ) : zXs p l e R s m args below meth c cells slots Q D cI cJ ad A mi pc lv st σ := by
  obtain ⟨hx, hb, hml, hown, hts, hnw, hK, hinj, hAd, hA, hcl, hsl, hfr, hlo⟩ := K
  intro H locs ls hP hS hl
  simp only [zOk, Bool.and_eq_true, decide_eq_true_eq] at hk
  simp only [zEx] at h
  obtain ⟨⟨hn, hdg⟩, hk⟩ := hk
  obtain ⟨rfl, hd2⟩ := zLen hn hdg hk.1
  obtain ⟨x, r, rfl, h⟩ := zI_inv h
  exact lv_if_lt hx hb hd2 hk.2 (fun q => hZ _ _ _ _ (h.1 q) H locs ls hP hS hl) (fun q => hZ _ _ _ _ (h.2 q) H locs ls hP hS hl)
theorem zo_icmp_lt {off : Int} (K : zCx p l R s m args meth c cells slots D cI cJ ad A d mi) (hZ : zZX p l e R s m args below meth c cells slots Q D cI cJ ad A mi Z) (hk : zOk mi pc (.if_icmp .lt off, n, a, b, k1, e1, g, v, w, tb) = true) (h : zEx sc C post Z (.if_icmp .lt off, n, a, b, k1, e1, g, v, w, tb) lv st σ) : zXs p l e R s m args below meth c cells slots Q D cI cJ ad A mi pc lv st σ := by
  obtain ⟨hx, hb, hml, hown, hts, hnw, hK, hinj, hAd, hA, hcl, hsl, hfr, hlo⟩ := K
  intro H locs ls hP hS hl
  simp only [zOk, Bool.and_eq_true, decide_eq_true_eq] at hk
  simp only [zEx] at h
  obtain ⟨⟨hn, hdg⟩, hk⟩ := hk
  obtain ⟨rfl, hd2⟩ := zLen hn hdg hk.1
  obtain ⟨x, y, r, rfl, h⟩ := zII_inv h
  exact lv_icmp_lt hx hb hd2 hk.2 (fun q => hZ _ _ _ _ (h.1 q) H locs ls hP hS hl) (fun q => hZ _ _ _ _ (h.2 q) H locs ls hP hS hl)
theorem zo_if_le {off : Int} (K : zCx p l R s m args meth c cells slots D cI cJ ad A d mi) (hZ : zZX p l e R s m args below meth c cells slots Q D cI cJ ad A mi Z) (hk : zOk mi pc (.ifCond .le off, n, a, b, k1, e1, g, v, w, tb) = true) (h : zEx sc C post Z (.ifCond .le off, n, a, b, k1, e1, g, v, w, tb) lv st σ) : zXs p l e R s m args below meth c cells slots Q D cI cJ ad A mi pc lv st σ := by
  obtain ⟨hx, hb, hml, hown, hts, hnw, hK, hinj, hAd, hA, hcl, hsl, hfr, hlo⟩ := K
  intro H locs ls hP hS hl
  simp only [zOk, Bool.and_eq_true, decide_eq_true_eq] at hk
  simp only [zEx] at h
  obtain ⟨⟨hn, hdg⟩, hk⟩ := hk
  obtain ⟨rfl, hd2⟩ := zLen hn hdg hk.1
  obtain ⟨x, r, rfl, h⟩ := zI_inv h
  exact lv_if_le hx hb hd2 hk.2 (fun q => hZ _ _ _ _ (h.1 q) H locs ls hP hS hl) (fun q => hZ _ _ _ _ (h.2 q) H locs ls hP hS hl)
theorem zo_icmp_le {off : Int} (K : zCx p l R s m args meth c cells slots D cI cJ ad A d mi) (hZ : zZX p l e R s m args below meth c cells slots Q D cI cJ ad A mi Z) (hk : zOk mi pc (.if_icmp .le off, n, a, b, k1, e1, g, v, w, tb) = true) (h : zEx sc C post Z (.if_icmp .le off, n, a, b, k1, e1, g, v, w, tb) lv st σ) : zXs p l e R s m args below meth c cells slots Q D cI cJ ad A mi pc lv st σ := by
  obtain ⟨hx, hb, hml, hown, hts, hnw, hK, hinj, hAd, hA, hcl, hsl, hfr, hlo⟩ := K
  intro H locs ls hP hS hl
  simp only [zOk, Bool.and_eq_true, decide_eq_true_eq] at hk
  simp only [zEx] at h
  obtain ⟨⟨hn, hdg⟩, hk⟩ := hk
  obtain ⟨rfl, hd2⟩ := zLen hn hdg hk.1
  obtain ⟨x, y, r, rfl, h⟩ := zII_inv h
  exact lv_icmp_le hx hb hd2 hk.2 (fun q => hZ _ _ _ _ (h.1 q) H locs ls hP hS hl) (fun q => hZ _ _ _ _ (h.2 q) H locs ls hP hS hl)
theorem zo_if_ge {off : Int} (K : zCx p l R s m args meth c cells slots D cI cJ ad A d mi) (hZ : zZX p l e R s m args below meth c cells slots Q D cI cJ ad A mi Z) (hk : zOk mi pc (.ifCond .ge off, n, a, b, k1, e1, g, v, w, tb) = true) (h : zEx sc C post Z (.ifCond .ge off, n, a, b, k1, e1, g, v, w, tb) lv st σ) : zXs p l e R s m args below meth c cells slots Q D cI cJ ad A mi pc lv st σ := by
  obtain ⟨hx, hb, hml, hown, hts, hnw, hK, hinj, hAd, hA, hcl, hsl, hfr, hlo⟩ := K
  intro H locs ls hP hS hl
  simp only [zOk, Bool.and_eq_true, decide_eq_true_eq] at hk
  simp only [zEx] at h
  obtain ⟨⟨hn, hdg⟩, hk⟩ := hk
  obtain ⟨rfl, hd2⟩ := zLen hn hdg hk.1
  obtain ⟨x, r, rfl, h⟩ := zI_inv h
  exact lv_if_ge hx hb hd2 hk.2 (fun q => hZ _ _ _ _ (h.2 (Int32.not_lt.mpr q)) H locs ls hP hS hl) (fun q => hZ _ _ _ _ (h.1 (Int32.not_le.mp q)) H locs ls hP hS hl)
theorem zo_icmp_ge {off : Int} (K : zCx p l R s m args meth c cells slots D cI cJ ad A d mi) (hZ : zZX p l e R s m args below meth c cells slots Q D cI cJ ad A mi Z) (hk : zOk mi pc (.if_icmp .ge off, n, a, b, k1, e1, g, v, w, tb) = true) (h : zEx sc C post Z (.if_icmp .ge off, n, a, b, k1, e1, g, v, w, tb) lv st σ) : zXs p l e R s m args below meth c cells slots Q D cI cJ ad A mi pc lv st σ := by
  obtain ⟨hx, hb, hml, hown, hts, hnw, hK, hinj, hAd, hA, hcl, hsl, hfr, hlo⟩ := K
  intro H locs ls hP hS hl
  simp only [zOk, Bool.and_eq_true, decide_eq_true_eq] at hk
  simp only [zEx] at h
  obtain ⟨⟨hn, hdg⟩, hk⟩ := hk
  obtain ⟨rfl, hd2⟩ := zLen hn hdg hk.1
  obtain ⟨x, y, r, rfl, h⟩ := zII_inv h
  exact lv_icmp_ge hx hb hd2 hk.2 (fun q => hZ _ _ _ _ (h.2 (Int32.not_lt.mpr q)) H locs ls hP hS hl) (fun q => hZ _ _ _ _ (h.1 (Int32.not_le.mp q)) H locs ls hP hS hl)
theorem zo_if_gt {off : Int} (K : zCx p l R s m args meth c cells slots D cI cJ ad A d mi) (hZ : zZX p l e R s m args below meth c cells slots Q D cI cJ ad A mi Z) (hk : zOk mi pc (.ifCond .gt off, n, a, b, k1, e1, g, v, w, tb) = true) (h : zEx sc C post Z (.ifCond .gt off, n, a, b, k1, e1, g, v, w, tb) lv st σ) : zXs p l e R s m args below meth c cells slots Q D cI cJ ad A mi pc lv st σ := by
  obtain ⟨hx, hb, hml, hown, hts, hnw, hK, hinj, hAd, hA, hcl, hsl, hfr, hlo⟩ := K
  intro H locs ls hP hS hl
  simp only [zOk, Bool.and_eq_true, decide_eq_true_eq] at hk
  simp only [zEx] at h
  obtain ⟨⟨hn, hdg⟩, hk⟩ := hk
  obtain ⟨rfl, hd2⟩ := zLen hn hdg hk.1
  obtain ⟨x, r, rfl, h⟩ := zI_inv h
  exact lv_if_gt hx hb hd2 hk.2 (fun q => hZ _ _ _ _ (h.2 (Int32.not_le.mpr q)) H locs ls hP hS hl) (fun q => hZ _ _ _ _ (h.1 (Int32.not_lt.mp q)) H locs ls hP hS hl)
theorem zo_icmp_gt {off : Int} (K : zCx p l R s m args meth c cells slots D cI cJ ad A d mi) (hZ : zZX p l e R s m args below meth c cells slots Q D cI cJ ad A mi Z) (hk : zOk mi pc (.if_icmp .gt off, n, a, b, k1, e1, g, v, w, tb) = true) (h : zEx sc C post Z (.if_icmp .gt off, n, a, b, k1, e1, g, v, w, tb) lv st σ) : zXs p l e R s m args below meth c cells slots Q D cI cJ ad A mi pc lv st σ := by
  obtain ⟨hx, hb, hml, hown, hts, hnw, hK, hinj, hAd, hA, hcl, hsl, hfr, hlo⟩ := K
  intro H locs ls hP hS hl
  simp only [zOk, Bool.and_eq_true, decide_eq_true_eq] at hk
  simp only [zEx] at h
  obtain ⟨⟨hn, hdg⟩, hk⟩ := hk
  obtain ⟨rfl, hd2⟩ := zLen hn hdg hk.1
  obtain ⟨x, y, r, rfl, h⟩ := zII_inv h
  exact lv_icmp_gt hx hb hd2 hk.2 (fun q => hZ _ _ _ _ (h.2 (Int32.not_le.mpr q)) H locs ls hP hS hl) (fun q => hZ _ _ _ _ (h.1 (Int32.not_lt.mp q)) H locs ls hP hS hl)
theorem zo_goto {off : Int} (K : zCx p l R s m args meth c cells slots D cI cJ ad A d mi) (hZ : zZX p l e R s m args below meth c cells slots Q D cI cJ ad A mi Z) (hk : zOk mi pc (.goto off, n, a, b, k1, e1, g, v, w, tb) = true) (h : zEx sc C post Z (.goto off, n, a, b, k1, e1, g, v, w, tb) lv st σ) : zXs p l e R s m args below meth c cells slots Q D cI cJ ad A mi pc lv st σ := by
  obtain ⟨hx, hb, hml, hown, hts, hnw, hK, hinj, hAd, hA, hcl, hsl, hfr, hlo⟩ := K
  intro H locs ls hP hS hl
  simp only [zOk, Bool.and_eq_true, decide_eq_true_eq] at hk
  simp only [zEx] at h
  obtain ⟨⟨hn, hdg⟩, hk⟩ := hk
  obtain ⟨rfl, hd2⟩ := zLen hn hdg hk.1
  exact lv_goto hx hb hd2 hk.2 (hZ _ _ _ _ h H locs ls hP hS hl)
theorem zTbOk_get {pc : Nat} : ∀ (k : Int) (os : List Int) (tb : List (Int32 × Nat)), zTbOk pc k os tb = true → os.length = tb.length ∧ ∀ (j : Nat) (q : Int32 × Nat), tb[j]? = some q → q.1.toInt = k + (j : Int) ∧ ∃ o, os[j]? = some o ∧ (pc : Int) + o = (q.2 : Int)
  | k, [], [], _ => ⟨rfl, fun j q h => by simp at h⟩
  | k, [], q :: tb, h => by simp [zTbOk] at h
  | k, o :: os, [], h => by simp [zTbOk] at h
  | k, o :: os, q :: tb, h => by
    simp only [zTbOk, Bool.and_eq_true, decide_eq_true_eq] at h
    obtain ⟨⟨h1, h2⟩, h3⟩ := h
    obtain ⟨g1, g2⟩ := zTbOk_get (k + 1) os tb h3
    refine ⟨by simp [g1], fun j q2 hq => ?_⟩
    cases j with
    | zero =>
      simp only [List.getElem?_cons_zero, Option.some.injEq] at hq
      subst hq
      exact ⟨by omega, o, rfl, h2⟩
    | succ j =>
      obtain ⟨a1, o2, a2, a3⟩ := g2 j q2 hq
      exact ⟨by omega, o2, a2, a3⟩
theorem zLkOk_get {pc : Nat} {x : Int32} {d : Int} {X : Nat → Prop} {dt : Nat} (hd : (pc : Int) + d = (dt : Int)) : ∀ (os : List (Int × Int)) (tb : List (Int32 × Nat)), zLkOk pc os tb = true → zTb x X dt tb → ∃ t : Nat, (pc : Int) + Op.lookupswitch.offset os d x.toInt = (t : Int) ∧ X t
  | [], [], _, h => ⟨dt, by simpa [Op.lookupswitch.offset] using hd, h⟩
  | [], q :: tb, hk, _ => by simp [zLkOk] at hk
  | o :: os, [], hk, _ => by simp [zLkOk] at hk
  | o :: os, q :: tb, hk, h => by
    simp only [zLkOk, Bool.and_eq_true, decide_eq_true_eq] at hk
    obtain ⟨⟨h1, h2⟩, h3⟩ := hk
    obtain ⟨oa, ob⟩ := o
    by_cases e : x = q.1
    · refine ⟨q.2, ?_, h.1 e⟩
      rw [Op.lookupswitch.offset_cons, if_pos (by rw [e]; exact h1.symm)]
      exact h2
    · obtain ⟨t, a1, a2⟩ := zLkOk_get hd os tb h3 (h.2 e)
      exact ⟨t, by rw [lv_osw e h1]; exact a1, a2⟩
theorem zo_tableswitch {df lo hi : Int} {offs : Array Int} (K : zCx p l R s m args meth c cells slots D cI cJ ad A d mi) (hZ : zZX p l e R s m args below meth c cells slots Q D cI cJ ad A mi Z) (hk : zOk mi pc (.tableswitch df lo hi offs, n, a, b, k1, e1, g, v, w, tb) = true) (h : zEx sc C post Z (.tableswitch df lo hi offs, n, a, b, k1, e1, g, v, w, tb) lv st σ) : zXs p l e R s m args below meth c cells slots Q D cI cJ ad A mi pc lv st σ := by
  obtain ⟨hx, hb, hml, hown, hts, hnw, hK, hinj, hAd, hA, hcl, hsl, hfr, hlo⟩ := K
  intro H locs ls hP hS hl
  simp only [zOk, Bool.and_eq_true, decide_eq_true_eq] at hk
  simp only [zEx] at h
  obtain ⟨⟨hn, hdg⟩, ⟨h1, h2⟩, h3⟩ := hk
  obtain ⟨x, r, rfl, h⟩ := zI_inv h
  obtain ⟨g1, g2⟩ := zTbOk_get lo _ tb h3
  rcases zTb_inv h with ⟨k, q, e1, e2, e3, -⟩ | ⟨e1, e2⟩
  · obtain ⟨a1, o, a2, a3⟩ := g2 k q e1
    have hkl : k < tb.length := (List.getElem?_eq_some_iff.mp e1).1
    rw [← e2] at a1
    refine lv_tableIn hx hb hdg (by omega) (by omega) (off := o) ?_ a3 (hZ _ _ _ _ e3 H locs ls hP hS hl)
    rw [show (x.toInt - lo).toNat = k by omega, ← Array.getElem?_toList]
    exact a2
  · refine lv_tableOut hx hb hdg ?_ h1 (hZ _ _ _ _ e2 H locs ls hP hS hl)
    by_cases z1 : x.toInt < lo
    · exact Or.inl z1
    · by_cases z2 : hi < x.toInt
      · exact Or.inr z2
      · exfalso
        have hj : (x.toInt - lo).toNat < tb.length := by omega
        have e3 := List.getElem?_eq_getElem hj
        obtain ⟨a1, -⟩ := g2 _ _ e3
        refine e1 _ _ e3 ?_
        rw [← Int32.toInt_inj, a1]
        omega
theorem zo_lookupswitch {df : Int} {ps : Array (Int × Int)} (K : zCx p l R s m args meth c cells slots D cI cJ ad A d mi) (hZ : zZX p l e R s m args below meth c cells slots Q D cI cJ ad A mi Z) (hk : zOk mi pc (.lookupswitch df ps, n, a, b, k1, e1, g, v, w, tb) = true) (h : zEx sc C post Z (.lookupswitch df ps, n, a, b, k1, e1, g, v, w, tb) lv st σ) : zXs p l e R s m args below meth c cells slots Q D cI cJ ad A mi pc lv st σ := by
  obtain ⟨hx, hb, hml, hown, hts, hnw, hK, hinj, hAd, hA, hcl, hsl, hfr, hlo⟩ := K
  intro H locs ls hP hS hl
  simp only [zOk, Bool.and_eq_true, decide_eq_true_eq] at hk
  simp only [zEx] at h
  obtain ⟨⟨hn, hdg⟩, ⟨h1, h2⟩, h3⟩ := hk
  obtain ⟨x, r, rfl, h⟩ := zI_inv h
  obtain ⟨t, a1, a2⟩ := zLkOk_get h1 _ tb h3 h
  exact lv_lookup hx hb hdg h2 rfl a1 (hZ _ _ _ _ a2 H locs ls hP hS hl)
theorem zFl_spec {own : String} {idx a b g : Nat} (h : zFl own idx a b g = true) : Cond.fieldLink own idx ((zCl a).2.1 b).1 ((zCl a).2.1 b).2.1 ((zCl a).2.1 b).2.2.1 ∈ zTg := zin _ (of_decide_eq_true h) rfl
theorem zFn_spec {own : String} {idx a b g : Nat} (h : zFn own idx a b g = true) : Cond.fieldLinkNest own idx ((zCl a).2.1 b).1 ((zCl a).2.1 b).2.1 ((zCl a).2.1 b).2.2.1 "RatePlanner" ∈ zNw := zinN _ (of_decide_eq_true h) rfl
theorem zo_getfield {idx : Nat} (K : zCx p l R s m args meth c cells slots D cI cJ ad A d mi) (hZ : zZX p l e R s m args below meth c cells slots Q D cI cJ ad A mi Z) (hk : zOk mi pc (.getfield idx, n, a, b, k1, e1, g, v, w, tb) = true) (h : zEx sc C post Z (.getfield idx, n, a, b, k1, e1, g, v, w, tb) lv st σ) : zXs p l e R s m args below meth c cells slots Q D cI cJ ad A mi pc lv st σ := by
  obtain ⟨hx, hb, hml, hown, hts, hnw, hK, hinj, hAd, hA, hcl, hsl, hfr, hlo⟩ := K
  intro H locs ls hP hS hl
  simp only [zOk, Bool.and_eq_true, decide_eq_true_eq] at hk
  simp only [zEx] at h
  obtain ⟨⟨hn, hdg⟩, ⟨⟨h1, h2⟩, h3⟩, h4⟩ := hk
  obtain ⟨rfl, hd2⟩ := zLen hn hdg h1
  have h2 := Nat.le_of_ble_eq_true h2
  have h3 := Nat.le_of_ble_eq_true h3
  obtain ⟨q, r, rfl, h⟩ := zA_inv h
  obtain ⟨hg, h⟩ := zG_inv h
  simp only [Bool.and_eq_true] at hg
  obtain ⟨sl, hq, hs⟩ := zIsO_spec hg.1
  have hkd := Nat.eq_of_beq_eq_true hg.2
  obtain ⟨hcl2, hcv⟩ := zCl_get h2
  obtain ⟨hin, -, -⟩ := zCv_spec hcv
  have go : ∀ val : Value, (zFs ad σ q 0 sl)[b]? = some val → W p l e R s m args below meth c H locs cells slots Q (F0 m (pc + 3) ls (val :: r.map (zR ad))) → W p l e R s m args below meth c H locs cells slots Q (F0 m pc ls (.ref (ad q) :: r.map (zR ad))) := by
    intro val hv hw
    have he := zW_get ad cI cJ σ hq
    simp only [Bool.or_eq_true] at h4
    rcases h4 with h4 | h4
    · exact va_get (D := D) hx hb hts hin hown hK hP q he hcl2 b h3 (hts _ (zFl_spec h4)) (fun _ h9 => h9) hv hd2 hw
    · exact va_getN (D := D) hx hb hts hin hown hK hP q he hcl2 b h3 (va_Nw.use rfl (hnw _ (zFn_spec h4))) (fun _ h9 => h9) hv hd2 hw
  have hsl : (zSl q b).1 ≠ 9 → sl[b]? = some (zSl q b) := fun z => by rw [hs b] at z ⊢; exact zGetD_some z
  match k1, hkd, h with
  | 0, hkd, h =>
    have e2 := zFs_get ad σ q sl 0 b _ (hsl (by rw [hkd]; decide))
    rw [hkd] at e2
    exact go _ e2 (hZ _ _ _ _ h H locs ls hP hS hl)
  | 1, hkd, h =>
    have e2 := zFs_get ad σ q sl 0 b _ (hsl (by rw [hkd]; decide))
    rw [hkd, Nat.zero_add] at e2
    exact go _ e2 (hZ _ _ _ _ h H locs ls hP hS hl)
  | 2, hkd, h =>
    have e2 := zFs_get ad σ q sl 0 b _ (hsl (by rw [hkd]; decide))
    rw [hkd, Nat.zero_add] at e2
    exact go _ e2 (hZ _ _ _ _ h H locs ls hP hS hl)
  | 3, hkd, h =>
    have e2 := zFs_get ad σ q sl 0 b _ (hsl (by rw [hkd]; decide))
    rw [hkd, Nat.zero_add] at e2
    exact go _ e2 (hZ _ _ _ _ h H locs ls hP hS hl)
  | k + 4, _, h => exact False.elim h
theorem zo_putfield {idx : Nat} (K : zCx p l R s m args meth c cells slots D cI cJ ad A d mi) (hZ : zZX p l e R s m args below meth c cells slots Q D cI cJ ad A mi Z) (hk : zOk mi pc (.putfield idx, n, a, b, k1, e1, g, v, w, tb) = true) (h : zEx sc C post Z (.putfield idx, n, a, b, k1, e1, g, v, w, tb) lv st σ) : zXs p l e R s m args below meth c cells slots Q D cI cJ ad A mi pc lv st σ := by
  obtain ⟨hx, hb, hml, hown, hts, hnw, hK, hinj, hAd, hA, hcl, hsl, hfr, hlo⟩ := K
  intro H locs ls hP hS hl
  simp only [zOk, Bool.and_eq_true, decide_eq_true_eq] at hk
  simp only [zEx] at h
  obtain ⟨⟨hn, hdg⟩, ⟨⟨⟨⟨h1, h2⟩, h3⟩, h4⟩, h5⟩, h6⟩ := hk
  obtain ⟨rfl, hd2⟩ := zLen hn hdg h1
  have h2 := Nat.le_of_ble_eq_true h2
  have h3 := Nat.le_of_ble_eq_true h3
  obtain ⟨hcl2, hcv⟩ := zCl_get h2
  obtain ⟨hin, hty, hnm⟩ := zCv_spec hcv
  have hfin : ((zCl a).2.1 b).2.2.2 = false := by simpa using h5
  match k1, h, h6 with
  | 0, h, _ => exact False.elim h
  | 1, h, h6 =>
    obtain ⟨x, r, rfl, h7⟩ := zI_inv h
    obtain ⟨q, r2, rfl, h8⟩ := zA_inv h7
    obtain ⟨hg, h9⟩ := zG_inv h8
    simp only [Bool.and_eq_true] at hg
    obtain ⟨sl, hq, hs⟩ := zIsO_spec hg.1
    have hkd := Nat.eq_of_beq_eq_true hg.2
    have hsl : sl[b]? = some (zSl q b) := by rw [hs b]; exact zGetD_some (by rw [← hs b, hkd]; decide)
    have he : (zW ad cI cJ σ)[q]? = some (ad q, .inr (a, zFs ad σ q 0 sl)) := zW_get ad cI cJ σ hq
    have e1 : (zW ad cI cJ σ).set q (ad q, .inr (a, (zFs ad σ q 0 sl).set b (.int x))) = zW ad cI cJ (zSI σ q b x) := by
      rw [zFs_setI ad σ q x sl 0 b _ hsl (Or.inl hkd), Nat.zero_add]
      exact zW_set ad cI cJ hq (fun a h => zSI_1 h) (fun a h => rfl)
    exact va_put (D := D) (ty := .int) (v := .int x) hx hb hts hin _ hty hnm hown hK hP (zD_of hinj hAd σ) hS q he hcl2 b h3 (hts _ (zFl_spec h4)) (fun _ h9 => h9) hfin h6 rfl rfl (by rw [zFs_len]; exact (List.getElem?_eq_some_iff.mp hsl).1) hd2 (fun H1 locs1 hP1 hD1 hS1 => hZ _ _ _ _ h9 H1 locs1 ls (by rw [e1] at hP1; exact hP1) hS1 hl)
  | 2, h, h6 =>
    obtain ⟨x, r, rfl, h7⟩ := zI_inv h
    obtain ⟨q, r2, rfl, h8⟩ := zA_inv h7
    obtain ⟨hg, h9⟩ := zG_inv h8
    obtain ⟨hg2, h10⟩ := zG_inv h9
    simp only [Bool.and_eq_true] at hg
    obtain ⟨sl, hq, hs⟩ := zIsO_spec hg.1
    have hkd := Nat.eq_of_beq_eq_true hg.2
    have hsl : sl[b]? = some (zSl q b) := by rw [hs b]; exact zGetD_some (by rw [← hs b, hkd]; decide)
    have he : (zW ad cI cJ σ)[q]? = some (ad q, .inr (a, zFs ad σ q 0 sl)) := zW_get ad cI cJ σ hq
    have e1 : (zW ad cI cJ σ).set q (ad q, .inr (a, (zFs ad σ q 0 sl).set b (.int x))) = zW ad cI cJ (zSI σ q b x) := by
      rw [zFs_setI ad σ q x sl 0 b _ hsl (Or.inr hkd), Nat.zero_add]
      exact zW_set ad cI cJ hq (fun a h => zSI_1 h) (fun a h => rfl)
    exact va_put (D := D) (ty := .boolean) (v := .int x) hx hb hts hin _ hty hnm hown hK hP (zD_of hinj hAd σ) hS q he hcl2 b h3 (hts _ (zFl_spec h4)) (fun _ h9 => h9) hfin h6 (z01_nar hg2) hg2 (by rw [zFs_len]; exact (List.getElem?_eq_some_iff.mp hsl).1) hd2 (fun H1 locs1 hP1 hD1 hS1 => hZ _ _ _ _ h10 H1 locs1 ls (by rw [e1] at hP1; exact hP1) hS1 hl)
  | 3, h, h6 =>
    obtain ⟨x, r, rfl, h7⟩ := zJ_inv h
    obtain ⟨q, r2, rfl, h8⟩ := zA_inv h7
    obtain ⟨hg, h9⟩ := zG_inv h8
    simp only [Bool.and_eq_true] at hg
    obtain ⟨sl, hq, hs⟩ := zIsO_spec hg.1
    have hkd := Nat.eq_of_beq_eq_true hg.2
    have hsl : sl[b]? = some (zSl q b) := by rw [hs b]; exact zGetD_some (by rw [← hs b, hkd]; decide)
    have he : (zW ad cI cJ σ)[q]? = some (ad q, .inr (a, zFs ad σ q 0 sl)) := zW_get ad cI cJ σ hq
    have e1 : (zW ad cI cJ σ).set q (ad q, .inr (a, (zFs ad σ q 0 sl).set b (.long x))) = zW ad cI cJ (zSJ σ q b x) := by
      rw [zFs_setJ ad σ q x sl 0 b _ hsl hkd, Nat.zero_add]
      exact zW_set ad cI cJ hq (fun a h => rfl) (fun a h => zSJ_1 h)
    exact va_put (D := D) (ty := .long) (v := .long x) hx hb hts hin _ hty hnm hown hK hP (zD_of hinj hAd σ) hS q he hcl2 b h3 (hts _ (zFl_spec h4)) (fun _ h9 => h9) hfin h6 rfl rfl (by rw [zFs_len]; exact (List.getElem?_eq_some_iff.mp hsl).1) hd2 (fun H1 locs1 hP1 hD1 hS1 => hZ _ _ _ _ h9 H1 locs1 ls (by rw [e1] at hP1; exact hP1) hS1 hl)
  | k + 4, h, _ => exact False.elim h
theorem zo_iaload (hsc : ∀ t, sc = some t → va_X (ad 80) t.1 t.2 s s.heap ∧ ad 80 < s.heap.size ∧ ¬ A (ad 80)) (K : zCx p l R s m args meth c cells slots D cI cJ ad A d mi) (hZ : zZX p l e R s m args below meth c cells slots Q D cI cJ ad A mi Z) (hk : zOk mi pc (.iaload, n, a, b, k1, e1, g, v, w, tb) = true) (h : zEx sc C post Z (.iaload, n, a, b, k1, e1, g, v, w, tb) lv st σ) : zXs p l e R s m args below meth c cells slots Q D cI cJ ad A mi pc lv st σ := by
  obtain ⟨hx, hb, hml, hown, hts, hnw, hK, hinj, hAd, hA, hcl, hsl, hfr, hlo⟩ := K
  intro H locs ls hP hS hl
  simp only [zOk, Bool.and_eq_true, decide_eq_true_eq] at hk
  simp only [zEx] at h
  obtain ⟨⟨hn, hdg⟩, hk⟩ := hk
  obtain ⟨rfl, hd2⟩ := zLen hn hdg hk
  obtain ⟨q, i, r, rfl, h0⟩ := zAI_inv h
  unfold zIl at h0
  cases hz : zIsI q with
  | true =>
    rw [hz] at h0
    obtain ⟨sl, hq⟩ := zIsI_spec hz
    exact va_iald (D := D) hx hb hK hP q 0 (cA := cI) (n := zN q) (f := σ.1 q) (zW_get ad cI cJ σ hq) rfl h0.1 hd2 (hZ _ _ _ _ h0.2 H locs ls hP hS hl)
  | false =>
    rw [hz] at h0
    cases sc with
    | none => exact False.elim h0
    | some t =>
      obtain ⟨h1, h2⟩ := zG_inv h0
      have e := Nat.eq_of_beq_eq_true h1
      subst e
      obtain ⟨g1, g2, g3⟩ := hsc t rfl
      exact va_sld hx hb g1 g2 g3 hS h2.1 hd2 (hZ _ _ _ _ h2.2 H locs ls hP hS hl)
theorem zo_laload (K : zCx p l R s m args meth c cells slots D cI cJ ad A d mi) (hZ : zZX p l e R s m args below meth c cells slots Q D cI cJ ad A mi Z) (hk : zOk mi pc (.laload, n, a, b, k1, e1, g, v, w, tb) = true) (h : zEx sc C post Z (.laload, n, a, b, k1, e1, g, v, w, tb) lv st σ) : zXs p l e R s m args below meth c cells slots Q D cI cJ ad A mi pc lv st σ := by
  obtain ⟨hx, hb, hml, hown, hts, hnw, hK, hinj, hAd, hA, hcl, hsl, hfr, hlo⟩ := K
  intro H locs ls hP hS hl
  simp only [zOk, Bool.and_eq_true, decide_eq_true_eq] at hk
  simp only [zEx] at h
  obtain ⟨⟨hn, hdg⟩, hk⟩ := hk
  obtain ⟨rfl, hd2⟩ := zLen hn hdg hk
  obtain ⟨q, i, r, rfl, h⟩ := zAI_inv h
  obtain ⟨hz, h⟩ := zG_inv h
  obtain ⟨sl, hq⟩ := zIsJ_spec hz
  exact va_lald (D := D) hx hb hK hP q 1 (cA := cJ) (n := zN q) (f := σ.2 q) (zW_get ad cI cJ σ hq) rfl h.1 hd2 (hZ _ _ _ _ h.2 H locs ls hP hS hl)
theorem zo_iastore (K : zCx p l R s m args meth c cells slots D cI cJ ad A d mi) (hZ : zZX p l e R s m args below meth c cells slots Q D cI cJ ad A mi Z) (hk : zOk mi pc (.iastore, n, a, b, k1, e1, g, v, w, tb) = true) (h : zEx sc C post Z (.iastore, n, a, b, k1, e1, g, v, w, tb) lv st σ) : zXs p l e R s m args below meth c cells slots Q D cI cJ ad A mi pc lv st σ := by
  obtain ⟨hx, hb, hml, hown, hts, hnw, hK, hinj, hAd, hA, hcl, hsl, hfr, hlo⟩ := K
  intro H locs ls hP hS hl
  simp only [zOk, Bool.and_eq_true, decide_eq_true_eq] at hk
  simp only [zEx] at h
  obtain ⟨⟨hn, hdg⟩, hk⟩ := hk
  obtain ⟨rfl, hd2⟩ := zLen hn hdg hk
  obtain ⟨x, r0, rfl, h1⟩ := zI_inv h
  obtain ⟨q, i, r, rfl, h2⟩ := zAI_inv h1
  obtain ⟨hz, h3⟩ := zG_inv h2
  obtain ⟨sl, hq⟩ := zIsI_spec hz
  have e1 := zW_set ad cI cJ (σ := σ) (τ := zSI σ q i.toNatClampNeg x) hq (fun a h => zSI_1 h) (fun a h => rfl)
  rw [show zEn ad cI cJ (zSI σ q i.toNatClampNeg x) q (1, zN q, sl) = .inl (cI, zN q, .inl (upd (σ.1 q) i.toNatClampNeg x)) from by rw [← zSI_s]; rfl] at e1
  exact va_iast (D := D) hx hb hK hP (zD_of hinj hAd σ) hS q 0 (cA := cI) (n := zN q) (f := σ.1 q) (zW_get ad cI cJ σ hq) rfl h3.1 hd2 (fun H1 locs1 hP1 hD1 hS1 => hZ _ _ _ _ h3.2 H1 locs1 ls (by rw [e1] at hP1; exact hP1) hS1 hl)
theorem zo_lastore (K : zCx p l R s m args meth c cells slots D cI cJ ad A d mi) (hZ : zZX p l e R s m args below meth c cells slots Q D cI cJ ad A mi Z) (hk : zOk mi pc (.lastore, n, a, b, k1, e1, g, v, w, tb) = true) (h : zEx sc C post Z (.lastore, n, a, b, k1, e1, g, v, w, tb) lv st σ) : zXs p l e R s m args below meth c cells slots Q D cI cJ ad A mi pc lv st σ := by
  obtain ⟨hx, hb, hml, hown, hts, hnw, hK, hinj, hAd, hA, hcl, hsl, hfr, hlo⟩ := K
  intro H locs ls hP hS hl
  simp only [zOk, Bool.and_eq_true, decide_eq_true_eq] at hk
  simp only [zEx] at h
  obtain ⟨⟨hn, hdg⟩, hk⟩ := hk
  obtain ⟨rfl, hd2⟩ := zLen hn hdg hk
  obtain ⟨x, r0, rfl, h1⟩ := zJ_inv h
  obtain ⟨q, i, r, rfl, h2⟩ := zAI_inv h1
  obtain ⟨hz, h3⟩ := zG_inv h2
  obtain ⟨sl, hq⟩ := zIsJ_spec hz
  have e1 := zW_set ad cI cJ (σ := σ) (τ := zSJ σ q i.toNatClampNeg x) hq (fun a h => rfl) (fun a h => zSJ_1 h)
  rw [show zEn ad cI cJ (zSJ σ q i.toNatClampNeg x) q (2, zN q, sl) = .inl (cJ, zN q, .inr (.inl (vp_updL (σ.2 q) i.toNatClampNeg x))) from by rw [← zSJ_s]; rfl] at e1
  exact va_last (D := D) hx hb hK hP (zD_of hinj hAd σ) hS q 1 (cA := cJ) (n := zN q) (f := σ.2 q) (zW_get ad cI cJ σ hq) rfl h3.1 hd2 (fun H1 locs1 hP1 hD1 hS1 => hZ _ _ _ _ h3.2 H1 locs1 ls (by rw [e1] at hP1; exact hP1) hS1 hl)
theorem zo_arraylength (hsc : ∀ t, sc = some t → va_X (ad 80) t.1 t.2 s s.heap ∧ ad 80 < s.heap.size ∧ ¬ A (ad 80)) (K : zCx p l R s m args meth c cells slots D cI cJ ad A d mi) (hZ : zZX p l e R s m args below meth c cells slots Q D cI cJ ad A mi Z) (hk : zOk mi pc (.arraylength, n, a, b, k1, e1, g, v, w, tb) = true) (h : zEx sc C post Z (.arraylength, n, a, b, k1, e1, g, v, w, tb) lv st σ) : zXs p l e R s m args below meth c cells slots Q D cI cJ ad A mi pc lv st σ := by
  obtain ⟨hx, hb, hml, hown, hts, hnw, hK, hinj, hAd, hA, hcl, hsl, hfr, hlo⟩ := K
  intro H locs ls hP hS hl
  simp only [zOk, Bool.and_eq_true, decide_eq_true_eq] at hk
  simp only [zEx] at h
  obtain ⟨⟨hn, hdg⟩, hk⟩ := hk
  obtain ⟨rfl, hd2⟩ := zLen hn hdg hk
  obtain ⟨q, r, rfl, h1⟩ := zA_inv h
  unfold zLe at h1
  cases hz : zIsI q with
  | true =>
    rw [hz] at h1
    obtain ⟨sl, hq⟩ := zIsI_spec hz
    exact va_alen (D := D) hx hb hK hP q 0 (cA := cI) (zW_get ad cI cJ σ hq) rfl rfl hd2 (hZ _ _ _ _ h1 H locs ls hP hS hl)
  | false =>
    cases hz2 : zIsJ q with
    | true =>
      rw [hz, hz2] at h1
      obtain ⟨sl, hq⟩ := zIsJ_spec hz2
      exact va_alen (D := D) hx hb hK hP q 1 (cA := cJ) (zW_get ad cI cJ σ hq) rfl rfl hd2 (hZ _ _ _ _ h1 H locs ls hP hS hl)
    | false =>
      rw [hz, hz2] at h1
      cases sc with
      | none => exact False.elim h1
      | some t =>
        obtain ⟨h2, h3⟩ := zG_inv h1
        have e := Nat.eq_of_beq_eq_true h2
        subst e
        obtain ⟨g1, g2, g3⟩ := hsc t rfl
        exact va_slen hx hb g1 g2 g3 hS hd2 (hZ _ _ _ _ h3 H locs ls hP hS hl)
end ZX
