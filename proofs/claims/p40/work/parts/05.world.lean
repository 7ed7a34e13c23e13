/-! the world of a pair of functions, as the kit's cells; locals; what is taken off the stack -/
def zR (ad : Nat → Nat) : Value → Value
  | .ref r => .ref (ad r)
  | v => v
def zFs (ad : Nat → Nat) (σ : zS) (r : Nat) : Nat → List (Nat × Nat) → List Value
  | _, [] => []
  | j, s :: t => (match s.1 with
    | 0 => .ref (ad s.2)
    | 3 => .long (σ.2 r j)
    | _ => .int (σ.1 r j)) :: zFs ad σ r (j + 1) t
def zEn (ad : Nat → Nat) (cI cJ : ClassId) (σ : zS) (r : Nat) (kd : zKd) : va_E := match kd.1 with
  | 0 => .inr (kd.2.1, zFs ad σ r 0 kd.2.2)
  | 1 => .inl (cI, kd.2.1, .inl (σ.1 r))
  | _ => .inl (cJ, kd.2.1, .inr (.inl (σ.2 r)))
def zWA (ad : Nat → Nat) (cI cJ : ClassId) (σ : zS) : Nat → List zKd → va_W
  | _, [] => []
  | r, kd :: t => (ad r, zEn ad cI cJ σ r kd) :: zWA ad cI cJ σ (r + 1) t
def zW (ad : Nat → Nat) (cI cJ : ClassId) (σ : zS) : va_W := zWA ad cI cJ σ 0 zSh
theorem zFs_len (ad : Nat → Nat) (σ : zS) (r : Nat) : ∀ (sl : List (Nat × Nat)) (j : Nat), (zFs ad σ r j sl).length = sl.length
  | [], _ => rfl
  | _ :: t, j => by simp only [zFs, List.length_cons, zFs_len ad σ r t (j + 1)]
theorem zFs_get (ad : Nat → Nat) (σ : zS) (r : Nat) : ∀ (sl : List (Nat × Nat)) (j k : Nat) (s : Nat × Nat), sl[k]? = some s → (zFs ad σ r j sl)[k]? = some (match s.1 with
    | 0 => .ref (ad s.2)
    | 3 => .long (σ.2 r (j + k))
    | _ => .int (σ.1 r (j + k)))
  | [], _, _, _, h => by simp at h
  | q :: t, j, 0, s, h => by
    simp only [List.getElem?_cons_zero, Option.some.injEq] at h
    subst h
    simp only [zFs, List.getElem?_cons_zero, Nat.add_zero]
  | q :: t, j, k + 1, s, h => by
    simp only [List.getElem?_cons_succ] at h
    have e := zFs_get ad σ r t (j + 1) k s h
    simp only [zFs, List.getElem?_cons_succ, e, show j + 1 + k = j + (k + 1) by omega]
theorem zFs_cong (ad : Nat → Nat) {σ τ : zS} (r : Nat) (h1 : τ.1 r = σ.1 r) (h2 : τ.2 r = σ.2 r) : ∀ (sl : List (Nat × Nat)) (j : Nat), zFs ad τ r j sl = zFs ad σ r j sl
  | [], _ => rfl
  | q :: t, j => by simp only [zFs, h1, h2, zFs_cong ad r h1 h2 t (j + 1)]
theorem zFs_far (ad : Nat → Nat) {σ τ : zS} (r k : Nat) (h1 : ∀ j, j ≠ k → τ.1 r j = σ.1 r j) (h2 : ∀ j, j ≠ k → τ.2 r j = σ.2 r j) : ∀ (sl : List (Nat × Nat)) (j : Nat), k < j → zFs ad τ r j sl = zFs ad σ r j sl
  | [], _, _ => rfl
  | q :: t, j, h => by simp only [zFs, h1 j (by omega), h2 j (by omega), zFs_far ad r k h1 h2 t (j + 1) (by omega)]
theorem zFs_setI (ad : Nat → Nat) (σ : zS) (r : Nat) (x : Int32) : ∀ (sl : List (Nat × Nat)) (j k : Nat) (s : Nat × Nat), sl[k]? = some s → (s.1 = 1 ∨ s.1 = 2) → (zFs ad σ r j sl).set k (.int x) = zFs ad (zSI σ r (j + k) x) r j sl
  | [], _, _, _, h, _ => by simp at h
  | q :: t, j, 0, s, h, hs => by
    simp only [List.getElem?_cons_zero, Option.some.injEq] at h
    subst h
    have e : zFs ad (zSI σ r (j + 0) x) r (j + 1) t = zFs ad σ r (j + 1) t := zFs_far ad (τ := zSI σ r (j + 0) x) (σ := σ) r j (fun i hi => by simp [zSI, upd, hi]) (fun i hi => rfl) t (j + 1) (by omega)
    simp only [zFs, List.set_cons_zero, e]
    rcases hs with hs | hs <;> simp [hs, zSI, upd]
  | q :: t, j, k + 1, s, h, hs => by
    simp only [List.getElem?_cons_succ] at h
    have e := zFs_setI ad σ r x t (j + 1) k s h hs
    rw [show j + 1 + k = j + (k + 1) by omega] at e
    simp only [zFs, List.set_cons_succ, e]
    have h1 : (zSI σ r (j + (k + 1)) x).1 r j = σ.1 r j := by
      have : ¬ j = j + (k + 1) := by omega
      simp [zSI, upd, this]
    simp only [h1]
    rfl
theorem zFs_setJ (ad : Nat → Nat) (σ : zS) (r : Nat) (x : Int64) : ∀ (sl : List (Nat × Nat)) (j k : Nat) (s : Nat × Nat), sl[k]? = some s → s.1 = 3 → (zFs ad σ r j sl).set k (.long x) = zFs ad (zSJ σ r (j + k) x) r j sl
  | [], _, _, _, h, _ => by simp at h
  | q :: t, j, 0, s, h, hs => by
    simp only [List.getElem?_cons_zero, Option.some.injEq] at h
    subst h
    have e : zFs ad (zSJ σ r (j + 0) x) r (j + 1) t = zFs ad σ r (j + 1) t := zFs_far ad (τ := zSJ σ r (j + 0) x) (σ := σ) r j (fun i hi => rfl) (fun i hi => by simp [zSJ, vp_updL, hi]) t (j + 1) (by omega)
    simp only [zFs, List.set_cons_zero, e]
    simp [hs, zSJ, vp_updL]
  | q :: t, j, k + 1, s, h, hs => by
    simp only [List.getElem?_cons_succ] at h
    have e := zFs_setJ ad σ r x t (j + 1) k s h hs
    rw [show j + 1 + k = j + (k + 1) by omega] at e
    simp only [zFs, List.set_cons_succ, e]
    have h1 : (zSJ σ r (j + (k + 1)) x).2 r j = σ.2 r j := by
      have : ¬ j = j + (k + 1) := by omega
      simp [zSJ, vp_updL, this]
    simp only [h1]
    rfl
theorem zEn_cong (ad : Nat → Nat) (cI cJ : ClassId) {σ τ : zS} (r : Nat) (h1 : τ.1 r = σ.1 r) (h2 : τ.2 r = σ.2 r) (kd : zKd) : zEn ad cI cJ τ r kd = zEn ad cI cJ σ r kd := by
  unfold zEn
  rw [zFs_cong ad r h1 h2, h1, h2]
theorem zWA_get (ad : Nat → Nat) (cI cJ : ClassId) (σ : zS) : ∀ (l : List zKd) (r k : Nat) (kd : zKd), l[k]? = some kd → (zWA ad cI cJ σ r l)[k]? = some (ad (r + k), zEn ad cI cJ σ (r + k) kd)
  | [], _, _, _, h => by simp at h
  | q :: t, r, 0, kd, h => by
    simp only [List.getElem?_cons_zero, Option.some.injEq] at h
    subst h
    rfl
  | q :: t, r, k + 1, kd, h => by
    simp only [List.getElem?_cons_succ] at h
    have e := zWA_get ad cI cJ σ t (r + 1) k kd h
    simp only [zWA, List.getElem?_cons_succ, e, show r + 1 + k = r + (k + 1) by omega]
theorem zWA_len (ad : Nat → Nat) (cI cJ : ClassId) (σ : zS) : ∀ (l : List zKd) (r : Nat), (zWA ad cI cJ σ r l).length = l.length
  | [], _ => rfl
  | _ :: t, r => by simp only [zWA, List.length_cons, zWA_len ad cI cJ σ t (r + 1)]
theorem zWA_far (ad : Nat → Nat) (cI cJ : ClassId) {σ τ : zS} (k : Nat) (h : ∀ r kd, r ≠ k → zEn ad cI cJ τ r kd = zEn ad cI cJ σ r kd) : ∀ (l : List zKd) (r : Nat), k < r → zWA ad cI cJ τ r l = zWA ad cI cJ σ r l
  | [], _, _ => rfl
  | q :: t, r, hr => by simp only [zWA, h r q (by omega), zWA_far ad cI cJ k h t (r + 1) (by omega)]
theorem zWA_set (ad : Nat → Nat) (cI cJ : ClassId) {σ τ : zS} : ∀ (l : List zKd) (r k : Nat) (kd : zKd), (∀ a kd, a ≠ r + k → zEn ad cI cJ τ a kd = zEn ad cI cJ σ a kd) → l[k]? = some kd → (zWA ad cI cJ σ r l).set k (ad (r + k), zEn ad cI cJ τ (r + k) kd) = zWA ad cI cJ τ r l
  | [], _, _, _, _, h => by simp at h
  | q :: t, r, 0, kd, hc, h => by
    simp only [List.getElem?_cons_zero, Option.some.injEq] at h
    subst h
    simp only [zWA, List.set_cons_zero, Nat.add_zero, zWA_far ad cI cJ r (fun a kd ha => hc a kd (by omega)) t (r + 1) (by omega)]
  | q :: t, r, k + 1, kd, hc, h => by
    simp only [List.getElem?_cons_succ] at h
    have e := zWA_set ad cI cJ (τ := τ) (σ := σ) t (r + 1) k kd (fun a kd ha => hc a kd (by omega)) h
    rw [show r + 1 + k = r + (k + 1) by omega] at e
    simp only [zWA, List.set_cons_succ, e, hc r q (by omega)]
theorem zW_get (ad : Nat → Nat) (cI cJ : ClassId) (σ : zS) {r : Nat} {kd : zKd} (h : zSh[r]? = some kd) : (zW ad cI cJ σ)[r]? = some (ad r, zEn ad cI cJ σ r kd) := by
  have e := zWA_get ad cI cJ σ zSh 0 r kd h
  rwa [Nat.zero_add] at e
theorem zW_set (ad : Nat → Nat) (cI cJ : ClassId) {σ τ : zS} {r : Nat} {kd : zKd} (h : zSh[r]? = some kd) (h1 : ∀ a, a ≠ r → τ.1 a = σ.1 a) (h2 : ∀ a, a ≠ r → τ.2 a = σ.2 a) : (zW ad cI cJ σ).set r (ad r, zEn ad cI cJ τ r kd) = zW ad cI cJ τ := by
  have e := zWA_set ad cI cJ (τ := τ) (σ := σ) zSh 0 r kd (fun a k ha => zEn_cong ad cI cJ a (h1 a (by omega)) (h2 a (by omega)) k) h
  rwa [Nat.zero_add] at e
theorem zSI_1 {σ : zS} {r j : Nat} {x : Int32} {a : Nat} (h : a ≠ r) : (zSI σ r j x).1 a = σ.1 a := by simp [zSI, h]
theorem zSI_s {σ : zS} {r j : Nat} {x : Int32} : (zSI σ r j x).1 r = upd (σ.1 r) j x := by simp [zSI]
theorem zSJ_1 {σ : zS} {r j : Nat} {x : Int64} {a : Nat} (h : a ≠ r) : (zSJ σ r j x).2 a = σ.2 a := by simp [zSJ, h]
theorem zSJ_s {σ : zS} {r j : Nat} {x : Int64} : (zSJ σ r j x).2 r = vp_updL (σ.2 r) j x := by simp [zSJ]
theorem zSR_1 {σ : zS} {r : Nat} {f : Nat → Int32} {a : Nat} (h : a ≠ r) : (zSR σ r f).1 a = σ.1 a := by simp [zSR, h]
theorem zSR_s {σ : zS} {r : Nat} {f : Nat → Int32} : (zSR σ r f).1 r = f := by simp [zSR]
-- the shape
theorem zK_some {r : Nat} (h : ¬ (zK r).1 = 9) : zSh[r]? = some (zK r) := by
  unfold zK at h ⊢
  rw [List.getD_eq_getElem?_getD] at h ⊢
  cases e : zSh[r]? with
  | none => rw [e] at h; exact absurd rfl h
  | some q => rfl
theorem zIsO_spec {r ci : Nat} (h : zIsO r ci = true) : ∃ sl, zSh[r]? = some (0, ci, sl) ∧ ∀ j, zSl r j = sl.getD j (9, 0) := by
  simp only [zIsO, Bool.and_eq_true] at h
  have h1 := Nat.eq_of_beq_eq_true h.1
  have h2 := Nat.eq_of_beq_eq_true h.2
  have e := zK_some (r := r) (by omega)
  refine ⟨(zK r).2.2, ?_, fun j => rfl⟩
  rw [e, ← h1, ← h2]
theorem zIsI_spec {r : Nat} (h : zIsI r = true) : ∃ sl, zSh[r]? = some (1, zN r, sl) := by
  have h1 := Nat.eq_of_beq_eq_true h
  have e := zK_some (r := r) (by omega)
  exact ⟨(zK r).2.2, by rw [e, ← h1]; rfl⟩
theorem zIsJ_spec {r : Nat} (h : zIsJ r = true) : ∃ sl, zSh[r]? = some (2, zN r, sl) := by
  have h1 := Nat.eq_of_beq_eq_true h
  have e := zK_some (r := r) (by omega)
  exact ⟨(zK r).2.2, by rw [e, ← h1]; rfl⟩
theorem zGetD_some {sl : List (Nat × Nat)} {j : Nat} (h : ¬ (sl.getD j (9, 0)).1 = 9) : sl[j]? = some (sl.getD j (9, 0)) := by
  rw [List.getD_eq_getElem?_getD] at h ⊢
  cases e : sl[j]? with
  | none => rw [e] at h; exact absurd rfl h
  | some q => rfl
-- off the stack
theorem zG_inv {b : Bool} {P : Prop} (h : zG b P) : b = true ∧ P := by
  cases b with
  | true => exact ⟨rfl, h⟩
  | false => exact False.elim h
theorem zI_inv {st : List Value} {k : Int32 → List Value → Prop} (h : zI st k) : ∃ x r, st = .int x :: r ∧ k x r := by
  cases st with
  | nil => exact False.elim h
  | cons v r => cases v <;> first | exact ⟨_, _, rfl, h⟩ | exact False.elim h
theorem zJ_inv {st : List Value} {k : Int64 → List Value → Prop} (h : zJ st k) : ∃ x r, st = .long x :: r ∧ k x r := by
  cases st with
  | nil => exact False.elim h
  | cons v r => cases v <;> first | exact ⟨_, _, rfl, h⟩ | exact False.elim h
theorem zA_inv {st : List Value} {k : Nat → List Value → Prop} (h : zA st k) : ∃ x r, st = .ref x :: r ∧ k x r := by
  cases st with
  | nil => exact False.elim h
  | cons v r => cases v <;> first | exact ⟨_, _, rfl, h⟩ | exact False.elim h
theorem zII_inv {st : List Value} {k : Int32 → Int32 → List Value → Prop} (h : zII st k) : ∃ x y r, st = .int y :: .int x :: r ∧ k x y r := by
  obtain ⟨y, r, rfl, h1⟩ := zI_inv h
  obtain ⟨x, r2, rfl, h2⟩ := zI_inv h1
  exact ⟨x, y, r2, rfl, h2⟩
theorem zJJ_inv {st : List Value} {k : Int64 → Int64 → List Value → Prop} (h : zJJ st k) : ∃ x y r, st = .long y :: .long x :: r ∧ k x y r := by
  obtain ⟨y, r, rfl, h1⟩ := zJ_inv h
  obtain ⟨x, r2, rfl, h2⟩ := zJ_inv h1
  exact ⟨x, y, r2, rfl, h2⟩
theorem zAI_inv {st : List Value} {k : Nat → Int32 → List Value → Prop} (h : zAI st k) : ∃ a i r, st = .int i :: .ref a :: r ∧ k a i r := by
  obtain ⟨y, r, rfl, h1⟩ := zI_inv h
  obtain ⟨x, r2, rfl, h2⟩ := zA_inv h1
  exact ⟨x, y, r2, rfl, h2⟩
theorem zCat_R (ad : Nat → Nat) (v : Value) : (zR ad v).category = zCat v := by cases v <;> rfl
theorem zV1_inv {st : List Value} {k : Value → List Value → Prop} (h : zV1 st k) : ∃ v r, st = v :: r ∧ zCat v = 1 ∧ k v r := by
  cases st with
  | nil => exact False.elim h
  | cons v r =>
    obtain ⟨h1, h2⟩ := zG_inv h
    exact ⟨v, r, rfl, Nat.eq_of_beq_eq_true h1, h2⟩
theorem zLg_inv {ls : zLo} {i : Nat} {k : Value → Prop} (h : zLg ls i k) : ∃ v, ls.getD i none = some v ∧ k v := by
  unfold zLg at h
  cases e : ls.getD i none with
  | none => rw [e] at h; exact False.elim h
  | some v => rw [e] at h; exact ⟨v, rfl, h⟩
theorem zLi_inv {ls : zLo} {i : Nat} {k : Int32 → Prop} (h : zLi ls i k) : ∃ x, ls.getD i none = some (.int x) ∧ k x := by
  obtain ⟨v, e, h⟩ := zLg_inv h
  cases v <;> first | exact ⟨_, e, h⟩ | exact False.elim h
theorem zLj_inv {ls : zLo} {i : Nat} {k : Int64 → Prop} (h : zLj ls i k) : ∃ x, ls.getD i none = some (.long x) ∧ k x := by
  obtain ⟨v, e, h⟩ := zLg_inv h
  cases v <;> first | exact ⟨_, e, h⟩ | exact False.elim h
theorem zLa_inv {ls : zLo} {i : Nat} {k : Nat → Prop} (h : zLa ls i k) : ∃ x, ls.getD i none = some (.ref x) ∧ k x := by
  obtain ⟨v, e, h⟩ := zLg_inv h
  cases v <;> first | exact ⟨_, e, h⟩ | exact False.elim h
theorem zW8_R (ad : Nat → Nat) : ∀ r : List Value, ((r.map (zR ad)).map fun v => v.category).sum = zW8 r
  | [] => rfl
  | v :: r => by simp only [List.map_cons, List.sum_cons, zCat_R, zW8_R ad r, zW8]
theorem zPn_inv : ∀ (n : Nat) (acc st : List Value) (k : List Value → List Value → Prop), zPn n acc st k → ∃ av r, av.length = n ∧ st = av ++ r ∧ k (av.reverse ++ acc) r
  | 0, acc, st, k, h => ⟨[], st, rfl, rfl, h⟩
  | n + 1, acc, [], k, h => False.elim h
  | n + 1, acc, v :: st, k, h => by
    obtain ⟨av, r, h1, h2, h3⟩ := zPn_inv n (v :: acc) st k h
    exact ⟨v :: av, r, by simp [h1], by simp [h2], by simpa using h3⟩
theorem zTb_inv {x : Int32} {X : Nat → Prop} {d : Nat} : ∀ {tb : List (Int32 × Nat)}, zTb x X d tb → (∃ (k : Nat) (q : Int32 × Nat), tb[k]? = some q ∧ x = q.1 ∧ X q.2 ∧ ∀ (j : Nat) (p : Int32 × Nat), j < k → tb[j]? = some p → ¬ x = p.1) ∨ ((∀ (k : Nat) (q : Int32 × Nat), tb[k]? = some q → ¬ x = q.1) ∧ X d)
  | [], h => Or.inr ⟨fun k q e => by simp at e, h⟩
  | q :: r, h => by
    by_cases e : x = q.1
    · exact Or.inl ⟨0, q, rfl, e, h.1 e, fun j p hj => absurd hj (Nat.not_lt_zero j)⟩
    · rcases zTb_inv (h.2 e) with ⟨k, p, h1, h2, h3, h4⟩ | ⟨h1, h2⟩
      · refine Or.inl ⟨k + 1, p, h1, h2, h3, fun j p' hj hp => ?_⟩
        cases j with
        | zero =>
          simp only [List.getElem?_cons_zero, Option.some.injEq] at hp
          rw [← hp]; exact e
        | succ j => exact h4 j p' (by omega) hp
      · refine Or.inr ⟨fun k p hp => ?_, h2⟩
        cases k with
        | zero =>
          simp only [List.getElem?_cons_zero, Option.some.injEq] at hp
          rw [← hp]; exact e
        | succ j => exact h1 j p hp
-- the locals
def zAs (ad : Nat → Nat) : Nat → zLo → List (Nat × Value)
  | _, [] => []
  | i, none :: r => zAs ad (i + 1) r
  | i, some v :: r => (i, zR ad v) :: zAs ad (i + 1) r
theorem zAs_mem (ad : Nat → Nat) : ∀ (lv : zLo) (k : Nat) (q : Nat × Value), q ∈ zAs ad k lv ↔ ∃ j v, lv[j]? = some (some v) ∧ q = (k + j, zR ad v)
  | [], k, q => by simp [zAs]
  | none :: r, k, q => by
    simp only [zAs]
    rw [zAs_mem ad r (k + 1) q]
    constructor
    · rintro ⟨j, v, h1, h2⟩
      exact ⟨j + 1, v, h1, by rw [h2, show k + 1 + j = k + (j + 1) by omega]⟩
    · rintro ⟨j, v, h1, h2⟩
      cases j with
      | zero => simp at h1
      | succ j => exact ⟨j, v, h1, by rw [h2, show k + 1 + j = k + (j + 1) by omega]⟩
  | some u :: r, k, q => by
    simp only [zAs, List.mem_cons]
    rw [zAs_mem ad r (k + 1) q]
    constructor
    · rintro (h | ⟨j, v, h1, h2⟩)
      · exact ⟨0, u, rfl, h⟩
      · exact ⟨j + 1, v, h1, by rw [h2, show k + 1 + j = k + (j + 1) by omega]⟩
    · rintro ⟨j, v, h1, h2⟩
      cases j with
      | zero =>
        simp only [List.getElem?_cons_zero, Option.some.injEq] at h1
        exact Or.inl (by rw [h2, h1]; rfl)
      | succ j => exact Or.inr ⟨j, v, h1, by rw [h2, show k + 1 + j = k + (j + 1) by omega]⟩
def zHas (ad : Nat → Nat) (ls : Array Slot) (nL : Nat) (lv : zLo) : Prop := lv_has ls nL (zAs ad 0 lv) ∧ lv.length ≤ nL
theorem zHas.at {ad : Nat → Nat} {ls : Array Slot} {nL : Nat} {lv : zLo} (h : zHas ad ls nL lv) {i : Nat} {v : Value} (e : lv.getD i none = some v) : ls[i]? = some (.val (zR ad v)) := by
  have e2 : lv[i]? = some (some v) := by
    rw [List.getD_eq_getElem?_getD] at e
    cases e3 : lv[i]? with
    | none => rw [e3] at e; simp at e
    | some o => rw [e3] at e; simp at e; rw [e]
  exact h.1.2.2 (i, zR ad v) ((zAs_mem ad lv 0 _).mpr ⟨i, v, e2, by rw [Nat.zero_add]⟩)
theorem zHas.lt {ad : Nat → Nat} {ls : Array Slot} {nL : Nat} {lv : zLo} (h : zHas ad ls nL lv) {i : Nat} {v : Value} (e : lv.getD i none = some v) : i < nL := by
  have h1 := (Array.getElem?_eq_some_iff.mp (h.at e)).1
  rw [h.1.1] at h1
  exact h1
theorem zNo2_some {o : Option Value} {u : Value} (h : zNo2 o = some u) : o = some u ∧ ¬ zCat u = 2 := by
  cases o with
  | none => cases h
  | some v => cases v <;> first | (cases h; done) | (simp only [zNo2, Option.some.injEq] at h; subst h; exact ⟨rfl, by simp [zCat]⟩)
theorem zS1_len (v : Value) : ∀ (lv : zLo) (i : Nat), (zS1 v lv i).length = lv.length
  | [], _ => rfl
  | _ :: r, 0 => rfl
  | o :: r, 1 => by simp only [zS1, List.length_cons, zS1_len v r 0]
  | o :: r, i + 2 => by simp only [zS1, List.length_cons, zS1_len v r (i + 1)]
theorem zS1_get (v : Value) : ∀ (lv : zLo) (i j : Nat) (u : Value), (zS1 v lv i)[j]? = some (some u) → (j = i ∧ u = v) ∨ (j ≠ i ∧ lv[j]? = some (some u) ∧ ¬ (j + 1 = i ∧ zCat u = 2))
  | [], _, _, _, h => by simp [zS1] at h
  | o :: r, 0, j, u, h => by
    cases j with
    | zero => simp only [zS1, List.getElem?_cons_zero, Option.some.injEq] at h; exact Or.inl ⟨rfl, h.symm⟩
    | succ j => exact Or.inr ⟨by omega, h, by omega⟩
  | o :: r, 1, j, u, h => by
    cases j with
    | zero =>
      simp only [zS1, List.getElem?_cons_zero, Option.some.injEq] at h
      obtain ⟨e, h2⟩ := zNo2_some h
      exact Or.inr ⟨by omega, by rw [e]; rfl, fun q => h2 q.2⟩
    | succ j =>
      rcases zS1_get v r 0 j u h with ⟨h1, h2⟩ | ⟨h1, h2, h3⟩
      · exact Or.inl ⟨by omega, h2⟩
      · exact Or.inr ⟨by omega, h2, by omega⟩
  | o :: r, i + 2, j, u, h => by
    cases j with
    | zero => exact Or.inr ⟨by omega, h, by omega⟩
    | succ j =>
      rcases zS1_get v r (i + 1) j u h with ⟨h1, h2⟩ | ⟨h1, h2, h3⟩
      · exact Or.inl ⟨by omega, h2⟩
      · exact Or.inr ⟨by omega, h2, fun q => h3 ⟨by omega, q.2⟩⟩
theorem zS2_len (v : Value) : ∀ (lv : zLo) (i : Nat), (zS2 v lv i).length = lv.length
  | [], _ => rfl
  | [_], _ => rfl
  | _ :: _ :: r, 0 => rfl
  | o :: p :: r, 1 => by simp only [zS2, List.length_cons, zS2_len v (p :: r) 0]
  | o :: p :: r, i + 2 => by simp only [zS2, List.length_cons, zS2_len v (p :: r) (i + 1)]
theorem zS2_get (v : Value) : ∀ (lv : zLo) (i j : Nat) (u : Value), (zS2 v lv i)[j]? = some (some u) → (j = i ∧ u = v) ∨ (j ≠ i ∧ j ≠ i + 1 ∧ lv[j]? = some (some u) ∧ ¬ (j + 1 = i ∧ zCat u = 2))
  | [], _, _, _, h => by simp [zS2] at h
  | [o], i, j, u, h => by
    cases j <;> simp [zS2] at h
  | o :: p :: r, 0, j, u, h => by
    cases j with
    | zero => simp only [zS2, List.getElem?_cons_zero, Option.some.injEq] at h; exact Or.inl ⟨rfl, h.symm⟩
    | succ j =>
      cases j with
      | zero => simp [zS2] at h
      | succ j => exact Or.inr ⟨by omega, by omega, h, by omega⟩
  | o :: p :: r, 1, j, u, h => by
    cases j with
    | zero =>
      simp only [zS2, List.getElem?_cons_zero, Option.some.injEq] at h
      obtain ⟨e, h2⟩ := zNo2_some h
      exact Or.inr ⟨by omega, by omega, by rw [e]; rfl, fun q => h2 q.2⟩
    | succ j =>
      rcases zS2_get v (p :: r) 0 j u h with ⟨h1, h2⟩ | ⟨h1, h2, h3, h4⟩
      · exact Or.inl ⟨by omega, h2⟩
      · exact Or.inr ⟨by omega, by omega, h3, by omega⟩
  | o :: p :: r, i + 2, j, u, h => by
    cases j with
    | zero => exact Or.inr ⟨by omega, by omega, h, by omega⟩
    | succ j =>
      rcases zS2_get v (p :: r) (i + 1) j u h with ⟨h1, h2⟩ | ⟨h1, h2, h3, h4⟩
      · exact Or.inl ⟨by omega, h2⟩
      · exact Or.inr ⟨by omega, by omega, h3, fun q => h4 ⟨by omega, q.2⟩⟩
theorem zHas.st1 {ad : Nat → Nat} {ls : Array Slot} {nL : Nat} {lv : zLo} (h : zHas ad ls nL lv) {i : Nat} {v : Value} {ls' : Array Slot} (h' : lv_has ls' nL ((i, zR ad v) :: (zAs ad 0 lv).filter (fun q => !(q.1 == i) && !(q.1 + 1 == i && q.2.category == 2)))) : zHas ad ls' nL (zS1 v lv i) := by
  refine ⟨⟨h'.1, h'.2.1, fun q hq => h'.2.2 q ?_⟩, by rw [zS1_len]; exact h.2⟩
  obtain ⟨j, u, h1, rfl⟩ := (zAs_mem ad _ 0 q).mp hq
  rw [Nat.zero_add]
  rcases zS1_get v lv i j u h1 with ⟨rfl, rfl⟩ | ⟨h2, h3, h4⟩
  · exact List.mem_cons_self
  · refine List.mem_cons_of_mem _ (List.mem_filter.mpr ⟨(zAs_mem ad lv 0 _).mpr ⟨j, u, h3, by rw [Nat.zero_add]⟩, ?_⟩)
    simp only [zCat_R]
    simp only [Bool.and_eq_true, Bool.not_eq_true', beq_eq_false_iff_ne, ne_eq, Bool.and_eq_false_iff]
    exact ⟨h2, by by_cases e : j + 1 = i
                  · exact Or.inr (fun e2 => h4 ⟨e, e2⟩)
                  · exact Or.inl e⟩
theorem zHas.st2 {ad : Nat → Nat} {ls : Array Slot} {nL : Nat} {lv : zLo} (h : zHas ad ls nL lv) {i : Nat} {v : Value} {ls' : Array Slot} (h' : lv_has ls' nL ((i, zR ad v) :: (zAs ad 0 lv).filter (fun q => !(q.1 == i) && (!(q.1 == i + 1) && !(q.1 + 1 == i && q.2.category == 2))))) : zHas ad ls' nL (zS2 v lv i) := by
  refine ⟨⟨h'.1, h'.2.1, fun q hq => h'.2.2 q ?_⟩, by rw [zS2_len]; exact h.2⟩
  obtain ⟨j, u, h1, rfl⟩ := (zAs_mem ad _ 0 q).mp hq
  rw [Nat.zero_add]
  rcases zS2_get v lv i j u h1 with ⟨rfl, rfl⟩ | ⟨h2, h2', h3, h4⟩
  · exact List.mem_cons_self
  · refine List.mem_cons_of_mem _ (List.mem_filter.mpr ⟨(zAs_mem ad lv 0 _).mpr ⟨j, u, h3, by rw [Nat.zero_add]⟩, ?_⟩)
    simp only [zCat_R]
    simp only [Bool.and_eq_true, Bool.not_eq_true', beq_eq_false_iff_ne, ne_eq, Bool.and_eq_false_iff]
    exact ⟨h2, h2', by by_cases e : j + 1 = i
                       · exact Or.inr (fun e2 => h4 ⟨e, e2⟩)
                       · exact Or.inl e⟩
theorem zAr_len (ad : Nat → Nat) : ∀ av : List Value, (lg_sl (av.map (zR ad))).length = (zAr av).length
  | [] => rfl
  | v :: r => by
    have e := zAr_len ad r
    simp only [lg_sl] at e
    rcases (show zCat v = 2 ∨ zCat v = 1 by cases v <;> simp [zCat]) with h | h
    · simp [lg_sl, zAr, h, zCat_R, e]
    · simp [lg_sl, zAr, h, zCat_R, e]
theorem zAr_args (ad : Nat → Nat) : ∀ (av : List Value) (k n : Nat) (q : Nat × Value), q ∈ zAs ad k (zAr av ++ List.replicate n none) → q ∈ lv_args k (av.map (zR ad))
  | [], k, n, q, h => by
    obtain ⟨j, v, h1, -⟩ := (zAs_mem ad _ k q).mp h
    simp only [zAr, List.nil_append] at h1
    have := List.eq_of_mem_replicate (List.mem_of_getElem? h1)
    cases this
  | v :: r, k, n, q, h => by
    rcases (show zCat v = 2 ∨ zCat v = 1 by cases v <;> simp [zCat]) with e | e
    · simp only [zAr, e, List.cons_append, zAs, List.mem_cons] at h
      simp only [List.map_cons, lv_args, zCat_R, e, if_true, List.mem_cons]
      rcases h with h | h
      · exact Or.inl h
      · exact Or.inr (zAr_args ad r (k + 2) n q h)
    · simp only [zAr, e, List.cons_append, zAs, List.mem_cons] at h
      simp only [List.map_cons, lv_args, zCat_R, e, List.mem_cons]
      rcases h with h | h
      · exact Or.inl h
      · exact Or.inr (zAr_args ad r (k + 1) n q h)
theorem zHas.entry (ad : Nat → Nat) (av : List Value) (n : Nat) (h : (zAr av).length ≤ n) : zHas ad ((lg_sl (av.map (zR ad)) ++ List.replicate (n - (lg_sl (av.map (zR ad))).length) Slot.unset).toArray) n (zAr av ++ List.replicate (n - (zAr av).length) none) := by
  have e := lv_entry (av.map (zR ad)) (n := n) (by rw [zAr_len]; exact h)
  exact ⟨⟨e.1, e.2.1, fun q hq => e.2.2 q (zAr_args ad av 0 _ q hq)⟩, by simp; omega⟩
-- fewer locals
def zMb : List Bool → zLo → zLo
  | true :: b, o :: r => o :: zMb b r
  | false :: b, _ :: r => none :: zMb b r
  | _, _ => []
def zMk : List (Nat × List Bool) → Nat → zLo → zLo
  | [], _, ls => ls
  | q :: r, pc, ls => match Nat.beq q.1 pc with
    | true => zMb q.2 ls
    | false => zMk r pc ls
theorem zMb_get : ∀ (b : List Bool) (lv : zLo) (j : Nat) (u : Value), (zMb b lv)[j]? = some (some u) → lv[j]? = some (some u)
  | true :: b, o :: r, 0, u, h => h
  | true :: b, o :: r, j + 1, u, h => zMb_get b r j u h
  | false :: b, o :: r, 0, u, h => by simp [zMb] at h
  | false :: b, o :: r, j + 1, u, h => zMb_get b r j u h
  | [], lv, j, u, h => by simp [zMb] at h
  | true :: b, [], j, u, h => by simp [zMb] at h
  | false :: b, [], j, u, h => by simp [zMb] at h
theorem zMb_len : ∀ (b : List Bool) (lv : zLo), (zMb b lv).length ≤ lv.length
  | true :: b, o :: r => by simp only [zMb, List.length_cons]; have := zMb_len b r; omega
  | false :: b, o :: r => by simp only [zMb, List.length_cons]; have := zMb_len b r; omega
  | [], lv => by simp [zMb]
  | true :: b, [] => by simp [zMb]
  | false :: b, [] => by simp [zMb]
theorem zMk_get : ∀ (ms : List (Nat × List Bool)) (pc : Nat) (lv : zLo), (∀ (j : Nat) (u : Value), (zMk ms pc lv)[j]? = some (some u) → lv[j]? = some (some u)) ∧ (zMk ms pc lv).length ≤ lv.length
  | [], pc, lv => ⟨fun _ _ h => h, Nat.le_refl _⟩
  | q :: r, pc, lv => by
    unfold zMk
    cases Nat.beq q.1 pc with
    | true => exact ⟨zMb_get q.2 lv, zMb_len q.2 lv⟩
    | false => exact zMk_get r pc lv
theorem zHas.mk {ad : Nat → Nat} {ls : Array Slot} {nL : Nat} {lv : zLo} (h : zHas ad ls nL lv) (ms : List (Nat × List Bool)) (pc : Nat) : zHas ad ls nL (zMk ms pc lv) := by
  obtain ⟨h1, h2⟩ := zMk_get ms pc lv
  refine ⟨⟨h.1.1, h.1.2.1, fun q hq => h.1.2.2 q ?_⟩, Nat.le_trans h2 h.2⟩
  obtain ⟨j, v, e1, e2⟩ := (zAs_mem ad _ 0 q).mp hq
  exact (zAs_mem ad lv 0 q).mpr ⟨j, v, h1 j v e1, e2⟩
