/-! the leaves: rows read and written with a look at the index, division with a look at the divisor, ranges */
-/
theorem zEx_post {sc : Option (Nat × (Nat → Int32))} {C : zCa} {po po' : zPo} {Z : zX} {o : zOp} {ls : zLo} {st : List Value} {σ : zS} (hp : ∀ r σ, po r σ → po' r σ) (h : zEx sc C po Z o ls st σ) : zEx sc C po' Z o ls st σ := by
  obtain ⟨i, n, a, b, k1, e1, g, v, w, tb⟩ := o
  cases i with
  | ireturn =>
    simp only [zEx] at h ⊢
    obtain ⟨x, rfl, h⟩ := zRI_inv h
    match k1, h with
    | 0, h => exact hp _ _ h
    | 1, h => 
      obtain ⟨h1, h2⟩ := zG_inv h
      show zG (x == 0 || x == 1) _
      rw [h1]
      exact hp _ _ h2
    | k + 2, h => exact hp _ _ h
  | lreturn =>
    simp only [zEx] at h ⊢
    obtain ⟨x, rfl, h⟩ := zRJ_inv h
    exact hp _ _ h
  | return_ =>
    simp only [zEx] at h ⊢
    obtain ⟨rfl, h⟩ := zRV_inv h
    exact hp _ _ h
  | _ => exact h
theorem zCall_mono {d mi : Nat} {av : List Value} {σ : zS} {po po' : zPo} (hp : ∀ r σ, po r σ → po' r σ) (h : zCall d mi av σ po) : zCall d mi av σ po' := by
  cases d with
  | zero => exact False.elim h
  | succ d =>
    obtain ⟨h1, h2⟩ := zG_inv h
    show zG (Nat.ble (zAr av).length (zMl mi)) _
    rw [h1]
    intro X hX
    exact h2 X ⟨fun Z pc o ls st σ hZ hk he => hX.1 Z pc o ls st σ hZ hk (zEx_post hp he), hX.2⟩
theorem zc_I {d mi : Nat} {av : List Value} {σ : zS} {k k' : Int32 → zS → Prop} (hp : ∀ x σ, k x σ → k' x σ) (h : zCall d mi av σ (zPI k)) : zCall d mi av σ (zPI k') := zCall_mono (fun r σ ⟨x, h1, h2⟩ => ⟨x, h1, hp x σ h2⟩) h
theorem zc_J {d mi : Nat} {av : List Value} {σ : zS} {k k' : Int64 → zS → Prop} (hp : ∀ x σ, k x σ → k' x σ) (h : zCall d mi av σ (zPJ k)) : zCall d mi av σ (zPJ k') := zCall_mono (fun r σ ⟨x, h1, h2⟩ => ⟨x, h1, hp x σ h2⟩) h
theorem zc_V {d mi : Nat} {av : List Value} {σ : zS} {k k' : zS → Prop} (hp : ∀ σ, k σ → k' σ) (h : zCall d mi av σ (zPV k)) : zCall d mi av σ (zPV k') := zCall_mono (fun r σ ⟨h1, h2⟩ => ⟨h1, hp σ h2⟩) h
theorem zG_imp {b : Bool} {P Q : Prop} (hp : P → Q) (h : zG b P) : zG b Q := by
  cases b with
  | true => exact hp h
  | false => exact h
theorem zIl_imp {sc : Option (Nat × (Nat → Int32))} {σ : zS} {q : Nat} {i : Int32} {k k' : Int32 → Prop} (hp : ∀ x, k x → k' x) (h : zIl sc σ q i k) : zIl sc σ q i k' := by
  unfold zIl at h ⊢
  cases zIsI q with
  | true => exact ⟨h.1, hp _ h.2⟩
  | false => cases sc with
    | none => exact h
    | some s => exact zG_imp (fun h => ⟨h.1, hp _ h.2⟩) h
theorem zN_lt (q : Nat) : zN q < 1000 := by
  have h : ∀ k ∈ zSh, k.2.1 < 1000 := by decide +kernel
  unfold zN zK
  rw [List.getD_eq_getElem?_getD]
  cases e : zSh[q]? with
  | none => decide
  | some k => exact h k (List.mem_of_getElem? e)
def zAt (σ : zS) (q : Nat) (i : Int32) : Int32 := if 0 ≤ i ∧ i < nI (zN q) then σ.1 q i.toNatClampNeg else 0
def zAtJ (σ : zS) (q : Nat) (i : Int32) : Int64 := if 0 ≤ i ∧ i < nI (zN q) then σ.2 q i.toNatClampNeg else 0
def zPt (σ : zS) (q : Nat) (i v : Int32) : zS := if 0 ≤ i ∧ i < nI (zN q) then zSI σ q i.toNatClampNeg v else σ
def zPtJ (σ : zS) (q : Nat) (i : Int32) (v : Int64) : zS := if 0 ≤ i ∧ i < nI (zN q) then zSJ σ q i.toNatClampNeg v else σ
def zRat (a b : Int64) : Int64 := if b = 0 then 0 else a / b
theorem vin_of {i : Int32} {n : Nat} (h0 : ¬ i < 0) (h1 : i < nI n) (hn : n < 2 ^ 31) : vp_in i n := by
  rw [Int32.lt_iff_toInt_lt, nI_toInt hn] at h1
  rw [Int32.lt_iff_toInt_lt, Int32.toInt_zero] at h0
  exact vp_in_iff.mpr ⟨by omega, h1⟩
theorem zN_31 (q : Nat) : zN q < 2 ^ 31 := Nat.lt_trans (zN_lt q) (by decide)
theorem sm_at {d q : Nat} {i : Int32} {σ : zS} {k : Int32 → zS → Prop} (hq : zIsI q = true) (h : k (zAt σ q i) σ) : zCall (d + 1) nX11_at [.ref q, .int i] σ (zPI k) := by
  refine ze_X11_at q i σ (fun X hX => zr_X11_at_0 hX q i σ ⟨fun h1 => ?_, fun h1 => ?_⟩)
  · have e : zAt σ q i = 0 := if_neg (fun z => Int32.not_lt.mpr z.1 h1)
    rw [e] at h
    exact ⟨_, rfl, h⟩
  · unfold zLe
    rw [hq]
    refine ⟨fun h2 => ?_, fun h2 => ?_⟩
    · unfold zIl
      rw [hq]
      have e : zAt σ q i = σ.1 q i.toNatClampNeg := if_pos ⟨Int32.not_lt.mp h1, h2⟩
      rw [e] at h
      exact ⟨vin_of h1 h2 (zN_31 q), _, rfl, h⟩
    · have e : zAt σ q i = 0 := if_neg (fun z => h2 z.2)
      rw [e] at h
      exact ⟨_, rfl, h⟩
theorem sm_atJ {d q : Nat} {i : Int32} {σ : zS} {k : Int64 → zS → Prop} (hq : zIsJ q = true) (h : k (zAtJ σ q i) σ) : zCall (d + 1) nX11_at_ [.ref q, .int i] σ (zPJ k) := by
  refine ze_X11_at_ q i σ (fun X hX => zr_X11_at__0 hX q i σ ⟨fun h1 => ?_, fun h1 => ?_⟩)
  · have e : zAtJ σ q i = 0 := if_neg (fun z => Int32.not_lt.mpr z.1 h1)
    rw [e] at h
    exact ⟨_, rfl, h⟩
  · unfold zLe
    rw [hq, Bool.or_true]
    refine ⟨fun h2 => ?_, fun h2 => ?_⟩
    · rw [hq]
      have e : zAtJ σ q i = σ.2 q i.toNatClampNeg := if_pos ⟨Int32.not_lt.mp h1, h2⟩
      rw [e] at h
      exact ⟨vin_of h1 h2 (zN_31 q), _, rfl, h⟩
    · have e : zAtJ σ q i = 0 := if_neg (fun z => h2 z.2)
      rw [e] at h
      exact ⟨_, rfl, h⟩
theorem sm_put {d q : Nat} {i v : Int32} {σ : zS} {k : zS → Prop} (hq : zIsI q = true) (h : k (zPt σ q i v)) : zCall (d + 1) nX11_put [.ref q, .int i, .int v] σ (zPV k) := by
  refine ze_X11_put q i v σ (fun X hX => zr_X11_put_0 hX q i v σ ⟨fun h1 => ?_, fun h1 => ?_⟩)
  · have e : zPt σ q i v = σ := if_neg (fun z => Int32.not_lt.mpr z.1 h1)
    rw [e] at h
    exact ⟨rfl, h⟩
  · unfold zLe
    rw [hq]
    refine ⟨fun h2 => ?_, fun h2 => ?_⟩
    · rw [hq]
      have e : zPt σ q i v = zSI σ q i.toNatClampNeg v := if_pos ⟨Int32.not_lt.mp h1, h2⟩
      rw [e] at h
      exact ⟨vin_of h1 h2 (zN_31 q), rfl, h⟩
    · have e : zPt σ q i v = σ := if_neg (fun z => h2 z.2)
      rw [e] at h
      exact ⟨rfl, h⟩
theorem sm_putJ {d q : Nat} {i : Int32} {v : Int64} {σ : zS} {k : zS → Prop} (hq : zIsJ q = true) (h : k (zPtJ σ q i v)) : zCall (d + 1) nX11_put_ [.ref q, .int i, .long v] σ (zPV k) := by
  refine ze_X11_put_ q i v σ (fun X hX => zr_X11_put__0 hX q i v σ ⟨fun h1 => ?_, fun h1 => ?_⟩)
  · have e : zPtJ σ q i v = σ := if_neg (fun z => Int32.not_lt.mpr z.1 h1)
    rw [e] at h
    exact ⟨rfl, h⟩
  · unfold zLe
    rw [hq, Bool.or_true]
    refine ⟨fun h2 => ?_, fun h2 => ?_⟩
    · rw [hq]
      have e : zPtJ σ q i v = zSJ σ q i.toNatClampNeg v := if_pos ⟨Int32.not_lt.mp h1, h2⟩
      rw [e] at h
      exact ⟨vin_of h1 h2 (zN_31 q), rfl, h⟩
    · have e : zPtJ σ q i v = σ := if_neg (fun z => h2 z.2)
      rw [e] at h
      exact ⟨rfl, h⟩
theorem sm_ratio {d : Nat} {a b : Int64} {σ : zS} {k : Int64 → zS → Prop} (h : k (zRat a b) σ) : zCall (d + 1) nX11_ratio [.long a, .long b] σ (zPJ k) := by
  refine ze_X11_ratio a b σ (fun X hX => zr_X11_ratio_0 hX a b σ ⟨fun h1 => ?_, fun h1 => ?_⟩)
  · have h1 : b = 0 := (lg_cmp_eq0 a b).mp h1
    sorry
  · sorry
theorem sm_within {d : Nat} {x a b : Int32} {σ : zS} {k : Int32 → zS → Prop} (h1 : a ≤ x ∧ x ≤ b → k 1 σ) (h0 : ¬ (a ≤ x ∧ x ≤ b) → k 0 σ) : zCall (d + 1) nX11_within [.int x, .int a, .int b] σ (zPI k) :=
  ze_X11_within x a b σ (fun X hX => zr_X11_within_0 hX x a b σ ⟨fun g => ⟨_, rfl, h0 (fun z => Int32.not_lt.mpr z.1 g)⟩, fun g => ⟨fun g2 => ⟨_, rfl, h1 ⟨Int32.not_lt.mp g, g2⟩⟩, fun g2 => ⟨_, rfl, h0 (fun z => g2 z.2)⟩⟩⟩)
theorem sm_in {d : Nat} {x a b : Int32} {σ : zS} {k : Int32 → zS → Prop} (h1 : a ≤ x ∧ x ≤ b → k 1 σ) (h0 : ¬ (a ≤ x ∧ x ≤ b) → k 0 σ) : zCall (d + 1) nX12_in [.int x, .int a, .int b] σ (zPI k) :=
  ze_X12_in x a b σ (fun X hX => zr_X12_in_0 hX x a b σ ⟨fun g => ⟨_, rfl, h0 (fun z => Int32.not_lt.mpr z.1 g)⟩, fun g => ⟨fun g2 => ⟨_, rfl, h1 ⟨Int32.not_lt.mp g, g2⟩⟩, fun g2 => ⟨_, rfl, h0 (fun z => g2 z.2)⟩⟩⟩)
