/-! the leaves: rows read and written with a look at the index, division with a look at the divisor, ranges -/
theorem zEx_post {sc : Option (Nat × (Nat → Int32))} {C : zCa} {po po' : zPo} {Z : zX} {o : zOp} {ls : zLo} {st : List Value} {σ : zS} (hp : ∀ r σ, po r σ → po' r σ) (h : zEx sc C po Z o ls st σ) : zEx sc C po' Z o ls st σ := by
  obtain ⟨i, n, a, b, k1, e1, g, v, w, tb⟩ := o
  cases i with
  | ireturn =>
    simp only [zEx] at h ⊢
    obtain ⟨x, rfl, h⟩ := zRI_inv h
    match k1, h with
    | 0, h => exact hp _ _ h
    | 1, h => 
      obtain ⟨h1, h2⟩ := zG_inv h
      show zG (x == 0 || x == 1) _
      rw [h1]
      exact hp _ _ h2
    | k + 2, h => exact hp _ _ h
  | ifCond cd off => cases cd <;> exact h
  | if_icmp cd off => cases cd <;> exact h
  | lreturn =>
    simp only [zEx] at h ⊢
    obtain ⟨x, rfl, h⟩ := zRJ_inv h
    exact hp _ _ h
  | return_ =>
    simp only [zEx] at h ⊢
    obtain ⟨rfl, h⟩ := zRV_inv h
    exact hp _ _ h
  | _ => exact h
theorem zCall_mono {d mi : Nat} {av : List Value} {σ : zS} {po po' : zPo} (hp : ∀ r σ, po r σ → po' r σ) (h : zCall d mi av σ po) : zCall d mi av σ po' := by
  cases d with
  | zero => exact False.elim h
  | succ d =>
    obtain ⟨h1, h2⟩ := zG_inv h
    show zG (Nat.ble (zAr av).length (zMl mi)) _
    rw [h1]
    intro X hX
    exact h2 X ⟨fun Z pc o ls st σ hZ hk he => hX.1 Z pc o ls st σ hZ hk (zEx_post hp he), hX.2⟩
theorem zc_I {d mi : Nat} {av : List Value} {σ : zS} {k k' : Int32 → zS → Prop} (hp : ∀ x σ, k x σ → k' x σ) (h : zCall d mi av σ (zPI k)) : zCall d mi av σ (zPI k') := zCall_mono (fun r σ ⟨x, h1, h2⟩ => ⟨x, h1, hp x σ h2⟩) h
theorem zc_J {d mi : Nat} {av : List Value} {σ : zS} {k k' : Int64 → zS → Prop} (hp : ∀ x σ, k x σ → k' x σ) (h : zCall d mi av σ (zPJ k)) : zCall d mi av σ (zPJ k') := zCall_mono (fun r σ ⟨x, h1, h2⟩ => ⟨x, h1, hp x σ h2⟩) h
theorem zc_V {d mi : Nat} {av : List Value} {σ : zS} {k k' : zS → Prop} (hp : ∀ σ, k σ → k' σ) (h : zCall d mi av σ (zPV k)) : zCall d mi av σ (zPV k') := zCall_mono (fun r σ ⟨h1, h2⟩ => ⟨h1, hp σ h2⟩) h
theorem zG_imp {b : Bool} {P Q : Prop} (hp : P → Q) (h : zG b P) : zG b Q := by
  cases b with
  | true => exact hp h
  | false => exact h
theorem zIl_imp {sc : Option (Nat × (Nat → Int32))} {σ : zS} {q : Nat} {i : Int32} {k k' : Int32 → Prop} (hp : ∀ x, k x → k' x) (h : zIl sc σ q i k) : zIl sc σ q i k' := by
  revert h
  unfold zIl
  cases zIsI q with
  | true => exact fun h => ⟨h.1, hp _ h.2⟩
  | false => cases sc with
    | none => exact fun h => h
    | some s => exact fun h => zG_imp (fun h => ⟨h.1, hp _ h.2⟩) h
theorem zN_lt (q : Nat) : zN q < 1000 := by
  have h : ∀ k ∈ zSh, k.2.1 < 1000 := by decide +kernel
  unfold zN zK
  rw [List.getD_eq_getElem?_getD]
  cases e : zSh[q]? with
  | none => decide
  | some k => exact h k (List.mem_of_getElem? e)
def zAt (σ : zS) (q : Nat) (i : Int32) : Int32 := if 0 ≤ i ∧ i < nI (zN q) then σ.1 q i.toNatClampNeg else 0
def zAtJ (σ : zS) (q : Nat) (i : Int32) : Int64 := if 0 ≤ i ∧ i < nI (zN q) then σ.2 q i.toNatClampNeg else 0
def zPt (σ : zS) (q : Nat) (i v : Int32) : zS := zSR σ q (if 0 ≤ i ∧ i < nI (zN q) then upd (σ.1 q) i.toNatClampNeg v else σ.1 q)
def zPtJ (σ : zS) (q : Nat) (i : Int32) (v : Int64) : zS := (σ.1, fun a => if a = q then (if 0 ≤ i ∧ i < nI (zN q) then vp_updL (σ.2 q) i.toNatClampNeg v else σ.2 q) else σ.2 a)
theorem zPt_in {σ : zS} {q : Nat} {i v : Int32} (h : 0 ≤ i ∧ i < nI (zN q)) : zPt σ q i v = zSI σ q i.toNatClampNeg v := by
  unfold zPt zSR zSI
  rw [if_pos h]
  refine Prod.ext (funext fun a => ?_) rfl
  by_cases e : a = q
  · subst e; simp
  · simp [e]
theorem zPt_out {σ : zS} {q : Nat} {i v : Int32} (h : ¬ (0 ≤ i ∧ i < nI (zN q))) : zPt σ q i v = σ := by
  unfold zPt zSR
  rw [if_neg h]
  refine Prod.ext (funext fun a => ?_) rfl
  by_cases e : a = q
  · subst e; simp
  · simp [e]
theorem zPtJ_in {σ : zS} {q : Nat} {i : Int32} {v : Int64} (h : 0 ≤ i ∧ i < nI (zN q)) : zPtJ σ q i v = zSJ σ q i.toNatClampNeg v := by
  unfold zPtJ zSJ
  rw [if_pos h]
  refine Prod.ext rfl (funext fun a => ?_)
  by_cases e : a = q
  · subst e; simp
  · simp [e]
theorem zPtJ_out {σ : zS} {q : Nat} {i : Int32} {v : Int64} (h : ¬ (0 ≤ i ∧ i < nI (zN q))) : zPtJ σ q i v = σ := by
  unfold zPtJ
  rw [if_neg h]
  refine Prod.ext rfl (funext fun a => ?_)
  by_cases e : a = q
  · subst e; simp
  · simp [e]
def zRat (a b : Int64) : Int64 := if b = 0 then 0 else a / b
theorem vin_of {i : Int32} {n : Nat} (h0 : ¬ i < 0) (h1 : i < nI n) (hn : n < 2 ^ 31) : vp_in i n := by
  rw [Int32.lt_iff_toInt_lt, nI_toInt hn] at h1
  rw [Int32.lt_iff_toInt_lt, Int32.toInt_zero] at h0
  exact vp_in_iff.mpr ⟨by omega, h1⟩
theorem zN_31 (q : Nat) : zN q < 2 ^ 31 := Nat.lt_trans (zN_lt q) (by decide)
theorem sm_at {d q : Nat} {i : Int32} {σ : zS} {k : Int32 → zS → Prop} (hq : zIsI q = true) (h : k (zAt σ q i) σ) : zCall (d + 1) nX11_at [.ref q, .int i] σ (zPI k) := by
  refine ze_X11_at q i σ (fun X hX => zr_X11_at_0 hX q i σ ⟨fun h1 => ?_, fun h1 => ?_⟩)
  · have e : zAt σ q i = 0 := if_neg (fun z => Int32.not_lt.mpr z.1 h1)
    rw [e] at h
    exact ⟨_, rfl, h⟩
  · unfold zLe
    rw [hq]
    refine ⟨fun h2 => ?_, fun h2 => ?_⟩
    · unfold zIl
      rw [hq]
      have e : zAt σ q i = σ.1 q i.toNatClampNeg := if_pos ⟨Int32.not_lt.mp h1, h2⟩
      rw [e] at h
      exact ⟨vin_of h1 h2 (zN_31 q), _, rfl, h⟩
    · have e : zAt σ q i = 0 := if_neg (fun z => h2 z.2)
      rw [e] at h
      exact ⟨_, rfl, h⟩
theorem sm_put {d q : Nat} {i v : Int32} {σ : zS} {k : zS → Prop} (hq : zIsI q = true) (h : k (zPt σ q i v)) : zCall (d + 1) nX11_put [.ref q, .int i, .int v] σ (zPV k) := by
  refine ze_X11_put q i v σ (fun X hX => zr_X11_put_0 hX q i v σ ⟨fun h1 => ?_, fun h1 => ?_⟩)
  · have e : zPt σ q i v = σ := zPt_out (fun z => Int32.not_lt.mpr z.1 h1)
    rw [e] at h
    exact ⟨rfl, h⟩
  · unfold zLe
    rw [hq]
    refine ⟨fun h2 => ?_, fun h2 => ?_⟩
    · have e : zPt σ q i v = zSI σ q i.toNatClampNeg v := zPt_in ⟨Int32.not_lt.mp h1, h2⟩
      rw [e] at h
      exact ⟨vin_of h1 h2 (zN_31 q), rfl, h⟩
    · have e : zPt σ q i v = σ := zPt_out (fun z => h2 z.2)
      rw [e] at h
      exact ⟨rfl, h⟩
theorem sm_ratio {d : Nat} {a b : Int64} {σ : zS} {k : Int64 → zS → Prop} (h : k (zRat a b) σ) : zCall (d + 1) nX11_ratio [.long a, .long b] σ (zPJ k) := by
  refine ze_X11_ratio a b σ (fun X hX => zr_X11_ratio_0 hX a b σ ⟨fun h1 => ?_, fun h1 => ?_⟩)
  · have e : zRat a b = 0 := if_pos ((lg_cmp_eq b 0).mp h1)
    rw [e] at h
    exact ⟨_, rfl, h⟩
  · have h2 : ¬ b = 0 := fun z => h1 ((lg_cmp_eq b 0).mpr z)
    have e : zRat a b = a / b := if_neg h2
    rw [e] at h
    exact ⟨h2, _, rfl, h⟩
theorem sm_within {d : Nat} {x a b : Int32} {σ : zS} {k : Int32 → zS → Prop} (h1 : a ≤ x ∧ x ≤ b → k 1 σ) (h0 : ¬ (a ≤ x ∧ x ≤ b) → k 0 σ) : zCall (d + 1) nX11_within [.int x, .int a, .int b] σ (zPI k) :=
  ze_X11_within x a b σ (fun X hX => zr_X11_within_0 hX x a b σ ⟨fun g => ⟨_, rfl, h0 (fun z => Int32.not_lt.mpr z.1 g)⟩, fun g => ⟨fun g2 => ⟨_, rfl, h1 ⟨Int32.not_lt.mp g, g2⟩⟩, fun g2 => ⟨_, rfl, h0 (fun z => g2 z.2)⟩⟩⟩)
def zLc (v a b : Int32) : Int32 := if a < (if v < b then v else b) then (if v < b then v else b) else a
theorem sm_limit {d : Nat} {v a b : Int32} {σ : zS} {k : Int32 → zS → Prop} (h : k (zLc v a b) σ) : zCall (d + 1) nX11_limit [.int v, .int a, .int b] σ (zPI k) :=
  ze_X11_limit v a b σ (fun X hX => zr_X11_limit_0 hX v a b σ ⟨_, rfl, h⟩)
def cWt (σ : zS) (f : Int32) : Int32 := zAt σ 5 (zAt σ 18 f)
theorem sm_weightOf {d : Nat} {f : Int32} {σ : zS} {k : Int32 → zS → Prop} (h : k (cWt σ f) σ) : zCall (d + 2) nX6_weightOf [.ref 24, .int f] σ (zPI k) :=
  ze_X6_weightOf f σ (fun X hX => zr_X6_weightOf_0 hX f σ (sm_at rfl (sm_at rfl ⟨_, rfl, h⟩)))
def cBits (σ : zS) (f q : Int32) : Int32 := 40 + Int64.toInt32 (zRat (Int32.toInt64 (zAt σ 21 f * 200)) (Int32.toInt64 (zAt σ 25 q)))
theorem sm_bitsOf {d : Nat} {f q : Int32} {σ : zS} {k : Int32 → zS → Prop} (h : k (cBits σ f q) σ) : zCall (d + 2) nX6_bitsOf [.ref 24, .int f, .int q] σ (zPI k) :=
  ze_X6_bitsOf f q σ (fun X hX => zr_X6_bitsOf_0 hX f q σ (sm_at rfl (sm_at rfl (sm_ratio ⟨_, rfl, h⟩))))
def cLoss (σ : zS) (f q : Int32) : Int32 := (((cWt σ f * (3 - zAt σ 17 f)) * zAt σ 25 q) * zAt σ 25 q) / 16
theorem sm_lossOf {d : Nat} {f q : Int32} {σ : zS} {k : Int32 → zS → Prop} (h : k (cLoss σ f q) σ) : zCall (d + 3) nX6_lossOf [.ref 24, .int f, .int q] σ (zPI k) :=
  ze_X6_lossOf f q σ (fun X hX => zr_X6_lossOf_0 hX f q σ (sm_at rfl (sm_at rfl (sm_weightOf ⟨by decide, _, rfl, h⟩))))
def cOff (σ : zS) (f : Int32) : Int32 := if zAt σ 17 f = 0 then -3 else if zAt σ 17 f = 1 then 0 else 2
theorem sm_offsetOf {d : Nat} {f : Int32} {σ : zS} {k : Int32 → zS → Prop} (h : k (cOff σ f) σ) : zCall (d + 2) nX4_offsetOf [.ref 32, .int f] σ (zPI k) := by
  refine ze_X4_offsetOf f σ (fun X hX => zr_X4_offsetOf_0 hX f σ (sm_at rfl ⟨fun g => ?_, fun g => ⟨fun g2 => ?_, fun g2 => ?_⟩⟩))
  · rw [show cOff σ f = -3 from if_pos g] at h
    exact ⟨_, rfl, h⟩
  · rw [show cOff σ f = 0 from by unfold cOff; rw [if_neg g, if_pos g2]] at h
    exact ⟨_, rfl, h⟩
  · rw [show cOff σ f = 2 from by unfold cOff; rw [if_neg g, if_neg g2]] at h
    exact ⟨_, rfl, h⟩
def cWk (ty tx mo : Int32) : Int32 := if ty = 0 then 4 * tx else if ty = 1 then tx + 2 * mo else tx / 2 + mo
theorem sm_workOf {d : Nat} {ty tx mo : Int32} {σ : zS} {k : Int32 → zS → Prop} (h : k (cWk ty tx mo) σ) : zCall (d + 1) nX3_workOf [.int ty, .int tx, .int mo] σ (zPI k) := by
  refine ze_X3_workOf ty tx mo σ (fun X hX => zr_X3_workOf_0 hX ty tx mo σ ⟨fun g => ?_, fun g => ⟨fun g2 => ?_, fun g2 => ?_⟩⟩)
  · rw [show cWk ty tx mo = 4 * tx from if_pos g] at h
    exact ⟨_, rfl, h⟩
  · rw [show cWk ty tx mo = tx + 2 * mo from by unfold cWk; rw [if_neg g, if_pos g2]] at h
    exact ⟨_, rfl, h⟩
  · rw [show cWk ty tx mo = tx / 2 + mo from by unfold cWk; rw [if_neg g, if_neg g2]] at h
    exact ⟨by decide, _, rfl, h⟩
theorem sm_isMultiple {d : Nat} {a b : Int32} {σ : zS} {k : Int32 → zS → Prop} (h1 : (¬ b = 0 ∧ a - a / b * b = 0) → k 1 σ) (h0 : ¬ (¬ b = 0 ∧ a - a / b * b = 0) → k 0 σ) : zCall (d + 1) nX3_isMultiple [.int a, .int b] σ (zPI k) :=
  ze_X3_isMultiple a b σ (fun X hX => zr_X3_isMultiple_0 hX a b σ ⟨fun g => ⟨_, rfl, h0 (fun z => z.1 g)⟩, fun g => ⟨g, fun g2 => ⟨_, rfl, h1 ⟨g, g2⟩⟩, fun g2 => ⟨_, rfl, h0 (fun z => g2 z.2)⟩⟩⟩)
def cCut (σ : zS) (i : Int32) : Prop := 0 < i ∧ 3 * zAt σ 2 i < 2 * zAt σ 3 i
theorem sm_isCut {d : Nat} {i : Int32} {σ : zS} {k : Int32 → zS → Prop} (h1 : cCut σ i → k 1 σ) (h0 : ¬ cCut σ i → k 0 σ) : zCall (d + 2) nX0_isCut [.ref 1, .int i] σ (zPI k) :=
  ze_X0_isCut i σ (fun X hX => zr_X0_isCut_0 hX i σ ⟨fun g => ⟨_, rfl, h0 (fun z => Int32.not_lt.mpr g z.1)⟩, fun g => sm_at rfl (sm_at rfl ⟨fun g2 => ⟨_, rfl, h0 (fun z => Int32.not_lt.mpr g2 z.2)⟩, fun g2 => ⟨_, rfl, h1 ⟨Int32.not_le.mp g, Int32.not_le.mp g2⟩⟩⟩)⟩)
theorem sm_isFrame {d : Nat} {i : Int32} {σ : zS} {k : Int32 → zS → Prop} (h1 : 0 ≤ i ∧ i ≤ σ.1 1 0 - 1 → k 1 σ) (h0 : ¬ (0 ≤ i ∧ i ≤ σ.1 1 0 - 1) → k 0 σ) : zCall (d + 2) nX11_isFrame [.ref 0, .int i] σ (zPI k) :=
  ze_X11_isFrame i σ (fun X hX => zr_X11_isFrame_0 hX i σ (sm_within (fun g => ⟨_, rfl, h1 g⟩) (fun g => ⟨_, rfl, h0 g⟩)))
theorem sm_isQuantizer {d : Nat} {i : Int32} {σ : zS} {k : Int32 → zS → Prop} (h1 : 0 ≤ i ∧ i ≤ 51 → k 1 σ) (h0 : ¬ (0 ≤ i ∧ i ≤ 51) → k 0 σ) : zCall (d + 2) nX11_isQuantizer [.int i] σ (zPI k) :=
  ze_X11_isQuantizer i σ (fun X hX => zr_X11_isQuantizer_0 hX i σ (sm_within (fun g => ⟨_, rfl, h1 g⟩) (fun g => ⟨_, rfl, h0 g⟩)))
theorem zCallS_mono {sc : Option (Nat × (Nat → Int32))} {d mi : Nat} {av : List Value} {σ : zS} {po po' : zPo} (hp : ∀ r σ, po r σ → po' r σ) (h : zCallS sc d mi av σ po) : zCallS sc d mi av σ po' := by
  cases d with
  | zero => exact False.elim h
  | succ d =>
    obtain ⟨h1, h2⟩ := zG_inv h
    show zG (Nat.ble (zAr av).length (zMl mi)) _
    rw [h1]
    intro X hX
    exact h2 X ⟨fun Z pc o ls st σ hZ hk he => hX.1 Z pc o ls st σ hZ hk (zEx_post hp he), hX.2⟩
theorem zs_I {sc : Option (Nat × (Nat → Int32))} {d mi : Nat} {av : List Value} {σ : zS} {k k' : Int32 → zS → Prop} (hp : ∀ x σ, k x σ → k' x σ) (h : zCallS sc d mi av σ (zPI k)) : zCallS sc d mi av σ (zPI k') := zCallS_mono (fun r σ ⟨x, h1, h2⟩ => ⟨x, h1, hp x σ h2⟩) h
theorem zs_J {sc : Option (Nat × (Nat → Int32))} {d mi : Nat} {av : List Value} {σ : zS} {k k' : Int64 → zS → Prop} (hp : ∀ x σ, k x σ → k' x σ) (h : zCallS sc d mi av σ (zPJ k)) : zCallS sc d mi av σ (zPJ k') := zCallS_mono (fun r σ ⟨x, h1, h2⟩ => ⟨x, h1, hp x σ h2⟩) h
theorem zs_V {sc : Option (Nat × (Nat → Int32))} {d mi : Nat} {av : List Value} {σ : zS} {k k' : zS → Prop} (hp : ∀ σ, k σ → k' σ) (h : zCallS sc d mi av σ (zPV k)) : zCallS sc d mi av σ (zPV k') := zCallS_mono (fun r σ ⟨h1, h2⟩ => ⟨h1, hp σ h2⟩) h
