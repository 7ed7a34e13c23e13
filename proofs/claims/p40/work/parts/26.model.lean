/-! the abstract state; steps, bits and losses -/
/-- frames, textures, motions, the eight settings, weights, zones (first, last, offset), is there a plan, its quantizers -/
abbrev mA : Type := Nat × (Nat → Nat) × (Nat → Nat) × (Nat → Nat) × (Nat → Nat) × (Nat → Nat) × (Nat → Nat) × (Nat → Int) × Bool × (Nat → Nat)
def an (a : mA) : Nat := a.1
def atx (a : mA) : Nat → Nat := a.2.1
def amo (a : mA) : Nat → Nat := a.2.2.1
def aS (a : mA) : Nat → Nat := a.2.2.2.1
def aw (a : mA) : Nat → Nat := a.2.2.2.2.1
def azf (a : mA) : Nat → Nat := a.2.2.2.2.2.1
def azl (a : mA) : Nat → Nat := a.2.2.2.2.2.2.1
def azo (a : mA) : Nat → Int := a.2.2.2.2.2.2.2.1
def amd (a : mA) : Bool := a.2.2.2.2.2.2.2.2.1
def aq (a : mA) : Nat → Nat := a.2.2.2.2.2.2.2.2.2
/-- the bounds of the document -/
def aB (a : mA) : Prop := mB (an a) (atx a) (amo a) ∧ (1 ≤ aS a 0 ∧ aS a 0 ≤ 60) ∧ aS a 1 ≤ 3 ∧ (aS a 2 ≤ aS a 3 ∧ aS a 3 ≤ 51) ∧ (100 ≤ aS a 4 ∧ aS a 4 ≤ 1000000) ∧ aS a 5 ≤ 100 ∧ aS a 6 ≤ 100000 ∧ aS a 7 ≤ 6 ∧ (∀ j, j < 60 → 1 ≤ aw a j ∧ aw a j ≤ 8) ∧ (∀ j, j < aS a 7 → azf a j ≤ azl a j ∧ azl a j ≤ 59 ∧ -10 ≤ azo a j ∧ azo a j ≤ 10) ∧ (∀ i, i < 60 → aq a i ≤ 51) ∧ (amd a = true → 0 < an a)
/-- the component's clip, settings and plan, at these roles, are those of a -/
def kAt (σ : zS) (c s p : Nat) (a : mA) : Prop :=
  σ.1 c 0 = iI (an a) ∧ (∀ i, i < an a → σ.1 (c + 1) i = iI (atx a i)) ∧ (∀ i, i < an a → σ.1 (c + 2) i = iI (amo a i)) ∧ (∀ j, j < 8 → σ.1 s j = iI (aS a j)) ∧ (∀ j, j < 60 → σ.1 (s + 1) j = iI (aw a j)) ∧ (∀ j, j < aS a 7 → σ.1 (s + 2) j = iI (azf a j)) ∧ (∀ j, j < aS a 7 → σ.1 (s + 3) j = iI (azl a j)) ∧ (∀ j, j < aS a 7 → σ.1 (s + 4) j = iI (azo a j)) ∧ σ.1 p 0 = (if amd a = true then 1 else 0) ∧ (amd a = true → ∀ i, i < an a → σ.1 (p + 1) i = iI (aq a i))
theorem kAt.kC {σ : zS} {a : mA} (h : kAt σ 1 4 9 a) : kC σ (an a) (atx a) (amo a) := ⟨h.1, h.2.1, h.2.2.1⟩
def mCt (a : mA) : Nat → Bool := mCut (atx a) (amo a)
def mT (a : mA) : Nat → Nat := mTy (an a) (aS a 0) (aS a 1) (mCt a)
def mK (a : mA) : Nat → Nat := mWk (mT a) (atx a) (amo a)
def mO (a : mA) : Nat → Nat := mOr (mT a) (an a)
def mP (a : mA) : Nat → Nat := mPl (mT a)
def kLa (σ : zS) (a : mA) : Prop := kL σ (an a) (aS a 0) (aS a 1) (atx a) (amo a)
-- steps
def mB6 (r : Nat) : Nat := if r = 1 then 11 else if r = 2 then 13 else if r = 3 then 14 else if r = 4 then 16 else if r = 5 then 18 else 10
def mStp (q : Nat) : Nat := mB6 (q % 6) * 2 ^ (q / 6)
theorem mStp_b : ∀ q, q < 52 → 10 ≤ mStp q ∧ mStp q ≤ 3584 := by decide +kernel
theorem mStp_mono : ∀ q, q < 52 → ∀ p, p < q → mStp p ≤ mStp q := by decide +kernel
/-- the component's table of steps -/
def kSt (σ : zS) : Prop := ∀ q, q < 52 → σ.1 25 q = iI (mStp q)
def mBi (w q : Nat) : Nat := 40 + w * 200 / mStp q
def mLo (w t q : Nat) : Nat := w * (3 - t) * mStp q * mStp q / 16
theorem mBi_le {w q : Nat} (hw : w ≤ 16000) (hq : q < 52) : 40 ≤ mBi w q ∧ mBi w q ≤ 320040 := by
  obtain ⟨h1, h2⟩ := mStp_b q hq
  unfold mBi
  have h3 : w * 200 / mStp q ≤ w * 200 / 10 := Nat.div_le_div_left h1 (by omega)
  generalize w * 200 / mStp q = x at h3 ⊢
  omega
theorem mBi_mono {w q p : Nat} (hq : q < 52) (hp : p ≤ q) : mBi w q ≤ mBi w p := by
  by_cases e : p = q
  · rw [e]; exact Nat.le_refl _
  · unfold mBi
    have h1 := (mStp_b p (by omega)).1
    have h2 := mStp_mono q hq p (by omega)
    have : w * 200 / mStp q ≤ w * 200 / mStp p := Nat.div_le_div_left h2 (by omega)
    omega
theorem mLo_b {w t q : Nat} (hw : w ≤ 8) (ht : t ≤ 2) (hq : q < 52) : w * (3 - t) ≤ 24 ∧ w * (3 - t) * mStp q ≤ 86016 ∧ w * (3 - t) * mStp q * mStp q ≤ 308281344 := by
  obtain ⟨h1, h2⟩ := mStp_b q hq
  have a1 : w * (3 - t) ≤ 8 * 3 := Nat.mul_le_mul hw (by omega)
  have a2 : w * (3 - t) * mStp q ≤ 24 * 3584 := Nat.mul_le_mul a1 h2
  have a3 : w * (3 - t) * mStp q * mStp q ≤ 86016 * 3584 := Nat.mul_le_mul a2 h2
  exact ⟨a1, a2, a3⟩
theorem mLo_le {w t q : Nat} (hw : w ≤ 8) (ht : t ≤ 2) (hq : q < 52) : mLo w t q ≤ 19267584 := by
  have := (mLo_b hw ht hq).2.2
  unfold mLo
  omega
theorem mLo_mono {w t q p : Nat} (hq : q < 52) (hp : p ≤ q) : mLo w t p ≤ mLo w t q := by
  by_cases e : p = q
  · rw [e]; exact Nat.le_refl _
  · have h2 := mStp_mono q hq p (by omega)
    unfold mLo
    exact Nat.div_le_div_right (Nat.mul_le_mul (Nat.mul_le_mul_left _ h2) h2)
theorem lI_nat (n : Nat) : lI (n : Int) = lI ((n : Nat) : Int) := rfl
theorem cBits_iI {σ : zS} {f q w : Nat} (hf : f < 60) (hq : q < 52) (hw : w ≤ 16000) (h1 : σ.1 21 f = iI w) (h2 : kSt σ) : cBits σ (iI f) (iI q) = iI (mBi w q) := by
  obtain ⟨b1, b2⟩ := mStp_b q hq
  unfold cBits
  rw [zAt_k (show f < zN 21 from hf), zAt_k (show q < zN 25 from hq), h1, h2 q hq, show (200 : Int32) = iI 200 from rfl, iI_mul, iI_l (by omega) (by omega), iI_l (by omega) (by omega), zRat_lI (by omega) (by omega) (by omega) (by omega), lI_i, show (40 : Int32) = iI 40 from rfl, iI_add, Int.tdiv_eq_ediv_of_nonneg (by omega)]
  unfold mBi
  refine congrArg iI ?_
  rw [Int.natCast_add, Int.natCast_ediv, Int.natCast_mul]
  rfl
theorem cWt_iI {σ : zS} {f s w : Nat} (hf : f < 60) (hs : s < 60) (h1 : σ.1 18 f = iI s) (h2 : σ.1 5 s = iI w) : cWt σ (iI f) = iI w := by
  unfold cWt
  rw [zAt_k (show f < zN 18 from hf), h1, zAt_k (show s < zN 5 from hs), h2]
theorem loss_iI {w t q : Nat} (hw : w ≤ 8) (ht : t ≤ 2) (hq : q < 52) : (((iI w * (3 - iI t)) * iI (mStp q)) * iI (mStp q)) / 16 = iI (mLo w t q) := by
  obtain ⟨a1, a2, a3⟩ := mLo_b hw ht hq
  have e1 : (3 : Int32) - iI t = iI ((3 - t : Nat) : Int) := by
    rw [show (3 : Int32) = iI 3 from rfl, iI_sub]
    exact congrArg iI (by omega)
  have e2 : iI (w : Int) * iI ((3 - t : Nat) : Int) * iI (mStp q : Int) * iI (mStp q : Int) = iI ((w * (3 - t) * mStp q * mStp q : Nat) : Int) := by
    rw [iI_mul, iI_mul, iI_mul, Int.natCast_mul, Int.natCast_mul, Int.natCast_mul]
  rw [e1, e2, show (16 : Int32) = iI 16 from rfl, iI_divN (by omega) (by omega) (by omega) (by omega)]
  unfold mLo
  refine congrArg iI ?_
  rw [Int.natCast_ediv]
  rfl
theorem cLoss_iI {σ : zS} {f s w t q : Nat} (hf : f < 60) (hs : s < 60) (hw : w ≤ 8) (ht : t ≤ 2) (hq : q < 52) (h1 : σ.1 18 f = iI s) (h2 : σ.1 5 s = iI w) (h3 : σ.1 17 f = iI t) (h4 : kSt σ) : cLoss σ (iI f) (iI q) = iI (mLo w t q) := by
  unfold cLoss
  rw [cWt_iI hf hs h1 h2, zAt_k (show f < zN 17 from hf), zAt_k (show q < zN 25 from hq), h3, h4 q hq]
  exact loss_iI hw ht hq
-- the reference's
