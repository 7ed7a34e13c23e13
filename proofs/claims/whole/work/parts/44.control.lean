/-! control -/
def mCa (a : mA) (g be : Nat) : Int := ((((aS a 4 / 2 : Nat) : Int) - be) * g).tdiv (aS a 4)
def mCq (a : mA) (b g : Nat) (Q : Nat → Nat) (p : Nat) : Nat := mSn a (mO a p) ((b : Int) + mCa a g (aBe a Q p) + mOf (mT a (mO a p)))
def cQ (a : mA) (b g : Nat) : Nat → (Nat → Nat)
  | 0 => aq a
  | p + 1 => nU (cQ a b g p) (mO a p) (mCq a b g (cQ a b g p) p)
theorem mCa_b {a : mA} (hb : aB a) {g be : Nat} (hg : g ≤ 200) (hbe : be ≤ aS a 4) : (-200000000 ≤ ((((aS a 4 / 2 : Nat) : Int) - be) * g) ∧ ((((aS a 4 / 2 : Nat) : Int) - be) * g) ≤ 200000000) ∧ -200 ≤ mCa a g be ∧ mCa a g be ≤ 200 := by
  obtain ⟨s1, s2⟩ := hb.2.2.2.2.1
  unfold mCa
  by_cases c : be ≤ aS a 4 / 2
  · obtain ⟨e, he⟩ : ∃ e, aS a 4 / 2 = be + e := ⟨aS a 4 / 2 - be, by omega⟩
    have h1 : (((aS a 4 / 2 : Nat) : Int) - be) * g = ((e * g : Nat) : Int) := by
      rw [he, Int.natCast_mul]
      congr 1
      omega
    have h2 : e * g ≤ e * 200 := Nat.mul_le_mul_left _ hg
    have h3 : e * g / aS a 4 ≤ 200 := Nat.div_le_of_le_mul (by omega)
    rw [h1, Int.tdiv_eq_ediv_of_nonneg (by omega), ← Int.natCast_ediv]
    generalize e * g / aS a 4 = x at h3 ⊢
    omega
  · obtain ⟨e, he⟩ : ∃ e, be = aS a 4 / 2 + e := ⟨be - aS a 4 / 2, by omega⟩
    have h1 : (((aS a 4 / 2 : Nat) : Int) - be) * g = -((e * g : Nat) : Int) := by
      rw [Int.natCast_mul, ← Int.neg_mul]
      congr 1
      omega
    have h2 : e * g ≤ e * 200 := Nat.mul_le_mul_left _ hg
    have h3 : e * g / aS a 4 ≤ 200 := Nat.div_le_of_le_mul (by
      have : aS a 4 * 200 = 200 * aS a 4 := Nat.mul_comm _ _
      omega)
    rw [h1, Int.neg_tdiv, Int.tdiv_eq_ediv_of_nonneg (by omega), ← Int.natCast_ediv]
    generalize e * g / aS a 4 = x at h3 ⊢
    omega
theorem cQ_b {a : mA} (hb : aB a) (b g : Nat) : ∀ i, ∀ j, j < 60 → cQ a b g i j ≤ 51
  | 0, j, hj => hb.q hj
  | i + 1, j, hj => by
    show nU (cQ a b g i) (mO a i) (mCq a b g (cQ a b g i) i) j ≤ 51
    by_cases e : j = mO a i
    · rw [e, nU_s]; exact mSn_b hb _ _
    · rw [nU_n e]; exact cQ_b hb b g i j hj
theorem mO_ne {a : mA} {p i : Nat} (hp : p < i) (hi : i < an a) : mO a p ≠ mO a i := fun e => by
  have := mOr_inj (ty := mT a) (n := an a) (fun z => mTy_last z) (show p < an a by omega) hi e
  omega
theorem cQ_B {a : mA} {b g p i : Nat} (hp : p < i) (hi : i < an a) : mBp a (cQ a b g (i + 1)) p = mBp a (cQ a b g i) p := by
  unfold mBp
  show mBi _ (nU (cQ a b g i) (mO a i) (mCq a b g (cQ a b g i) i) (mO a p)) = _
  rw [nU_n (mO_ne hp hi)]
theorem cQ_Bi {a : mA} {b g i : Nat} : mBp a (cQ a b g (i + 1)) i = mBi (mK a (mO a i)) (mCq a b g (cQ a b g i) i) := by
  unfold mBp
  show mBi _ (nU (cQ a b g i) (mO a i) (mCq a b g (cQ a b g i) i) (mO a i)) = _
  rw [nU_s]
theorem cQ_fi {a : mA} {b g i : Nat} (hi : i < an a) : bFi (aS a 4) (aS a 5) (aS a 6) (mBp a (cQ a b g (i + 1))) i = bFi (aS a 4) (aS a 5) (aS a 6) (mBp a (cQ a b g i)) i := bFi_cong (fun p hp => cQ_B hp hi)
theorem cQ_bU {a : mA} {b g i : Nat} (hi : i < an a) : bU (aS a 4) (aS a 5) (aS a 6) (mBp a (cQ a b g (i + 1))) (i + 1) = bU (aS a 4) (aS a 5) (aS a 6) (mBp a (cQ a b g i)) i + if min (aS a 4) (bFi (aS a 4) (aS a 5) (aS a 6) (mBp a (cQ a b g i)) i) < mBi (mK a (mO a i)) (mCq a b g (cQ a b g i) i) then 1 else 0 := by
  rw [bU_s, cQ_fi hi, cQ_Bi]
  congr 1
  exact bU_cong (fun p hp => cQ_B hp hi)
theorem ctA_iI {a : mA} (hb : aB a) {g be : Nat} (hg : g ≤ 200) (hbe : be ≤ aS a 4) : Int64.toInt32 (zRat (Int32.toInt64 ((iI (aS a 4 : Nat) / 2 - iI (be : Nat)) * iI (g : Nat))) (Int32.toInt64 (iI (aS a 4 : Nat)))) = iI (mCa a g be) ∧ ((iI (aS a 4 : Nat) / 2 - iI (be : Nat)) * iI (g : Nat)) / iI (aS a 4 : Nat) = iI (mCa a g be) := by
  obtain ⟨⟨b1, b2⟩, b3, b4⟩ := mCa_b hb hg hbe
  obtain ⟨s1, s2⟩ := hb.2.2.2.2.1
  have e : (iI (aS a 4 : Nat) / 2 - iI (be : Nat)) * iI (g : Nat) = iI ((((aS a 4 / 2 : Nat) : Int) - be) * g) := by
    rw [show (2 : Int32) = iI 2 from rfl, iI_divN (by omega) (by omega) (by omega) (by omega), iI_sub, iI_mul]
    rfl
  rw [e]
  refine ⟨?_, ?_⟩
  · rw [iI_l (by omega) (by omega), iI_l (by omega) (by omega), zRat_lI (by omega) (by omega) (by omega) (by omega), lI_i]
    rfl
  · rw [iI_div (by omega) (by omega) (by omega) (by omega)]
    rfl
def kCl (a : mA) (b g : Nat) (σ : zS) (i : Nat) (τ : zS) : Prop := zFr [10, 26, 28, 29, 30, 31] σ τ ∧ τ.1 26 7 = iI (aS a 4) ∧ τ.1 26 8 = iI (aS a 6) ∧ τ.1 26 9 = iI (bCo (aS a 4) (aS a 5) (aS a 6) (mBp a (cQ a b g i)) i) ∧ τ.1 26 0 = iI (bU (aS a 4) (aS a 5) (aS a 6) (mBp a (cQ a b g i)) i) ∧ ∀ p, p < i → τ.1 10 (mO a p) = iI (cQ a b g i (mO a p))
theorem kcl_loop {d b g : Nat} {v : mV} {σ : zS} {post : zPo} {X : zX} (hX : zClosed none (zCall (d + 2)) post nX4_planControlled X) (hv : vB v) (hC : CI σ v) (hb51 : b ≤ 51) (hg : g ≤ 200) (h : ∀ τ, kCl (va v) b g σ (an (va v)) τ → post none τ) : ∀ (m i : Nat) (τ : zS), i + m = an (va v) → kCl (va v) b g σ i τ → X 35 [some (.ref 32), some (.ref 10), some (.int (iI b)), some (.int (iI g)), some (.int (iI (aS (va v) 4))), some (.int (iI i)), none, none, none, none] [] τ
  | 0, i, τ, hm, hk => by
    have e : i = an (va v) := by omega
    subst e
    refine zq_X4_planControlled_35 hX 10 _ _ _ _ rfl τ (zIf_f ?_ (h τ hk))
    rw [hk.1.1 16 (by decide), hC.2.2.1.1]
    exact Int32.lt_irrefl
  | m + 1, i, τ, hm, hk => by
    have h60 := hv.1.n60
    have hin : i < an (va v) := by omega
    have ho := mO_lt (a := va v) hin
    obtain ⟨f, g7, g8, g9, g0, g10⟩ := hk
    obtain ⟨s1, s2⟩ := hv.1.2.2.2.2.1
    have s5 := hv.1.2.2.2.2.2.1
    have s6 := hv.1.2.2.2.2.2.2.1
    have hfi := bFi_le (sz := aS (va v) 4) (rt := aS (va v) 6) (mBp (va v) (cQ (va v) b g i)) s5 i
    have e23 : zAt τ 23 (iI i) = iI (mO (va v) i) := by rw [zAt_k (show i < zN 23 by show i < 60; omega), f.1 23 (by decide)]; exact hC.2.2.1.2.2.2.2.2.2.2.2.2 i hin
    have hbe : aBe (va v) (cQ (va v) b g i) i ≤ aS (va v) 4 := bBe_le _ _ _ _ _
    obtain ⟨_, cb1, cb2⟩ := mCa_b hv.1 hg hbe
    have of := mOf_b (mT (va v) (mO (va v) i))
    refine zq_X4_planControlled_35 hX 10 _ _ _ _ rfl τ (zIf_t ?_ ?_)
    · rw [f.1 16 (by decide), hC.2.2.1.1, iI_lt (by omega) (by omega) (by omega) (by omega)]; omega
    · refine sp_fillBefore (d := d) (fl := bFi (aS (va v) 4) (aS (va v) 5) (aS (va v) 6) (mBp (va v) (cQ (va v) b g i)) i) (sz := aS (va v) 4) (by omega) (by omega) (by omega) g7 (fun z => ?_) (fun z => ?_) ?_
      · rw [g9, z]; rfl
      · rw [g9, g8, iI_add]
        cases i with
        | zero => exact absurd rfl z
        | succ j => exact congrArg iI (by rw [bFi_s]; simp [bCo])
      · have ebe : min (aS (va v) 4) (bFi (aS (va v) 4) (aS (va v) 5) (aS (va v) 6) (mBp (va v) (cQ (va v) b g i)) i) = aBe (va v) (cQ (va v) b g i) i := rfl
        have f1 : zFr [10, 26, 28, 29, 30, 31] σ (zSI (zSI (zSI τ 26 9 (iI ((min (aS (va v) 4) (bFi (aS (va v) 4) (aS (va v) 5) (aS (va v) 6) (mBp (va v) (cQ (va v) b g i)) i) : Nat) : Int))) 28 i (iI ((min (aS (va v) 4) (bFi (aS (va v) 4) (aS (va v) 5) (aS (va v) 6) (mBp (va v) (cQ (va v) b g i)) i) : Nat) : Int))) 31 i (iI ((bFi (aS (va v) 4) (aS (va v) 5) (aS (va v) 6) (mBp (va v) (cQ (va v) b g i)) i - min (aS (va v) 4) (bFi (aS (va v) 4) (aS (va v) 5) (aS (va v) 6) (mBp (va v) (cQ (va v) b g i)) i) : Nat) : Int))) := (((f.si (by decide) _ _).si (by decide) _ _).si (by decide) _ _)
        have k7 : (zSI (zSI (zSI τ 26 9 (iI ((min (aS (va v) 4) (bFi (aS (va v) 4) (aS (va v) 5) (aS (va v) 6) (mBp (va v) (cQ (va v) b g i)) i) : Nat) : Int))) 28 i (iI ((min (aS (va v) 4) (bFi (aS (va v) 4) (aS (va v) 5) (aS (va v) 6) (mBp (va v) (cQ (va v) b g i)) i) : Nat) : Int))) 31 i (iI ((bFi (aS (va v) 4) (aS (va v) 5) (aS (va v) 6) (mBp (va v) (cQ (va v) b g i)) i - min (aS (va v) 4) (bFi (aS (va v) 4) (aS (va v) 5) (aS (va v) 6) (mBp (va v) (cQ (va v) b g i)) i) : Nat) : Int))).1 26 = upd (τ.1 26) 9 (iI (aBe (va v) (cQ (va v) b g i) i)) := by
          rw [zSI_1 (by decide), zSI_1 (by decide), zSI_s, ebe]
        have k10 : (zSI (zSI (zSI τ 26 9 (iI ((min (aS (va v) 4) (bFi (aS (va v) 4) (aS (va v) 5) (aS (va v) 6) (mBp (va v) (cQ (va v) b g i)) i) : Nat) : Int))) 28 i (iI ((min (aS (va v) 4) (bFi (aS (va v) 4) (aS (va v) 5) (aS (va v) 6) (mBp (va v) (cQ (va v) b g i)) i) : Nat) : Int))) 31 i (iI ((bFi (aS (va v) 4) (aS (va v) 5) (aS (va v) 6) (mBp (va v) (cQ (va v) b g i)) i - min (aS (va v) 4) (bFi (aS (va v) 4) (aS (va v) 5) (aS (va v) 6) (mBp (va v) (cQ (va v) b g i)) i) : Nat) : Int))).1 10 = τ.1 10 := by
          rw [zSI_1 (by decide), zSI_1 (by decide), zSI_1 (by decide)]
        rw [e23]
        generalize zSI (zSI (zSI τ 26 9 (iI ((min (aS (va v) 4) (bFi (aS (va v) 4) (aS (va v) 5) (aS (va v) 6) (mBp (va v) (cQ (va v) b g i)) i) : Nat) : Int))) 28 i (iI ((min (aS (va v) 4) (bFi (aS (va v) 4) (aS (va v) 5) (aS (va v) 6) (mBp (va v) (cQ (va v) b g i)) i) : Nat) : Int))) 31 i (iI ((bFi (aS (va v) 4) (aS (va v) 5) (aS (va v) 6) (mBp (va v) (cQ (va v) b g i)) i - min (aS (va v) 4) (bFi (aS (va v) 4) (aS (va v) 5) (aS (va v) 6) (mBp (va v) (cQ (va v) b g i)) i) : Nat) : Int)) = τ1 at f1 k7 k10 ⊢
        have e1 : cOff τ1 (iI (mO (va v) i)) = iI (mOf (mT (va v) (mO (va v) i))) := by
          have e1 : zAt τ1 17 (iI (mO (va v) i)) = iI (mT (va v) (mO (va v) i)) := by
            rw [zAt_k (show mO (va v) i < zN 17 by show mO (va v) i < 60; omega), f1.1 17 (by decide)]; exact hC.2.2.1.2.2.2.1 _ ho
          unfold cOff
          rw [e1]
          exact off_iI (mTy_lt _ _ _ _ _)
        rw [ebe, (ctA_iI hv.1 hg hbe).1, e1, iI_add, iI_add]
        refine sp_settle0 (d := d) hv.1 (hC.1.of (fun r hr => f1.1 r (by revert r; decide))) (by omega) (by omega) (by omega) ?_
        rw [mSn_e hv.1]
        have eq : mSn (va v) (mO (va v) i) ((b : Int) + mCa (va v) g (aBe (va v) (cQ (va v) b g i) i) + mOf (mT (va v) (mO (va v) i))) = mCq (va v) b g (cQ (va v) b g i) i := rfl
        have qb : mCq (va v) b g (cQ (va v) b g i) i ≤ 51 := mSn_b hv.1 _ _
        rw [eq, zPt_k (show mO (va v) i < zN 10 by show mO (va v) i < 60; omega)]
        have f2 : zFr [10, 26, 28, 29, 30, 31] σ (zSI τ1 10 (mO (va v) i) (iI (mCq (va v) b g (cQ (va v) b g i) i))) := f1.si (by decide) _ _
        have ec : cBits (zSI τ1 10 (mO (va v) i) (iI (mCq (va v) b g (cQ (va v) b g i) i))) (iI (mO (va v) i)) (iI (mCq (va v) b g (cQ (va v) b g i) i)) = iI (mBi (mK (va v) (mO (va v) i)) (mCq (va v) b g (cQ (va v) b g i) i)) := cBits_iI (by omega) (by omega) (mWk_le hv.1.1 ho) (by rw [f2.1 21 (by decide)]; exact hC.2.2.1.2.2.2.2.2.2.2.1 _ ho) (fun q hq => by rw [f2.1 25 (by decide)]; exact hC.2.2.2.1 q hq)
        have bb := (mBi_le (w := mK (va v) (mO (va v) i)) (q := mCq (va v) b g (cQ (va v) b g i) i) (mWk_le hv.1.1 ho) (by omega)).2
        rw [ec]
        have k26 : (zSI τ1 10 (mO (va v) i) (iI (mCq (va v) b g (cQ (va v) b g i) i))).1 26 = upd (τ.1 26) 9 (iI (aBe (va v) (cQ (va v) b g i) i)) := (zSI_1 (by decide)).trans k7
        refine sp_takeOut (d := d) (c := aBe (va v) (cQ (va v) b g i) i) (u := bU (aS (va v) 4) (aS (va v) 5) (aS (va v) 6) (mBp (va v) (cQ (va v) b g i)) i) (by omega) (by omega) (by omega) (by rw [k26]; simp [upd]) (by rw [k26]; simp [upd]; exact g0) (fun υ u1 u2 u3 u4 u5 u6 => ?_)
        rw [iI_s]
        refine kcl_loop hX hv hC hb51 hg h m (i + 1) υ (by omega) ⟨f2.tr u1 (by decide), ?_, ?_, ?_, ?_, fun p hp => ?_⟩
        · rw [u2 7 (by decide) (by decide), k26]; simp [upd]; exact g7
        · rw [u2 8 (by decide) (by decide), k26]; simp [upd]; exact g8
        · rw [u4]
          refine congrArg (fun t : Nat => iI (t : Int)) ?_
          show _ = bAf _ _ _ _ i
          unfold bAf bBe
          rw [cQ_fi hin, cQ_Bi]
          rfl
        · rw [u3, cQ_bU hin]
          rfl
        · rw [u1.1 10 (by decide), zSI_s]
          show upd _ _ _ _ = iI (nU (cQ (va v) b g i) (mO (va v) i) (mCq (va v) b g (cQ (va v) b g i) i) (mO (va v) p) : Nat)
          by_cases e : p = i
          · rw [e, nU_s]; simp [upd]
          · have hne := mO_ne (a := va v) (show p < i by omega) hin
            rw [nU_n hne]
            simp only [upd, if_neg hne, k10]
            exact g10 p (by omega)
theorem sp_planCtl {d b g : Nat} {v : mV} {σ : zS} {k : zS → Prop} (hv : vB v) (hC : CI σ v) (hb51 : b ≤ 51) (hg : g ≤ 200) (h : ∀ τ, zFr [10, 26, 28, 29, 30, 31] σ τ → (∀ j, j < an (va v) → τ.1 10 j = iI (cQ (va v) b g (an (va v)) j)) → k τ) : zCall (d + 3) nX4_planControlled [.ref 32, .ref 10, .int (iI b), .int (iI g)] σ (zPV k) := by
  refine ze_X4_planControlled _ _ _ σ (fun X hX => zq_X4_planControlled_0 hX 10 _ _ rfl σ ?_)
  rw [hC.1.2.2.2.1 4 (by decide), hC.1.2.2.2.1 5 (by decide), hC.1.2.2.2.1 6 (by decide)]
  refine sp_begin (d := d + 1) hv.1.2.2.2.2.1.2 hv.1.2.2.2.2.2.1 ?_
  refine kcl_loop (σ := σ) hX hv hC hb51 hg (fun τ ht => ⟨rfl, h τ ht.1 (fun j hj => ?_)⟩) (an (va v)) 0 _ (by omega) ⟨((((zFr.rf _ σ).si (by decide) _ _).si (by decide) _ _).si (by decide) _ _).si (by decide) _ _, by simp [zSI_at], by simp [zSI_at], by simp [zSI_at]; rfl, by simp [zSI_at]; rfl, fun p hp => absurd hp (Nat.not_lt_zero p)⟩
  have := ht.2.2.2.2.2 (mP (va v) j) (mP_lt hj)
  rw [mO_P hj] at this
  exact this
-- the reference
theorem rPa_r {σ : zS} {p su be lk af c r : Nat} (h : r ∉ [63, 72, 73, 74, 75]) : (rPa σ p su be lk af c).1 r = σ.1 r := by
  simp only [List.mem_cons, List.not_mem_nil, not_or, or_false] at h
  unfold rPa
  rw [zSI_1 (by omega), zSI_1 (by omega), zSI_1 (by omega), zSI_1 (by omega), zSI_1 (by omega)]
theorem rPa_63 {σ : zS} {p su be lk af c j : Nat} (h : j ≠ 14) : (rPa σ p su be lk af c).1 63 j = σ.1 63 j := by
  unfold rPa
  simp [zSI_at, h]
theorem rPa_14 {σ : zS} {p su be lk af c : Nat} : (rPa σ p su be lk af c).1 63 14 = iI c := by
  unfold rPa
  simp [zSI_at]
theorem rPa_72 {σ : zS} {p su be lk af c : Nat} : (rPa σ p su be lk af c).1 72 p = iI be := by
  unfold rPa
  simp [zSI_at]
theorem rPa_73 {σ : zS} {p su be lk af c j : Nat} : (rPa σ p su be lk af c).1 73 j = if j = p then iI af else σ.1 73 j := by
  unfold rPa
  simp [zSI_at]
theorem rPa_fr {σ : zS} {p su be lk af c : Nat} : zFr [63, 72, 73, 74, 75] σ (rPa σ p su be lk af c) := ((((((zFr.rf _ σ).si (by decide) _ _).si (by decide) _ _).si (by decide) _ _).si (by decide) _ _).si (by decide) _ _)
def rCl (a : mA) (b g : Nat) (σ : zS) (i : Nat) (τ : zS) : Prop := zFr [63, 64, 72, 73, 74, 75] σ τ ∧ (∀ j, j ≠ 14 → τ.1 63 j = σ.1 63 j) ∧ rAt τ 64 0 (aPl a (amd a) (cQ a b g i)) ∧ τ.1 63 14 = iI (bU (aS a 4) (aS a 5) (aS a 6) (mBp a (cQ a b g i)) i) ∧ (i ≠ 0 → τ.1 73 (i - 1) = iI (bAf (aS a 4) (aS a 5) (aS a 6) (mBp a (cQ a b g i)) (i - 1)))
theorem rcl_loop {d b g : Nat} {v : mV} {σ : zS} {post : zPo} {X : zX} (hX : zClosed none (zCall (d + 3)) post nX12_control X) (hv : vB v) (l : rLa σ (va v)) (hb51 : b ≤ 51) (hg : g ≤ 200) (h : ∀ τ, rCl (va v) b g σ (an (va v)) τ → post (some (.int (iI (aUn (va v) (cQ (va v) b g (an (va v))))))) (zSI τ 64 207 1)) : ∀ (m i : Nat) (τ : zS), i + m = an (va v) → rCl (va v) b g σ i τ → X 47 [some (.ref 63), some (.int (iI b)), some (.int (iI g)), some (.int (iI i)), none, none] [] τ
  | 0, i, τ, hm, hk => by
    have e : i = an (va v) := by omega
    subst e
    refine zq_X12_control_47 hX _ _ _ τ (zIf_f ?_ ?_)
    · rw [hk.2.2.1.1]
      exact Int32.lt_irrefl
    · rw [hk.2.2.2.1]
      exact h τ hk
  | m + 1, i, τ, hm, hk => by
    have h60 := hv.1.n60
    have hin : i < an (va v) := by omega
    have ho := mO_lt (a := va v) hin
    obtain ⟨f, g63, gr, g14, g73⟩ := hk
    obtain ⟨s1, s2⟩ := hv.1.2.2.2.2.1
    have s5 := hv.1.2.2.2.2.2.1
    have s6 := hv.1.2.2.2.2.2.2.1
    have hfi := bFi_le (sz := aS (va v) 4) (rt := aS (va v) 6) (mBp (va v) (cQ (va v) b g i)) s5 i
    have hbe : aBe (va v) (cQ (va v) b g i) i ≤ aS (va v) 4 := bBe_le _ _ _ _ _
    obtain ⟨_, cb1, cb2⟩ := mCa_b hv.1 hg hbe
    have of := mOf_b (mT (va v) (mO (va v) i))
    have qbi := cQ_b hv.1 b g i
    have hbi : aB (aPl (va v) (amd (va v)) (cQ (va v) b g i)) := hv.1.pm qbi
    have la : ∀ ω : zS, (∀ r, r ∈ [67, 68, 69, 70, 71] → ω.1 r = σ.1 r) → (∀ j, j ≠ 14 → ω.1 63 j = σ.1 63 j) → rLa ω (va v) := fun ω e1 e2 => l.of (e2 8 (by decide)) (e2 9 (by decide)) (e1 67 (by decide)) (e1 68 (by decide)) (e1 69 (by decide)) (e1 70 (by decide)) (e1 71 (by decide))
    have e71 : τ.1 71 i = iI (mO (va v) i) := by rw [f.1 71 (by decide)]; exact l.2.2.2.2.2.2 i hin
    refine zq_X12_control_47 hX _ _ _ τ (zIf_t ?_ ?_)
    · rw [gr.1]; show iI _ < iI (an (va v) : Nat); rw [iI_lt (by omega) (by omega) (by omega) (by omega)]; omega
    · rw [iI_k (by omega), e71, iI_208p, iI_k (by omega)]
      refine ⟨vin_k (by show i < 60; omega) (by decide), vin_k (by show 208 + mO (va v) i < 268; omega) (by decide), ?_⟩
      have st0 : rAt (zSI τ 64 (208 + mO (va v) i) 0) 64 0 (aPl (va v) (amd (va v)) (nU (cQ (va v) b g i) (mO (va v) i) 0)) := gr.st (x := 0) hbi (by omega)
      have t4 : (zSI τ 64 (208 + mO (va v) i) 0).1 64 185 = iI (aS (va v) 4) := st0.s (j := 4) (by decide)
      have t5 : (zSI τ 64 (208 + mO (va v) i) 0).1 64 186 = iI (aS (va v) 5) := st0.s (j := 5) (by decide)
      have t6 : (zSI τ 64 (208 + mO (va v) i) 0).1 64 187 = iI (aS (va v) 6) := st0.s (j := 6) (by decide)
      have hb0 : aB (aPl (va v) (amd (va v)) (nU (cQ (va v) b g i) (mO (va v) i) 0)) := hv.1.pm (fun j hj => by
        by_cases e : j = mO (va v) i
        · rw [e, nU_s]; omega
        · rw [nU_n e]; exact qbi j hj)
      rw [t4, t5, t6]
      refine sp_passes (d := d) (a := aPl (va v) (amd (va v)) (nU (cQ (va v) b g i) (mO (va v) i) 0)) (fl := bFi (aS (va v) 4) (aS (va v) 5) (aS (va v) 6) (mBp (va v) (cQ (va v) b g i)) i) (u := bU (aS (va v) 4) (aS (va v) 5) (aS (va v) 6) (mBp (va v) (cQ (va v) b g i)) i) hb0 st0 (la _ (fun r hr => by rw [zSI_1 (by revert r; decide)]; exact f.1 r (by revert r; decide)) (fun j hj => by rw [zSI_1 (by decide)]; exact g63 j hj)) hin s2 s5 (by omega) (fun z => by rw [z]; rfl) (fun z => ?_) (by rw [zSI_1 (by decide)]; exact g14) rfl ?_
      · rw [zSI_1 (by decide), g73 z, iI_kk]
        cases i with
        | zero => exact absurd rfl z
        | succ j => rfl
      · have ebe : min (aS (va v) 4) (bFi (aS (va v) 4) (aS (va v) 5) (aS (va v) 6) (mBp (va v) (cQ (va v) b g i)) i) = aBe (va v) (cQ (va v) b g i) i := rfl
        rw [ebe]
        generalize mBp (aPl (va v) (amd (va v)) (nU (cQ (va v) b g i) (mO (va v) i) 0)) (aq (aPl (va v) (amd (va v)) (nU (cQ (va v) b g i) (mO (va v) i) 0))) i = B0
        generalize eω : rPa (zSI τ 64 (208 + mO (va v) i) 0) i (bFi (aS (va v) 4) (aS (va v) 5) (aS (va v) 6) (mBp (va v) (cQ (va v) b g i)) i - aBe (va v) (cQ (va v) b g i) i) (aBe (va v) (cQ (va v) b g i) i) (B0 - aBe (va v) (cQ (va v) b g i) i) (aBe (va v) (cQ (va v) b g i) i - B0) (bU (aS (va v) 4) (aS (va v) 5) (aS (va v) 6) (mBp (va v) (cQ (va v) b g i)) i + if aBe (va v) (cQ (va v) b g i) i < B0 then 1 else 0) = ω
        have w64 : ω.1 64 = (zSI τ 64 (208 + mO (va v) i) 0).1 64 := by rw [← eω]; exact rPa_r (by decide)
        have w71 : ω.1 71 i = iI (mO (va v) i) := by rw [← eω, rPa_r (by decide), zSI_1 (by decide)]; exact e71
        have w67 : ω.1 67 (mO (va v) i) = iI (mT (va v) (mO (va v) i)) := by rw [← eω, rPa_r (by decide), zSI_1 (by decide), f.1 67 (by decide)]; exact l.2.2.1 _ ho
        have w72 : ω.1 72 i = iI (aBe (va v) (cQ (va v) b g i) i) := by rw [← eω]; exact rPa_72
        have w73 : i ≠ 0 → ω.1 73 (i - 1) = τ.1 73 (i - 1) := fun z => by rw [← eω, rPa_73, if_neg (by omega), zSI_1 (by decide)]
        have w63 : ∀ j, j ≠ 14 → ω.1 63 j = σ.1 63 j := fun j hj => by rw [← eω, rPa_63 hj, zSI_1 (by decide)]; exact g63 j hj
        have wf : zFr [63, 64, 72, 73, 74, 75] σ ω := by rw [← eω]; exact (f.si (by decide) _ _).tr rPa_fr (by decide)
        have w4 : ω.1 64 185 = iI (aS (va v) 4) := by rw [w64]; exact t4
        have w5 : ω.1 64 186 = iI (aS (va v) 5) := by rw [w64]; exact t5
        have w6 : ω.1 64 187 = iI (aS (va v) 6) := by rw [w64]; exact t6
        rw [w72, w4, w71, iI_k (by omega), w67, (ctA_iI hv.1 hg hbe).2, off_iI (t := mT (va v) (mO (va v) i)) (mTy_lt _ _ _ _ _), iI_add, iI_add, iI_208p, iI_k (by omega), g14]
        refine ⟨vin_k (by show i < 60; omega) (by decide), ?_, vin_k (by show mO (va v) i < 60; omega) (by decide), ?_⟩
        · rw [show (0 : Int32) = iI 0 from rfl, iI_eq (by omega) (by omega) (by omega) (by omega)]; omega
        · have rω : rAt (zSI ω 63 14 (iI (bU (aS (va v) 4) (aS (va v) 5) (aS (va v) 6) (mBp (va v) (cQ (va v) b g i)) i))) 64 0 (aPl (va v) (amd (va v)) (nU (cQ (va v) b g i) (mO (va v) i) 0)) := st0.of ((zSI_1 (by decide)).trans w64)
          refine sp_settled (d := d + 1) (a := aPl (va v) (amd (va v)) (nU (cQ (va v) b g i) (mO (va v) i) 0)) hb0 rω (by omega) (by omega) (by omega) ?_
          rw [mSn_e hb0]
          have eq : mSn (aPl (va v) (amd (va v)) (nU (cQ (va v) b g i) (mO (va v) i) 0)) (mO (va v) i) ((b : Int) + mCa (va v) g (aBe (va v) (cQ (va v) b g i) i) + mOf (mT (va v) (mO (va v) i))) = mCq (va v) b g (cQ (va v) b g i) i := rfl
          rw [eq]
          have st1 := rω.st (x := mCq (va v) b g (cQ (va v) b g i) i) hb0 (show mO (va v) i < 60 by omega)
          have ea : aPl (aPl (va v) (amd (va v)) (nU (cQ (va v) b g i) (mO (va v) i) 0)) (amd (aPl (va v) (amd (va v)) (nU (cQ (va v) b g i) (mO (va v) i) 0))) (nU (aq (aPl (va v) (amd (va v)) (nU (cQ (va v) b g i) (mO (va v) i) 0))) (mO (va v) i) (mCq (va v) b g (cQ (va v) b g i) i)) = aPl (va v) (amd (va v)) (cQ (va v) b g (i + 1)) := by
            show aPl (va v) (amd (va v)) (nU (nU (cQ (va v) b g i) (mO (va v) i) 0) (mO (va v) i) (mCq (va v) b g (cQ (va v) b g i) i)) = _
            have : nU (nU (cQ (va v) b g i) (mO (va v) i) 0) (mO (va v) i) (mCq (va v) b g (cQ (va v) b g i) i) = cQ (va v) b g (i + 1) := funext fun j => by
              show _ = nU (cQ (va v) b g i) (mO (va v) i) (mCq (va v) b g (cQ (va v) b g i) i) j
              by_cases e : j = mO (va v) i
              · rw [e, nU_s, nU_s]
              · rw [nU_n e, nU_n e, nU_n e]
            rw [this]
          rw [ea] at st1
          have fi1 : zFr [63, 64, 72, 73, 74, 75] σ (zSI (zSI ω 63 14 (iI (bU (aS (va v) 4) (aS (va v) 5) (aS (va v) 6) (mBp (va v) (cQ (va v) b g i)) i))) 64 (208 + mO (va v) i) (iI (mCq (va v) b g (cQ (va v) b g i) i))) := (wf.si (by decide) _ _).si (by decide) _ _
          have p63 : ∀ j, j ≠ 14 → (zSI (zSI ω 63 14 (iI (bU (aS (va v) 4) (aS (va v) 5) (aS (va v) 6) (mBp (va v) (cQ (va v) b g i)) i))) 64 (208 + mO (va v) i) (iI (mCq (va v) b g (cQ (va v) b g i) i))).1 63 j = σ.1 63 j := fun j hj => by
            rw [zSI_1 (by decide), zSI_at, if_neg (fun z => hj z.2)]
            exact w63 j hj
          have p14 : (zSI (zSI ω 63 14 (iI (bU (aS (va v) 4) (aS (va v) 5) (aS (va v) 6) (mBp (va v) (cQ (va v) b g i)) i))) 64 (208 + mO (va v) i) (iI (mCq (va v) b g (cQ (va v) b g i) i))).1 63 14 = iI (bU (aS (va v) 4) (aS (va v) 5) (aS (va v) 6) (mBp (va v) (cQ (va v) b g i)) i) := by
            rw [zSI_1 (by decide), zSI_at, if_pos ⟨rfl, rfl⟩]
          have p73 : i ≠ 0 → (zSI (zSI ω 63 14 (iI (bU (aS (va v) 4) (aS (va v) 5) (aS (va v) 6) (mBp (va v) (cQ (va v) b g i)) i))) 64 (208 + mO (va v) i) (iI (mCq (va v) b g (cQ (va v) b g i) i))).1 73 (i - 1) = τ.1 73 (i - 1) := fun z => by
            rw [zSI_1 (by decide), zSI_1 (by decide)]
            exact w73 z
          have q4 : (zSI (zSI ω 63 14 (iI (bU (aS (va v) 4) (aS (va v) 5) (aS (va v) 6) (mBp (va v) (cQ (va v) b g i)) i))) 64 (208 + mO (va v) i) (iI (mCq (va v) b g (cQ (va v) b g i) i))).1 64 185 = iI (aS (va v) 4) := st1.s (j := 4) (by decide)
          have q5 : (zSI (zSI ω 63 14 (iI (bU (aS (va v) 4) (aS (va v) 5) (aS (va v) 6) (mBp (va v) (cQ (va v) b g i)) i))) 64 (208 + mO (va v) i) (iI (mCq (va v) b g (cQ (va v) b g i) i))).1 64 186 = iI (aS (va v) 5) := st1.s (j := 5) (by decide)
          have q6 : (zSI (zSI ω 63 14 (iI (bU (aS (va v) 4) (aS (va v) 5) (aS (va v) 6) (mBp (va v) (cQ (va v) b g i)) i))) 64 (208 + mO (va v) i) (iI (mCq (va v) b g (cQ (va v) b g i) i))).1 64 187 = iI (aS (va v) 6) := st1.s (j := 6) (by decide)
          refine ⟨vin_k (by show 208 + mO (va v) i < 268; omega) (by decide), ?_⟩
          rw [q4, q5, q6]
          generalize zSI (zSI ω 63 14 (iI (bU (aS (va v) 4) (aS (va v) 5) (aS (va v) 6) (mBp (va v) (cQ (va v) b g i)) i))) 64 (208 + mO (va v) i) (iI (mCq (va v) b g (cQ (va v) b g i) i)) = ψ at st1 fi1 p63 p14 p73 ⊢
          have hb1 : aB (aPl (va v) (amd (va v)) (cQ (va v) b g (i + 1))) := hv.1.pm (cQ_b hv.1 b g (i + 1))
          have eBi : mBp (aPl (va v) (amd (va v)) (cQ (va v) b g (i + 1))) (aq (aPl (va v) (amd (va v)) (cQ (va v) b g (i + 1)))) i = mBi (mK (va v) (mO (va v) i)) (mCq (va v) b g (cQ (va v) b g i) i) := cQ_Bi (a := va v) (b := b) (g := g) (i := i)
          refine sp_passes (d := d) (a := aPl (va v) (amd (va v)) (cQ (va v) b g (i + 1))) (fl := bFi (aS (va v) 4) (aS (va v) 5) (aS (va v) 6) (mBp (va v) (cQ (va v) b g i)) i) (u := bU (aS (va v) 4) (aS (va v) 5) (aS (va v) 6) (mBp (va v) (cQ (va v) b g i)) i) (c := bU (aS (va v) 4) (aS (va v) 5) (aS (va v) 6) (mBp (va v) (cQ (va v) b g (i + 1))) (i + 1)) hb1 st1 (la _ (fun r hr => fi1.1 r (by revert r; decide)) p63) hin s2 s5 (by omega) (fun z => by rw [z]; rfl) (fun z => ?_) p14 ?_ ?_
          · rw [p73 z, g73 z, iI_kk]
            cases i with
            | zero => exact absurd rfl z
            | succ j => rfl
          · rw [eBi]; exact cQ_bU hin
          · rw [iI_s, eBi]
            refine rcl_loop hX hv l hb51 hg h m (i + 1) _ (by omega) ⟨fi1.tr rPa_fr (by decide), fun j hj => (rPa_63 hj).trans (p63 j hj), st1.of (rPa_r (by decide)), rPa_14, fun _ => ?_⟩
            show (rPa _ _ _ _ _ _ _).1 73 i = iI (bAf _ _ _ _ i : Nat)
            rw [rPa_73, if_pos rfl]
            refine congrArg (fun t : Nat => iI (t : Int)) ?_
            unfold bAf bBe
            rw [cQ_fi hin, cQ_Bi]
theorem pr_control {p q : Int32} {σ : zS} (g : G σ) : zPair nX11_control nX12_control [.int p, .int q] σ := by
  obtain ⟨v, hv, hC, hR⟩ := g
  have n60 := hv.1.n60
  by_cases c : (0 ≤ p ∧ p ≤ 51) ∧ 0 ≤ q ∧ q ≤ 200
  · by_cases cn : an (va v) = 0
    · refine zP_I (v := v) (w := v) (-3) hv hR ?_ (fun τ hT => ?_)
      · exact ze_X11_control (d := 7) _ _ σ (fun X hX => zq_X11_control_0 (d := 1) hX _ _ σ (zIf_t c.1 (zIf_t c.2 (zIf_t (by rw [hC.1.1]; exact (n0_iI n60).mpr cn) (kNo hC)))))
      · exact ze_X12_control (d := 7) _ _ τ (fun X hX => zq_X12_control_0 (d := 4) hX _ _ τ (zIf_t c.1 (zIf_t c.2 (zIf_t (by rw [hT.1.1]; exact (n0_iI n60).mpr cn) (rNo hT)))))
    · obtain ⟨b, rfl, hb51⟩ := (w7 (m := 51) (by decide)).mp c.1
      obtain ⟨g, rfl, hg⟩ := (w7 (m := 200) (by decide)).mp c.2
      have qb := cQ_b hv.1 b g (an (va v))
      refine zP_I (v := v) (w := vA v (aPl (va v) true (cQ (va v) b g (an (va v))))) (iI (aUn (va v) (cQ (va v) b g (an (va v))))) (hv.a (hv.1.pl qb (fun _ => by omega))) hR ?_ (fun τ hT => ?_)
      · refine ze_X11_control (d := 7) _ _ σ (fun X hX => zq_X11_control_0 (d := 1) hX _ _ σ (zIf_t c.1 (zIf_t c.2 (zIf_f (by rw [hC.1.1]; exact fun z => cn ((n0_iI n60).mp z)) ?_))))
        refine sp_planCtl (d := 4) hv hC hb51 hg (fun τ f k => ?_)
        exact sp_newPlan (d := 1) hv hC (by omega) (f.wd (by decide)) k qb (fun υ h1 h2 => ⟨_, rfl, rfl, h1, h2⟩)
      · refine ze_X12_control (d := 7) _ _ τ (fun X hX => zq_X12_control_0 (d := 4) hX _ _ τ (zIf_t c.1 (zIf_t c.2 (zIf_f (by rw [hT.1.1]; exact fun z => cn ((n0_iI n60).mp z)) ?_))))
        refine sp_ty (d := 4) hv hT (fun υ h1 h2 l => ?_)
        refine rcl_loop (d := 4) (σ := υ) hX hv l hb51 hg (fun ω k => ?_) (an (va v)) 0 _ (by omega) ⟨(zFr.rf _ _).si (by decide) _ _, fun j hj => by rw [zSI_at, if_neg (fun z => hj z.2)], h1.1.of (zSI_1 (by decide)), by simp [zSI_at]; rfl, fun z => absurd rfl z⟩
        obtain ⟨f, k63, kr, k14, k73⟩ := k
        have hr2 : rAt (zSI ω 64 207 1) 64 0 (aPl (va v) true (cQ (va v) b g (an (va v)))) := by
          refine rAt_0.mpr (rF.pl (a := aPl (va v) (amd (va v)) (cQ (va v) b g (an (va v)))) (hv.1.pm qb) (rAt_0.mp kr) (by simp [zSI_at]) (fun i hi => ?_) (fun j hj => ?_))
          · rw [zSI_at, if_neg (by omega)]; exact (rAt_0.mp kr).2.2.2.2.2.2.2.2.2 i hi
          · rw [zSI_at, if_neg (by omega)]
        exact ⟨_, rfl, rfl, h1.pl hr2 (fun r hr => by rw [zSI_1 (by revert r; decide)]; exact f.1 r (by revert r; decide)) (by rw [zSI_1 (by decide)]; exact k63 16 (by decide)), h2.1.tr ((f.hg (by decide)).si (by decide) _ _)⟩
  · refine zP_I (v := v) (w := v) (-2) hv hR ?_ (fun τ hT => ?_)
    · exact ze_X11_control (d := 7) _ _ σ (fun X hX => zq_X11_control_0 (d := 1) hX _ _ σ ⟨fun c1 => ⟨fun c2 => absurd ⟨c1, c2⟩ c, fun _ => kNo hC⟩, fun _ => kNo hC⟩)
    · exact ze_X12_control (d := 7) _ _ τ (fun X hX => zq_X12_control_0 (d := 4) hX _ _ τ ⟨fun c1 => ⟨fun c2 => absurd ⟨c1, c2⟩ c, fun _ => rNo hT⟩, fun _ => rNo hT⟩)
