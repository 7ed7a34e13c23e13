/-! the reference's works, bits and losses; what settles a quantizer -/
theorem sp_work {d f t x m : Nat} {σ : zS} {k : Int32 → zS → Prop} (hf : f < 60) (ht : t ≤ 2) (hx : x ≤ 4000) (hm : m ≤ 4000) (h1 : σ.1 67 f = iI t) (h2 : σ.1 64 (1 + f) = iI x) (h3 : σ.1 64 (61 + f) = iI m) (h : k (iI ((if t = 0 then 4 * x else if t = 1 then x + 2 * m else x / 2 + m : Nat) : Int)) σ) : zCall (d + 1) nX12_work [.ref 63, .int (iI f)] σ (zPI k) := by
  have e1 : Int32.toNatClampNeg (1 + iI (f : Int)) = 1 + f := by rw [show (1 : Int32) = iI ((1 : Nat) : Int) from rfl, tN_add (by omega)]
  have e2 : Int32.toNatClampNeg (61 + iI (f : Int)) = 61 + f := by rw [show (61 : Int32) = iI ((61 : Nat) : Int) from rfl, tN_add (by omega)]
  have e3 : Int32.toNatClampNeg (iI (f : Int)) = f := iI_k (by omega)
  have c := cWk_iI ht hx hm
  unfold cWk at c
  refine ze_X12_work _ σ (fun X hX => zq_X12_work_0 hX _ σ ⟨?_, ?_, vin_k (by show f < 60; omega) (by decide), ?_⟩)
  · rw [show (1 : Int32) = iI ((1 : Nat) : Int) from rfl, iI_kk]
    exact vin_k (by show 1 + f < 268; omega) (by decide)
  · rw [show (61 : Int32) = iI ((61 : Nat) : Int) from rfl, iI_kk]
    exact vin_k (by show 61 + f < 268; omega) (by decide)
  · rw [e1, e2, e3, h1, h2, h3]
    refine ⟨fun g => ?_, fun g => ⟨fun g2 => ?_, fun g2 => ?_⟩⟩
    · rw [if_pos g] at c
      exact ⟨_, rfl, by rw [c]; exact h⟩
    · rw [if_neg g, if_pos g2] at c
      exact ⟨_, rfl, by rw [c]; exact h⟩
    · rw [if_neg g, if_neg g2] at c
      exact ⟨_, rfl, by rw [c]; exact h⟩
theorem aB.n60 {a : mA} (h : aB a) : an a ≤ 60 := h.1.1
theorem sp_bits {d f q : Nat} {a : mA} {σ : zS} {k : Int32 → zS → Prop} (hb : aB a) (hc : rAt σ 64 0 a) (hl : rLa σ a) (hf : f < an a) (hq : q < 52) (h : k (iI (mBi (mK a f) q)) σ) : zCall (d + 2) nX12_bits [.ref 63, .int (iI f), .int (iI q)] σ (zPI k) := by
  have h60 := hb.n60
  obtain ⟨b1, b2, b3⟩ := hb.1.2 f hf
  obtain ⟨s1, s2⟩ := mStp_b q hq
  have hw : mK a f ≤ 16000 := mWk_le hb.1 hf
  refine ze_X12_bits _ _ σ (fun X hX => zq_X12_bits_0 hX _ _ σ ?_)
  refine sp_work (d := d) (t := mT a f) (by omega) (mTy_lt _ _ _ _ _) b2 b3 (hl.2.2.1 f hf) (hc.kR.2.1 f hf) (hc.kR.2.2 f hf) ?_
  refine sp_step (d := d) hq ⟨?_, _, rfl, ?_⟩
  · rw [show (0 : Int32) = iI 0 from rfl, iI_eq (by omega) (by omega) (by omega) (by omega)]; omega
  · have e : (40 : Int32) + iI ((mK a f : Nat) : Int) * 200 / iI (mStp q) = iI (mBi (mK a f) q) := by
      rw [show (200 : Int32) = iI 200 from rfl, show (40 : Int32) = iI 40 from rfl, iI_mul, iI_divN (by omega) (by omega) (by omega) (by omega), iI_add]
      unfold mBi
      refine congrArg iI ?_
      rw [Int.natCast_add, Int.natCast_ediv, Int.natCast_mul]
      rfl
    rw [← e] at h
    exact h
theorem mSc_lt {cut : Nat → Bool} {n k : Nat} (hn : n ≤ 60) (hk : k < n) : mSc cut k < 60 := by
  have := mS_le cut (k + 1)
  unfold mSc
  omega
theorem sp_weight {d f s w : Nat} {σ : zS} {k : Int32 → zS → Prop} (hf : f < 60) (hs : s < 60) (h1 : σ.1 68 f = iI s) (h2 : σ.1 64 (121 + s) = iI w) (h : k (iI w) σ) : zCall (d + 1) nX12_weight [.ref 63, .int (iI f)] σ (zPI k) := by
  refine ze_X12_weight _ σ (fun X hX => zq_X12_weight_0 hX _ σ ⟨vin_k (by show f < 60; omega) (by decide), ?_⟩)
  rw [iI_k (by omega), h1, show (121 : Int32) = iI ((121 : Nat) : Int) from rfl, tN_add (by omega), iI_kk, h2]
  exact ⟨vin_k (by show 121 + s < 268; omega) (by decide), _, rfl, h⟩
theorem sp_loss {d f q : Nat} {a : mA} {σ : zS} {k : Int32 → zS → Prop} (hb : aB a) (hc : rAt σ 64 0 a) (hl : rLa σ a) (hf : f < an a) (hq : q < 52) (h : k (iI (mLo (aw a (mSc (mCt a) f)) (mT a f) q)) σ) : zCall (d + 2) nX12_loss [.ref 63, .int (iI f), .int (iI q)] σ (zPI k) := by
  have h60 := hb.n60
  have hs : mSc (mCt a) f < 60 := mSc_lt h60 hf
  have hw := hb.2.2.2.2.2.2.2.2.1 _ hs
  refine ze_X12_loss _ _ σ (fun X hX => zq_X12_loss_0 hX _ _ σ ?_)
  refine sp_weight (d := d) (s := mSc (mCt a) f) (w := aw a (mSc (mCt a) f)) (by omega) hs (hl.2.2.2.1 f hf) (by have := hc.2.2.2.2.1 _ hs; rwa [Nat.zero_add] at this) ⟨vin_k (by show f < 60; omega) (by decide), ?_⟩
  refine sp_step (d := d) hq (sp_step (d := d) hq ⟨_, rfl, ?_⟩)
  rw [iI_k (by omega), hl.2.2.1 f hf]
  have := loss_iI (w := aw a (mSc (mCt a) f)) (t := mT a f) (q := q) hw.2 (mTy_lt _ _ _ _ _) hq
  rw [← this] at h
  exact h
-- settle
def mZs (a : mA) (f : Nat) (z : Nat) : Int := if azf a z ≤ f ∧ f ≤ azl a z then azo a z else 0
def mCl (v lo hi : Int) : Int := if v < lo then lo else if v ≤ hi then v else hi
def mSe (a : mA) (f : Nat) (v : Int) : Int := mCl (v + fb_si (mZs a f) (aS a 7)) (aS a 2) (aS a 3)
theorem mCl_b {v lo hi : Int} (h : lo ≤ hi) : lo ≤ mCl v lo hi ∧ mCl v lo hi ≤ hi := by
  unfold mCl
  repeat' split
  all_goals omega
theorem mSe_b {a : mA} (hb : aB a) (f : Nat) (v : Int) : 0 ≤ mSe a f v ∧ mSe a f v ≤ 51 ∧ (aS a 2 : Int) ≤ mSe a f v ∧ mSe a f v ≤ (aS a 3 : Int) := by
  have h := hb.2.2.2.1
  have := mCl_b (v := v + fb_si (mZs a f) (aS a 7)) (lo := (aS a 2 : Int)) (hi := (aS a 3 : Int)) (by omega)
  unfold mSe
  omega
theorem mZs_b {a : mA} (hb : aB a) (f : Nat) : ∀ z, z ≤ aS a 7 → -((z : Int) * 10) ≤ fb_si (mZs a f) z ∧ fb_si (mZs a f) z ≤ (z : Int) * 10
  | 0, _ => by simp [fb_si]
  | z + 1, hz => by
    have h1 := mZs_b hb f z (by omega)
    obtain ⟨g1, g2, g3, g4⟩ := hb.2.2.2.2.2.2.2.2.2.1 z (by omega)
    rw [fb_si_succ]
    have h2 : -10 ≤ mZs a f z ∧ mZs a f z ≤ 10 := by
      unfold mZs
      split <;> omega
    omega
theorem zLc_iI {v lo hi : Int} (h1 : -1000000000 ≤ v) (h2 : v ≤ 1000000000) (h3 : -1000000000 ≤ lo) (h4 : lo ≤ hi) (h5 : hi ≤ 1000000000) : zLc (iI v) (iI lo) (iI hi) = iI (mCl v lo hi) := by
  have l1 := iI_lt (a := v) (b := hi) (by omega) (by omega) (by omega) (by omega)
  have l2 := iI_lt (a := lo) (b := v) (by omega) (by omega) (by omega) (by omega)
  have l3 := iI_lt (a := lo) (b := hi) (by omega) (by omega) (by omega) (by omega)
  unfold zLc mCl
  by_cases e : v < hi
  · rw [if_pos (l1.mpr e)]
    by_cases e2 : lo < v
    · rw [if_pos (l2.mpr e2), if_neg (by omega), if_pos (by omega)]
    · rw [if_neg (fun z => e2 (l2.mp z))]
      by_cases e3 : v < lo
      · rw [if_pos e3]
      · rw [if_neg e3, if_pos (by omega)]; exact congrArg iI (by omega)
  · rw [if_neg (fun z => e (l1.mp z))]
    by_cases e2 : lo < hi
    · rw [if_pos (l3.mpr e2), if_neg (by omega)]
      by_cases e3 : v ≤ hi
      · rw [if_pos e3]; exact congrArg iI (by omega)
      · rw [if_neg e3]
    · rw [if_neg (fun z => e2 (l3.mp z)), if_neg (by omega)]
      by_cases e3 : v ≤ hi
      · rw [if_pos e3]; exact congrArg iI (by omega)
      · rw [if_neg e3]; exact congrArg iI (by omega)
theorem zLm_iI {v lo hi : Int} (h1 : -1000000000 ≤ v) (h2 : v ≤ 1000000000) (h3 : -1000000000 ≤ lo) (h4 : lo ≤ hi) (h5 : hi ≤ 1000000000) : zLm (iI v) (iI lo) (iI hi) = iI (mCl v lo hi) := by
  have l1 := iI_lt (a := v) (b := lo) (by omega) (by omega) (by omega) (by omega)
  have l2 := iI_le (a := v) (b := hi) (by omega) (by omega) (by omega) (by omega)
  unfold zLm mCl
  by_cases e : v < lo
  · rw [if_pos (l1.mpr e), if_pos e]
  · rw [if_neg (fun z => e (l1.mp z)), if_neg e]
    by_cases e2 : v ≤ hi
    · rw [if_pos (l2.mpr e2), if_pos e2]
    · rw [if_neg (fun z => e2 (l2.mp z)), if_neg e2]
theorem se_loop {d f : Nat} {a : mA} {v : Int} {σ : zS} {post : zPo} {X : zX} (hX : zClosed none (zCall (d + 1)) post nX8_settle X) (hb : aB a) (hc : kAt σ 1 4 9 a) (hf : f < 60) (hv1 : -1000 ≤ v) (hv2 : v ≤ 100000000) (h : post (some (.int (iI (mSe a f v)))) σ) : ∀ (m z : Nat), z + m = aS a 7 → X 5 [some (.ref 4), some (.int (iI f)), none, some (.int (iI (v + fb_si (mZs a f) z))), some (.int (iI z))] [] σ
  | 0, z, hm => by
    have e : z = aS a 7 := by omega
    have h6 : aS a 7 ≤ 6 := hb.2.2.2.2.2.2.2.1
    have hz := mZs_b hb f z (by omega)
    have hr := hb.2.2.2.1
    refine zq_X8_settle_5 hX _ _ _ σ (zIf_f ?_ ?_)
    · rw [hc.2.2.2.1 7 (by decide), iI_lt (by omega) (by omega) (by omega) (by omega)]; omega
    · rw [hc.2.2.2.1 2 (by decide), hc.2.2.2.1 3 (by decide), zLc_iI (by omega) (by omega) (by omega) (by omega) (by omega), e]
      exact h
  | m + 1, z, hm => by
    have h6 : aS a 7 ≤ 6 := hb.2.2.2.2.2.2.2.1
    have hz := mZs_b hb f z (by omega)
    have hzl : z < aS a 7 := by omega
    obtain ⟨g1, g2, g3, g4⟩ := hb.2.2.2.2.2.2.2.2.2.1 z hzl
    have go := se_loop hX hb hc hf hv1 hv2 h m (z + 1) (by omega)
    rw [fb_si_succ] at go
    refine zq_X8_settle_5 hX _ _ _ σ (zIf_t ?_ ?_)
    · rw [hc.2.2.2.1 7 (by decide), iI_lt (by omega) (by omega) (by omega) (by omega)]; omega
    · rw [zAt_k (show z < zN 6 by show z < 6; omega), zAt_k (show z < zN 7 by show z < 6; omega), zAt_k (show z < zN 8 by show z < 6; omega), hc.2.2.2.2.2.1 z hzl, hc.2.2.2.2.2.2.1 z hzl, hc.2.2.2.2.2.2.2.1 z hzl, iI_s, iI_add, iI_le (by omega) (by omega) (by omega) (by omega), iI_le (by omega) (by omega) (by omega) (by omega)]
      refine ⟨fun c => ?_, fun c => ?_⟩
      · rw [show mZs a f z = azo a z from if_pos (by omega), ← Int.add_assoc] at go
        exact go
      · rw [show mZs a f z = 0 from if_neg (by omega), Int.add_zero] at go
        exact go
theorem sp_settle {d f : Nat} {a : mA} {v : Int} {σ : zS} {k : Int32 → zS → Prop} (hb : aB a) (hc : kAt σ 1 4 9 a) (hf : f < 60) (hv1 : -1000 ≤ v) (hv2 : v ≤ 100000000) (h : k (iI (mSe a f v)) σ) : zCall (d + 2) nX8_settle [.ref 4, .int (iI f), .int (iI v)] σ (zPI k) := by
  refine ze_X8_settle _ _ σ (fun X hX => zq_X8_settle_0 hX _ _ σ ?_)
  have := se_loop (d := d) (v := v) (post := zPI k) hX hb hc hf hv1 hv2 ⟨_, rfl, h⟩ (aS a 7) 0 (by omega)
  rw [show v + fb_si (mZs a f) 0 = v by simp [fb_si]] at this
  exact this
theorem rse_loop {d f : Nat} {a : mA} {v : Int} {σ : zS} {post : zPo} {X : zX} (hX : zClosed none (zCall (d + 1)) post nX12_settled X) (hb : aB a) (hc : rAt σ 64 0 a) (hf : f < 60) (hv1 : -1000 ≤ v) (hv2 : v ≤ 100000000) (h : post (some (.int (iI (mSe a f v)))) σ) : ∀ (m z : Nat), z + m = aS a 7 → X 5 [some (.ref 63), some (.int (iI f)), none, some (.int (iI (v + fb_si (mZs a f) z))), some (.int (iI z)), none] [] σ
  | 0, z, hm => by
    have e : z = aS a 7 := by omega
    have h6 : aS a 7 ≤ 6 := hb.2.2.2.2.2.2.2.1
    have hz := mZs_b hb f z (by omega)
    have hr := hb.2.2.2.1
    refine zq_X12_settled_5 hX _ _ _ σ (zIf_f ?_ ?_)
    · rw [hc.s (j := 7) (by decide), iI_lt (by omega) (by omega) (by omega) (by omega)]; omega
    · rw [hc.s (j := 2) (by decide), hc.s (j := 3) (by decide), zLm_iI (by omega) (by omega) (by omega) (by omega) (by omega), e]
      exact h
  | m + 1, z, hm => by
    have h6 : aS a 7 ≤ 6 := hb.2.2.2.2.2.2.2.1
    have hz := mZs_b hb f z (by omega)
    have hzl : z < aS a 7 := by omega
    obtain ⟨g1, g2, g3, g4⟩ := hb.2.2.2.2.2.2.2.2.2.1 z hzl
    have go := rse_loop hX hb hc hf hv1 hv2 h m (z + 1) (by omega)
    rw [fb_si_succ] at go
    have e0 : (189 : Int32) + 3 * iI (z : Int) = iI ((189 + 3 * z : Nat) : Int) := by
      rw [show (3 : Int32) = iI 3 from rfl, show (189 : Int32) = iI 189 from rfl, iI_mul, iI_add]
      exact congrArg iI (by omega)
    have e1 : (189 : Int32) + 3 * iI (z : Int) + 1 = iI ((190 + 3 * z : Nat) : Int) := by
      rw [e0, iI_s]; exact congrArg iI (by omega)
    have e2 : (189 : Int32) + 3 * iI (z : Int) + 2 = iI ((191 + 3 * z : Nat) : Int) := by
      rw [e0, show (2 : Int32) = iI 2 from rfl, iI_add]; exact congrArg iI (by omega)
    have r0 := hc.2.2.2.2.2.1 z hzl
    have r1 := hc.2.2.2.2.2.2.1 z hzl
    have r2 := hc.2.2.2.2.2.2.2.1 z hzl
    rw [Nat.zero_add] at r0 r1 r2
    refine zq_X12_settled_5 hX _ _ _ σ (zIf_t ?_ ?_)
    · rw [hc.s (j := 7) (by decide), iI_lt (by omega) (by omega) (by omega) (by omega)]; omega
    · rw [e2, e1, e0, iI_k (by omega), iI_k (by omega), iI_k (by omega), r0, r1, r2, iI_s, iI_add, iI_le (by omega) (by omega) (by omega) (by omega), iI_le (by omega) (by omega) (by omega) (by omega)]
      refine ⟨vin_k (by show 189 + 3 * z < 268; omega) (by decide), vin_k (by show 190 + 3 * z < 268; omega) (by decide), fun c => ⟨vin_k (by show 191 + 3 * z < 268; omega) (by decide), ?_⟩, fun c => ?_⟩
      · rw [show mZs a f z = azo a z from if_pos (by omega), ← Int.add_assoc] at go
        exact go
      · rw [show mZs a f z = 0 from if_neg (by omega), Int.add_zero] at go
        rw [show (0 : Int32) = iI 0 from rfl, iI_add, Int.add_zero]
        exact go
theorem sp_settled {d f : Nat} {a : mA} {v : Int} {σ : zS} {k : Int32 → zS → Prop} (hb : aB a) (hc : rAt σ 64 0 a) (hf : f < 60) (hv1 : -1000 ≤ v) (hv2 : v ≤ 100000000) (h : k (iI (mSe a f v)) σ) : zCall (d + 2) nX12_settled [.ref 63, .int (iI f), .int (iI v)] σ (zPI k) := by
  refine ze_X12_settled _ _ σ (fun X hX => zq_X12_settled_0 hX _ _ σ ?_)
  have := rse_loop (d := d) (v := v) (post := zPI k) hX hb hc hf hv1 hv2 ⟨_, rfl, h⟩ (aS a 7) 0 (by omega)
  rw [show v + fb_si (mZs a f) 0 = v by simp [fb_si]] at this
  exact this
