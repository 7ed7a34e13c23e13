/-! new plans: constant, bestConstant -/
theorem se0_loop {d f : Nat} {a : mA} {v : Int} {σ : zS} {post : zPo} {X : zX} (hX : zClosed none (zCall (d + 1)) post nX8_settle X) (hb : aB a) (hc : kA0 σ 1 4 a) (hf : f < 60) (hv1 : -1000 ≤ v) (hv2 : v ≤ 100000000) (h : post (some (.int (iI (mSe a f v)))) σ) : ∀ (m z : Nat), z + m = aS a 7 → X 5 [some (.ref 4), some (.int (iI f)), none, some (.int (iI (v + fb_si (mZs a f) z))), some (.int (iI z))] [] σ
  | 0, z, hm => by
    have e : z = aS a 7 := by omega
    have h6 : aS a 7 ≤ 6 := hb.2.2.2.2.2.2.2.1
    have hz := mZs_b hb f z (by omega)
    have hr := hb.2.2.2.1
    refine zq_X8_settle_5 hX _ _ _ σ (zIf_f ?_ ?_)
    · rw [hc.2.2.2.1 7 (by decide), iI_lt (by omega) (by omega) (by omega) (by omega)]; omega
    · rw [hc.2.2.2.1 2 (by decide), hc.2.2.2.1 3 (by decide), zLc_iI (by omega) (by omega) (by omega) (by omega) (by omega), e]
      exact h
  | m + 1, z, hm => by
    have h6 : aS a 7 ≤ 6 := hb.2.2.2.2.2.2.2.1
    have hz := mZs_b hb f z (by omega)
    have hzl : z < aS a 7 := by omega
    obtain ⟨g1, g2, g3, g4⟩ := hb.2.2.2.2.2.2.2.2.2.1 z hzl
    have go := se0_loop hX hb hc hf hv1 hv2 h m (z + 1) (by omega)
    rw [fb_si_succ] at go
    refine zq_X8_settle_5 hX _ _ _ σ (zIf_t ?_ ?_)
    · rw [hc.2.2.2.1 7 (by decide), iI_lt (by omega) (by omega) (by omega) (by omega)]; omega
    · rw [zAt_k (show z < zN 6 by show z < 6; omega), zAt_k (show z < zN 7 by show z < 6; omega), zAt_k (show z < zN 8 by show z < 6; omega), hc.2.2.2.2.2.1 z hzl, hc.2.2.2.2.2.2.1 z hzl, hc.2.2.2.2.2.2.2 z hzl, iI_s, iI_add, iI_le (by omega) (by omega) (by omega) (by omega), iI_le (by omega) (by omega) (by omega) (by omega)]
      refine ⟨fun c => ?_, fun c => ?_⟩
      · rw [show mZs a f z = azo a z from if_pos (by omega), ← Int.add_assoc] at go
        exact go
      · rw [show mZs a f z = 0 from if_neg (by omega), Int.add_zero] at go
        exact go
theorem sp_settle0 {d f : Nat} {a : mA} {v : Int} {σ : zS} {k : Int32 → zS → Prop} (hb : aB a) (hc : kA0 σ 1 4 a) (hf : f < 60) (hv1 : -1000 ≤ v) (hv2 : v ≤ 100000000) (h : k (iI (mSe a f v)) σ) : zCall (d + 2) nX8_settle [.ref 4, .int (iI f), .int (iI v)] σ (zPI k) := by
  refine ze_X8_settle _ _ σ (fun X hX => zq_X8_settle_0 hX _ _ σ ?_)
  have := se0_loop (d := d) (v := v) (post := zPI k) hX hb hc hf hv1 hv2 ⟨_, rfl, h⟩ (aS a 7) 0 (by omega)
  rw [show v + fb_si (mZs a f) 0 = v by simp [fb_si]] at this
  exact this
def mOf (t : Nat) : Int := if t = 0 then -3 else if t = 1 then 0 else 2
theorem mOf_b (t : Nat) : -3 ≤ mOf t ∧ mOf t ≤ 2 := by
  unfold mOf
  repeat' split
  all_goals omega
theorem off_iI {t : Nat} (ht : t ≤ 2) : (if iI (t : Int) = 0 then -3 else if iI (t : Int) = 1 then 0 else 2 : Int32) = iI (mOf t) := by
  have c : t = 0 ∨ t = 1 ∨ t = 2 := by omega
  rcases c with rfl | rfl | rfl <;> decide
def mSn (a : mA) (f : Nat) (v : Int) : Nat := (mSe a f v).toNat
theorem mSn_e {a : mA} (hb : aB a) (f : Nat) (v : Int) : iI (mSe a f v) = iI (mSn a f v : Nat) := congrArg iI (by
  have := mSe_b hb f v
  unfold mSn
  omega)
theorem mSn_b {a : mA} (hb : aB a) (f : Nat) (v : Int) : mSn a f v ≤ 51 := by
  have := mSe_b hb f v
  unfold mSn
  omega
def mCn (a : mA) (v i : Nat) : Nat := mSn a i ((v : Int) + mOf (mT a i))
/-- the first i of f, the others of g -/
def nM (f g : Nat → Nat) (i : Nat) : Nat → Nat := fun j => if j < i then f j else g j
theorem nM_0 (f g : Nat → Nat) : nM f g 0 = g := funext fun j => if_neg (Nat.not_lt_zero j)
theorem nM_lt {f g : Nat → Nat} {i j : Nat} (h : j < i) : nM f g i j = f j := if_pos h
theorem nM_ge {f g : Nat → Nat} {i j : Nat} (h : ¬ j < i) : nM f g i j = g j := if_neg h
theorem nM_s (f g : Nat → Nat) (i : Nat) : nU (nM f g i) i (f i) = nM f g (i + 1) := funext fun j => by
  unfold nU nM
  by_cases e : j = i
  · rw [if_pos e, if_pos (by omega), e]
  · rw [if_neg e]
    by_cases e2 : j < i
    · rw [if_pos e2, if_pos (by omega)]
    · rw [if_neg e2, if_neg (by omega)]
theorem nM_b {f g : Nat → Nat} {c i : Nat} (hf : ∀ j, f j ≤ c) (hg : ∀ j, j < 60 → g j ≤ c) : ∀ j, j < 60 → nM f g i j ≤ c := fun j hj => by
  unfold nM
  split
  · exact hf j
  · exact hg j hj
theorem aB.q {a : mA} (h : aB a) {i : Nat} (hi : i < 60) : aq a i ≤ 51 := h.2.2.2.2.2.2.2.2.2.2.1 i hi
theorem aB.pm {a : mA} (h : aB a) {q : Nat → Nat} (hq : ∀ i, i < 60 → q i ≤ 51) : aB (aPl a (amd a) q) := h.pl hq h.2.2.2.2.2.2.2.2.2.2.2
-- the component
theorem pc_loop {d r w : Nat} {a : mA} {σ : zS} {post : zPo} {X : zX} (hX : zClosed none (zCall (d + 2)) post nX4_planConstant X) (hr : zIsI r = true) (hr60 : zN r = 60) (hn : r ∉ [1, 2, 3, 4, 5, 6, 7, 8, 16, 17]) (hb : aB a) (hc : kA0 σ 1 4 a) (hl : kLa σ a) (hw : w ≤ 51) (h : ∀ τ, zFr [r] σ τ → (∀ i, i < an a → τ.1 r i = iI (mCn a w i)) → post none τ) : ∀ (m i : Nat) (τ : zS), i + m = an a → zFr [r] σ τ → (∀ j, j < i → τ.1 r j = iI (mCn a w j)) → X 2 [some (.ref 32), some (.ref r), some (.int (iI w)), some (.int (iI i))] [] τ
  | 0, i, τ, hm, f, g => by
    have e : i = an a := by omega
    subst e
    refine zq_X4_planConstant_2 hX r _ _ hr τ (zIf_f ?_ (h τ f g))
    rw [f.1 16 (fun z => hn (by have := List.mem_singleton.mp z; rw [← this]; decide)), hl.1]
    exact Int32.lt_irrefl
  | m + 1, i, τ, hm, f, g => by
    have h60 := hb.n60
    have hin : i < an a := by omega
    have fr : ∀ q, q ∈ [1, 2, 3, 4, 5, 6, 7, 8, 16, 17] → τ.1 q = σ.1 q := fun q hq => f.1 q (fun z => hn (by rw [← List.mem_singleton.mp z]; exact hq))
    have e1 : cOff τ (iI i) = iI (mOf (mT a i)) := by
      have e1 : zAt τ 17 (iI i) = iI (mT a i) := by
        rw [zAt_k (show i < zN 17 by show i < 60; omega), fr 17 (by decide)]; exact hl.2.2.2.1 i hin
      unfold cOff
      rw [e1]
      exact off_iI (mTy_lt _ _ _ _ _)
    have ho := mOf_b (mT a i)
    refine zq_X4_planConstant_2 hX r _ _ hr τ (zIf_t ?_ ?_)
    · rw [fr 16 (by decide), hl.1, iI_lt (by omega) (by omega) (by omega) (by omega)]; omega
    · rw [e1, iI_add, iI_s]
      refine sp_settle0 (d := d) hb (hc.of (fun q hq => fr q (by revert q; decide))) (by omega) (by omega) (by omega) ?_
      rw [mSn_e hb, zPt_k (show i < zN r by rw [hr60]; omega)]
      refine pc_loop hX hr hr60 hn hb hc hl hw h m (i + 1) _ (by omega) (f.si (List.mem_singleton.mpr rfl) _ _) (fun j hj => ?_)
      rw [zSI_at]
      by_cases e : j = i
      · rw [if_pos ⟨rfl, e⟩, e]; rfl
      · rw [if_neg (fun z => e z.2)]; exact g j (by omega)
theorem sp_planC {d r w : Nat} {a : mA} {σ : zS} {k : zS → Prop} (hr : zIsI r = true) (hr60 : zN r = 60) (hn : r ∉ [1, 2, 3, 4, 5, 6, 7, 8, 16, 17]) (hb : aB a) (hc : kA0 σ 1 4 a) (hl : kLa σ a) (hw : w ≤ 51) (h : ∀ τ, zFr [r] σ τ → (∀ i, i < an a → τ.1 r i = iI (mCn a w i)) → k τ) : zCall (d + 3) nX4_planConstant [.ref 32, .ref r, .int (iI w)] σ (zPV k) :=
  ze_X4_planConstant r _ σ (fun X hX => zq_X4_planConstant_0 hX r _ hr σ (pc_loop hX hr hr60 hn hb hc hl hw (fun τ f g => ⟨rfl, h τ f g⟩) (an a) 0 σ (by omega) (zFr.rf _ _) (fun j hj => absurd hj (Nat.not_lt_zero j))))
theorem CI.pl {σ υ : zS} {v : mV} {m : Bool} {q : Nat → Nat} (hC : CI σ v) (e : ∀ r, r ∈ CS → r ≠ 9 → r ≠ 10 → υ.1 r = σ.1 r) (h9 : υ.1 9 0 = if m = true then 1 else 0) (h10 : m = true → ∀ i, i < an (va v) → υ.1 10 i = iI (q i)) : CI υ (vA v (aPl (va v) m q)) := by
  have k0 : kA0 υ 1 4 (va v) := hC.1.of (fun r hr => e r (by revert r; decide) (by revert r; decide) (by revert r; decide))
  have l0 : kLa υ (va v) := hC.2.2.1.of (fun r hr => e r (by revert r; decide) (by revert r; decide) (by revert r; decide))
  exact ⟨k0, ⟨h9, h10⟩, l0, hC.2.2.2.of (fun r hr => e r (by revert r; decide) (by revert r; decide) (by revert r; decide)) (by rw [e 11 (by decide) (by decide) (by decide)]) rfl rfl rfl rfl⟩
theorem sp_newPlan {d : Nat} {σ τ : zS} {v : mV} {q : Nat → Nat} {k : Int32 → zS → Prop} (hv : vB v) (hC : CI σ v) (hn : 0 < an (va v)) (f : zFr [10, 26, 27, 28, 29, 30, 31, 33] σ τ) (hq : ∀ i, i < an (va v) → τ.1 10 i = iI (q i)) (hqb : ∀ i, i < 60 → q i ≤ 51) (h : ∀ υ, CI υ (vA v (aPl (va v) true q)) → zLw σ υ → k (iI (aUn (va v) q)) υ) : zCall (d + 6) nX11_underflowsOfNewPlan [.ref 0] τ (zPI k) := by
  have h60 := hv.1.n60
  have c1 : CI (zSI τ 9 0 1) (vA v (aPl (va v) true q)) := hC.pl (fun r hr h9 h10 => by
    rw [zSI_1 h9]
    exact f.1 r (by revert r; decide)) (by simp [zSI_at]) (fun _ i hi => by rw [zSI_1 (by decide)]; exact hq i hi)
  refine ze_X11_underflowsOfNewPlan τ (fun X hX => zq_X11_underflowsOfNewPlan_0 hX τ ?_)
  refine sp_follow (d := d) (r := 10) (a := aPl (va v) true q) (q := q) rfl (by decide) rfl (hv.1.pl hqb (fun _ => hn)) c1.at c1.2.2.1 c1.2.2.2.1 (fun i hi => ⟨by rw [zSI_1 (by decide)]; exact hq i hi, hqb i (Nat.lt_of_lt_of_le hi h60)⟩) (fun υ hu => ⟨_, rfl, ?_⟩)
  rw [hu.2.1]
  exact h υ (c1.fr hu.1 (by decide)) (((f.lw (by decide)).si (by decide) _ _).tr (hu.1.lw (by decide)))
-- the reference
theorem rAt.st {τ : zS} {a : mA} {i x : Nat} (hb : aB a) (h : rAt τ 64 0 a) (hi : i < 60) : rAt (zSI τ 64 (208 + i) (iI x)) 64 0 (aPl a (amd a) (nU (aq a) i x)) := by
  have r := rAt_0.mp h
  refine rAt_0.mpr (rF.pl hb r ?_ (fun j hj => ?_) (fun j hj => ?_))
  · rw [zSI_at, if_neg (by omega)]; exact am_if r
  · rw [zSI_at]
    by_cases e : j = i
    · rw [if_pos (by omega), e, nU_s]
    · rw [if_neg (by omega), nU_n e]; exact r.2.2.2.2.2.2.2.2.2 j hj
  · rw [zSI_at, if_neg (by omega)]
theorem rpc_loop {d w : Nat} {a : mA} {σ : zS} {post : zPo} {X : zX} (hX : zClosed none (zCall (d + 2)) post nX12_plansConstant X) (hb : aB a) (hl : rLa σ a) (hw : w ≤ 51) (h : ∀ τ, zFr [64] σ τ → rAt τ 64 0 (aPl a (amd a) (nM (mCn a w) (aq a) (an a))) → post none τ) : ∀ (m i : Nat) (τ : zS), i + m = an a → zFr [64] σ τ → rAt τ 64 0 (aPl a (amd a) (nM (mCn a w) (aq a) i)) → X 2 [some (.ref 63), some (.int (iI w)), some (.int (iI i))] [] τ
  | 0, i, τ, hm, f, g => by
    have e : i = an a := by omega
    subst e
    refine zq_X12_plansConstant_2 hX _ _ τ (zIf_f ?_ (h τ f g))
    rw [g.1]
    exact Int32.lt_irrefl
  | m + 1, i, τ, hm, f, g => by
    have h60 := hb.n60
    have hin : i < an a := by omega
    have hb2 : aB (aPl a (amd a) (nM (mCn a w) (aq a) i)) := hb.pm (nM_b (fun j => mSn_b hb _ _) (fun j hj => hb.q hj))
    have ho := mOf_b (mT a i)
    have e1 : τ.1 67 i = iI (mT a i) := by rw [f.1 67 (by decide)]; exact hl.2.2.1 i hin
    refine zq_X12_plansConstant_2 hX _ _ τ (zIf_t ?_ ⟨vin_k (by show i < 60; omega) (by decide), ?_⟩)
    · rw [g.1]; show iI _ < iI (an a : Nat); rw [iI_lt (by omega) (by omega) (by omega) (by omega)]; omega
    · rw [iI_k (by omega), e1, off_iI (t := mT a i) (mTy_lt _ _ _ _ _), iI_add, iI_208p, iI_k (by omega), iI_s]
      refine sp_settled (d := d) hb2 g (by omega) (by omega) (by omega) ⟨vin_k (by show 208 + i < 268; omega) (by decide), ?_⟩
      rw [mSn_e hb2]
      have st := g.st (x := mCn a w i) hb2 (show i < 60 by omega)
      have e2 : aPl (aPl a (amd a) (nM (mCn a w) (aq a) i)) (amd (aPl a (amd a) (nM (mCn a w) (aq a) i))) (nU (aq (aPl a (amd a) (nM (mCn a w) (aq a) i))) i (mCn a w i)) = aPl a (amd a) (nM (mCn a w) (aq a) (i + 1)) := by
        show aPl a (amd a) (nU (nM (mCn a w) (aq a) i) i (mCn a w i)) = _
        rw [nM_s]
      rw [e2] at st
      exact rpc_loop hX hb hl hw h m (i + 1) _ (by omega) (f.si (by decide) _ _) st
theorem aPl_self (a : mA) : aPl a (amd a) (aq a) = a := rfl
theorem sp_plansC {d w : Nat} {a : mA} {σ : zS} {k : zS → Prop} (hb : aB a) (hc : rAt σ 64 0 a) (hl : rLa σ a) (hw : w ≤ 51) (h : ∀ τ, zFr [64] σ τ → rAt τ 64 0 (aPl a (amd a) (nM (mCn a w) (aq a) (an a))) → k τ) : zCall (d + 3) nX12_plansConstant [.ref 63, .int (iI w)] σ (zPV k) :=
  ze_X12_plansConstant _ σ (fun X hX => zq_X12_plansConstant_0 hX _ σ (rpc_loop hX hb hl hw (fun τ f g => ⟨rfl, h τ f g⟩) (an a) 0 σ (by omega) (zFr.rf _ _) (by rw [nM_0]; exact hc)))
theorem bFi_cong {sz st rt : Nat} {B C : Nat → Nat} : ∀ {p : Nat}, (∀ j, j < p → B j = C j) → bFi sz st rt B p = bFi sz st rt C p
  | 0, _ => rfl
  | p + 1, h => by
    simp only [bFi]
    rw [bFi_cong (fun j hj => h j (by omega)), h p (by omega)]
theorem bUp_cong {sz st rt : Nat} {B C : Nat → Nat} {p : Nat} (h : ∀ j, j < p + 1 → B j = C j) : bUp sz st rt B p = bUp sz st rt C p := by
  unfold bUp bBe
  rw [bFi_cong (fun j hj => h j (by omega)), h p (by omega)]
theorem bU_cong {sz st rt n : Nat} {B C : Nat → Nat} (h : ∀ j, j < n → B j = C j) : bU sz st rt B n = bU sz st rt C n :=
  fb_ct_cong (fun k hk => bUp_cong (fun j hj => h j (by omega)))
theorem mBp_cong {a : mA} {q r : Nat → Nat} (h : ∀ i, i < an a → q i = r i) {p : Nat} (hp : p < an a) : mBp a q p = mBp a r p := by
  unfold mBp
  rw [h _ (mO_lt hp)]
theorem aUn_cong {a : mA} {q r : Nat → Nat} (h : ∀ i, i < an a → q i = r i) : aUn a q = aUn a r := bU_cong (fun _ hp => mBp_cong h hp)
theorem RI.pl {σ τ : zS} {v : mV} {a : mA} (h : RI σ v) (hr : rAt τ 64 0 a) (f : ∀ r, r ∈ [65, 66, 76] → τ.1 r = σ.1 r) (e : τ.1 63 16 = σ.1 63 16) : RI τ (vA v a) := ⟨hr, h.2.of e (f 76 (by decide)) (f 66 (by decide)) (f 65 (by decide)) rfl rfl rfl rfl⟩
theorem sp_now {d : Nat} {v : mV} {σ : zS} {k : Int32 → zS → Prop} (hv : vB v) (hR : RI σ v) (l : rLa σ (va v)) (h : ∀ τ, rFo (va v) σ τ → RI τ v → zQu σ τ → rLa τ (va v) → k (iI (aUn (va v) (aq (va v)))) τ) : zCall (d + 6) nX12_underflowsNow [.ref 63] σ (zPI k) :=
  sp_underflowsNow hv.1 hR.1 l (fun τ ht => h τ ht (hR.fr ht.1 (by decide) (ht.2.1 16 (by decide))) ⟨ht.1.hg (by decide), ht.1.2⟩ (ht.rLa l))
/-- the plan is made, and the answer is what lacks now -/
theorem sp_rNew {d : Nat} {v : mV} {σ τ : zS} {q : Nat → Nat} {k : Int32 → zS → Prop} (hv : vB v) (hR : RI σ v) (hn : 0 < an (va v)) (hqb : ∀ i, i < 60 → q i ≤ 51) (hr : rAt τ 64 0 (aPl (va v) (amd (va v)) q)) (l : rLa τ (va v)) (f : ∀ r, r ∈ [65, 66, 76] → τ.1 r = σ.1 r) (e : τ.1 63 16 = σ.1 63 16) (g : zHg σ τ) (h : ∀ υ, RI υ (vA v (aPl (va v) true q)) → zHg σ υ → k (iI (aUn (va v) q)) υ) : zCall (d + 6) nX12_underflowsNow [.ref 63] (zSI τ 64 207 1) (zPI k) := by
  have hb : aB (aPl (va v) (amd (va v)) q) := hv.1.pm hqb
  have hr2 : rAt (zSI τ 64 207 1) 64 0 (aPl (va v) true q) := by
    refine rAt_0.mpr (rF.pl (a := aPl (va v) (amd (va v)) q) hb (rAt_0.mp hr) (by simp [zSI_at]) (fun i hi => ?_) (fun j hj => ?_))
    · rw [zSI_at, if_neg (by omega)]; exact (rAt_0.mp hr).2.2.2.2.2.2.2.2.2 i hi
    · rw [zSI_at, if_neg (by omega)]
  have hI : RI (zSI τ 64 207 1) (vA v (aPl (va v) true q)) := hR.pl hr2 (fun r hr => by rw [zSI_1 (by revert r; decide)]; exact f r hr) (by rw [zSI_1 (by decide)]; exact e)
  have l2 : rLa (zSI τ 64 207 1) (va v) := l.of (by rw [zSI_1 (by decide)]) (by rw [zSI_1 (by decide)]) (zSI_1 (by decide)) (zSI_1 (by decide)) (zSI_1 (by decide)) (zSI_1 (by decide)) (zSI_1 (by decide))
  exact sp_now (d := d) (v := vA v (aPl (va v) true q)) (hv.a (hv.1.pl hqb (fun _ => hn))) hI l2 (fun υ _ h1 h2 _ => h υ h1 ((g.si (by decide) _ _).tr h2.1))
theorem n0_iI {n : Nat} (hn : n ≤ 60) : iI (n : Int) = 0 ↔ n = 0 := by
  rw [show (0 : Int32) = iI 0 from rfl, iI_eq (by omega) (by omega) (by omega) (by omega)]; omega
theorem pr_constant {p : Int32} {σ : zS} (g : G σ) : zPair nX11_constant nX12_constant [.int p] σ := by
  obtain ⟨v, hv, hC, hR⟩ := g
  have n60 := hv.1.n60
  by_cases c : 0 ≤ p ∧ p ≤ 51
  · by_cases cn : an (va v) = 0
    · refine zP_I (v := v) (w := v) (-3) hv hR ?_ (fun τ hT => ?_)
      · exact ze_X11_constant (d := 7) _ σ (fun X hX => zq_X11_constant_0 (d := 1) hX _ σ (zIf_t c (zIf_t (by rw [hC.1.1]; exact (n0_iI n60).mpr cn) (kNo hC))))
      · exact ze_X12_constant (d := 7) _ τ (fun X hX => zq_X12_constant_0 (d := 1) hX _ τ (zIf_t c (zIf_t (by rw [hT.1.1]; exact (n0_iI n60).mpr cn) (rNo hT))))
    · obtain ⟨w, rfl, hw⟩ := (w7 (m := 51) (by decide)).mp c
      have qb : ∀ i, i < 60 → nM (mCn (va v) w) (aq (va v)) (an (va v)) i ≤ 51 := nM_b (fun j => mSn_b hv.1 _ _) (fun j hj => hv.1.q hj)
      refine zP_I (v := v) (w := vA v (aPl (va v) true (nM (mCn (va v) w) (aq (va v)) (an (va v))))) (iI (aUn (va v) (nM (mCn (va v) w) (aq (va v)) (an (va v))))) (hv.a (hv.1.pl qb (fun _ => by omega))) hR ?_ (fun τ hT => ?_)
      · refine ze_X11_constant (d := 7) _ σ (fun X hX => zq_X11_constant_0 (d := 1) hX _ σ (zIf_t c (zIf_f (by rw [hC.1.1]; exact fun z => cn ((n0_iI n60).mp z)) ?_)))
        refine sp_planC (d := 4) rfl rfl (by decide) hv.1 hC.1 hC.2.2.1 hw (fun τ f g => ?_)
        exact sp_newPlan (d := 1) hv hC (by omega) (f.wd (by decide)) (fun i hi => by rw [nM_lt hi]; exact g i hi) qb (fun υ h1 h2 => ⟨_, rfl, rfl, h1, h2⟩)
      · refine ze_X12_constant (d := 7) _ τ (fun X hX => zq_X12_constant_0 (d := 1) hX _ τ (zIf_t c (zIf_f (by rw [hT.1.1]; exact fun z => cn ((n0_iI n60).mp z)) ?_)))
        refine sp_ty (d := 4) hv hT (fun υ h1 h2 l => sp_plansC (d := 4) hv.1 h1.1 l hw (fun ω f g => ?_))
        exact sp_rNew (d := 1) hv h1 (by omega) qb g (l.of (by rw [f.1 63 (by decide)]) (by rw [f.1 63 (by decide)]) (f.1 67 (by decide)) (f.1 68 (by decide)) (f.1 69 (by decide)) (f.1 70 (by decide)) (f.1 71 (by decide))) (fun r hr => f.1 r (by revert r; decide)) (by rw [f.1 63 (by decide)]) (f.hg (by decide)) (fun ψ k1 k2 => ⟨_, rfl, rfl, k1, h2.1.tr k2⟩)
  · refine zP_I (v := v) (w := v) (-2) hv hR ?_ (fun τ hT => ?_)
    · exact ze_X11_constant (d := 7) _ σ (fun X hX => zq_X11_constant_0 (d := 1) hX _ σ (zIf_f c (kNo hC)))
    · exact ze_X12_constant (d := 7) _ τ (fun X hX => zq_X12_constant_0 (d := 1) hX _ τ (zIf_f c (rNo hT)))
