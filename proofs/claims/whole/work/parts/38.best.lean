/-! bestConstant; planned -/
theorem kAt.fr {σ τ : zS} {a : mA} (h : kAt σ 1 4 9 a) (e : ∀ r, r ∈ [1, 2, 3, 4, 5, 6, 7, 8, 9, 10] → τ.1 r = σ.1 r) : kAt τ 1 4 9 a := kAt_of (h.a0.of (fun r hr => e r (by revert r; decide))) (h.pl.of (e 9 (by decide)) (e 10 (by decide)))
theorem aUn_le (a : mA) (q : Nat → Nat) : aUn a q ≤ an a := fb_ct_le _ _
def mBc (a : mA) (v : Nat) : Bool := decide (aUn a (mCn a v) = 0)
theorem fc_loop {d : Nat} {a : mA} {σ : zS} {post : zPo} {X : zX} (hX : zClosed none (zCall (d + 5)) post nX2_findConstant X) (hb : aB a) (hc : kAt σ 1 4 9 a) (hl : kLa σ a) (hst : kSt σ) (h : ∀ τ, zFr [26, 27, 28, 29, 30, 31, 40] σ τ → post (some (.int (iI (mFs (mBc a) 52 0)))) τ) : ∀ (m i : Nat) (τ : zS), i + m = 52 → zFr [26, 27, 28, 29, 30, 31, 40] σ τ → mFs (mBc a) 52 0 = mFs (mBc a) m i → X 2 [some (.ref 39), some (.int (iI i))] [] τ
  | 0, i, τ, hm, f, e => by
    have e2 : i = 52 := by omega
    subst e2
    refine zq_X2_findConstant_2 hX _ τ (zIf_f (by decide) ?_)
    have := h τ f
    rw [e] at this
    exact this
  | m + 1, i, τ, hm, f, e => by
    have h60 := hb.n60
    refine zq_X2_findConstant_2 hX _ τ (zIf_t ?_ ?_)
    · rw [show (51 : Int32) = iI 51 from rfl, iI_le (by omega) (by omega) (by omega) (by omega)]; omega
    · refine sp_planC (d := d + 2) rfl rfl (by decide) hb (hc.a0.of (fun r hr => f.1 r (by revert r; decide))) (hl.of (fun r hr => f.1 r (by revert r; decide))) (show i ≤ 51 by omega) (fun τ1 f1 g1 => ?_)
      have f2 : zFr [26, 27, 28, 29, 30, 31, 40] σ τ1 := f.tr f1 (by decide)
      refine sp_follow (d := d) (a := a) (q := mCn a i) rfl (by decide) rfl hb (hc.fr (fun r hr => f2.1 r (by revert r; decide))) (hl.of (fun r hr => f2.1 r (by revert r; decide))) (fun q hq => by rw [f2.1 25 (by decide)]; exact hst q hq) (fun j hj => ⟨g1 j hj, mSn_b hb _ _⟩) (fun τ2 k2 => ?_)
      have f3 : zFr [26, 27, 28, 29, 30, 31, 40] σ τ2 := f2.tr k2.1 (by decide)
      rw [k2.2.1]
      have ez := n0_iI (n := aUn a (mCn a i)) (Nat.le_trans (aUn_le a _) h60)
      refine ⟨fun z => ?_, fun z => ?_⟩
      · have z2 : mBc a i = true := decide_eq_true (ez.mp z)
        have := h τ2 f3
        rw [e] at this
        unfold mFs at this
        rw [if_pos z2] at this
        exact this
      · have z2 : ¬ mBc a i = true := fun y => z (ez.mpr (of_decide_eq_true y))
        rw [iI_s]
        refine fc_loop hX hb hc hl hst h m (i + 1) τ2 (by omega) f3 ?_
        rw [e]
        show (if mBc a i = true then (i : Int) else mFs (mBc a) m (i + 1)) = _
        rw [if_neg z2]
theorem rF.q60 {f : Nat → Int32} {a : mA} {m : Bool} {q r : Nat → Nat} (h : rF f (aPl a m q)) (e : ∀ i, i < 60 → q i = r i) : rF f (aPl a m r) := by
  obtain ⟨a1, a2, a3, a4, a5, a6, a7, a8, a9, a10⟩ := h
  exact ⟨a1, a2, a3, a4, a5, a6, a7, a8, a9, fun i hi => by rw [a10 i hi]; exact congrArg (fun t : Nat => iI (t : Int)) (e i hi)⟩
theorem aPl_st {a : mA} {m : Bool} {q : Nat → Nat} {i x : Nat} : aPl (aPl a m q) (amd (aPl a m q)) (nU (aq (aPl a m q)) i x) = aPl a m (nU q i x) := rfl
theorem RI.st_ {τ : zS} {v : mV} {a : mA} {i x : Nat} (hb : aB a) (h : RI τ (vA v a)) (hi : i < 60) : RI (zSI τ 64 (208 + i) (iI x)) (vA v (aPl a (amd a) (nU (aq a) i x))) := ⟨rAt.st hb h.1 hi, h.2.of (by rw [zSI_1 (by decide)]) (zSI_1 (by decide)) (zSI_1 (by decide)) (zSI_1 (by decide)) rfl rfl rfl rfl⟩
/-- the old plan comes back -/
theorem bc87 {d : Nat} {v : mV} {b : Int} {q0 : Nat → Nat} {σ : zS} {post : zPo} {X : zX} (hX : zClosed none (zCall (d + 6)) post nX12_bestConstant X) (hv : vB v) (hq : ∀ i, i < 60 → q0 i ≤ 51) (h : ∀ τ, RI τ v → zHg σ τ → post (some (.int (iI b))) τ) : ∀ (m i : Nat) (τ : zS), i + m = 60 → RI τ (vA v (aPl (va v) (amd (va v)) (nM (aq (va v)) q0 i))) → zHg σ τ → (∀ j, j < 60 → τ.1 79 j = iI (aq (va v) j)) → X 87 [some (.ref 63), some (.int (iI b)), some (.int (iI i))] [] τ
  | 0, i, τ, hm, r, g, o => by
    have e2 : i = 60 := by omega
    subst e2
    refine zq_X12_bestConstant_87 hX _ _ τ (zIf_f (by decide) (h τ ?_ g))
    have r1 : rF (τ.1 64) (aPl (va v) (amd (va v)) (aq (va v))) := (rAt_0.mp r.1).q60 (fun i hi => nM_lt hi)
    exact ⟨rAt_0.mpr r1, r.2⟩
  | m + 1, i, τ, hm, r, g, o => by
    have hb2 : aB (aPl (va v) (amd (va v)) (nM (aq (va v)) q0 i)) := hv.1.pm (fun j hj => by
      unfold nM
      split
      · exact hv.1.q hj
      · exact hq j hj)
    refine zq_X12_bestConstant_87 hX _ _ τ (zIf_t ?_ ⟨vin_k (by show i < 60; omega) (by decide), ?_⟩)
    · rw [show (60 : Int32) = iI 60 from rfl, iI_lt (by omega) (by omega) (by omega) (by omega)]; omega
    · rw [iI_208p, iI_k (by omega), iI_k (by omega), o i (by omega), iI_s]
      have st := RI.st_ (x := aq (va v) i) hb2 r (show i < 60 by omega)
      refine ⟨vin_k (by show 208 + i < 268; omega) (by decide), bc87 hX hv hq h m (i + 1) _ (by omega) ?_ (g.si (by decide) _ _) (fun j hj => by rw [zSI_1 (by decide)]; exact o j hj)⟩
      rw [← nM_s]
      exact st
theorem bc50 {d : Nat} {v : mV} {σ : zS} {post : zPo} {X : zX} (hX : zClosed none (zCall (d + 6)) post nX12_bestConstant X) (hv : vB v) (h : ∀ τ, RI τ v → zHg σ τ → post (some (.int (iI (mFs (mBc (va v)) 52 0)))) τ) : ∀ (m i : Nat) (q : Nat → Nat) (τ : zS), i + m = 52 → (∀ j, j < 60 → q j ≤ 51) → RI τ (vA v (aPl (va v) (amd (va v)) q)) → rLa τ (va v) → zHg σ τ → (∀ j, j < 60 → τ.1 79 j = iI (aq (va v) j)) → mFs (mBc (va v)) 52 0 = mFs (mBc (va v)) m i → X 50 [some (.ref 63), some (.int (iI (-1))), some (.int (iI i))] [] τ
  | 0, i, q, τ, hm, hq, r, l, g, o, e => by
    have e2 : i = 52 := by omega
    subst e2
    refine zq_X12_bestConstant_50 hX _ _ τ (zIf_f (by decide) ?_)
    rw [e] at h
    exact bc87 hX hv hq h 60 0 τ rfl (by rw [nM_0]; exact r) g o
  | m + 1, i, q, τ, hm, hq, r, l, g, o, e => by
    have h60 := hv.1.n60
    have hb2 : aB (aPl (va v) (amd (va v)) q) := hv.1.pm hq
    refine zq_X12_bestConstant_50 hX _ _ τ (zIf_t ?_ (zIf_t (by decide) ?_))
    · rw [show (51 : Int32) = iI 51 from rfl, iI_le (by omega) (by omega) (by omega) (by omega)]; omega
    · refine sp_plansC (d := d + 3) (a := aPl (va v) (amd (va v)) q) hb2 r.1 l (show i ≤ 51 by omega) (fun τ1 f1 g1 => ?_)
      have q1 : ∀ j, j < 60 → nM (mCn (va v) i) q (an (va v)) j ≤ 51 := nM_b (fun j => mSn_b hv.1 _ _) hq
      have r1 : RI τ1 (vA v (aPl (va v) (amd (va v)) (nM (mCn (va v) i) q (an (va v))))) := r.pl g1 (fun r hr => f1.1 r (by revert r; decide)) (by rw [f1.1 63 (by decide)])
      have l1 : rLa τ1 (va v) := l.of (by rw [f1.1 63 (by decide)]) (by rw [f1.1 63 (by decide)]) (f1.1 67 (by decide)) (f1.1 68 (by decide)) (f1.1 69 (by decide)) (f1.1 70 (by decide)) (f1.1 71 (by decide))
      refine sp_now (d := d) (v := vA v (aPl (va v) (amd (va v)) (nM (mCn (va v) i) q (an (va v))))) (hv.a (hv.1.pm q1)) r1 l1 (fun τ2 k1 k2 k3 k4 => ?_)
      have ec : aUn (va v) (nM (mCn (va v) i) q (an (va v))) = aUn (va v) (mCn (va v) i) := aUn_cong (fun j hj => nM_lt hj)
      have ez := n0_iI (n := aUn (va v) (mCn (va v) i)) (Nat.le_trans (aUn_le (va v) _) h60)
      rw [← ec] at ez
      have g2 : zHg σ τ2 := (g.tr (f1.hg (by decide))).tr k3.1
      have o2 : ∀ j, j < 60 → τ2.1 79 j = iI (aq (va v) j) := fun j hj => by rw [k1.1.1 79 (by decide), f1.1 79 (by decide)]; exact o j hj
      refine ⟨fun z => ?_, fun z => ?_⟩
      · have z2 : mBc (va v) i = true := decide_eq_true (ec ▸ ez.mp z)
        have e3 : mFs (mBc (va v)) 52 0 = (i : Int) := by
          rw [e]
          unfold mFs
          rw [if_pos z2]
        rw [e3] at h
        rw [iI_s]
        have fin := bc87 hX hv q1 h 60 0 τ2 rfl (by rw [nM_0]; exact k2) g2 o2
        refine zq_X12_bestConstant_50 hX _ _ τ2 ⟨fun _ => zIf_f ?_ fin, fun _ => fin⟩
        rw [show (-1 : Int32) = iI (-1) from by decide, iI_eq (by omega) (by omega) (by omega) (by omega)]; omega
      · have z2 : ¬ mBc (va v) i = true := fun y => z (ez.mpr (by rw [ec]; exact of_decide_eq_true y))
        rw [iI_s]
        refine bc50 hX hv h m (i + 1) _ τ2 (by omega) q1 k2 k4 g2 o2 ?_
        rw [e]
        show (if mBc (va v) i = true then (i : Int) else mFs (mBc (va v)) m (i + 1)) = _
        rw [if_neg z2]
theorem bc18 {d : Nat} {v : mV} {σ : zS} {post : zPo} {X : zX} (hX : zClosed none (zCall (d + 6)) post nX12_bestConstant X) (hv : vB v) (hR : RI σ v) (h : ∀ τ, zFr [79] σ τ → (∀ j, j < 60 → τ.1 79 j = iI (aq (va v) j)) → X 50 [some (.ref 63), some (.int (iI (-1))), some (.int (iI (0 : Nat)))] [] τ) : ∀ (m i : Nat) (τ : zS), i + m = 60 → zFr [79] σ τ → (∀ j, j < i → τ.1 79 j = iI (aq (va v) j)) → X 18 [some (.ref 63), some (.int (iI i)), none] [] τ
  | 0, i, τ, hm, f, g => by
    have e2 : i = 60 := by omega
    subst e2
    exact zq_X12_bestConstant_18 hX _ τ (zIf_f (by decide) (h τ f g))
  | m + 1, i, τ, hm, f, g => by
    refine zq_X12_bestConstant_18 hX _ τ (zIf_t ?_ ?_)
    · rw [show (60 : Int32) = iI 60 from rfl, iI_lt (by omega) (by omega) (by omega) (by omega)]; omega
    · rw [iI_208p, iI_k (by omega), iI_k (by omega), iI_s]
      refine ⟨vin_k (by show 208 + i < 268; omega) (by decide), vin_k (by show i < 60; omega) (by decide), bc18 hX hv hR h m (i + 1) _ (by omega) (f.si (by decide) _ _) (fun j hj => ?_)⟩
      rw [zSI_at]
      by_cases e : j = i
      · rw [if_pos ⟨rfl, e⟩, f.1 64 (by decide), e]
        exact (rAt_0.mp hR.1).2.2.2.2.2.2.2.2.2 i (by omega)
      · rw [if_neg (fun z => e z.2)]; exact g j (by omega)
theorem pr_bestConstant {σ : zS} (g : G σ) : zPair nX11_bestConstant nX12_bestConstant [] σ := by
  obtain ⟨v, hv, hC, hR⟩ := g
  have n60 := hv.1.n60
  by_cases cn : an (va v) = 0
  · refine zP_I (v := v) (w := v) (-3) hv hR ?_ (fun τ hT => ?_)
    · exact ze_X11_bestConstant (d := 7) σ (fun X hX => zq_X11_bestConstant_0 (d := 1) hX σ (zIf_t (by rw [hC.1.1]; exact (n0_iI n60).mpr cn) (kNo hC)))
    · exact ze_X12_bestConstant (d := 7) τ (fun X hX => zq_X12_bestConstant_0 (d := 1) hX τ (zIf_t (by rw [hT.1.1]; exact (n0_iI n60).mpr cn) (rNo hT)))
  · refine zP_I (v := v) (w := v) (iI (mFs (mBc (va v)) 52 0)) hv hR ?_ (fun τ hT => ?_)
    · refine ze_X11_bestConstant (d := 7) σ (fun X hX => zq_X11_bestConstant_0 (d := 1) hX σ (zIf_f (by rw [hC.1.1]; exact fun z => cn ((n0_iI n60).mp z)) ?_))
      refine ze_X2_findConstant (d := 6) σ (fun Y hY => zq_X2_findConstant_0 (d := 1) hY σ ?_)
      exact fc_loop (d := 1) hY hv.1 hC.at hC.2.2.1 hC.2.2.2.1 (fun τ f => ⟨_, rfl, _, rfl, rfl, hC.fr f (by decide), f.lw (by decide)⟩) 52 0 σ rfl (zFr.rf _ _) rfl
    · refine ze_X12_bestConstant (d := 7) τ (fun X hX => zq_X12_bestConstant_0 (d := 1) hX τ (zIf_f (by rw [hT.1.1]; exact fun z => cn ((n0_iI n60).mp z)) ?_))
      refine sp_ty (d := 4) hv hT (fun υ h1 h2 l => ?_)
      refine bc18 (d := 1) (σ := υ) hX hv h1 (fun ω f g => ?_) 60 0 υ rfl (zFr.rf _ _) (fun j hj => absurd hj (Nat.not_lt_zero j))
      exact bc50 (d := 1) (σ := τ) hX hv (fun ψ k1 k2 => ⟨_, rfl, rfl, k1, k2⟩) 52 0 (aq (va v)) ω rfl (fun j hj => hv.1.q hj) (h1.fr f (by decide) (by rw [f.1 63 (by decide)])) (l.of (by rw [f.1 63 (by decide)]) (by rw [f.1 63 (by decide)]) (f.1 67 (by decide)) (f.1 68 (by decide)) (f.1 69 (by decide)) (f.1 70 (by decide)) (f.1 71 (by decide))) (h2.1.tr (f.hg (by decide))) g rfl
