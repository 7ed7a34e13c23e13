/-! pairs of calls: set, text, settings -/
theorem pr_set {p q r : Int32} {σ : zS} (g : G σ) : zPair nX11_set nX12_set [.int p, .int q, .int r] σ := by
  obtain ⟨v, hv, hC, hR⟩ := g
  have n60 := hv.1.n60
  by_cases cf : 0 ≤ p ∧ p ≤ iI (an (va v) : Int) - 1
  · by_cases c : (1 ≤ q ∧ q ≤ 4000) ∧ (0 ≤ r ∧ r ≤ 4000)
    · obtain ⟨t, rfl, t1, t2⟩ := rgN (p := q) 1 4000 (by decide) (by decide) c.1
      obtain ⟨m, rfl, _, m2⟩ := rgN (p := r) 0 4000 (by decide) (by decide) c.2
      obtain ⟨f, rfl, hf⟩ := (isF n60).mp cf
      have tb : mB (an (va v)) (nU (atx (va v)) f t) (nU (amo (va v)) f m) := ⟨by omega, fun i hi => by
        by_cases e : i = f
        · rw [e, nU_s, nU_s]; omega
        · rw [nU_n e, nU_n e]; exact hv.1.1.2 i (by omega)⟩
      have ab := hv.1.clip tb
      refine zP_I (v := v) (w := vA v (aClip (va v) (an (va v)) (nU (atx (va v)) f t) (nU (amo (va v)) f m))) (if mCut (nU (atx (va v)) f t) (nU (amo (va v)) f m) f = true then 1 else 0) (hv.a ab) hR ?_ (fun τ hT => ?_)
      · refine ze_X11_set (d := 7) _ _ _ σ (fun X hX => zq_X11_set_0 (d := 2) hX _ _ _ σ (zIf_t (by rw [hC.1.1]; exact cf) ?_))
        refine sp_isPicture (d := 5) (fun _ => ?_) (fun z => absurd c z)
        refine zIf_f (by decide) ?_
        rw [zPt_k (show f < zN 2 by show f < 60; omega), zPt_k (show f < zN 3 by show f < 60; omega)]
        refine sp_anew (d := 2) (v := v) hC (((zFr.rf _ σ).si (by decide) _ _).si (by decide) _ _) ab rfl (hC.1.clip (fun r hr => ?_) ?_ ?_ ?_) (fun υ h1 h2 h3 => ?_)
        · rw [zSI_1 (by revert r; decide), zSI_1 (by revert r; decide)]
        · rw [zSI_1 (by decide), zSI_1 (by decide)]; exact hC.1.1
        · rw [zSI_1 (by decide), zSI_s]
          exact upd_n (fun i hi e => hC.1.2.1 i (by omega))
        · rw [zSI_s, zSI_1 (by decide)]
          exact upd_n (fun i hi e => hC.1.2.2.1 i (by omega))
        · have e := cCut_iff (n := an (va v)) (tx := nU (atx (va v)) f t) (mo := nU (amo (va v)) f m) tb (h1.at.kC) hf
          exact ⟨fun z => ⟨_, rfl, (if_pos (e.mp z)).symm, h1, h2⟩, fun z => ⟨_, rfl, (if_neg (fun y => z (e.mpr y))).symm, h1, h2⟩⟩
      · have r0 := hT.1.1
        refine ze_X12_set (d := 7) _ _ _ τ (fun X hX => zq_X12_set_0 (d := 5) hX _ _ _ τ (zIf_t (by rw [r0]; exact cf) (zIf_t c.1 (zIf_t c.2 ?_))))
        rw [iI_1p, iI_k (by omega), iI_61p, iI_k (by omega)]
        refine ⟨vin_k (by show 1 + f < 268; omega) (by decide), vin_k (by show 61 + f < 268; omega) (by decide), sp_forgets (d := 6) ⟨rCo_k (by omega), ?_⟩⟩
        have hI : RI (zSI (zSI (zSI τ 64 (1 + f) (iI t)) 64 (61 + f) (iI m)) 64 207 0) (vA v (aClip (va v) (an (va v)) (nU (atx (va v)) f t) (nU (amo (va v)) f m))) := by
          refine hT.m (rF.clip hv.1 (rAt_0.mp hT.1) ?_ (fun i hi => ?_) (fun i hi => ?_) (by simp [zSI_at]) (fun j h1 h2 => ?_)) (fun r hr => ?_)
          · rw [zSI_at, if_neg (by omega), zSI_at, if_neg (by omega), zSI_at, if_neg (by omega)]; exact r0
          · rw [zSI_at, if_neg (by omega), zSI_at, if_neg (by omega), zSI_at]
            by_cases e : i = f
            · rw [if_pos (by omega), e, nU_s]
            · rw [if_neg (by omega), nU_n e]
              exact (rAt_0.mp hT.1).2.1 i (by omega)
          · rw [zSI_at, if_neg (by omega), zSI_at]
            by_cases e : i = f
            · rw [if_pos (by omega), e, nU_s]
            · rw [if_neg (by omega), zSI_at, if_neg (by omega), nU_n e]
              exact (rAt_0.mp hT.1).2.2.1 i (by omega)
          · rw [zSI_at, if_neg (by omega), zSI_at, if_neg (by omega), zSI_at, if_neg (by omega)]
          · rw [zSI_1 hr, zSI_1 hr, zSI_1 hr]
        have hH : zHg τ (zSI (zSI (zSI τ 64 (1 + f) (iI t)) 64 (61 + f) (iI m)) 64 207 0) := (((zHg.rf τ).si (by decide) _ _).si (by decide) _ _).si (by decide) _ _
        have e := rCut_iff (n := an (va v)) (tx := nU (atx (va v)) f t) (mo := nU (amo (va v)) f m) tb (hI.1.kR) hf
        exact ⟨fun z => ⟨_, rfl, (if_pos (e.mp z)).symm, hI, hH⟩, fun z => ⟨_, rfl, (if_neg (fun y => z (e.mpr y))).symm, hI, hH⟩⟩
    · refine zP_I (v := v) (w := v) (-2) hv hR ?_ (fun τ hT => ?_)
      · exact ze_X11_set (d := 7) _ _ _ σ (fun X hX => zq_X11_set_0 (d := 2) hX _ _ _ σ (zIf_t (by rw [hC.1.1]; exact cf) (sp_isPicture (d := 5) (fun z => absurd z c) (fun _ => zIf_t rfl (kNo hC)))))
      · exact ze_X12_set (d := 7) _ _ _ τ (fun X hX => zq_X12_set_0 (d := 5) hX _ _ _ τ (zIf_t (by rw [hT.1.1]; exact cf) ⟨fun c1 => ⟨fun c2 => absurd ⟨c1, c2⟩ c, fun _ => rNo hT⟩, fun _ => rNo hT⟩))
  · refine zP_I (v := v) (w := v) (-2) hv hR ?_ (fun τ hT => ?_)
    · exact ze_X11_set (d := 7) _ _ _ σ (fun X hX => zq_X11_set_0 (d := 2) hX _ _ _ σ (zIf_f (by rw [hC.1.1]; exact cf) (kNo hC)))
    · exact ze_X12_set (d := 7) _ _ _ τ (fun X hX => zq_X12_set_0 (d := 5) hX _ _ _ τ (zIf_f (by rw [hT.1.1]; exact cf) (rNo hT)))
-- the text
theorem CI.tx {σ τ : zS} {v : mV} {l : Nat} {t : Nat → Nat} (h : CI σ v) (f : zFr [11, 15] σ τ) (h1 : τ.1 11 0 = iI l) (h2 : ∀ i, i < l → τ.1 15 i = iI (t i)) : CI τ (vT v l t) := by
  obtain ⟨g1, g2, g3, k1, k2, k3, k4, k5, k6, k7⟩ := h
  have e : ∀ r, r ∈ [1, 2, 3, 4, 5, 6, 7, 8, 9, 10, 16, 17, 18, 19, 20, 21, 22, 23, 25, 41, 42, 43, 44, 45, 46, 47, 48, 49, 50, 51, 52, 53, 54, 55, 56, 57, 58, 59, 60, 61, 62] → τ.1 r = σ.1 r := fun r hr => f.1 r (by revert r; decide)
  refine ⟨g1.of (fun r hr => e r (by revert r; decide)), g2.of (e 9 (by decide)) (e 10 (by decide)), g3.of (fun r hr => e r (by revert r; decide)), fun q hq => by rw [e 25 (by decide)]; exact k1 q hq, h1, h2, ?_, fun z => kAt_of ((k5 z).a0.of (fun r hr => e r (by revert r; decide))) ((k5 z).pl.of (e 50 (by decide)) (e 51 (by decide))), ?_, fun z => kAt_of ((k7 z).a0.of (fun r hr => e r (by revert r; decide))) ((k7 z).pl.of (e 61 (by decide)) (e 62 (by decide)))⟩
  · rw [e 41 (by decide)]; exact k4
  · rw [e 52 (by decide)]; exact k6
theorem RI.tx {σ τ : zS} {v : mV} {l : Nat} {t : Nat → Nat} (h : RI σ v) (f : ∀ r, r ∈ [64, 65, 66] → τ.1 r = σ.1 r) (h1 : τ.1 63 16 = iI l) (h2 : ∀ i, i < l → τ.1 76 i = iI (t i)) : RI τ (vT v l t) := by
  obtain ⟨g1, k1, k2, k3, k4, k5, k6⟩ := h
  refine ⟨g1.of (f 64 (by decide)), h1, h2, ?_, fun z => (k4 z).of (f 65 (by decide)), ?_, fun z => (k6 z).of (f 65 (by decide))⟩
  · rw [f 66 (by decide)]; exact k3
  · rw [f 66 (by decide)]; exact k5
theorem pr_type {p : Int32} {σ : zS} (g : G σ) : zPair nX11_type nX12_type [.int p] σ := by
  obtain ⟨v, hv, hC, hR⟩ := g
  have l100 := hv.2.2.2.1
  have hl := hC.2.2.2.2.1
  by_cases c : 0 ≤ p ∧ p ≤ 127
  · by_cases cl : vl v < 100
    · obtain ⟨t, rfl, _, t2⟩ := rgN (p := p) 0 127 (by decide) (by decide) c
      have wb : vB (vT v (vl v + 1) (nU (vt v) (vl v) t)) := ⟨hv.1, hv.2.1, hv.2.2.1, (by show vl v + 1 ≤ 100; omega), fun i hi => by
        show nU (vt v) (vl v) t i ≤ 127
        by_cases e : i = vl v
        · rw [e, nU_s]; omega
        · rw [nU_n e]; exact hv.2.2.2.2 i (by have : i < vl v + 1 := hi; omega)⟩
      refine zP_I (v := v) (w := vT v (vl v + 1) (nU (vt v) (vl v) t)) (iI ((vl v + 1 : Nat) : Int)) wb hR ?_ (fun τ hT => ?_)
      · refine ze_X11_type (d := 7) _ σ (fun X hX => zq_X11_type_0 (d := 5) hX _ σ (zIf_t c (zIf_t ?_ ?_)))
        · rw [hl, show (100 : Int32) = iI 100 from rfl, iI_lt (by omega) (by omega) (by omega) (by omega)]; omega
        · refine ze_X10_add (d := 6) _ σ (fun X hX => zq_X10_add_0 (d := 5) hX _ σ ⟨rfl, ?_⟩)
          rw [hl, zPt_k (show vl v < zN 15 from cl), iI_s]
          refine ⟨_, rfl, by simp [zSI_at], hC.tx (((zFr.rf _ σ).si (by decide) _ _).si (by decide) _ _) (by simp [zSI_at]) ?_, ((zLw.rf σ).si (by decide) _ _).si (by decide) _ _⟩
          rw [zSI_1 (by decide), zSI_s]
          exact upd_n (fun i hi e => hC.2.2.2.2.2.1 i (by omega))
      · have hl2 := hT.2.1
        refine ze_X12_type (d := 7) _ τ (fun X hX => zq_X12_type_0 (d := 6) hX _ τ (zIf_t c (zIf_f ?_ ?_)))
        · rw [hl2, show (100 : Int32) = iI 100 from rfl, iI_eq (by omega) (by omega) (by omega) (by omega)]; omega
        · rw [hl2, iI_k (by omega), iI_s]
          refine ⟨vin_k (show vl v < zN 76 from cl) (by decide), _, rfl, rfl, hT.tx (fun r hr => ?_) (by simp [zSI_at]) ?_, ((zHg.rf τ).si (by decide) _ _).si (by decide) _ _⟩
          · rw [zSI_1 (by revert r; decide), zSI_1 (by revert r; decide)]
          · rw [zSI_1 (by decide), zSI_s]
            exact upd_n (fun i hi e => hT.2.2.1 i (by omega))
    · have e : vl v = 100 := by omega
      refine zP_I (v := v) (w := v) (-4) hv hR ?_ (fun τ hT => ?_)
      · exact ze_X11_type (d := 7) _ σ (fun X hX => zq_X11_type_0 (d := 5) hX _ σ (zIf_t c (zIf_f (by rw [hl, e]; decide) (kNo hC))))
      · exact ze_X12_type (d := 7) _ τ (fun X hX => zq_X12_type_0 (d := 6) hX _ τ (zIf_t c (zIf_t (by rw [hT.2.1, e]; rfl) (rNo hT))))
  · refine zP_I (v := v) (w := v) (-2) hv hR ?_ (fun τ hT => ?_)
    · exact ze_X11_type (d := 7) _ σ (fun X hX => zq_X11_type_0 (d := 5) hX _ σ (zIf_f c (kNo hC)))
    · exact ze_X12_type (d := 7) _ τ (fun X hX => zq_X12_type_0 (d := 6) hX _ τ (zIf_f c (rNo hT)))
theorem vB.t0 {v : mV} (h : vB v) : vB (vT v 0 (vt v)) := ⟨h.1, h.2.1, h.2.2.1, Nat.zero_le _, fun i hi => absurd hi (Nat.not_lt_zero i)⟩
theorem pr_clear {σ : zS} (g : G σ) : zPair nX11_clear nX12_clear [] σ := by
  obtain ⟨v, hv, hC, hR⟩ := g
  refine zP_I (v := v) (w := vT v 0 (vt v)) (iI (vl v)) hv.t0 hR ?_ (fun τ hT => ?_)
  · exact ze_X11_clear (d := 7) σ (fun X hX => zq_X11_clear_0 (d := 7) hX σ ⟨_, rfl, hC.2.2.2.2.1, hC.tx ((zFr.rf _ σ).si (by decide) _ _) (by simp [zSI_at]; rfl) (fun i hi => absurd hi (Nat.not_lt_zero i)), (zLw.rf σ).si (by decide) _ _⟩)
  · exact ze_X12_clear (d := 7) τ (fun X hX => zq_X12_clear_0 (d := 7) hX τ ⟨_, rfl, hT.2.1, hT.tx (fun r hr => zSI_1 (by revert r; decide)) (by simp [zSI_at]; rfl) (fun i hi => absurd hi (Nat.not_lt_zero i)), (zHg.rf τ).si (by decide) _ _⟩)
-- settings
theorem fz_64 {σ : zS} (j : Nat) (x : Int32) : ∀ r, r ≠ 64 → (zSI σ 64 j x).1 r = σ.1 r := fun _ hr => zSI_1 hr
theorem pr_setInterval {p : Int32} {σ : zS} (g : G σ) : zPair nX11_setInterval nX12_setInterval [.int p] σ := by
  obtain ⟨v, hv, hC, hR⟩ := g
  by_cases c : 1 ≤ p ∧ p ≤ 60
  · obtain ⟨t, rfl, t1, t2⟩ := rgN (p := p) 1 60 (by decide) (by decide) c
    have b := hv.1
    have ab : aB (aSet (va v) (nU (aS (va v)) 0 t) false) := b.set ⟨t1, t2⟩ b.2.2.1 b.2.2.2.1 b.2.2.2.2.1 b.2.2.2.2.2.1 b.2.2.2.2.2.2.1 rfl (fun z => absurd (show (false : Bool) = true from z) (by decide))
    refine zP_I (v := v) (w := vA v (aSet (va v) (nU (aS (va v)) 0 t) false)) (iI (aS (va v) 0)) (hv.a ab) hR ?_ (fun τ hT => ?_)
    · refine ze_X11_setInterval (d := 7) _ σ (fun X hX => zq_X11_setInterval_0 (d := 2) hX _ σ (zIf_t c ?_))
      refine sp_anew (d := 2) (v := v) hC ((zFr.rf _ σ).si (by decide) _ _) ab rfl (hC.1.set (fun r hr => zSI_1 (by revert r; decide)) ?_ rfl) (fun υ h1 h2 h3 => ⟨_, rfl, hC.1.2.2.2.1 0 (by decide), h1, h2⟩)
      rw [zSI_s]
      exact upd_n (fun i hi e => hC.1.2.2.2.1 i hi)
    · refine ze_X12_setInterval (d := 7) _ τ (fun X hX => zq_X12_setInterval_0 (d := 6) hX _ τ (zIf_t c (sp_forgets (d := 6) ?_)))
      have f := rAt_0.mp hT.1
      refine sp_sets (d := 6) (j := 181) (by decide) ⟨_, rfl, ?_, hT.m (rF.set hv.1 f rfl (fun j hj => ?_) (by simp [zSI_at]) (fun j h1 h2 => ?_)) (fun r hr => (zSI_1 hr).trans (zSI_1 hr)), ((zHg.rf τ).si (by decide) _ _).si (by decide) _ _⟩
      · rw [zSI_at, if_neg (by decide)]; exact f.2.2.2.1 0 (by decide)
      · rw [zSI_at]
        by_cases e : j = 0
        · rw [if_pos (by omega), e, nU_s]
        · rw [if_neg (by omega), zSI_at, if_neg (by omega), nU_n e]; exact f.2.2.2.1 j hj
      · rw [zSI_at, if_neg (by omega), zSI_at, if_neg (by omega)]
  · refine zP_I (v := v) (w := v) (-2) hv hR ?_ (fun τ hT => ?_)
    · exact ze_X11_setInterval (d := 7) _ σ (fun X hX => zq_X11_setInterval_0 (d := 2) hX _ σ (zIf_f c (kNo hC)))
    · exact ze_X12_setInterval (d := 7) _ τ (fun X hX => zq_X12_setInterval_0 (d := 6) hX _ τ (zIf_f c (rNo hT)))
theorem pr_setBridges {p : Int32} {σ : zS} (g : G σ) : zPair nX11_setBridges nX12_setBridges [.int p] σ := by
  obtain ⟨v, hv, hC, hR⟩ := g
  by_cases c : 0 ≤ p ∧ p ≤ 3
  · obtain ⟨t, rfl, t1, t2⟩ := rgN (p := p) 0 3 (by decide) (by decide) c
    have b := hv.1
    have ab : aB (aSet (va v) (nU (aS (va v)) 1 t) false) := b.set b.2.1 t2 b.2.2.2.1 b.2.2.2.2.1 b.2.2.2.2.2.1 b.2.2.2.2.2.2.1 rfl (fun z => absurd (show (false : Bool) = true from z) (by decide))
    refine zP_I (v := v) (w := vA v (aSet (va v) (nU (aS (va v)) 1 t) false)) (iI (aS (va v) 1)) (hv.a ab) hR ?_ (fun τ hT => ?_)
    · refine ze_X11_setBridges (d := 7) _ σ (fun X hX => zq_X11_setBridges_0 (d := 2) hX _ σ (zIf_t c ?_))
      refine sp_anew (d := 2) (v := v) hC ((zFr.rf _ σ).si (by decide) _ _) ab rfl (hC.1.set (fun r hr => zSI_1 (by revert r; decide)) ?_ rfl) (fun υ h1 h2 h3 => ⟨_, rfl, hC.1.2.2.2.1 1 (by decide), h1, h2⟩)
      rw [zSI_s]
      exact upd_n (fun i hi e => hC.1.2.2.2.1 i hi)
    · refine ze_X12_setBridges (d := 7) _ τ (fun X hX => zq_X12_setBridges_0 (d := 6) hX _ τ (zIf_t c (sp_forgets (d := 6) ?_)))
      have f := rAt_0.mp hT.1
      refine sp_sets (d := 6) (j := 182) (by decide) ⟨_, rfl, ?_, hT.m (rF.set hv.1 f rfl (fun j hj => ?_) (by simp [zSI_at]) (fun j h1 h2 => ?_)) (fun r hr => (zSI_1 hr).trans (zSI_1 hr)), ((zHg.rf τ).si (by decide) _ _).si (by decide) _ _⟩
      · rw [zSI_at, if_neg (by decide)]; exact f.2.2.2.1 1 (by decide)
      · rw [zSI_at]
        by_cases e : j = 1
        · rw [if_pos (by omega), e, nU_s]
        · rw [if_neg (by omega), zSI_at, if_neg (by omega), nU_n e]; exact f.2.2.2.1 j hj
      · rw [zSI_at, if_neg (by omega), zSI_at, if_neg (by omega)]
  · refine zP_I (v := v) (w := v) (-2) hv hR ?_ (fun τ hT => ?_)
    · exact ze_X11_setBridges (d := 7) _ σ (fun X hX => zq_X11_setBridges_0 (d := 2) hX _ σ (zIf_f c (kNo hC)))
    · exact ze_X12_setBridges (d := 7) _ τ (fun X hX => zq_X12_setBridges_0 (d := 6) hX _ τ (zIf_f c (rNo hT)))
theorem am_if {τ : zS} {a : mA} (h : rF (τ.1 64) a) : τ.1 64 207 = if amd a = true then 1 else 0 := h.2.2.2.2.2.2.2.2.1
theorem pr_setRate {p : Int32} {σ : zS} (g : G σ) : zPair nX11_setRate nX12_setRate [.int p] σ := by
  obtain ⟨v, hv, hC, hR⟩ := g
  by_cases c : 0 ≤ p ∧ p ≤ 100000
  · obtain ⟨t, rfl, t1, t2⟩ := rgN (p := p) 0 100000 (by decide) (by decide) c
    have b := hv.1
    have ab : aB (aSet (va v) (nU (aS (va v)) 6 t) (amd (va v))) := b.set b.2.1 b.2.2.1 b.2.2.2.1 b.2.2.2.2.1 b.2.2.2.2.2.1 t2 rfl (fun z => z)
    refine zP_I (v := v) (w := vA v (aSet (va v) (nU (aS (va v)) 6 t) (amd (va v)))) (iI (aS (va v) 6)) (hv.a ab) hR ?_ (fun τ hT => ?_)
    · refine ze_X11_setRate (d := 7) _ σ (fun X hX => zq_X11_setRate_0 (d := 6) hX _ σ (zIf_t c ⟨_, rfl, hC.1.2.2.2.1 6 (by decide), hC.pa ((zFr.rf _ σ).si (by decide) _ _) (hC.1.set (fun r hr => zSI_1 (by revert r; decide)) ?_ rfl) (hC.2.1.of (zSI_1 (by decide)) (zSI_1 (by decide))) ((hC.2.2.1.of (fun r hr => zSI_1 (by revert r; decide))).set rfl rfl), (zLw.rf σ).si (by decide) _ _⟩))
      rw [zSI_s]
      exact upd_n (fun i hi e => hC.1.2.2.2.1 i hi)
    · have f := rAt_0.mp hT.1
      refine ze_X12_setRate (d := 7) _ τ (fun X hX => zq_X12_setRate_0 (d := 6) hX _ τ (zIf_t c ?_))
      refine sp_sets (d := 6) (j := 187) (by decide) ⟨_, rfl, f.2.2.2.1 6 (by decide), hT.m (rF.set hv.1 f rfl (fun j hj => ?_) ?_ (fun j h1 h2 => ?_)) (fun r hr => zSI_1 hr), (zHg.rf τ).si (by decide) _ _⟩
      · rw [zSI_at]
        by_cases e : j = 6
        · rw [if_pos (by omega), e, nU_s]
        · rw [if_neg (by omega), nU_n e]; exact f.2.2.2.1 j hj
      · rw [zSI_at, if_neg (by omega)]; exact am_if f
      · rw [zSI_at, if_neg (by omega)]
  · refine zP_I (v := v) (w := v) (-2) hv hR ?_ (fun τ hT => ?_)
    · exact ze_X11_setRate (d := 7) _ σ (fun X hX => zq_X11_setRate_0 (d := 6) hX _ σ (zIf_f c (kNo hC)))
    · exact ze_X12_setRate (d := 7) _ τ (fun X hX => zq_X12_setRate_0 (d := 6) hX _ τ (zIf_f c (rNo hT)))
theorem pr_setBuffer {p q : Int32} {σ : zS} (g : G σ) : zPair nX11_setBuffer nX12_setBuffer [.int p, .int q] σ := by
  obtain ⟨v, hv, hC, hR⟩ := g
  by_cases c : (100 ≤ p ∧ p ≤ 1000000) ∧ 0 ≤ q ∧ q ≤ 100
  · obtain ⟨t, rfl, t1, t2⟩ := rgN (p := p) 100 1000000 (by decide) (by decide) c.1
    obtain ⟨s, rfl, _, s2⟩ := rgN (p := q) 0 100 (by decide) (by decide) c.2
    have b := hv.1
    have ab : aB (aSet (va v) (nU (nU (aS (va v)) 4 t) 5 s) (amd (va v))) := b.set b.2.1 b.2.2.1 b.2.2.2.1 ⟨t1, t2⟩ s2 b.2.2.2.2.2.2.1 rfl (fun z => z)
    refine zP_I (v := v) (w := vA v (aSet (va v) (nU (nU (aS (va v)) 4 t) 5 s) (amd (va v)))) (iI (aS (va v) 4)) (hv.a ab) hR ?_ (fun τ hT => ?_)
    · refine ze_X11_setBuffer (d := 7) _ _ σ (fun X hX => zq_X11_setBuffer_0 (d := 6) hX _ _ σ (zIf_t c.1 (zIf_t c.2 ⟨_, rfl, hC.1.2.2.2.1 4 (by decide), hC.pa (((zFr.rf _ σ).si (by decide) _ _).si (by decide) _ _) (hC.1.set (fun r hr => (zSI_1 (by revert r; decide)).trans (zSI_1 (by revert r; decide))) ?_ rfl) (hC.2.1.of ((zSI_1 (by decide)).trans (zSI_1 (by decide))) ((zSI_1 (by decide)).trans (zSI_1 (by decide)))) ((hC.2.2.1.of (fun r hr => (zSI_1 (by revert r; decide)).trans (zSI_1 (by revert r; decide)))).set rfl rfl), ((zLw.rf σ).si (by decide) _ _).si (by decide) _ _⟩)))
      rw [zSI_s]
      refine upd_n (fun i hi e => ?_)
      rw [zSI_s]
      exact upd_n (fun i hi e => hC.1.2.2.2.1 i hi) i hi
    · have f := rAt_0.mp hT.1
      refine ze_X12_setBuffer (d := 7) _ _ τ (fun X hX => zq_X12_setBuffer_0 (d := 6) hX _ _ τ (zIf_t c.1 (zIf_t c.2 ?_)))
      refine sp_sets (d := 6) (j := 185) (by decide) ⟨_, rfl, ?_, hT.m (rF.set hv.1 f rfl (fun j hj => ?_) ?_ (fun j h1 h2 => ?_)) (fun r hr => (zSI_1 hr).trans (zSI_1 hr)), ((zHg.rf τ).si (by decide) _ _).si (by decide) _ _⟩
      · rw [zSI_at, if_neg (by decide)]; exact f.2.2.2.1 4 (by decide)
      · rw [zSI_at]
        by_cases e : j = 4
        · rw [if_pos (by omega), e, nU_n (by decide), nU_s]
        · rw [if_neg (by omega), zSI_at]
          by_cases e5 : j = 5
          · rw [if_pos (by omega), e5, nU_s]
          · rw [if_neg (by omega), nU_n e5, nU_n e]; exact f.2.2.2.1 j hj
      · rw [zSI_at, if_neg (by omega), zSI_at, if_neg (by omega)]; exact am_if f
      · rw [zSI_at, if_neg (by omega), zSI_at, if_neg (by omega)]
  · refine zP_I (v := v) (w := v) (-2) hv hR ?_ (fun τ hT => ?_)
    · exact ze_X11_setBuffer (d := 7) _ _ σ (fun X hX => zq_X11_setBuffer_0 (d := 6) hX _ _ σ ⟨fun c1 => ⟨fun c2 => absurd ⟨c1, c2⟩ c, fun _ => kNo hC⟩, fun _ => kNo hC⟩)
    · exact ze_X12_setBuffer (d := 7) _ _ τ (fun X hX => zq_X12_setBuffer_0 (d := 6) hX _ _ τ ⟨fun c1 => ⟨fun c2 => absurd ⟨c1, c2⟩ c, fun _ => rNo hT⟩, fun _ => rNo hT⟩)
theorem pr_setRange {p q : Int32} {σ : zS} (g : G σ) : zPair nX11_setRange nX12_setRange [.int p, .int q] σ := by
  obtain ⟨v, hv, hC, hR⟩ := g
  by_cases c : (0 ≤ p ∧ p ≤ 51) ∧ p ≤ q ∧ q ≤ 51
  · obtain ⟨t, rfl, t1, t2⟩ := rgN (p := p) 0 51 (by decide) (by decide) c.1
    obtain ⟨s, rfl, s1, s2⟩ := rgN (p := q) t 51 (by omega) (by decide) c.2
    have b := hv.1
    have ab : aB (aSet (va v) (nU (nU (aS (va v)) 2 t) 3 s) (amd (va v))) := b.set b.2.1 b.2.2.1 ⟨s1, s2⟩ b.2.2.2.2.1 b.2.2.2.2.2.1 b.2.2.2.2.2.2.1 rfl (fun z => z)
    refine zP_I (v := v) (w := vA v (aSet (va v) (nU (nU (aS (va v)) 2 t) 3 s) (amd (va v)))) (100 * iI (aS (va v) 2) + iI (aS (va v) 3)) (hv.a ab) hR ?_ (fun τ hT => ?_)
    · refine ze_X11_setRange (d := 7) _ _ σ (fun X hX => zq_X11_setRange_0 (d := 5) hX _ _ σ (zIf_t c.1 (zIf_t c.2 ⟨_, rfl, ?_, hC.pa (((zFr.rf _ σ).si (by decide) _ _).si (by decide) _ _) (hC.1.set (fun r hr => (zSI_1 (by revert r; decide)).trans (zSI_1 (by revert r; decide))) ?_ rfl) (hC.2.1.of ((zSI_1 (by decide)).trans (zSI_1 (by decide))) ((zSI_1 (by decide)).trans (zSI_1 (by decide)))) ((hC.2.2.1.of (fun r hr => (zSI_1 (by revert r; decide)).trans (zSI_1 (by revert r; decide)))).set rfl rfl), ((zLw.rf σ).si (by decide) _ _).si (by decide) _ _⟩)))
      · rw [hC.1.2.2.2.1 2 (by decide), hC.1.2.2.2.1 3 (by decide)]
      · rw [zSI_s]
        refine upd_n (fun i hi e => ?_)
        rw [zSI_s]
        exact upd_n (fun i hi e => hC.1.2.2.2.1 i hi) i hi
    · have f := rAt_0.mp hT.1
      refine ze_X12_setRange (d := 7) _ _ τ (fun X hX => zq_X12_setRange_0 (d := 6) hX _ _ τ (zIf_t c.1 (zIf_t c.2 ?_)))
      refine sp_sets (d := 6) (j := 183) (by decide) (sp_sets (d := 6) (j := 184) (by decide) ⟨_, rfl, ?_, hT.m (rF.set hv.1 f rfl (fun j hj => ?_) ?_ (fun j h1 h2 => ?_)) (fun r hr => (zSI_1 hr).trans (zSI_1 hr)), ((zHg.rf τ).si (by decide) _ _).si (by decide) _ _⟩)
      · have f2 := f.2.2.2.1 2 (by decide)
        have f3 := f.2.2.2.1 3 (by decide)
        rw [zSI_at, if_neg (by decide)]
        show 100 * τ.1 64 (181 + 2) + τ.1 64 (181 + 3) = _
        rw [f2, f3]
      · rw [zSI_at]
        by_cases e : j = 3
        · rw [if_pos (by omega), e, nU_s]
        · rw [if_neg (by omega), zSI_at, nU_n e]
          by_cases e5 : j = 2
          · rw [if_pos (by omega), e5, nU_s]
          · rw [if_neg (by omega), nU_n e5]; exact f.2.2.2.1 j hj
      · rw [zSI_at, if_neg (by omega), zSI_at, if_neg (by omega)]; exact am_if f
      · rw [zSI_at, if_neg (by omega), zSI_at, if_neg (by omega)]
  · refine zP_I (v := v) (w := v) (-2) hv hR ?_ (fun τ hT => ?_)
    · exact ze_X11_setRange (d := 7) _ _ σ (fun X hX => zq_X11_setRange_0 (d := 5) hX _ _ σ ⟨fun c1 => ⟨fun c2 => absurd ⟨c1, c2⟩ c, fun _ => kNo hC⟩, fun _ => kNo hC⟩)
    · exact ze_X12_setRange (d := 7) _ _ τ (fun X hX => zq_X12_setRange_0 (d := 6) hX _ _ τ ⟨fun c1 => ⟨fun c2 => absurd ⟨c1, c2⟩ c, fun _ => rNo hT⟩, fun _ => rNo hT⟩)
