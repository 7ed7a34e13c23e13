/-! repair: the reference's rounds; the pair -/
theorem rr106 {d : Nat} {v : mV} {q0 : Nat → Nat} {σ : zS} {post : zPo} {X : zX} (hX : zClosed none (zCall (d + 6)) post nX12_repair X) (hv : vB v) (hq : ∀ i, i < 60 → q0 i ≤ 51) (h : ∀ τ, RI τ v → zHg σ τ → post (some (.int (-3))) τ) : ∀ (m i : Nat) (τ : zS), i + m = 60 → RI τ (vA v (aPl (va v) (amd (va v)) (nM (aq (va v)) q0 i))) → zHg σ τ → (∀ j, j < 60 → τ.1 79 j = iI (aq (va v) j)) → X 106 [some (.ref 63), none, none, none, none, some (.int (iI i))] [] τ
  | 0, i, τ, hm, r, g, o => by
    have e2 : i = 60 := by omega
    subst e2
    refine zq_X12_repair_106 hX _ τ (zIf_f (by decide) (h τ ?_ g))
    have r1 : rF (τ.1 64) (aPl (va v) (amd (va v)) (aq (va v))) := (rAt_0.mp r.1).q60 (fun i hi => nM_lt hi)
    exact ⟨rAt_0.mpr r1, r.2⟩
  | m + 1, i, τ, hm, r, g, o => by
    have hb2 : aB (aPl (va v) (amd (va v)) (nM (aq (va v)) q0 i)) := hv.1.pm (fun j hj => by
      unfold nM
      split
      · exact hv.1.q hj
      · exact hq j hj)
    refine zq_X12_repair_106 hX _ τ (zIf_t ?_ ⟨vin_k (by show i < 60; omega) (by decide), ?_⟩)
    · rw [show (60 : Int32) = iI 60 from rfl, iI_lt (by omega) (by omega) (by omega) (by omega)]; omega
    · rw [iI_208p, iI_k (by omega), iI_k (by omega), o i (by omega), iI_s]
      have st := RI.st_ (x := aq (va v) i) hb2 r (show i < 60 by omega)
      refine ⟨vin_k (by show 208 + i < 268; omega) (by decide), rr106 hX hv hq h m (i + 1) _ (by omega) ?_ (g.si (by decide) _ _) (fun j hj => by rw [zSI_1 (by decide)]; exact o j hj)⟩
      rw [← nM_s]
      exact st
theorem rr62 {d r u : Nat} {v : mV} {q : Nat → Nat} {τ : zS} {post : zPo} {X : zX} (hX : zClosed none (zCall (d + 6)) post nX12_repair X) (hv : vB v) (hu : u < an (va v)) (h72 : ∀ p, p < an (va v) → τ.1 72 p = iI (aBe (va v) q p)) (s4 : τ.1 64 185 = iI (aS (va v) 4)) : ∀ (w : Nat), w ≤ u → (zCall (d + 6) nX12_cheapest [.ref 63, .int (iI (mLf (fun p => decide (aBe (va v) q p = aS (va v) 4)) w)), .int (iI u)] τ (zPI fun x2 σ1 => zIf (x2 = (-1)) (X 106 [some (.ref 63), none, none, none, none, some (.int 0)] [] σ1) (vp_in x2 (zN 71) ∧ (zCall (d + 6) nX12_nextQuantizer [.ref 63, .int (σ1.1 71 (Int32.toNatClampNeg x2))] σ1 (zPI fun x4 σ3 => vp_in (208 + (σ1.1 71 (Int32.toNatClampNeg x2))) (zN 64) ∧ (zCall (d + 6) nX12_firstUnderflow [.ref 63] (zSI σ3 64 (Int32.toNatClampNeg (208 + (σ1.1 71 (Int32.toNatClampNeg x2)))) x4) (zPI fun x6 σ5 => X 55 [some (.ref 63), some (.int (iI (r : Nat) + 1)), some (.int x6), none, none, none] [] σ5))))))) → X 62 [some (.ref 63), some (.int (iI r)), some (.int (iI u)), some (.int (iI w)), none, none] [] τ
  | 0, _, h => zq_X12_repair_62 hX _ _ _ τ (zIf_t (by decide) h)
  | w + 1, hw, h => by
    have h60 := hv.1.n60
    have b4 := hv.1.2.2.2.2.1.2
    have be := aBe_b hv.1 q (w + 1)
    have e : iI ((w + 1 : Nat) : Int) + (-1) = iI (w : Int) := by rw [iI_pm]; exact congrArg iI (by omega)
    refine zq_X12_repair_62 hX _ _ _ τ (zIf_f ?_ ⟨vin_k (by show w + 1 < 60; omega) (by decide), ?_⟩)
    · rw [show (0 : Int32) = iI 0 from rfl, iI_le (by omega) (by omega) (by omega) (by omega)]; omega
    · rw [iI_k (by omega), h72 (w + 1) (by omega), s4, iI_eq (by omega) (by omega) (by omega) (by omega), e]
      unfold mLf at h
      refine ⟨fun z => ?_, fun z => ?_⟩
      · rw [if_pos (decide_eq_true (by omega))] at h
        exact h
      · rw [if_neg (fun y => z (by have := of_decide_eq_true y; omega))] at h
        exact rr62 hX hv hu h72 s4 w (by omega) h
theorem rr_loop {d : Nat} {v : mV} {σ : zS} {post : zPo} {X : zX} (hX : zClosed none (zCall (d + 6)) post nX12_repair X) (hv : vB v) (hs : ∀ r q τ, rpA (va v) = some (r, q) → RI τ (vA v (aPl (va v) (amd (va v)) q)) → zHg σ τ → post (some (.int (iI (r : Nat)))) τ) (hn : ∀ τ, rpA (va v) = none → RI τ v → zHg σ τ → post (some (.int (-3))) τ) : ∀ (m r : Nat) (q : Nat → Nat) (τ : zS), rpM (va v) q + 1 ≤ m → rpA (va v) = rpR (va v) m q r → (∀ f, f < 60 → q f ≤ 51) → RI τ (vA v (aPl (va v) (amd (va v)) q)) → rLa τ (va v) → zHg σ τ → (∀ j, j < 60 → τ.1 79 j = iI (aq (va v) j)) → (∀ p, p < an (va v) → τ.1 72 p = iI (aBe (va v) q p)) → X 55 [some (.ref 63), some (.int (iI r)), some (.int (iI (rpU (va v) q))), none, none, none] [] τ
  | 0, r, q, τ, hM, e, hq, hR, l, g, o, h72 => by omega
  | m + 1, r, q, τ, hM, e, hq, hR, l, g, o, h72 => by
    have h60 := hv.1.n60
    have hb2 : aB (aPl (va v) (amd (va v)) q) := hv.1.pm hq
    unfold rpR at e
    rcases rpU_s (va v) q with c | ⟨u, c, c1⟩
    · rw [if_pos c] at e
      rw [c]
      exact zq_X12_repair_55 hX _ _ τ (zIf_t (by decide) (hs r q τ e hR g))
    · have cn : rpU (va v) q ≠ -1 := by omega
      rw [if_neg cn] at e
      have eu : (rpU (va v) q).toNat = u := by rw [c]; rfl
      have eW : mLf (fun p => decide (aBe (va v) q p = aS (va v) 4)) u = rpW (va v) q := by unfold rpW; rw [eu]
      have wl : rpW (va v) q ≤ u := by rw [← eW]; exact mLf_le _ _
      have eP : chp (va v) q (u + 1 - rpW (va v) q) (rpW (va v) q) (-1) = rpP (va v) q := by unfold rpP; rw [eu]
      rw [c]
      refine zq_X12_repair_55 hX _ _ τ (zIf_f (by rw [show (-1 : Int32) = iI (-1) from by decide, iI_eq (by omega) (by omega) (by omega) (by omega)]; omega) ?_)
      refine rr62 hX hv c1 h72 (hR.1.s (j := 4) (by decide)) u (Nat.le_refl u) ?_
      rw [eW]
      refine ze_X12_cheapest (d := d + 5) _ _ τ (fun Y hY => zq_X12_cheapest_0 (d := d + 2) hY _ _ τ ?_)
      refine rch_lp (d := d + 2) (q := q) hY hv hq hR.1 l c1 (u + 1 - rpW (va v) q) (rpW (va v) q) (-1) (by omega) (Or.inl rfl) ⟨_, rfl, ?_⟩
      rw [eP]
      rcases rpP_I (a := va v) (q := q) cn with cp | ⟨p, cp, cp1, cp2⟩
      · rw [if_pos cp] at e
        rw [cp]
        exact zIf_t (by decide) (rr106 (d := d) (σ := σ) hX hv hq (fun ω r1 g1 => hn ω e r1 g1) 60 0 τ rfl (by rw [nM_0]; exact hR) g o)
      · have cpn : rpP (va v) q ≠ -1 := by omega
        rw [if_neg cpn] at e
        have ep : (rpP (va v) q).toNat = p := by rw [cp]; rfl
        obtain ⟨x, ex⟩ : ∃ x : Nat, rnx (va v) q p = (x : Int) := by
          rcases nxt_spec (K := mK (va v) (mO (va v) p)) (u := q (mO (va v) p)) (most := aS (va v) 3) with c | ⟨x, c, _⟩
          · exact absurd c cp2
          · exact ⟨x, c⟩
        have eQ : rpQ (va v) q = nU q (mO (va v) p) x := by
          unfold rpQ
          rw [ep, ex]
          rfl
        have en : nxt (mK (va v) (mO (va v) p)) (q (mO (va v) p)) (aS (va v) 3) = rnx (va v) q p := rfl
        rw [eQ] at e
        rw [cp]
        have ho := mO_lt (a := va v) cp1
        have e71 : τ.1 71 p = iI (mO (va v) p) := l.2.2.2.2.2.2 p cp1
        refine zIf_f (by rw [show (-1 : Int32) = iI (-1) from by decide, iI_eq (by omega) (by omega) (by omega) (by omega)]; omega) ?_
        rw [iI_k (by omega), e71, iI_208p, iI_k (by omega)]
        refine ⟨vin_k (by show p < 60; omega) (by decide), sp_nextQ (d := d + 3) hv hq hR.1 l ho ⟨vin_k (by show 208 + mO (va v) p < 268; omega) (by decide), ?_⟩⟩
        rw [en, ex, iI_s]
        have qb := rpQ_b hv.1 hq cp1 ex
        have st : RI (zSI τ 64 (208 + mO (va v) p) (iI (x : Int))) (vA v (aPl (va v) (amd (va v)) (nU q (mO (va v) p) x))) := RI.st_ (x := x) hb2 hR (show mO (va v) p < 60 by omega)
        have l1 : rLa (zSI τ 64 (208 + mO (va v) p) (iI (x : Int))) (va v) := l.of (by rw [zSI_1 (by decide)]) (by rw [zSI_1 (by decide)]) (zSI_1 (by decide)) (zSI_1 (by decide)) (zSI_1 (by decide)) (zSI_1 (by decide)) (zSI_1 (by decide))
        have dec := rpM_lt hv.1 cp1 ex
        refine sp_rFirst (d := d) (a := aPl (va v) (amd (va v)) (nU q (mO (va v) p) x)) (hv.1.pm qb) st.1 l1 (fun ω k => ?_)
        exact rr_loop hX hv hs hn m (r + 1) (nU q (mO (va v) p) x) ω (by omega) e qb (st.fr k.1 (by decide) (k.2.1 16 (by decide))) (k.rLa l1) ((g.si (by decide) _ _).tr (k.1.hg (by decide))) (fun j hj => by rw [k.1.1 79 (by decide), zSI_1 (by decide)]; exact o j hj) (fun p hp => (k.2.2.2 p hp).1)
theorem rr20 {d : Nat} {v : mV} {σ : zS} {post : zPo} {X : zX} (hX : zClosed none (zCall (d + 6)) post nX12_repair X) (hv : vB v) (hR : RI σ v) (h : ∀ τ, zFr [79] σ τ → (∀ j, j < 60 → τ.1 79 j = iI (aq (va v) j)) → zCall (d + 6) nX12_firstUnderflow [.ref 63] τ (zPI fun x2 σ1 => X 55 [some (.ref 63), some (.int 0), some (.int x2), none, none, none] [] σ1)) : ∀ (m i : Nat) (τ : zS), i + m = 60 → zFr [79] σ τ → (∀ j, j < i → τ.1 79 j = iI (aq (va v) j)) → X 20 [some (.ref 63), some (.int (iI i)), none, none, none, none] [] τ
  | 0, i, τ, hm, f, g => by
    have e2 : i = 60 := by omega
    subst e2
    exact zq_X12_repair_20 hX _ τ (zIf_f (by decide) (h τ f g))
  | m + 1, i, τ, hm, f, g => by
    refine zq_X12_repair_20 hX _ τ (zIf_t ?_ ?_)
    · rw [show (60 : Int32) = iI 60 from rfl, iI_lt (by omega) (by omega) (by omega) (by omega)]; omega
    · rw [iI_208p, iI_k (by omega), iI_k (by omega), iI_s]
      refine ⟨vin_k (by show 208 + i < 268; omega) (by decide), vin_k (by show i < 60; omega) (by decide), rr20 hX hv hR h m (i + 1) _ (by omega) (f.si (by decide) _ _) (fun j hj => ?_)⟩
      rw [zSI_at]
      by_cases e : j = i
      · rw [if_pos ⟨rfl, e⟩, f.1 64 (by decide), e]
        exact (rAt_0.mp hR.1).2.2.2.2.2.2.2.2.2 i (by omega)
      · rw [if_neg (fun z => e z.2)]; exact g j (by omega)
/-- two sides that each end as the numbers say -/
theorem sp_rRepair {d : Nat} {v : mV} {σ : zS} {k : Int32 → zS → Prop} (hv : vB v) (hR : RI σ v) (hm : amd (va v) = true) (hs : ∀ r q τ, rpA (va v) = some (r, q) → RI τ (vA v (aPl (va v) (amd (va v)) q)) → zHg σ τ → k (iI (r : Nat)) τ) (hn : ∀ τ, rpA (va v) = none → RI τ v → zHg σ τ → k (-3) τ) : zCall (d + 7) nX12_repair [.ref 63] σ (zPI k) := by
  refine ze_X12_repair σ (fun X hX => zq_X12_repair_0 hX σ (zIf_f (sl_n (am_if (rAt_0.mp hR.1)) hm) ?_))
  refine sp_ty (d := d + 3) hv hR (fun υ h1 h2 l => ?_)
  have fm := rpM_b (va v) hv.1 (aq (va v))
  refine rr20 (d := d) (σ := υ) hX hv h1 (fun ω f g => ?_) 60 0 υ rfl (zFr.rf _ _) (fun j hj => absurd hj (Nat.not_lt_zero j))
  have r1 : RI ω v := h1.fr f (by decide) (by rw [f.1 63 (by decide)])
  have l1 : rLa ω (va v) := l.of (by rw [f.1 63 (by decide)]) (by rw [f.1 63 (by decide)]) (f.1 67 (by decide)) (f.1 68 (by decide)) (f.1 69 (by decide)) (f.1 70 (by decide)) (f.1 71 (by decide))
  refine sp_rFirst (d := d) (a := va v) hv.1 r1.1 l1 (fun ψ kk => ?_)
  exact rr_loop (d := d) (σ := σ) hX hv (fun r q τ e r2 g2 => ⟨_, rfl, hs r q τ e r2 g2⟩) (fun τ e r2 g2 => ⟨_, rfl, hn τ e r2 g2⟩) 3061 0 (aq (va v)) ψ (by omega) rfl (fun f hf => hv.1.q hf) (r1.fr kk.1 (by decide) (kk.2.1 16 (by decide))) (kk.rLa l1) ((h2.1.tr (f.hg (by decide))).tr (kk.1.hg (by decide))) (fun j hj => by rw [kk.1.1 79 (by decide)]; exact g j hj) (fun p hp => (kk.2.2.2 p hp).1)
theorem rpR_b {a : mA} (hb : aB a) : ∀ (m r : Nat) (q : Nat → Nat), (∀ f, f < 60 → q f ≤ 51) → ∀ r' q', rpR a m q r = some (r', q') → ∀ f, f < 60 → q' f ≤ 51
  | 0, _, _, _, _, _, e => by
    unfold rpR at e
    exact absurd e (by simp)
  | m + 1, r, q, hq, r', q', e => by
    unfold rpR at e
    by_cases c : rpU a q = -1
    · rw [if_pos c] at e
      have e1 := Option.some.inj e
      have e2 : q = q' := congrArg Prod.snd e1
      rw [← e2]
      exact hq
    · rw [if_neg c] at e
      by_cases cp : rpP a q = -1
      · rw [if_pos cp] at e
        exact absurd e (by simp)
      · rw [if_neg cp] at e
        refine rpR_b hb m (r + 1) (rpQ a q) ?_ r' q' e
        rcases rpP_I (a := a) (q := q) c with c2 | ⟨p, c2, c3, c4⟩
        · exact absurd c2 cp
        · rcases nxt_spec (K := mK a (mO a p)) (u := q (mO a p)) (most := aS a 3) with c5 | ⟨x, c5, _⟩
          · exact absurd c5 c4
          · have ex : rnx a q p = (x : Int) := c5
            have := rpQ_b hb hq c3 ex
            unfold rpQ
            rw [c2, show ((p : Int)).toNat = p from rfl, ex, show ((x : Int)).toNat = x from rfl]
            exact this
theorem pr_repair {σ : zS} (g : G σ) : zPair nX11_repair nX12_repair [] σ := by
  obtain ⟨v, hv, hC, hR⟩ := g
  cases hm : amd (va v) with
  | false =>
    refine zP_I (v := v) (w := v) (-3) hv hR ?_ (fun τ hT => ?_)
    · exact ze_X11_repair (d := 7) σ (fun X hX => zq_X11_repair_0 (d := 1) hX σ (zIf_t (hC.2.1.m.mpr hm) (kNo hC)))
    · exact ze_X12_repair (d := 7) τ (fun X hX => zq_X12_repair_0 (d := 1) hX τ (zIf_t ((rAt_0.mp hT.1).m.mpr hm) (rNo hT)))
  | true =>
    cases er : rpA (va v) with
    | none =>
      refine zP_I (v := v) (w := v) (-3) hv hR ?_ (fun τ hT => ?_)
      · refine ze_X11_repair (d := 7) σ (fun X hX => zq_X11_repair_0 (d := 1) hX σ (zIf_f (sl_n hC.2.1.1 hm) ?_))
        refine sp_mend (d := 1) hv hC hm (fun r q τ e => ?_) (fun τ e c lw => ⟨_, rfl, rfl, c, lw⟩)
        rw [er] at e
        exact absurd e (by simp)
      · refine sp_rRepair (d := 1) hv hT hm (fun r q υ e => ?_) (fun υ e r1 g1 => ⟨rfl, r1, g1⟩)
        rw [er] at e
        exact absurd e (by simp)
    | some rq =>
      obtain ⟨r, q⟩ := rq
      have qb := rpR_b hv.1 3061 0 (aq (va v)) (fun f hf => hv.1.q hf) r q er
      refine zP_I (v := v) (w := vA v (aPl (va v) (amd (va v)) q)) (iI (r : Nat)) (hv.a (hv.1.pm qb)) hR ?_ (fun τ hT => ?_)
      · refine ze_X11_repair (d := 7) σ (fun X hX => zq_X11_repair_0 (d := 1) hX σ (zIf_f (sl_n hC.2.1.1 hm) ?_))
        refine sp_mend (d := 1) hv hC hm (fun r2 q2 τ e hq2 c lw => ?_) (fun τ e => ?_)
        · rw [er] at e
          cases e
          exact ⟨_, rfl, rfl, c, lw⟩
        · rw [er] at e
          exact absurd e (by simp)
      · refine sp_rRepair (d := 1) hv hT hm (fun r2 q2 υ e r1 g1 => ?_) (fun υ e => ?_)
        · rw [er] at e
          cases e
          exact ⟨rfl, r1, g1⟩
        · rw [er] at e
          exact absurd e (by simp)
