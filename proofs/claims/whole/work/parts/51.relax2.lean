/-! relax: the component's turns, the reference's rounds, the pair -/
theorem rxq_B {a : mA} {q : Nat → Nat} {p k : Nat} (hp : p < an a) (hk : k < an a) : mBp a (rxq a q p) k = if k = p then mBi (mK a (mO a p)) (q (mO a p) - 1) else mBp a q k := by
  unfold mBp rxq
  by_cases e : k = p
  · rw [if_pos e, e, nU_s]
  · rw [if_neg e, nU_n]
    rcases Nat.lt_or_ge k p with c | c
    · exact mO_ne c hp
    · exact fun z => mO_ne (a := a) (show p < k by omega) hk z.symm
theorem tot_rxq {a : mA} {q : Nat → Nat} {p : Nat} (hp : p < an a) : tot a (rxq a q p) + mBp a q p = tot a q + mBi (mK a (mO a p)) (q (mO a p) - 1) := by
  have e : tot a (rxq a q p) = fb_sm (fun k => if k = p then mBi (mK a (mO a p)) (q (mO a p) - 1) else mBp a q k) (an a) := fb_sm_cong (fun k hk => rxq_B hp hk)
  rw [e]
  exact fb_sm_upd (mBp a q) _ hp
theorem tot_b {a : mA} (hb : aB a) {q : Nat → Nat} (hq : ∀ f, f < 60 → q f ≤ 51) : tot a q ≤ 20000000 := by
  have h60 := hb.n60
  have : tot a q ≤ an a * 320040 := fb_sm_bound (fun k hk => (mBp_le hb (fun i hi => hq i (by omega)) hk).2)
  omega
theorem sp_canLower {d p mb may : Nat} {v : mV} {q : Nat → Nat} {σ : zS} {k : Int32 → zS → Prop} (hv : vB v) (hq : ∀ f, f < 60 → q f ≤ 51) (hm : amd (va v) = true) (hC : CI σ (vq v q)) (h27 : ∀ j, j < an (va v) → σ.1 27 j = iI (mBp (va v) q j)) (hp : p < an (va v)) (hl : ¬ q (mO (va v) p) ≤ aS (va v) 2) (hmb : mb ≤ 10000000) (hmay : may ≤ 60) (h1 : pos (va v) mb may q p → ∀ τ, zFr [26, 27, 28, 29, 30, 31] σ τ → (∀ j, j < an (va v) → τ.1 27 j = iI (mBp (va v) q j)) → k 1 τ) (h0 : ¬ pos (va v) mb may q p → ∀ τ, zFr [26, 27, 28, 29, 30, 31] σ τ → (∀ j, j < an (va v) → τ.1 27 j = iI (mBp (va v) q j)) → k 0 τ) : zCall (d + 5) nX5_canLower [.ref 34, .ref 10, .int (iI p), .int (iI mb), .int (iI may)] σ (zPI k) := by
  have h60 := hv.1.n60
  have hv2 := vq_B hv hq
  have ho := mO_lt (a := va v) hp
  have hu := hq (mO (va v) p) (by omega)
  have e23 : zAt σ 23 (iI p) = iI (mO (va v) p) := by rw [zAt_k (show p < zN 23 by show p < 60; omega)]; exact hC.2.2.1.2.2.2.2.2.2.2.2.2 p hp
  have e10 : zAt σ 10 (iI (mO (va v) p)) = iI (q (mO (va v) p)) := by rw [zAt_k (show mO (va v) p < zN 10 by show mO (va v) p < 60; omega)]; exact hC.2.1.2 hm _ ho
  have e27 : zAt σ 27 (iI p) = iI (mBp (va v) q p) := by rw [zAt_k (show p < zN 27 by show p < 60; omega)]; exact h27 p hp
  have e1 : iI (q (mO (va v) p) : Int) - 1 = iI ((q (mO (va v) p) - 1 : Nat) : Int) := by rw [iI_m]; exact congrArg iI (by omega)
  have k1 : cBits σ (iI (mO (va v) p)) (iI (q (mO (va v) p) - 1 : Nat)) = iI (mBi (mK (va v) (mO (va v) p)) (q (mO (va v) p) - 1)) := kBi (v := vq v q) hv2 hC ho (by omega)
  have qb : ∀ i, i < an (va v) → q i ≤ 51 := fun i hi => hq i (by omega)
  have qb2 := rxq_b (a := va v) hq p (by omega)
  have t1 := tot_b hv.1 hq
  have t2 := tot_b hv.1 qb2
  have t3 := tot_rxq (a := va v) (q := q) hp
  have b1 := (mBp_le hv.1 qb hp).2
  have b2 := (mBi_le (w := mK (va v) (mO (va v) p)) (q := q (mO (va v) p) - 1) (mWk_le hv.1.1 ho) (by omega)).2
  refine ze_X5_canLower _ _ _ _ σ (fun X hX => zq_X5_canLower_0 hX 10 _ _ _ rfl σ ?_)
  refine sp_sumOfBits (d := d + 2) h60 hC.2.2.1.1 h27 ?_
  have es : iI (fb_sm (mBp (va v) q) (an (va v)) : Nat) - iI (mBp (va v) q p : Nat) + iI (mBi (mK (va v) (mO (va v) p)) (q (mO (va v) p) - 1) : Nat) = iI (tot (va v) (rxq (va v) q p) : Nat) := by
    rw [iI_sub, iI_add]
    refine congrArg iI ?_
    have : fb_sm (mBp (va v) q) (an (va v)) = tot (va v) q := rfl
    omega
  rw [e23, e10, e27, e1, k1, es, zPt_k (show p < zN 27 by show p < 60; omega), iI_le (by omega) (by omega) (by omega) (by omega)]
  refine ⟨fun z => ?_, fun z => ⟨_, rfl, h0 (fun y => z (by have := y.1; omega)) σ (zFr.rf _ _) h27⟩⟩
  have f1 : zFr [26, 27, 28, 29, 30, 31] σ (zSI σ 27 p (iI (mBi (mK (va v) (mO (va v) p)) (q (mO (va v) p) - 1) : Nat))) := (zFr.rf _ _).si (by decide) _ _
  have hC1 := hC.fr f1 (by decide)
  refine sp_passAsSet (d := d) (a := va v) (B := mBp (va v) (rxq (va v) q p)) hv.1 hC1.1.2.2.2.1 hC1.2.2.1.1 (fun j hj => ⟨?_, (mBp_le hv.1 (fun i hi => qb2 i (by omega)) hj).2⟩) (fun τ ht => ?_)
  · rw [zSI_s, rxq_B hp hj]
    by_cases e : j = p
    · rw [if_pos e, e]; simp [upd]
    · rw [if_neg e]; simp only [upd, if_neg e]; exact h27 j hj
  · have u1 := aUn_le (va v) (rxq (va v) q p)
    have ht0 : τ.1 26 0 = iI (aUn (va v) (rxq (va v) q p) : Nat) := ht.2.2.2.2.1
    have f2 : zFr [26, 27, 28, 29, 30, 31] σ (zSI τ 27 p (iI (mBp (va v) q p : Nat))) := (f1.tr ht.1 (by decide)).si (by decide) _ _
    have r27 : ∀ j, j < an (va v) → (zSI τ 27 p (iI (mBp (va v) q p : Nat))).1 27 j = iI (mBp (va v) q j) := fun j hj => by
      rw [zSI_s, ht.1.1 27 (by decide), zSI_s]
      by_cases e : j = p
      · rw [e]; simp [upd]
      · simp only [upd, if_neg e]; exact h27 j hj
    rw [ht0, zPt_k (show p < zN 27 by show p < 60; omega), iI_le (by omega) (by omega) (by omega) (by omega)]
    exact ⟨fun y => ⟨_, rfl, h1 ⟨by omega, by omega⟩ _ f2 r27⟩, fun y => ⟨_, rfl, h0 (fun w => y (by have := w.2; omega)) _ f2 r27⟩⟩
theorem sp_lower {d p : Nat} {v : mV} {q : Nat → Nat} {σ : zS} {k : zS → Prop} (hv : vB v) (hq : ∀ f, f < 60 → q f ≤ 51) (hm : amd (va v) = true) (hC : CI σ (vq v q)) (h27 : ∀ j, j < an (va v) → σ.1 27 j = iI (mBp (va v) q j)) (hp : p < an (va v)) (hl : ¬ q (mO (va v) p) ≤ aS (va v) 2) (h : ∀ τ, CI τ (vq v (rxq (va v) q p)) → (∀ j, j < an (va v) → τ.1 27 j = iI (mBp (va v) (rxq (va v) q p) j)) → τ.2 38 p = lI (rg (va v) (rxq (va v) q p) p) → (∀ j, j ≠ p → τ.2 38 j = σ.2 38 j) → zLw σ τ → k τ) : zCall (d + 5) nX5_lower [.ref 34, .ref 10, .int (iI p)] σ (zPV k) := by
  have h60 := hv.1.n60
  have ho := mO_lt (a := va v) hp
  have hu := hq (mO (va v) p) (by omega)
  have qb2 := rxq_b (a := va v) hq p (by omega)
  have e23 : zAt σ 23 (iI p) = iI (mO (va v) p) := by rw [zAt_k (show p < zN 23 by show p < 60; omega)]; exact hC.2.2.1.2.2.2.2.2.2.2.2.2 p hp
  have e10 : zAt σ 10 (iI (mO (va v) p)) = iI (q (mO (va v) p)) := by rw [zAt_k (show mO (va v) p < zN 10 by show mO (va v) p < 60; omega)]; exact hC.2.1.2 hm _ ho
  have e1 : iI (q (mO (va v) p) : Int) - 1 = iI ((q (mO (va v) p) - 1 : Nat) : Int) := by rw [iI_m]; exact congrArg iI (by omega)
  have c1 : CI (zSI σ 10 (mO (va v) p) (iI ((q (mO (va v) p) - 1 : Nat) : Int))) (vq v (rxq (va v) q p)) := by
    refine CI.pl (v := vq v q) (m := amd (va v)) (q := rxq (va v) q p) hC (fun r hr h9 h10 => zSI_1 h10) (by rw [zSI_1 (by decide)]; exact hC.2.1.1) (fun _ i hi => ?_)
    rw [zSI_s]
    exact upd_n (n := an (va v)) (g := q) (fun i hi e => hC.2.1.2 hm i hi) i hi
  have k1 : cBits (zSI σ 10 (mO (va v) p) (iI ((q (mO (va v) p) - 1 : Nat) : Int))) (iI (mO (va v) p)) (iI (q (mO (va v) p) - 1 : Nat)) = iI (mBi (mK (va v) (mO (va v) p)) (q (mO (va v) p) - 1)) := kBi (v := vq v (rxq (va v) q p)) (vq_B hv qb2) c1 ho (by omega)
  refine ze_X5_lower _ _ σ (fun X hX => zq_X5_lower_0 hX 10 _ rfl σ ?_)
  rw [e23, e10, e1, zPt_k (show mO (va v) p < zN 10 by show mO (va v) p < 60; omega), k1, zPt_k (show p < zN 27 by show p < 60; omega)]
  have c2 : CI (zSI (zSI σ 10 (mO (va v) p) (iI ((q (mO (va v) p) - 1 : Nat) : Int))) 27 p (iI (mBi (mK (va v) (mO (va v) p)) (q (mO (va v) p) - 1) : Nat))) (vq v (rxq (va v) q p)) := c1.fr ((zFr.rf [27] _).si (by decide) _ _) (by decide)
  refine sp_weighL (d := d) hv qb2 hm c2 hp (fun τ g1 g2 g3 => ⟨rfl, h τ (c2.of (fun r _ => by rw [g1])) (fun j hj => ?_) g2 g3 (fun r hr => ?_)⟩)
  · rw [g1, zSI_s, rxq_B hp hj]
    by_cases e : j = p
    · rw [if_pos e, e]; simp [upd]
    · rw [if_neg e]; simp only [upd, if_neg e]; rw [zSI_1 (by decide)]; exact h27 j hj
  · rw [g1, zSI_1 (by omega), zSI_1 (by omega)]
theorem lo_loop {d mb may : Nat} {v : mV} {σ : zS} {T : Nat × (Nat → Nat)} {post : zPo} {X : zX} (hX : zClosed none (zCall (d + 5)) post nX5_loosen X) (hv : vB v) (hm : amd (va v) = true) (hmb : mb ≤ 10000000) (hmay : may ≤ 60) (fin : ∀ r q τ, T = (r, q) → CI τ (vq v q) → zLw σ τ → post (some (.int (iI (r : Nat)))) τ) : ∀ (m r t : Nat) (q : Nat → Nat) (D : Nat → Bool) (τ : zS), (500 - r) + (60 - fb_ct D (an (va v))) < m → r ≤ 500 → t = r + fb_ct D (an (va v)) → T = rx (va v) mb may (500 - r) q r → (∀ f, f < 60 → q f ≤ 51) → (∀ p, p < an (va v) → D p = true → ¬ pos (va v) mb may q p) → CI τ (vq v q) → (∀ j, j < an (va v) → τ.1 27 j = iI (mBp (va v) q j)) → (∀ j, j < an (va v) → τ.2 38 j = lI (rgD (va v) q D j)) → zLw σ τ → X 50 [some (.ref 34), some (.ref 10), some (.int (iI mb)), some (.int (iI may)), some (.int (iI r)), some (.int (iI t)), none] [] τ
  | 0, r, t, q, D, τ, hM, hr, ht, e, hq, hD, hC, h27, h38, lw => by omega
  | m + 1, r, t, q, D, τ, hM, hr, ht, e, hq, hD, hC, h27, h38, lw => by
    have h60 := hv.1.n60
    have ctb := fb_ct_le D (an (va v))
    by_cases r5 : r = 500
    · rw [r5] at e
      have f1 := fin 500 q τ e hC lw
      rw [r5]
      refine zq_X5_loosen_50 hX 10 _ _ _ _ rfl τ ⟨fun _ => zIf_f (by decide) f1, fun _ => f1⟩
    · have er : 500 - r = (500 - (r + 1)) + 1 := by omega
      have qb : ∀ p, p < an (va v) → q (mO (va v) p) ≤ 51 := fun p hp => hq _ (by have := mO_lt (a := va v) hp; omega)
      obtain ⟨x1, x2⟩ := rxB_eq (mb := mb) (may := may) hv.1 hq hD
      refine zq_X5_loosen_50 hX 10 _ _ _ _ rfl τ (zIf_t ?_ (zIf_t ?_ ?_))
      · rw [show (560 : Int32) = iI 560 from rfl, iI_lt (by omega) (by omega) (by omega) (by omega)]; omega
      · rw [show (500 : Int32) = iI 500 from rfl, iI_lt (by omega) (by omega) (by omega) (by omega)]; omega
      · refine ze_X5_greatestGain (d := d + 4) τ (fun Y hY => zq_X5_greatestGain_0 (d := d + 3) hY τ ?_)
        refine gr_loop (d := d + 3) (G := rgD (va v) q D) hY h60 hC.2.2.1.1 (fun p hp => ⟨h38 p hp, rgD_b hv.1 hp (qb p hp)⟩) (an (va v)) 0 (-1) (by omega) (Or.inl rfl) ⟨_, rfl, ?_⟩
        have s1 := gg_I (G := rgD (va v) q D) (n := an (va v)) (fun p hp => (rgD_b hv.1 hp (qb p hp)).1) (an (va v)) 0 (-1) (by omega) (Or.inl ⟨rfl, fun p hp => absurd hp (Nat.not_lt_zero p)⟩)
        rcases s1 with ⟨a1, _⟩ | ⟨j, a1, a2, _⟩
        · have b1 := x1 a1
          rw [er] at e
          unfold rx at e
          rw [if_pos b1] at e
          rw [a1]
          exact zIf_t (by decide) (fin r q τ e hC lw)
        · obtain ⟨_, y2, y3, y4⟩ := x2 j a1
          rw [a1]
          refine zIf_f (by rw [show (0 : Int32) = iI 0 from rfl, iI_lt (by omega) (by omega) (by omega) (by omega)]; omega) ?_
          refine sp_canLower (d := d) (mb := mb) (may := may) hv hq hm hC h27 a2 y3 hmb hmay (fun hpos υ f g27 => ?_) (fun hpos υ f g27 => ?_)
          · refine zIf_f (by decide) ?_
            have hC2 : CI υ (vq v q) := hC.fr f (by decide)
            refine sp_lower (d := d) hv hq hm hC2 g27 a2 y3 (fun ω c1 c27 c38 co lw2 => ?_)
            rw [iI_s, iI_s]
            have e3 := y4 hpos
            rw [er] at e
            unfold rx at e
            rw [if_neg (by omega), e3, show ((j : Int)).toNat = j from rfl] at e
            have ho := mO_lt (a := va v) a2
            have qb2 := rxq_b (a := va v) hq j (by omega)
            have same : ∀ p, p < an (va v) → p ≠ j → rxq (va v) q j (mO (va v) p) = q (mO (va v) p) := fun p hp hne => by
              unfold rxq
              refine nU_n ?_
              rcases Nat.lt_or_ge p j with c | c
              · exact mO_ne c a2
              · exact fun z => mO_ne (a := va v) (show j < p by omega) hp z.symm
            refine lo_loop hX hv hm hmb hmay fin m (r + 1) (t + 1) (rxq (va v) q j) D ω (by omega) (by omega) (by omega) e qb2 (fun p hp dp w => ?_) c1 c27 (fun p hp => ?_) ((lw.tr (f.lw (by decide))).tr lw2)
            · have hne : p ≠ j := fun z => by rw [z, y2] at dp; exact absurd dp (by decide)
              refine hD p hp dp (pos_mono hv.1 (fun f hf => ?_) (fun f hf => hq f (by omega)) hp (same p hp hne) w)
              unfold rxq
              by_cases ef : f = mO (va v) j
              · rw [ef, nU_s]; omega
              · rw [nU_n ef]; exact Nat.le_refl _
            · by_cases hne : p = j
              · rw [hne, c38]
                unfold rgD
                rw [if_neg (by rw [y2]; decide)]
              · rw [co p hne, f.2, h38 p hp]
                refine congrArg lI ?_
                unfold rgD rg
                rw [same p hp hne]
          · refine zIf_t rfl ?_
            rw [iI_s, zPtJ_k (show j < zN 38 by show j < 60; omega)]
            have hC2 : CI υ (vq v q) := hC.fr f (by decide)
            have up := fb_ct_upd D true a2
            have up2 := fb_ct_le (fun k => if k = j then true else D k) (an (va v))
            rw [if_neg (by rw [y2]; decide), if_pos rfl, Nat.add_zero] at up
            refine lo_loop hX hv hm hmb hmay fin m r (t + 1) q (fun k => if k = j then true else D k) (zSJ υ 38 j (-1)) (by omega) hr (by omega) e hq (fun p hp dp => ?_) (hC2.of (fun r _ => rfl)) g27 (fun p hp => ?_) (lw.tr (f.lw (by decide)))
            · by_cases hne : p = j
              · rw [hne]; exact hpos
              · simp only [if_neg hne] at dp
                exact hD p hp dp
            · rw [zSJ_at]
              by_cases hne : p = j
              · rw [if_pos ⟨rfl, hne⟩]
                unfold rgD
                simp only [if_pos hne]
                rfl
              · rw [if_neg (fun z => hne z.2), f.2, h38 p hp]
                refine congrArg lI ?_
                unfold rgD
                simp only [if_neg hne]
theorem lw_loop0 {d mb may : Nat} {v : mV} {σ : zS} {post : zPo} {X : zX} (hX : zClosed none (zCall (d + 5)) post nX5_loosen X) (hv : vB v) (hm : amd (va v) = true) (hC : CI σ (vq v (aq (va v)))) (h : ∀ τ, τ.1 = σ.1 → (∀ j, j < an (va v) → τ.2 38 j = lI (rg (va v) (aq (va v)) j)) → X 50 [some (.ref 34), some (.ref 10), some (.int (iI mb)), some (.int (iI may)), some (.int 0), some (.int 0), none] [] τ) : ∀ (m i : Nat) (τ : zS), i + m = an (va v) → τ.1 = σ.1 → (∀ j, j < i → τ.2 38 j = lI (rg (va v) (aq (va v)) j)) → X 19 [some (.ref 34), some (.ref 10), some (.int (iI mb)), some (.int (iI may)), some (.int (iI i)), none, none] [] τ
  | 0, i, τ, hm2, f, g => by
    have e : i = an (va v) := by omega
    subst e
    refine zq_X5_loosen_19 hX 10 _ _ _ rfl τ (zIf_f ?_ (h τ f g))
    rw [f, hC.2.2.1.1]
    exact Int32.lt_irrefl
  | m + 1, i, τ, hm2, f, g => by
    have h60 := hv.1.n60
    have hin : i < an (va v) := by omega
    refine zq_X5_loosen_19 hX 10 _ _ _ rfl τ (zIf_t ?_ ?_)
    · rw [f, hC.2.2.1.1]; show iI _ < iI (an (va v) : Nat); rw [iI_lt (by omega) (by omega) (by omega) (by omega)]; omega
    · refine sp_weighL (d := d + 1) hv (fun f hf => hv.1.q hf) hm (hC.of (fun r _ => by rw [f])) hin (fun υ g1 g2 g3 => ?_)
      rw [iI_s]
      refine lw_loop0 hX hv hm hC h m (i + 1) υ (by omega) (g1.trans f) (fun j hj => ?_)
      by_cases e : j = i
      · rw [e]; exact g2
      · rw [g3 j e]; exact g j (by omega)
theorem sp_loosen {d mb : Nat} {v : mV} {σ : zS} {k : Int32 → zS → Prop} (hv : vB v) (hC : CI σ v) (hm : amd (va v) = true) (hmb : mb ≤ 10000000) (h : ∀ r q τ, rx (va v) mb (aUn (va v) (aq (va v))) 500 (aq (va v)) 0 = (r, q) → CI τ (vq v q) → zLw σ τ → k (iI (r : Nat)) τ) : zCall (d + 6) nX5_loosen [.ref 34, .ref 10, .int (iI mb)] σ (zPI k) := by
  have h60 := hv.1.n60
  have ub := aUn_le (va v) (aq (va v))
  refine ze_X5_loosen _ _ σ (fun X hX => zq_X5_loosen_0 hX 10 _ rfl σ ?_)
  refine sp_kFol (d := d) hv hC hm (fun τ f c1 c2 c3 => ?_)
  rw [c3]
  have hC1 : CI τ (vq v (aq (va v))) := c1
  refine lw_loop0 (d := d) (σ := τ) hX hv hm hC1 (fun υ e g => ?_) (an (va v)) 0 τ (by omega) rfl (fun j hj => absurd hj (Nat.not_lt_zero j))
  have ct0 : fb_ct (fun _ => false) (an (va v)) = 0 := fb_ct_zero.mpr (fun _ _ => rfl)
  refine lo_loop (d := d) (σ := σ) (T := rx (va v) mb (aUn (va v) (aq (va v))) 500 (aq (va v)) 0) hX hv hm hmb (by omega) (fun r q ω e2 c lw => ⟨_, rfl, h r q ω e2 c lw⟩) 1000 0 0 (aq (va v)) (fun _ => false) υ (by omega) (by omega) (by omega) rfl (fun f hf => hv.1.q hf) (fun p hp dp => absurd dp (by decide)) (hC1.of (fun r _ => by rw [e])) (fun j hj => by rw [e]; exact (c2 j hj).1) (fun j hj => by rw [g j hj]; rfl) (fun r hr => by rw [e]; exact f.lw (by decide) r hr)
-- the reference
theorem tot_frames {a : mA} (q : Nat → Nat) : fb_sm (fun f => mBi (mK a f) (q f)) (an a) = tot a q :=
  (fb_sm_perm (an a) (mO a) (fun i hi => mO_lt hi) (fun i j hi hj z => by
    have := mOr_inj (ty := mT a) (n := an a) (fun z => mTy_last z) (by omega) hj z
    omega) (fun f => mBi (mK a f) (q f))).symm
theorem ab_loop {d : Nat} {v : mV} {q : Nat → Nat} {σ : zS} {post : zPo} {X : zX} (hX : zClosed none (zCall (d + 2)) post nX12_allBits X) (hv : vB v) (hq : ∀ f, f < 60 → q f ≤ 51) (hr : rAt σ 64 0 (aPl (va v) (amd (va v)) q)) (l : rLa σ (va v)) (h : post (some (.long (lI (tot (va v) q)))) σ) : ∀ (m i : Nat), i + m = an (va v) → X 4 [some (.ref 63), some (.long (lI (fb_sm (fun f => mBi (mK (va v) f) (q f)) i))), none, some (.int (iI i))] [] σ
  | 0, i, hm => by
    have e : i = an (va v) := by omega
    subst e
    refine zq_X12_allBits_4 hX _ _ σ (zIf_f ?_ ?_)
    · rw [hr.1]; exact Int32.lt_irrefl
    · rw [tot_frames]; exact h
  | m + 1, i, hm => by
    have h60 := hv.1.n60
    have hin : i < an (va v) := by omega
    have ep : σ.1 64 (208 + i) = iI (q i) := hr.q (by omega)
    have n0 : σ.1 64 0 = iI (an (va v)) := hr.1
    have hu := hq i (by omega)
    have b := (mBi_le (w := mK (va v) i) (q := q i) (mWk_le hv.1.1 hin) (by omega)).2
    refine zq_X12_allBits_4 hX _ _ σ (zIf_t ?_ ?_)
    · rw [n0, iI_lt (by omega) (by omega) (by omega) (by omega)]; omega
    · rw [iI_208p, iI_k (by omega), ep]
      refine ⟨vin_k (by show 208 + i < 268; omega) (by decide), sp_bits (d := d) (a := aPl (va v) (amd (va v)) q) (hv.1.pm hq) hr l hin (by omega) ?_⟩
      have eb : mBi (mK (aPl (va v) (amd (va v)) q) i) (q i) = mBi (mK (va v) i) (q i) := rfl
      rw [eb, lI_sm (by omega), iI_s]
      exact ab_loop hX hv hq hr l h m (i + 1) (by omega)
theorem rxq_back {a : mA} {q : Nat → Nat} {p : Nat} : nU (rxq a q p) (mO a p) (q (mO a p)) = q := funext fun f => by
  unfold rxq
  by_cases e : f = mO a p
  · rw [e, nU_s]
  · rw [nU_n e, nU_n e]
theorem sp_gainOf {d p mb may : Nat} {v : mV} {q : Nat → Nat} {σ : zS} {k : Int64 → zS → Prop} (hv : vB v) (hq : ∀ f, f < 60 → q f ≤ 51) (hR : RI σ (vq v q)) (l : rLa σ (va v)) (hp : p < an (va v)) (hmb : mb ≤ 10000000) (hmay : may ≤ 60) (h : ∀ τ, RI τ (vq v q) → rLa τ (va v) → zHg σ τ → k (lI (its (va v) mb may q p)) τ) : zCall (d + 7) nX12_gainOf [.ref 63, .int (iI (mO (va v) p)), .long (lI mb), .int (iI may)] σ (zPJ k) := by
  have h60 := hv.1.n60
  have hb2 : aB (aPl (va v) (amd (va v)) q) := hv.1.pm hq
  have ho := mO_lt (a := va v) hp
  have hu := hq (mO (va v) p) (by omega)
  have bR := hv.1.2.2.2.1
  have ep : σ.1 64 (208 + mO (va v) p) = iI (q (mO (va v) p)) := hR.1.q (by omega)
  have s2 : σ.1 64 183 = iI (aS (va v) 2) := hR.1.s (j := 2) (by decide)
  have e1 : iI (q (mO (va v) p) : Int) - 1 = iI ((q (mO (va v) p) : Int) - 1) := iI_m _
  refine ze_X12_gainOf _ _ _ σ (fun X hX => zq_X12_gainOf_0 hX _ _ _ σ ?_)
  rw [iI_208p, iI_k (by omega), ep, s2]
  refine ⟨vin_k (by show 208 + mO (va v) p < 268; omega) (by decide), ?_⟩
  rw [iI_le (by omega) (by omega) (by omega) (by omega)]
  unfold its at h
  refine ⟨fun z => ?_, fun z => ?_⟩
  · rw [if_pos (by omega)] at h
    exact ⟨_, rfl, h σ hR l (zHg.rf σ)⟩
  · have hl : ¬ q (mO (va v) p) ≤ aS (va v) 2 := by omega
    rw [if_neg hl] at h
    have e2 : iI (q (mO (va v) p) : Int) - 1 = iI ((q (mO (va v) p) - 1 : Nat) : Int) := by rw [iI_m]; exact congrArg iI (by omega)
    have qb2 := rxq_b (a := va v) hq p (by omega)
    have hv3 := vq_B hv qb2
    have hb3 : aB (aPl (va v) (amd (va v)) (rxq (va v) q p)) := hv.1.pm qb2
    have l1 := mLs_b hv.1 ho hu
    have l2 := mLs_b hv.1 ho (show q (mO (va v) p) - 1 ≤ 51 by omega)
    have b1 := (mBi_le (w := mK (va v) (mO (va v) p)) (q := q (mO (va v) p)) (mWk_le hv.1.1 ho) (by omega)).2
    have b3 := (mBi_le (w := mK (va v) (mO (va v) p)) (q := q (mO (va v) p) - 1) (mWk_le hv.1.1 ho) (by omega)).2
    have t2 := tot_b hv.1 qb2
    rw [e2]
    refine sp_bits (d := d + 4) (a := aPl (va v) (amd (va v)) q) hb2 hR.1 l ho (by omega) (sp_bits (d := d + 4) (a := aPl (va v) (amd (va v)) q) hb2 hR.1 l ho (by omega) ?_)
    have x2 : mBi (mK (aPl (va v) (amd (va v)) q) (mO (va v) p)) (q (mO (va v) p) - 1) = mBi (mK (va v) (mO (va v) p)) (q (mO (va v) p) - 1) := rfl
    have x4 : mBi (mK (aPl (va v) (amd (va v)) q) (mO (va v) p)) (q (mO (va v) p)) = mBi (mK (va v) (mO (va v) p)) (q (mO (va v) p)) := rfl
    rw [x2, x4]
    have r1 : RI (zSI σ 64 (208 + mO (va v) p) (iI ((q (mO (va v) p) - 1 : Nat) : Int))) (vq v (rxq (va v) q p)) := RI.st_ (x := q (mO (va v) p) - 1) hb2 hR (show mO (va v) p < 60 by omega)
    have la1 : rLa (zSI σ 64 (208 + mO (va v) p) (iI ((q (mO (va v) p) - 1 : Nat) : Int))) (va v) := l.of (by rw [zSI_1 (by decide)]) (by rw [zSI_1 (by decide)]) (zSI_1 (by decide)) (zSI_1 (by decide)) (zSI_1 (by decide)) (zSI_1 (by decide)) (zSI_1 (by decide))
    have g1 : zHg σ (zSI σ 64 (208 + mO (va v) p) (iI ((q (mO (va v) p) - 1 : Nat) : Int))) := (zHg.rf σ).si (by decide) _ _
    generalize zSI σ 64 (208 + mO (va v) p) (iI ((q (mO (va v) p) - 1 : Nat) : Int)) = σ1 at r1 la1 g1 ⊢
    have back : ∀ τ, RI τ (vq v (rxq (va v) q p)) → rLa τ (va v) → zHg σ τ → RI (zSI τ 64 (208 + mO (va v) p) (iI (q (mO (va v) p) : Nat))) (vq v q) ∧ rLa (zSI τ 64 (208 + mO (va v) p) (iI (q (mO (va v) p) : Nat))) (va v) ∧ zHg σ (zSI τ 64 (208 + mO (va v) p) (iI (q (mO (va v) p) : Nat))) := fun τ r la g => by
      have st : RI (zSI τ 64 (208 + mO (va v) p) (iI (q (mO (va v) p) : Nat))) (vA v (aPl (va v) (amd (va v)) (nU (rxq (va v) q p) (mO (va v) p) (q (mO (va v) p))))) := RI.st_ (x := q (mO (va v) p)) hb3 r (show mO (va v) p < 60 by omega)
      rw [rxq_back] at st
      exact ⟨st, la.of (by rw [zSI_1 (by decide)]) (by rw [zSI_1 (by decide)]) (zSI_1 (by decide)) (zSI_1 (by decide)) (zSI_1 (by decide)) (zSI_1 (by decide)) (zSI_1 (by decide)), g.si (by decide) _ _⟩
    refine ze_X12_allBits (d := d + 5) σ1 (fun Y hY => zq_X12_allBits_0 (d := d + 3) hY σ1 ?_)
    refine ab_loop (d := d + 3) (q := rxq (va v) q p) hY hv qb2 r1.1 la1 ⟨_, rfl, ?_⟩ (an (va v)) 0 (by omega)
    show zIf (lg_cmp (lI (tot (va v) (rxq (va v) q p) : Nat)) (lI mb) ≤ 0) _ _
    rw [cmp_le (by omega) (by omega) (by omega) (by omega)]
    refine ⟨fun y => ?_, fun y => ?_⟩
    · refine sp_now (d := d) (v := vq v (rxq (va v) q p)) hv3 r1 la1 (fun σ2 _ r2 q2 la2 => ?_)
      have u1 := aUn_le (va v) (rxq (va v) q p)
      have eu : aUn (va (vq v (rxq (va v) q p))) (aq (va (vq v (rxq (va v) q p)))) = aUn (va v) (rxq (va v) q p) := rfl
      obtain ⟨k1, k2, k3⟩ := back σ2 r2 la2 (g1.tr q2.1)
      rw [eu, iI_le (by omega) (by omega) (by omega) (by omega)]
      refine ⟨fun w => ?_, fun w => ?_⟩
      · have hpos : pos (va v) mb may q p := ⟨by omega, by omega⟩
        rw [if_pos hpos] at h
        unfold rg at h
        rw [if_neg hl] at h
        rw [iI_sub, show (0 : Int32) = iI 0 from rfl, iI_le (by omega) (by omega) (by omega) (by omega)]
        refine ⟨fun c => ?_, fun c => ?_⟩
        · rw [if_pos c] at h
          exact ⟨_, rfl, h _ k1 k2 k3⟩
        · rw [if_neg c] at h
          refine sp_loss (d := d + 4) (a := aPl (va v) (amd (va v)) q) hb2 k1.1 k2 ho (by omega) (sp_loss (d := d + 4) (a := aPl (va v) (amd (va v)) q) hb2 k1.1 k2 ho (by omega) ?_)
          have e3 : iI (mLo (aw (aPl (va v) (amd (va v)) q) (mSc (mCt (aPl (va v) (amd (va v)) q)) (mO (va v) p))) (mT (aPl (va v) (amd (va v)) q) (mO (va v) p)) (q (mO (va v) p)) : Nat) - iI (mLo (aw (aPl (va v) (amd (va v)) q) (mSc (mCt (aPl (va v) (amd (va v)) q)) (mO (va v) p))) (mT (aPl (va v) (amd (va v)) q) (mO (va v) p)) (q (mO (va v) p) - 1) : Nat) = iI ((mLs (va v) (mO (va v) p) (q (mO (va v) p)) : Int) - mLs (va v) (mO (va v) p) (q (mO (va v) p) - 1)) := iI_sub _ _
          rw [e3, iI_l (by omega) (by omega), iI_l (by omega) (by omega), show (1000 : Int64) = lI 1000 from rfl, lI_mul, lI_div (by omega) (by omega) (by omega) (by omega)]
          refine ⟨?_, _, rfl, h _ k1 k2 k3⟩
          rw [show (0 : Int64) = lI 0 from rfl, lI_eq (by omega) (by omega) (by omega) (by omega)]; omega
      · have hpos : ¬ pos (va v) mb may q p := fun x => w (by have := x.2; omega)
        rw [if_neg hpos] at h
        exact ⟨_, rfl, h _ k1 k2 k3⟩
    · have hpos : ¬ pos (va v) mb may q p := fun x => y (by have := x.1; omega)
      rw [if_neg hpos] at h
      obtain ⟨k1, k2, k3⟩ := back σ1 r1 la1 g1
      exact ⟨_, rfl, h _ k1 k2 k3⟩
def bF (a : mA) (b : Int) : Int := if b = -1 then -1 else (mO a b.toNat : Nat)
noncomputable def bG (a : mA) (mb may : Nat) (q : Nat → Nat) (b : Int) : Int := if b = -1 then -1 else its a mb may q b.toNat
theorem r64 {d mb may r : Nat} {v : mV} {q : Nat → Nat} {σ : zS} {post : zPo} {X : zX} (hX : zClosed none (zCall (d + 7)) post nX12_relax X) (hv : vB v) (hq : ∀ f, f < 60 → q f ≤ 51) (hmb : mb ≤ 10000000) (hmay : may ≤ 60) (h : ∀ τ, RI τ (vq v q) → rLa τ (va v) → zHg σ τ → zIf (iI (bF (va v) (rxB (va v) mb may q)) = (-1)) (X 41 [some (.ref 63), some (.int (iI mb)), some (.int (iI may)), some (.int (iI r)), some (.int 0), none, none, none, none, none, none] [] τ) (vp_in (208 + iI (bF (va v) (rxB (va v) mb may q))) (zN 64) ∧ (X 41 [some (.ref 63), some (.int (iI mb)), some (.int (iI may)), some (.int (iI (r : Nat) + 1)), some (.int 1), none, none, none, none, none, none] [] (zSI τ 64 (Int32.toNatClampNeg (208 + iI (bF (va v) (rxB (va v) mb may q)))) ((τ.1 64 (Int32.toNatClampNeg (208 + iI (bF (va v) (rxB (va v) mb may q))))) - 1))))) : ∀ (m i : Nat) (b : Int) (τ : zS), i + m = an (va v) → ggI (its (va v) mb may q) i b → rxB (va v) mb may q = gg (its (va v) mb may q) m i b → RI τ (vq v q) → rLa τ (va v) → zHg σ τ → X 64 [some (.ref 63), some (.int (iI mb)), some (.int (iI may)), some (.int (iI r)), none, some (.int (iI (bF (va v) b))), some (.long (lI (bG (va v) mb may q b))), none, some (.int (iI i)), none, none] [] τ
  | 0, i, b, τ, hm, hi, e, hR, l, g => by
    have e2 : i = an (va v) := by omega
    subst e2
    refine zq_X12_relax_64 hX _ _ _ _ _ _ τ (zIf_f ?_ ?_)
    · rw [hR.1.1]; exact Int32.lt_irrefl
    · have := h τ hR l g
      rw [e] at this
      exact this
  | m + 1, i, b, τ, hm, hi, e, hR, l, g => by
    have h60 := hv.1.n60
    have hin : i < an (va v) := by omega
    have qb : ∀ p, p < an (va v) → q (mO (va v) p) ≤ 51 := fun p hp => hq _ (by have := mO_lt (a := va v) hp; omega)
    have ib := its_b (mb := mb) (may := may) hv.1 hin (qb i hin)
    have n0 : τ.1 64 0 = iI (an (va v)) := hR.1.1
    have e71 : τ.1 71 i = iI (mO (va v) i) := l.2.2.2.2.2.2 i hin
    have gb : -1 ≤ bG (va v) mb may q b ∧ bG (va v) mb may q b ≤ 20000000000 ∧ (ggN (its (va v) mb may q) i b = if its (va v) mb may q i ≤ bG (va v) mb may q b then b else (i : Int)) := by
      unfold bG ggN
      rcases hi with ⟨a1, _⟩ | ⟨j, a1, a2, a3, _, _⟩
      · rw [if_pos a1]
        refine ⟨by omega, by omega, ?_⟩
        by_cases c : its (va v) mb may q i = -1
        · rw [if_pos c, if_pos (by omega)]
        · rw [if_neg c, if_pos (by omega), if_neg (by omega)]
      · have ej : b.toNat = j := by rw [a1]; rfl
        have jb := its_b (mb := mb) (may := may) hv.1 (show j < an (va v) by omega) (qb j (by omega))
        rw [if_neg (by omega), ej]
        refine ⟨jb.1, jb.2, ?_⟩
        by_cases c : its (va v) mb may q i = -1
        · rw [if_pos c, if_pos (by omega)]
        · rw [if_neg c, if_neg (by omega)]
    obtain ⟨gb1, gb2, gb3⟩ := gb
    refine zq_X12_relax_64 hX _ _ _ _ _ _ τ (zIf_t ?_ ?_)
    · rw [n0, iI_lt (by omega) (by omega) (by omega) (by omega)]; omega
    · rw [iI_k (by omega), e71, iI_l (by omega) (by omega)]
      refine ⟨vin_k (by show i < 60; omega) (by decide), sp_gainOf (d := d) (mb := mb) (may := may) hv hq hR l hin hmb hmay (fun υ r1 l1 g1 => ?_)⟩
      have go := r64 hX hv hq hmb hmay h m (i + 1) (ggN (its (va v) mb may q) i b) υ (by omega) (ggN_I ib.1 hi) e r1 l1 (g.tr g1)
      have e71b : υ.1 71 i = iI (mO (va v) i) := l1.2.2.2.2.2.2 i hin
      rw [gb3] at go
      rw [e71b, iI_s, cmp_le (by omega) (by omega) (by omega) (by omega)]
      refine ⟨fun z => ?_, fun z => ?_⟩
      · rw [if_pos z] at go
        exact go
      · rw [if_neg z] at go
        have e5 : bF (va v) (i : Int) = (mO (va v) i : Nat) := by
          unfold bF
          rw [if_neg (by omega)]
          rfl
        have e6 : bG (va v) mb may q (i : Int) = its (va v) mb may q i := by
          unfold bG
          rw [if_neg (by omega)]
          rfl
        rw [e5, e6] at go
        exact go
theorem rl_loop {d mb may : Nat} {v : mV} {σ : zS} {T : Nat × (Nat → Nat)} {post : zPo} {X : zX} (hX : zClosed none (zCall (d + 7)) post nX12_relax X) (hv : vB v) (hmb : mb ≤ 10000000) (hmay : may ≤ 60) (fin : ∀ r q τ, T = (r, q) → RI τ (vq v q) → zHg σ τ → post (some (.int (iI (r : Nat)))) τ) : ∀ (m r : Nat) (q : Nat → Nat) (τ : zS), m + r = 500 → T = rx (va v) mb may m q r → (∀ f, f < 60 → q f ≤ 51) → RI τ (vq v q) → rLa τ (va v) → zHg σ τ → X 41 [some (.ref 63), some (.int (iI mb)), some (.int (iI may)), some (.int (iI r)), some (.int 1), none, none, none, none, none, none] [] τ
  | 0, r, q, τ, hm, e, hq, hR, l, g => by
    have r5 : r = 500 := by omega
    subst r5
    exact zq_X12_relax_41 hX _ _ _ _ τ (zIf_f (by decide) (zIf_f (by decide) (fin 500 q τ e hR g)))
  | m + 1, r, q, τ, hm, e, hq, hR, l, g => by
    have h60 := hv.1.n60
    have qb : ∀ p, p < an (va v) → q (mO (va v) p) ≤ 51 := fun p hp => hq _ (by have := mO_lt (a := va v) hp; omega)
    have hb2 : aB (aPl (va v) (amd (va v)) q) := hv.1.pm hq
    refine zq_X12_relax_41 hX _ _ _ _ τ (zIf_f (by decide) (zIf_t ?_ ?_))
    · rw [show (500 : Int32) = iI 500 from rfl, iI_lt (by omega) (by omega) (by omega) (by omega)]; omega
    · have s2 : ggI (its (va v) mb may q) (an (va v)) (rxB (va v) mb may q) := gg_I (fun p hp => (its_b hv.1 hp (qb p hp)).1) (an (va v)) 0 (-1) (by omega) (Or.inl ⟨rfl, fun p hp => absurd hp (Nat.not_lt_zero p)⟩)
      refine r64 (d := d) (r := r) (σ := σ) hX hv hq hmb hmay (fun υ r1 l1 g1 => ?_) (an (va v)) 0 (-1) τ (by omega) (Or.inl ⟨rfl, fun p hp => absurd hp (Nat.not_lt_zero p)⟩) rfl hR l g
      unfold rx at e
      rcases s2 with ⟨a1, _⟩ | ⟨j, a1, a2, a3, _, _⟩
      · rw [if_pos a1] at e
        rw [a1, show bF (va v) (-1) = -1 from if_pos rfl]
        refine zIf_t (by decide) (zq_X12_relax_41 hX _ _ _ _ υ (zIf_t (by decide) (fin r q υ e r1 g1)))
      · rw [if_neg (by omega), a1, show ((j : Int)).toNat = j from rfl] at e
        have ho := mO_lt (a := va v) a2
        have e5 : bF (va v) (j : Int) = (mO (va v) j : Nat) := by
          unfold bF
          rw [if_neg (by omega)]
          rfl
        have hl : ¬ q (mO (va v) j) ≤ aS (va v) 2 := fun z => by
          unfold its at a3
          rw [if_pos z] at a3
          omega
        have ep : υ.1 64 (208 + mO (va v) j) = iI (q (mO (va v) j)) := r1.1.q (by omega)
        have e2 : iI (q (mO (va v) j) : Int) - 1 = iI ((q (mO (va v) j) - 1 : Nat) : Int) := by rw [iI_m]; exact congrArg iI (by omega)
        rw [a1, e5]
        refine zIf_f (by rw [show (-1 : Int32) = iI (-1) from by decide, iI_eq (by omega) (by omega) (by omega) (by omega)]; omega) ?_
        rw [iI_208p, iI_k (by omega), ep, e2, iI_s]
        refine ⟨vin_k (by show 208 + mO (va v) j < 268; omega) (by decide), ?_⟩
        have st : RI (zSI υ 64 (208 + mO (va v) j) (iI ((q (mO (va v) j) - 1 : Nat) : Int))) (vq v (rxq (va v) q j)) := RI.st_ (x := q (mO (va v) j) - 1) hb2 r1 (show mO (va v) j < 60 by omega)
        exact rl_loop hX hv hmb hmay fin m (r + 1) (rxq (va v) q j) _ (by omega) e (rxq_b hq j (by omega)) st (l1.of (by rw [zSI_1 (by decide)]) (by rw [zSI_1 (by decide)]) (zSI_1 (by decide)) (zSI_1 (by decide)) (zSI_1 (by decide)) (zSI_1 (by decide)) (zSI_1 (by decide))) (g1.si (by decide) _ _)
theorem rx_b {a : mA} {mb may : Nat} (hb : aB a) : ∀ (m r : Nat) (q : Nat → Nat), (∀ f, f < 60 → q f ≤ 51) → ∀ f, f < 60 → (rx a mb may m q r).2 f ≤ 51
  | 0, _, _, hq => hq
  | m + 1, r, q, hq => by
    unfold rx
    have h60 := hb.n60
    have qb : ∀ p, p < an a → q (mO a p) ≤ 51 := fun p hp => hq _ (by have := mO_lt (a := a) hp; omega)
    have s2 : ggI (its a mb may q) (an a) (rxB a mb may q) := gg_I (fun p hp => (its_b hb hp (qb p hp)).1) (an a) 0 (-1) (by omega) (Or.inl ⟨rfl, fun p hp => absurd hp (Nat.not_lt_zero p)⟩)
    by_cases c : rxB a mb may q = -1
    · rw [if_pos c]; exact hq
    · rw [if_neg c]
      rcases s2 with ⟨a1, _⟩ | ⟨j, a1, a2, _⟩
      · exact absurd a1 c
      · refine rx_b hb m (r + 1) _ ?_
        rw [a1]
        exact rxq_b hq j (by have := mO_lt (a := a) a2; omega)
theorem pr_relax {p : Int32} {σ : zS} (g : G σ) : zPair nX11_relax nX12_relax [.int p] σ := by
  obtain ⟨v, hv, hC, hR⟩ := g
  have h60 := hv.1.n60
  by_cases c : 0 ≤ p ∧ p ≤ 10000000
  · cases hm : amd (va v) with
    | false =>
      refine zP_I (v := v) (w := v) (-3) hv hR ?_ (fun τ hT => ?_)
      · exact ze_X11_relax (d := 7) _ σ (fun X hX => zq_X11_relax_0 (d := 1) hX _ σ (zIf_t c (zIf_t (hC.2.1.m.mpr hm) (kNo hC))))
      · exact ze_X12_relax (d := 7) _ τ (fun X hX => zq_X12_relax_0 (d := 0) hX _ τ (zIf_t c (zIf_t ((rAt_0.mp hT.1).m.mpr hm) (rNo hT))))
    | true =>
      obtain ⟨mb, rfl, _, hmb⟩ := rgN (p := p) 0 10000000 (by decide) (by decide) c
      obtain ⟨r, q, e⟩ : ∃ r q, rx (va v) mb (aUn (va v) (aq (va v))) 500 (aq (va v)) 0 = (r, q) := ⟨_, _, rfl⟩
      have qb : ∀ f, f < 60 → q f ≤ 51 := fun f hf => by
        have := rx_b (mb := mb) (may := aUn (va v) (aq (va v))) hv.1 500 0 (aq (va v)) (fun f hf => hv.1.q hf) f hf
        rw [e] at this
        exact this
      have ub := aUn_le (va v) (aq (va v))
      refine zP_I (v := v) (w := vq v q) (iI (r : Nat)) (vq_B hv qb) hR ?_ (fun τ hT => ?_)
      · refine ze_X11_relax (d := 7) _ σ (fun X hX => zq_X11_relax_0 (d := 1) hX _ σ (zIf_t c (zIf_f (sl_n hC.2.1.1 hm) ?_)))
        refine sp_loosen (d := 1) hv hC hm hmb (fun r2 q2 τ e2 c2 lw => ?_)
        rw [e] at e2
        cases e2
        exact ⟨_, rfl, rfl, c2, lw⟩
      · refine ze_X12_relax (d := 7) _ τ (fun X hX => zq_X12_relax_0 (d := 0) hX _ τ (zIf_t c (zIf_f (sl_n (am_if (rAt_0.mp hT.1)) hm) ?_)))
        refine sp_ty (d := 4) hv hT (fun υ h1 h2 l => ?_)
        refine sp_now (d := 1) hv h1 l (fun ω _ r1 q1 l1 => ?_)
        refine rl_loop (d := 0) (σ := τ) (T := (r, q)) hX hv hmb (by omega) (fun r2 q2 ψ e2 rr gg => ?_) 500 0 (aq (va v)) ω rfl e.symm (fun f hf => hv.1.q hf) r1 l1 (h2.1.tr q1.1)
        cases e2
        exact ⟨_, rfl, rfl, rr, gg⟩
  · refine zP_I (v := v) (w := v) (-2) hv hR ?_ (fun τ hT => ?_)
    · exact ze_X11_relax (d := 7) _ σ (fun X hX => zq_X11_relax_0 (d := 1) hX _ σ (zIf_f c (kNo hC)))
    · exact ze_X12_relax (d := 7) _ τ (fun X hX => zq_X12_relax_0 (d := 0) hX _ τ (zIf_f c (rNo hT)))
