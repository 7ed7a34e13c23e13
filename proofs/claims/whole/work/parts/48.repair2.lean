/-! repair: the component's rounds; the reference -/
theorem md_w {d : Nat} {v : mV} {q : Nat → Nat} {post : zPo} {X : zX} (hX : zClosed none (zCall (d + 5)) post nX5_mend X) (hv : vB v) (hq : ∀ f, f < 60 → q f ≤ 51) {σ : zS} (h : ∀ τ, kMd v q τ → zFi [26, 27, 28, 29, 30, 31, 35, 36] σ τ → X 45 [some (.ref 34), some (.ref 10), some (.int 0), none, none] [] τ) : ∀ (m i : Nat) (τ : zS), i + m = an (va v) → CI τ v → zFi [26, 27, 28, 29, 30, 31, 35, 36] σ τ → (∀ f, f < an (va v) → τ.1 35 f = iI (q f)) → (∀ p, p < an (va v) → τ.1 27 p = iI (mBp (va v) q p)) → (∀ p, p < i → τ.1 36 p = iI (rnx (va v) q p)) → (∀ p, p < i → rnx (va v) q p ≠ -1 → τ.2 37 p = lI (rcs (va v) q p)) → X 21 [some (.ref 34), some (.ref 10), some (.int (iI i)), none, none] [] τ
  | 0, i, τ, hm, hC, f, k35, k27, k36, k37 => by
    have e : i = an (va v) := by omega
    subst e
    refine zq_X5_mend_21 hX 10 _ rfl τ (zIf_f ?_ (h τ ⟨hC, k35, k27, k36, k37⟩ f))
    rw [hC.2.2.1.1]
    exact Int32.lt_irrefl
  | m + 1, i, τ, hm, hC, f, k35, k27, k36, k37 => by
    have h60 := hv.1.n60
    have hin : i < an (va v) := by omega
    have ho := mO_lt (a := va v) hin
    refine zq_X5_mend_21 hX 10 _ rfl τ (zIf_t ?_ ?_)
    · rw [hC.2.2.1.1, iI_lt (by omega) (by omega) (by omega) (by omega)]; omega
    · refine sp_weighRaise (d := d + 1) hv hC hin hq (k35 _ ho) (fun υ g1 g2 g3 g4 => ?_)
      rw [iI_s]
      refine md_w hX hv hq h m (i + 1) υ (by omega) (hC.fi g1 (by decide)) (f.tr g1 (by decide)) (fun f hf => ?_) (fun p hp => ?_) (fun p hp => ?_) (fun p hp hn => ?_)
      · rw [g1 35 (by decide)]; exact k35 f hf
      · rw [g1 27 (by decide)]; exact k27 p hp
      · rw [g2]
        by_cases e : p = i
        · rw [e]; simp only [upd, if_pos]
        · simp only [upd, if_neg e]; exact k36 p (by omega)
      · by_cases e : p = i
        · rw [e] at hn ⊢; exact g3 hn
        · rw [g4 p e]; exact k37 p (by omega) hn
theorem md_loop {d : Nat} {v : mV} {σ : zS} {post : zPo} {X : zX} (hX : zClosed none (zCall (d + 5)) post nX5_mend X) (hv : vB v) (hs : ∀ r q τ, rpA (va v) = some (r, q) → (∀ f, f < 60 → q f ≤ 51) → CI τ v → zFi [10, 26, 27, 28, 29, 30, 31, 35, 36] σ τ → (∀ f, f < an (va v) → τ.1 35 f = iI (q f)) → post (some (.int (iI (r : Nat)))) (zCp τ 35 10)) (hn : ∀ τ, rpA (va v) = none → CI τ v → zFi [10, 26, 27, 28, 29, 30, 31, 35, 36] σ τ → post (some (.int (-3))) τ) : ∀ (m r : Nat) (q : Nat → Nat) (τ : zS), r + m = 3061 → rpM (va v) q + 1 ≤ m → rpA (va v) = rpR (va v) m q r → (∀ f, f < 60 → q f ≤ 51) → kMd v q τ → zFi [10, 26, 27, 28, 29, 30, 31, 35, 36] σ τ → X 45 [some (.ref 34), some (.ref 10), some (.int (iI r)), none, none] [] τ
  | 0, r, q, τ, hm, hM, e, hq, hK, f => by omega
  | m + 1, r, q, τ, hm, hM, e, hq, hK, f => by
    have h60 := hv.1.n60
    obtain ⟨hC, k35, k27, k36, k37⟩ := hK
    have qb : ∀ i, i < an (va v) → q i ≤ 51 := fun i hi => hq i (by omega)
    unfold rpR at e
    refine zq_X5_mend_45 hX 10 _ rfl τ (zIf_t ?_ ?_)
    · rw [show (3060 : Int32) = iI 3060 from rfl, iI_le (by omega) (by omega) (by omega) (by omega)]; omega
    · refine sp_passAsSet (d := d + 1) (a := va v) (B := mBp (va v) q) hv.1 hC.1.2.2.2.1 hC.2.2.1.1 (fun p hp => ⟨k27 p hp, (mBp_le hv.1 qb hp).2⟩) (fun τ1 t1 => ?_)
      have hC1 : CI τ1 v := hC.fr t1.1 (by decide)
      have f1 : zFi [10, 26, 27, 28, 29, 30, 31, 35, 36] σ τ1 := f.tr t1.1.fi (by decide)
      have hK1 : kMd v q τ1 := ⟨hC1, fun f hf => by rw [t1.1.1 35 (by decide)]; exact k35 f hf, fun p hp => by rw [t1.1.1 27 (by decide)]; exact k27 p hp, fun p hp => by rw [t1.1.1 36 (by decide)]; exact k36 p hp, fun p hp hn => by rw [t1.1.2]; exact k37 p hp hn⟩
      refine sp_firstUnderflow (d := d + 3) (P := aUp (va v) q) (L := aLk (va v) q) h60 hC1.2.2.1.1 (fun p hp => ⟨(t1.2.2.2.2.2 p hp).2.2.1, by have := aLk_b hv.1 qb hp; omega, bLa_up⟩) ?_
      have eU : mFs (aUp (va v) q) (an (va v)) 0 = rpU (va v) q := rfl
      rw [eU]
      rcases rpU_s (va v) q with c | ⟨u, c, c1⟩
      · rw [if_pos c] at e
        rw [c]
        exact zIf_t (by decide) (hs r q τ1 e hq hC1 f1 hK1.2.1)
      · have cn : rpU (va v) q ≠ -1 := by omega
        rw [if_neg cn] at e
        have eu : (rpU (va v) q).toNat = u := by rw [c]; rfl
        rw [c]
        refine zIf_f (by rw [show (0 : Int32) = iI 0 from rfl, iI_lt (by omega) (by omega) (by omega) (by omega)]; omega) ?_
        refine sp_lastFull (d := d + 3) (sz := aS (va v) 4) (P := fun p => decide (aBe (va v) q p = aS (va v) 4)) (L := aBe (va v) q) h60 (by have := hv.1.2.2.2.2.1.2; omega) t1.2.1 (fun p hp => ⟨(t1.2.2.2.2.2 p hp).1, by have := aBe_b hv.1 q p; omega, decide_eq_true_iff⟩) c1 ?_
        have eW : mLf (fun p => decide (aBe (va v) q p = aS (va v) 4)) u = rpW (va v) q := by unfold rpW; rw [eu]
        have wl : rpW (va v) q ≤ u := by rw [← eW]; exact mLf_le _ _
        rw [eW]
        refine ze_X5_cheapestRaise (d := d + 4) _ _ τ1 (fun Y hY => zq_X5_cheapestRaise_0 (d := d + 3) hY _ _ τ1 ?_)
        refine ch_lp (d := d + 3) (q := q) hY hv hq hK1.2.2.2.1 hK1.2.2.2.2 c1 (u + 1 - rpW (va v) q) (rpW (va v) q) (-1) (by omega) (Or.inl rfl) ⟨_, rfl, ?_⟩
        have eP : chp (va v) q (u + 1 - rpW (va v) q) (rpW (va v) q) (-1) = rpP (va v) q := by unfold rpP; rw [eu]
        rw [eP]
        rcases rpP_I (a := va v) (q := q) cn with cp | ⟨p, cp, cp1, cp2⟩
        · rw [if_pos cp] at e
          rw [cp]
          exact zIf_t (by decide) (hn τ1 e hC1 f1)
        · have cpn : rpP (va v) q ≠ -1 := by omega
          rw [if_neg cpn] at e
          have ep : (rpP (va v) q).toNat = p := by rw [cp]; rfl
          obtain ⟨x, ex⟩ : ∃ x : Nat, rnx (va v) q p = (x : Int) := by
            rcases nxt_spec (K := mK (va v) (mO (va v) p)) (u := q (mO (va v) p)) (most := aS (va v) 3) with c | ⟨x, c, _⟩
            · exact absurd c cp2
            · exact ⟨x, c⟩
          have eQ : rpQ (va v) q = nU q (mO (va v) p) x := by
            unfold rpQ
            rw [ep, ex]
            rfl
          rw [eQ] at e
          rw [cp]
          refine zIf_f (by rw [show (0 : Int32) = iI 0 from rfl, iI_lt (by omega) (by omega) (by omega) (by omega)]; omega) ?_
          refine sp_raise (d := d) hv hK1 cp1 hq ex (fun τ2 K2 f2 => ?_)
          rw [iI_s]
          have dec := rpM_lt hv.1 cp1 ex
          exact md_loop hX hv hs hn m (r + 1) _ τ2 (by omega) (by omega) e (rpQ_b hv.1 hq cp1 ex) K2 (f1.tr f2 (by decide))
theorem rpM_b (a : mA) (hb : aB a) (q : Nat → Nat) : rpM a q ≤ 3060 := by
  have h1 : rpM a q ≤ an a * 51 := fb_sm_bound (fun k _ => Nat.sub_le _ _)
  have h2 := hb.n60
  omega
theorem sp_mend {d : Nat} {v : mV} {σ : zS} {k : Int32 → zS → Prop} (hv : vB v) (hC : CI σ v) (hm : amd (va v) = true) (hs : ∀ r q τ, rpA (va v) = some (r, q) → (∀ f, f < 60 → q f ≤ 51) → CI τ (vA v (aPl (va v) (amd (va v)) q)) → zLw σ τ → k (iI (r : Nat)) τ) (hn : ∀ τ, rpA (va v) = none → CI τ v → zLw σ τ → k (-3) τ) : zCall (d + 6) nX5_mend [.ref 34, .ref 10] σ (zPI k) := by
  have h60 := hv.1.n60
  refine ze_X5_mend _ σ (fun X hX => zq_X5_mend_0 hX 10 rfl σ ?_)
  have f0 : zFr [35] σ (zCp σ 10 35) := (zFr.rf _ _).cp (by decide)
  have hC0 := hC.fr f0 (by decide)
  have k35 : ∀ f, f < an (va v) → (zCp σ 10 35).1 35 f = iI (aq (va v) f) := fun f hf => by
    rw [zCp_at (show f < zN 10 by show f < 60; omega) (show f < zN 35 by show f < 60; omega)]; exact hC.2.1.2 hm f hf
  refine sp_takeBits (d := d + 2) (a := va v) (q := aq (va v)) rfl (by decide) rfl hv.1 hC0.2.2.1 hC0.2.2.2.1 (fun i hi => ⟨k35 i hi, hv.1.q (by omega)⟩) (fun τ ht => ?_)
  have f1 : zFi [10, 26, 27, 28, 29, 30, 31, 35, 36] σ τ := (f0.fi.wd (by decide)).tr ht.1.fi (by decide)
  refine md_w (d := d) (q := aq (va v)) (σ := τ) hX hv (fun f hf => hv.1.q hf) (fun τ2 K2 f2 => ?_) (an (va v)) 0 τ (by omega) (hC0.fr ht.1 (by decide)) (fun _ _ => rfl) (fun f hf => by rw [ht.1.1 35 (by decide)]; exact k35 f hf) ht.2 (fun p hp => absurd hp (Nat.not_lt_zero p)) (fun p hp => absurd hp (Nat.not_lt_zero p))
  have fm := rpM_b (va v) hv.1 (aq (va v))
  refine md_loop (d := d) (σ := σ) hX hv (fun r q τ3 e hq c3 f3 k3 => ⟨_, rfl, hs r q _ e hq ?_ ?_⟩) (fun τ3 e c3 f3 => ⟨_, rfl, hn τ3 e c3 (f3.lw (by decide))⟩) 3061 0 (aq (va v)) τ2 rfl (by omega) rfl (fun f hf => hv.1.q hf) K2 (f1.tr f2 (by decide))
  · exact c3.pl (fun r hr h9 h10 => zCp_1 h10) (by rw [zCp_1 (by decide)]; exact c3.2.1.1) (fun _ i hi => by rw [zCp_at (show i < zN 35 by show i < 60; omega) (show i < zN 10 by show i < 60; omega)]; exact k3 i hi)
  · exact fun r hr => (zCp_1 (by omega)).trans (f3 r (fun z => by revert hr; revert r; decide))
-- the reference
theorem rnq_loop {d f u : Nat} {v : mV} {q : Nat → Nat} {σ : zS} {post : zPo} {X : zX} (hX : zClosed none (zCall (d + 2)) post nX12_nextQuantizer X) (hv : vB v) (hq : ∀ f, f < 60 → q f ≤ 51) (hr : rAt σ 64 0 (aPl (va v) (amd (va v)) q)) (l : rLa σ (va v)) (hf : f < an (va v)) (hu : u ≤ 51) : ∀ (m x : Nat), m = aS (va v) 3 + 1 - x → x ≤ 52 → post (some (.int (iI (mFs (fun x => decide (mBi (mK (va v) f) x < mBi (mK (va v) f) u)) m x)))) σ → X 29 [some (.ref 63), some (.int (iI f)), some (.int (iI (mBi (mK (va v) f) u))), some (.int (iI x))] [] σ
  | 0, x, hm, hx, h => by
    have b3 := hv.1.2.2.2.1.2
    have s3 : σ.1 64 184 = iI (aS (va v) 3) := hr.s (j := 3) (by decide)
    refine zq_X12_nextQuantizer_29 hX _ _ _ σ (zIf_f ?_ h)
    rw [s3, iI_le (by omega) (by omega) (by omega) (by omega)]; omega
  | m + 1, x, hm, hx, h => by
    have b3 := hv.1.2.2.2.1.2
    have s3 : σ.1 64 184 = iI (aS (va v) 3) := hr.s (j := 3) (by decide)
    have bx := (mBi_le (w := mK (va v) f) (q := x) (mWk_le hv.1.1 hf) (by omega)).2
    have bu := (mBi_le (w := mK (va v) f) (q := u) (mWk_le hv.1.1 hf) (by omega)).2
    refine zq_X12_nextQuantizer_29 hX _ _ _ σ (zIf_t ?_ ?_)
    · rw [s3, iI_le (by omega) (by omega) (by omega) (by omega)]; omega
    · refine sp_bits (d := d) (a := aPl (va v) (amd (va v)) q) (hv.1.pm hq) hr l hf (by omega) ?_
      have eb : mBi (mK (aPl (va v) (amd (va v)) q) f) x = mBi (mK (va v) f) x := rfl
      rw [eb, iI_lt (by omega) (by omega) (by omega) (by omega), iI_s]
      unfold mFs at h
      refine ⟨fun z => ?_, fun z => ?_⟩
      · rw [if_pos (decide_eq_true (by omega))] at h; exact h
      · rw [if_neg (fun y => z (by have := of_decide_eq_true y; omega))] at h
        exact rnq_loop hX hv hq hr l hf hu m (x + 1) (by omega) (by omega) h
theorem sp_nextQ {d f : Nat} {v : mV} {q : Nat → Nat} {σ : zS} {k : Int32 → zS → Prop} (hv : vB v) (hq : ∀ f, f < 60 → q f ≤ 51) (hr : rAt σ 64 0 (aPl (va v) (amd (va v)) q)) (l : rLa σ (va v)) (hf : f < an (va v)) (h : k (iI (nxt (mK (va v) f) (q f) (aS (va v) 3))) σ) : zCall (d + 3) nX12_nextQuantizer [.ref 63, .int (iI f)] σ (zPI k) := by
  have h60 := hv.1.n60
  have ep : σ.1 64 (208 + f) = iI (q f) := hr.q (by omega)
  have hu := hq f (by omega)
  refine ze_X12_nextQuantizer _ σ (fun X hX => zq_X12_nextQuantizer_0 hX _ σ ?_)
  rw [iI_208p, iI_k (by omega), ep]
  refine ⟨vin_k (by show 208 + f < 268; omega) (by decide), sp_bits (d := d) (a := aPl (va v) (amd (va v)) q) (hv.1.pm hq) hr l hf (by omega) ?_⟩
  rw [ep, iI_s]
  exact rnq_loop hX hv hq hr l hf hu (aS (va v) 3 - q f) (q f + 1) (by omega) (by omega) ⟨_, rfl, h⟩
theorem sp_costOf {d f x : Nat} {v : mV} {q : Nat → Nat} {σ : zS} {k : Int64 → zS → Prop} (hv : vB v) (hq : ∀ f, f < 60 → q f ≤ 51) (hr : rAt σ 64 0 (aPl (va v) (amd (va v)) q)) (l : rLa σ (va v)) (hf : f < an (va v)) (hx : x ≤ 51) (hlt : mBi (mK (va v) f) x < mBi (mK (va v) f) (q f)) (h : k (lI (mCs (va v) f (q f) x)) σ) : zCall (d + 3) nX12_costOf [.ref 63, .int (iI f), .int (iI x)] σ (zPJ k) := by
  have h60 := hv.1.n60
  have ep : σ.1 64 (208 + f) = iI (q f) := hr.q (by omega)
  have hu := hq f (by omega)
  have hb2 : aB (aPl (va v) (amd (va v)) q) := hv.1.pm hq
  have lx := mLs_b hv.1 hf hx
  have lu := mLs_b hv.1 hf hu
  have bx := (mBi_le (w := mK (va v) f) (q := x) (mWk_le hv.1.1 hf) (by omega)).2
  have bu := (mBi_le (w := mK (va v) f) (q := q f) (mWk_le hv.1.1 hf) (by omega)).2
  refine ze_X12_costOf _ _ σ (fun X hX => zq_X12_costOf_0 hX _ _ σ ?_)
  rw [iI_208p, iI_k (by omega), ep]
  refine ⟨vin_k (by show 208 + f < 268; omega) (by decide), ?_⟩
  refine sp_loss (d := d) hb2 hr l hf (by omega) (sp_loss (d := d) hb2 hr l hf (by omega) (sp_bits (d := d) hb2 hr l hf (by omega) (sp_bits (d := d) hb2 hr l hf (by omega) ?_)))
  have e1 : iI (mLo (aw (aPl (va v) (amd (va v)) q) (mSc (mCt (aPl (va v) (amd (va v)) q)) f)) (mT (aPl (va v) (amd (va v)) q) f) x : Nat) - iI (mLo (aw (aPl (va v) (amd (va v)) q) (mSc (mCt (aPl (va v) (amd (va v)) q)) f)) (mT (aPl (va v) (amd (va v)) q) f) (q f) : Nat) = iI ((mLs (va v) f x : Int) - mLs (va v) f (q f)) := iI_sub _ _
  have e2 : iI (mBi (mK (aPl (va v) (amd (va v)) q) f) (q f) : Nat) - iI (mBi (mK (aPl (va v) (amd (va v)) q) f) x : Nat) = iI ((mBi (mK (va v) f) (q f) : Int) - mBi (mK (va v) f) x) := iI_sub _ _
  rw [e1, e2, iI_l (by omega) (by omega), iI_l (by omega) (by omega), show (1000 : Int64) = lI 1000 from rfl, lI_mul, lI_div (by omega) (by omega) (by omega) (by omega)]
  refine ⟨?_, _, rfl, h⟩
  rw [show (0 : Int64) = lI 0 from rfl, lI_eq (by omega) (by omega) (by omega) (by omega)]; omega
def rcL (a : mA) (q : Nat → Nat) (b : Int) : Int := if b = -1 then 0 else rcs a q b.toNat
theorem rch_lp {d z : Nat} {v : mV} {q : Nat → Nat} {σ : zS} {post : zPo} {X : zX} (hX : zClosed none (zCall (d + 3)) post nX12_cheapest X) (hv : vB v) (hq : ∀ f, f < 60 → q f ≤ 51) (hr : rAt σ 64 0 (aPl (va v) (amd (va v)) q)) (l : rLa σ (va v)) (hz : z < an (va v)) : ∀ (m p : Nat) (b : Int), p + m = z + 1 → chI (va v) q b → post (some (.int (iI (chp (va v) q m p b)))) σ → X 8 [some (.ref 63), none, some (.int (iI z)), some (.int (iI b)), some (.long (lI (rcL (va v) q b))), none, some (.int (iI p)), none, none, none] [] σ
  | 0, p, b, hm, hi, h => by
    have h60 := hv.1.n60
    refine zq_X12_cheapest_8 hX _ _ _ _ σ (zIf_f ?_ h)
    rw [iI_le (by omega) (by omega) (by omega) (by omega)]; omega
  | m + 1, p, b, hm, hi, h => by
    have h60 := hv.1.n60
    have b3 := hv.1.2.2.2.1.2
    have hp : p < an (va v) := by omega
    have ho := mO_lt (a := va v) hp
    have go := rch_lp hX hv hq hr l hz m (p + 1) (chN (va v) q p b) (by omega) (chN_I hp hi) h
    have e71 : σ.1 71 p = iI (mO (va v) p) := l.2.2.2.2.2.2 p hp
    have en : nxt (mK (va v) (mO (va v) p)) (q (mO (va v) p)) (aS (va v) 3) = rnx (va v) q p := rfl
    have bb : b = -1 ∨ (0 ≤ b ∧ b < 60) := by
      rcases hi with c | ⟨j, c, c1, _⟩
      · exact Or.inl c
      · exact Or.inr ⟨by omega, by omega⟩
    have eb : iI b = -1 ↔ b = -1 := by
      rw [show (-1 : Int32) = iI (-1) from by decide, iI_eq (by omega) (by omega) (by omega) (by omega)]
    refine zq_X12_cheapest_8 hX _ _ _ _ σ (zIf_t ?_ ?_)
    · rw [iI_le (by omega) (by omega) (by omega) (by omega)]; omega
    · rw [iI_k (by omega), e71, iI_s]
      refine ⟨vin_k (by show p < 60; omega) (by decide), sp_nextQ (d := d) hv hq hr l ho ?_⟩
      rw [en]
      unfold chN at go
      rcases nxt_spec (K := mK (va v) (mO (va v) p)) (u := q (mO (va v) p)) (most := aS (va v) 3) with c | ⟨x, c, c1, c2, c3⟩
      · rw [en] at c
        rw [if_pos c] at go
        rw [c]
        exact zIf_t (by decide) go
      · rw [en] at c
        have ny : ¬ rnx (va v) q p = -1 := by omega
        rw [if_neg ny] at go
        rw [c]
        refine zIf_f (by rw [show (-1 : Int32) = iI (-1) from by decide, iI_eq (by omega) (by omega) (by omega) (by omega)]; omega) ?_
        rw [e71]
        refine sp_costOf (d := d) hv hq hr l ho (by omega) c3 ?_
        have ec : mCs (va v) (mO (va v) p) (q (mO (va v) p)) x = rcs (va v) q p := by
          unfold rcs
          rw [c]
          rfl
        rw [ec]
        have cbp : -20000000000 ≤ rcs (va v) q p ∧ rcs (va v) q p ≤ 20000000000 := by
          rw [← ec]
          exact mCs_b hv.1 ho (hq _ (by omega)) (by omega)
        have ep1 : ∀ j : Nat, rcL (va v) q (j : Int) = rcs (va v) q j := fun j => by
          unfold rcL
          rw [if_neg (by omega)]
          rfl
        refine ⟨fun y => ?_, fun y => ?_⟩
        · have b1 := eb.mp y
          rw [if_pos (by omega)] at go
          rw [ep1] at go
          exact go
        · have b1 : ¬ b = -1 := fun w => y (eb.mpr w)
          obtain ⟨j, rfl, hj, hjn⟩ : ∃ j : Nat, b = (j : Int) ∧ j < an (va v) ∧ rnx (va v) q j ≠ -1 := by
            rcases hi with c | c
            · omega
            · exact c
          rw [if_neg (show ¬ ((j : Int) < 0) by omega), show ((j : Int)).toNat = j from rfl] at go
          have cbj : -20000000000 ≤ rcs (va v) q j ∧ rcs (va v) q j ≤ 20000000000 := by
            have hoj := mO_lt (a := va v) hj
            rcases nxt_spec (K := mK (va v) (mO (va v) j)) (u := q (mO (va v) j)) (most := aS (va v) 3) with c | ⟨x, c, c1, c2, c3⟩
            · exact absurd c hjn
            · have c' : rnx (va v) q j = (x : Int) := c
              unfold rcs
              rw [c']
              exact mCs_b hv.1 hoj (hq _ (by omega)) (by show x ≤ 51; omega)
          rw [ep1, cmp_lt (by omega) (by omega) (by omega) (by omega)]
          refine ⟨fun w => ?_, fun w => ?_⟩
          · rw [if_pos w, ep1] at go; exact go
          · rw [if_neg w, ep1] at go; exact go
