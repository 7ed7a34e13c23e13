/-! smooth -/
def sV (a : mA) (mo : Nat) (Q : Nat → Nat) (p : Nat) : Nat := if mSc (mCt a) (mO a p) = mSc (mCt a) (mO a (p - 1)) then (mCl (Q (mO a p)) ((Q (mO a (p - 1)) : Int) - mo) ((Q (mO a (p - 1)) : Int) + mo)).toNat else Q (mO a p)
def sQ (a : mA) (mo : Nat) : Nat → (Nat → Nat)
  | 0 => aq a
  | j + 1 => nU (sQ a mo j) (mO a (j + 1)) (sV a mo (sQ a mo j) (j + 1))
def sN (a : mA) (mo : Nat) : Nat → Nat
  | 0 => 0
  | j + 1 => sN a mo j + if sV a mo (sQ a mo j) (j + 1) = sQ a mo j (mO a (j + 1)) then 0 else 1
theorem mCl_q {v c mo : Nat} (hv : v ≤ 51) (hc : c ≤ 51) : 0 ≤ mCl v ((c : Int) - mo) ((c : Int) + mo) ∧ mCl v ((c : Int) - mo) ((c : Int) + mo) ≤ 51 := by
  unfold mCl
  repeat' split
  all_goals omega
theorem sV_b {a : mA} {mo p : Nat} {Q : Nat → Nat} (h1 : Q (mO a p) ≤ 51) (h2 : Q (mO a (p - 1)) ≤ 51) : sV a mo Q p ≤ 51 := by
  have := mCl_q (mo := mo) h1 h2
  unfold sV
  split
  · omega
  · exact h1
theorem sV_e {a : mA} {mo p : Nat} {Q : Nat → Nat} (h1 : Q (mO a p) ≤ 51) (h2 : Q (mO a (p - 1)) ≤ 51) (c : mSc (mCt a) (mO a p) = mSc (mCt a) (mO a (p - 1))) : mCl (Q (mO a p)) ((Q (mO a (p - 1)) : Int) - mo) ((Q (mO a (p - 1)) : Int) + mo) = (sV a mo Q p : Nat) := by
  have := mCl_q (mo := mo) h1 h2
  unfold sV
  rw [if_pos c]
  omega
theorem sQ_b {a : mA} (hb : aB a) (mo : Nat) : ∀ j, j < an a → ∀ f, f < 60 → sQ a mo j f ≤ 51
  | 0, _, f, hf => hb.q hf
  | j + 1, hj, f, hf => by
    have h60 := hb.n60
    have i1 := mO_lt (a := a) hj
    have i2 := mO_lt (a := a) (show j < an a by omega)
    show nU (sQ a mo j) (mO a (j + 1)) (sV a mo (sQ a mo j) (j + 1)) f ≤ 51
    by_cases e : f = mO a (j + 1)
    · rw [e, nU_s]
      exact sV_b (sQ_b hb mo j (by omega) _ (by omega)) (sQ_b hb mo j (by omega) _ (by show mO a j < 60; omega))
    · rw [nU_n e]; exact sQ_b hb mo j (by omega) f hf
theorem nU_self (Q : Nat → Nat) (k : Nat) : nU Q k (Q k) = Q := funext fun j => by
  by_cases e : j = k
  · rw [e, nU_s]
  · rw [nU_n e]
theorem sm_loop {d mo : Nat} {v : mV} {σ : zS} {post : zPo} {X : zX} (hX : zClosed none (zCall (d + 1)) post nX5_smoothen X) (hv : vB v) (hC : CI σ v) (hmo : mo ≤ 51) (h : ∀ τ, zFr [10] σ τ → (∀ f, f < an (va v) → τ.1 10 f = iI (sQ (va v) mo (an (va v) - 1) f)) → post (some (.int (iI (sN (va v) mo (an (va v) - 1))))) τ) : ∀ (m j : Nat) (τ : zS), j + 1 + m = an (va v) → zFr [10] σ τ → (∀ f, f < an (va v) → τ.1 10 f = iI (sQ (va v) mo j f)) → X 5 [some (.ref 34), some (.ref 10), some (.int (iI mo)), some (.int (iI (sN (va v) mo j))), some (.int (iI ((j + 1 : Nat) : Int))), none, none, none, none] [] τ
  | 0, j, τ, hm, f, g => by
    have e : j = an (va v) - 1 := by omega
    subst e
    refine zq_X5_smoothen_5 hX 10 _ _ _ rfl τ (zIf_f ?_ (h τ f g))
    rw [f.1 16 (by decide), hC.2.2.1.1, iI_lt (by have := hv.1.n60; omega) (by have := hv.1.n60; omega) (by have := hv.1.n60; omega) (by have := hv.1.n60; omega)]; omega
  | m + 1, j, τ, hm, f, g => by
    have h60 := hv.1.n60
    have hin : j + 1 < an (va v) := by omega
    have o1 := mO_lt (a := va v) hin
    have o2 := mO_lt (a := va v) (show j < an (va v) by omega)
    have q1 := sQ_b hv.1 mo j (by omega) (mO (va v) (j + 1)) (by omega)
    have q2 := sQ_b hv.1 mo j (by omega) (mO (va v) j) (by omega)
    have e23 : zAt τ 23 (iI ((j + 1 : Nat) : Int)) = iI (mO (va v) (j + 1)) := by rw [zAt_k (show j + 1 < zN 23 by show j + 1 < 60; omega), f.1 23 (by decide)]; exact hC.2.2.1.2.2.2.2.2.2.2.2.2 _ hin
    have e3 : iI ((j + 1 : Nat) : Int) - 1 = iI (j : Int) := by rw [iI_m]; exact congrArg iI (by omega)
    have e23b : zAt τ 23 (iI (j : Int)) = iI (mO (va v) j) := by rw [zAt_k (show j < zN 23 by show j < 60; omega), f.1 23 (by decide)]; exact hC.2.2.1.2.2.2.2.2.2.2.2.2 _ (by omega)
    have e18 : ∀ k, k < an (va v) → zAt τ 18 (iI (k : Int)) = iI (mSc (mCt (va v)) k) := fun k hk => by rw [zAt_k (show k < zN 18 by show k < 60; omega), f.1 18 (by decide)]; exact hC.2.2.1.2.2.2.2.1 k hk
    have e10 : ∀ k, k < an (va v) → zAt τ 10 (iI (k : Int)) = iI (sQ (va v) mo j k) := fun k hk => by rw [zAt_k (show k < zN 10 by show k < 60; omega)]; exact g k hk
    have c1 := mSc_lt (cut := mCt (va v)) h60 o1
    have c2 := mSc_lt (cut := mCt (va v)) h60 o2
    have eS : iI (mSc (mCt (va v)) (mO (va v) (j + 1)) : Nat) = iI (mSc (mCt (va v)) (mO (va v) j) : Nat) ↔ mSc (mCt (va v)) (mO (va v) (j + 1)) = mSc (mCt (va v)) (mO (va v) j) := by
      rw [iI_eq (by omega) (by omega) (by omega) (by omega)]; omega
    have same : sV (va v) mo (sQ (va v) mo j) (j + 1) = sQ (va v) mo j (mO (va v) (j + 1)) → X 5 [some (.ref 34), some (.ref 10), some (.int (iI mo)), some (.int (iI (sN (va v) mo j))), some (.int (iI ((j + 1 + 1 : Nat) : Int))), none, none, none, none] [] τ := fun z => by
      have go := sm_loop hX hv hC hmo h m (j + 1) τ (by omega) f (fun k hk => by
        show _ = iI (nU (sQ (va v) mo j) (mO (va v) (j + 1)) (sV (va v) mo (sQ (va v) mo j) (j + 1)) k : Nat)
        rw [z, nU_self]
        exact g k hk)
      have en : sN (va v) mo (j + 1) = sN (va v) mo j := by
        show sN (va v) mo j + (if _ then 0 else 1) = _
        rw [if_pos z]
        rfl
      rw [en] at go
      exact go
    refine zq_X5_smoothen_5 hX 10 _ _ _ rfl τ (zIf_t ?_ ?_)
    · rw [f.1 16 (by decide), hC.2.2.1.1, iI_lt (by omega) (by omega) (by omega) (by omega)]; omega
    · rw [e3, e23, e23b, e18 _ o1, e18 _ o2, e10 _ o1, e10 _ o2, iI_sub, iI_add, iI_s (j + 1)]
      refine ⟨fun z => ?_, fun z => ?_⟩
      · have zs := eS.mp z
        have el : zLc (iI (sQ (va v) mo j (mO (va v) (j + 1)) : Nat)) (iI ((sQ (va v) mo j (mO (va v) j) : Int) - mo)) (iI ((sQ (va v) mo j (mO (va v) j) : Int) + mo)) = iI (sV (va v) mo (sQ (va v) mo j) (j + 1) : Nat) := by
          rw [zLc_iI (by omega) (by omega) (by omega) (by omega) (by omega)]
          exact congrArg iI (sV_e (mo := mo) (p := j + 1) q1 q2 zs)
        have vb : sV (va v) mo (sQ (va v) mo j) (j + 1) ≤ 51 := sV_b (p := j + 1) q1 q2
        rw [el, zPt_k (show mO (va v) (j + 1) < zN 10 by show mO (va v) (j + 1) < 60; omega)]
        rw [iI_eq (by omega) (by omega) (by omega) (by omega)]
        refine ⟨fun y => same (by omega), fun y => ?_⟩
        have ny : ¬ sV (va v) mo (sQ (va v) mo j) (j + 1) = sQ (va v) mo j (mO (va v) (j + 1)) := fun w => y (by omega)
        have go := sm_loop hX hv hC hmo h m (j + 1) (zSI τ 10 (mO (va v) (j + 1)) (iI (sV (va v) mo (sQ (va v) mo j) (j + 1) : Nat))) (by omega) (f.si (by decide) _ _) (fun k hk => by
          show _ = iI (nU (sQ (va v) mo j) (mO (va v) (j + 1)) (sV (va v) mo (sQ (va v) mo j) (j + 1)) k : Nat)
          rw [zSI_s]
          exact upd_n (fun i hi e => g i hi) k hk)
        have en : sN (va v) mo (j + 1) = sN (va v) mo j + 1 := by
          show sN (va v) mo j + (if _ then 0 else 1) = _
          rw [if_neg ny]
        rw [en] at go
        rw [iI_s (sN (va v) mo j)]
        exact go
      · exact same (by unfold sV; exact if_neg (fun y => z (eS.mpr y)))
theorem rsm_loop {d mo : Nat} {v : mV} {σ : zS} {post : zPo} {X : zX} (hX : zClosed none (zCall (d + 3)) post nX12_smooth X) (hv : vB v) (l : rLa σ (va v)) (hmo : mo ≤ 51) (h : ∀ τ, zFr [64] σ τ → rAt τ 64 0 (aPl (va v) (amd (va v)) (sQ (va v) mo (an (va v) - 1))) → post (some (.int (iI (sN (va v) mo (an (va v) - 1))))) τ) : ∀ (m j : Nat) (τ : zS), j + 1 + m = an (va v) → zFr [64] σ τ → rAt τ 64 0 (aPl (va v) (amd (va v)) (sQ (va v) mo j)) → X 35 [some (.ref 63), some (.int (iI mo)), some (.int (iI (sN (va v) mo j))), some (.int (iI ((j + 1 : Nat) : Int))), none, none, none, none] [] τ
  | 0, j, τ, hm, f, g => by
    have e : j = an (va v) - 1 := by omega
    subst e
    refine zq_X12_smooth_35 hX _ _ _ τ (zIf_f ?_ (h τ f g))
    rw [g.1]
    show ¬ _ < iI (an (va v) : Nat)
    rw [iI_lt (by have := hv.1.n60; omega) (by have := hv.1.n60; omega) (by have := hv.1.n60; omega) (by have := hv.1.n60; omega)]; omega
  | m + 1, j, τ, hm, f, g => by
    have h60 := hv.1.n60
    have hin : j + 1 < an (va v) := by omega
    have o1 := mO_lt (a := va v) hin
    have o2 := mO_lt (a := va v) (show j < an (va v) by omega)
    have qb := sQ_b hv.1 mo j (by omega)
    have q1 := qb (mO (va v) (j + 1)) (by omega)
    have q2 := qb (mO (va v) j) (by omega)
    have hb2 : aB (aPl (va v) (amd (va v)) (sQ (va v) mo j)) := hv.1.pm qb
    have e3 : iI ((j + 1 : Nat) : Int) - 1 = iI (j : Int) := by rw [iI_m]; exact congrArg iI (by omega)
    have e71 : ∀ k, k < an (va v) → τ.1 71 k = iI (mO (va v) k) := fun k hk => by rw [f.1 71 (by decide)]; exact l.2.2.2.2.2.2 k hk
    have e68 : ∀ k, k < an (va v) → τ.1 68 k = iI (mSc (mCt (va v)) k) := fun k hk => by rw [f.1 68 (by decide)]; exact l.2.2.2.1 k hk
    have ep : ∀ k, k < an (va v) → τ.1 64 (208 + k) = iI (sQ (va v) mo j k) := fun k hk => g.q (by omega)
    have c1 := mSc_lt (cut := mCt (va v)) h60 o1
    have c2 := mSc_lt (cut := mCt (va v)) h60 o2
    have eS : iI (mSc (mCt (va v)) (mO (va v) (j + 1)) : Nat) = iI (mSc (mCt (va v)) (mO (va v) j) : Nat) ↔ mSc (mCt (va v)) (mO (va v) (j + 1)) = mSc (mCt (va v)) (mO (va v) j) := by
      rw [iI_eq (by omega) (by omega) (by omega) (by omega)]; omega
    have st := g.st (x := sV (va v) mo (sQ (va v) mo j) (j + 1)) hb2 (show mO (va v) (j + 1) < 60 by omega)
    have go := rsm_loop hX hv l hmo h m (j + 1) (zSI τ 64 (208 + mO (va v) (j + 1)) (iI (sV (va v) mo (sQ (va v) mo j) (j + 1) : Nat))) (by omega) (f.si (by decide) _ _) st
    have same : sV (va v) mo (sQ (va v) mo j) (j + 1) = sQ (va v) mo j (mO (va v) (j + 1)) → X 35 [some (.ref 63), some (.int (iI mo)), some (.int (iI (sN (va v) mo j : Nat) + 0)), some (.int (iI ((j + 1 + 1 : Nat) : Int))), none, none, none, none] [] (zSI τ 64 (208 + mO (va v) (j + 1)) (iI (sQ (va v) mo j (mO (va v) (j + 1)) : Nat))) := fun z => by
      have en : sN (va v) mo (j + 1) = sN (va v) mo j := by
        show sN (va v) mo j + (if _ then 0 else 1) = _
        rw [if_pos z]
        rfl
      rw [en, z] at go
      rw [show (0 : Int32) = iI ((0 : Nat) : Int) from rfl, iI_kk]
      exact go
    refine zq_X12_smooth_35 hX _ _ _ τ (zIf_t ?_ ?_)
    · rw [g.1]; show iI _ < iI (an (va v) : Nat); rw [iI_lt (by omega) (by omega) (by omega) (by omega)]; omega
    · rw [e3, iI_k (by omega), iI_k (by omega), e71 _ hin, e71 j (by omega), iI_208p, iI_208p, iI_k (by omega), iI_k (by omega), iI_k (by omega), iI_k (by omega), e68 _ o1, e68 _ o2, ep _ o1, ep _ o2, iI_sub, iI_add, iI_s (j + 1)]
      refine ⟨vin_k (by show j < 60; omega) (by decide), vin_k (by show 208 + mO (va v) j < 268; omega) (by decide), vin_k (by show j + 1 < 60; omega) (by decide), vin_k (by show 208 + mO (va v) (j + 1) < 268; omega) (by decide), vin_k (by show mO (va v) (j + 1) < 60; omega) (by decide), vin_k (by show mO (va v) j < 60; omega) (by decide), fun z => ?_, fun z => ?_⟩
      · have zs := eS.mp z
        have el : zLm (iI (sQ (va v) mo j (mO (va v) (j + 1)) : Nat)) (iI ((sQ (va v) mo j (mO (va v) j) : Int) - mo)) (iI ((sQ (va v) mo j (mO (va v) j) : Int) + mo)) = iI (sV (va v) mo (sQ (va v) mo j) (j + 1) : Nat) := by
          rw [zLm_iI (by omega) (by omega) (by omega) (by omega) (by omega)]
          exact congrArg iI (sV_e (mo := mo) (p := j + 1) q1 q2 zs)
        have vb : sV (va v) mo (sQ (va v) mo j) (j + 1) ≤ 51 := sV_b (p := j + 1) q1 q2
        rw [el, iI_eq (by omega) (by omega) (by omega) (by omega)]
        refine ⟨fun y => same (by omega), fun y => ?_⟩
        have ny : ¬ sV (va v) mo (sQ (va v) mo j) (j + 1) = sQ (va v) mo j (mO (va v) (j + 1)) := fun w => y (by omega)
        have en : sN (va v) mo (j + 1) = sN (va v) mo j + 1 := by
          show sN (va v) mo j + (if _ then 0 else 1) = _
          rw [if_neg ny]
        rw [en] at go
        rw [iI_s (sN (va v) mo j)]
        exact go
      · exact same (by unfold sV; exact if_neg (fun y => z (eS.mpr y)))
theorem pr_smooth {p : Int32} {σ : zS} (g : G σ) : zPair nX11_smooth nX12_smooth [.int p] σ := by
  obtain ⟨v, hv, hC, hR⟩ := g
  have n60 := hv.1.n60
  by_cases c : 0 ≤ p ∧ p ≤ 51
  · cases hm : amd (va v) with
    | false =>
      refine zP_I (v := v) (w := v) (-3) hv hR ?_ (fun τ hT => ?_)
      · exact ze_X11_smooth (d := 7) _ σ (fun X hX => zq_X11_smooth_0 (d := 5) hX _ σ (zIf_t c (zIf_t (hC.2.1.m.mpr hm) (kNo hC))))
      · exact ze_X12_smooth (d := 7) _ τ (fun X hX => zq_X12_smooth_0 (d := 4) hX _ τ (zIf_t c (zIf_t ((rAt_0.mp hT.1).m.mpr hm) (rNo hT))))
    | true =>
      obtain ⟨mo, rfl, hmo⟩ := (w7 (m := 51) (by decide)).mp c
      have hn := hv.1.2.2.2.2.2.2.2.2.2.2.2 hm
      have qb := sQ_b hv.1 mo (an (va v) - 1) (by omega)
      refine zP_I (v := v) (w := vA v (aPl (va v) (amd (va v)) (sQ (va v) mo (an (va v) - 1)))) (iI (sN (va v) mo (an (va v) - 1))) (hv.a (hv.1.pm qb)) hR ?_ (fun τ hT => ?_)
      · refine ze_X11_smooth (d := 7) _ σ (fun X hX => zq_X11_smooth_0 (d := 5) hX _ σ (zIf_t c (zIf_f (sl_n hC.2.1.1 hm) ?_)))
        refine ze_X5_smoothen (d := 6) _ _ σ (fun Y hY => zq_X5_smoothen_0 (d := 5) hY 10 _ rfl σ ?_)
        refine sm_loop (d := 5) (mo := mo) (σ := σ) hY hv hC hmo (fun τ f k => ⟨_, rfl, _, rfl, rfl, ?_, f.lw (by decide)⟩) (an (va v) - 1) 0 σ (by omega) (zFr.rf _ _) (fun k hk => hC.2.1.2 hm k hk)
        exact hC.pl (fun r hr h9 h10 => f.1 r (by revert r; decide)) (by rw [f.1 9 (by decide)]; exact hC.2.1.1) (fun _ i hi => k i hi)
      · refine ze_X12_smooth (d := 7) _ τ (fun X hX => zq_X12_smooth_0 (d := 4) hX _ τ (zIf_t c (zIf_f (sl_n (am_if (rAt_0.mp hT.1)) hm) ?_)))
        refine sp_ty (d := 4) hv hT (fun υ h1 h2 l => ?_)
        exact rsm_loop (d := 4) (mo := mo) (σ := υ) hX hv l hmo (fun ω f k => ⟨_, rfl, rfl, h1.pl k (fun r hr => f.1 r (by revert r; decide)) (by rw [f.1 63 (by decide)]), h2.1.tr (f.hg (by decide))⟩) (an (va v) - 1) 0 υ (by omega) (zFr.rf _ _) h1.1
  · refine zP_I (v := v) (w := v) (-2) hv hR ?_ (fun τ hT => ?_)
    · exact ze_X11_smooth (d := 7) _ σ (fun X hX => zq_X11_smooth_0 (d := 5) hX _ σ (zIf_f c (kNo hC)))
    · exact ze_X12_smooth (d := 7) _ τ (fun X hX => zq_X12_smooth_0 (d := 4) hX _ τ (zIf_f c (rNo hT)))
