/-! scene -/
theorem mFs_snoc {P : Nat → Bool} : ∀ (m i : Nat), mFs P (m + 1) i = if mFs P m i = -1 then (if P (i + m) = true then ((i + m : Nat) : Int) else -1) else mFs P m i
  | 0, i => by
    show (if P i = true then (i : Int) else -1) = _
    simp [mFs]
  | m + 1, i => by
    have e : mFs P (m + 1 + 1) i = if P i = true then (i : Int) else mFs P (m + 1) (i + 1) := rfl
    have e2 : mFs P (m + 1) i = if P i = true then (i : Int) else mFs P m (i + 1) := rfl
    rw [e, e2]
    by_cases c : P i = true
    · rw [if_pos c, if_pos c, if_neg (by omega)]
    · rw [if_neg c, if_neg c, mFs_snoc m (i + 1), show i + 1 + m = i + (m + 1) by omega]
def msQ (a : mA) (s f : Nat) : Bool := decide (mSc (mCt a) f = s)
def msB (a : mA) (q : Nat → Nat) (s f : Nat) : Nat := if msQ a s f = true then mBi (mK a f) (q f) else 0
def msS (a : mA) (q : Nat → Nat) (s f : Nat) : Nat := if msQ a s f = true then q f else 0
def msG (a : mA) (s f : Nat) : Bool := msQ a s f && decide (mT a f = 0)
def msV (a : mA) (s w : Nat) : Int := if w = 0 then mFs (msQ a s) (an a) 0 else if w = 1 then (fb_ct (msQ a s) (an a) : Nat) else if w = 2 then (aw a s : Nat) else if w = 3 then (fb_sm (msB a (aq a) s) (an a) : Nat) else if w = 4 then (10 * fb_sm (msS a (aq a) s) (an a) / fb_ct (msQ a s) (an a) : Nat) else (fb_ct (msG a s) (an a) : Nat)
theorem ms_pos {a : mA} {s : Nat} (hs : s < mS (mCt a) (an a)) : 0 < fb_ct (msQ a s) (an a) := by
  obtain ⟨i, hi, pi, ei⟩ := fb_ct_kth hs
  refine fb_ct_pos.mpr ⟨i, hi, decide_eq_true ?_⟩
  show mS (mCt a) (i + 1) - 1 = s
  have : mS (mCt a) (i + 1) = mS (mCt a) i + 1 := by
    show fb_ct _ (i + 1) = fb_ct _ i + 1
    rw [fb_ct_succ, if_pos pi]
  have e2 : mS (mCt a) i = s := ei
  omega
theorem msQ_iI {a : mA} {s f : Nat} (hs : s < 60) (h60 : an a ≤ 60) (hf : f < an a) : iI (mSc (mCt a) f : Nat) = iI (s : Nat) ↔ msQ a s f = true := by
  have := mSc_lt (cut := mCt a) h60 hf
  unfold msQ
  rw [decide_eq_true_eq, iI_eq (by omega) (by omega) (by omega) (by omega)]
  omega
theorem ct_iI {P : Nat → Bool} {i : Nat} (c : P i = true) : iI (fb_ct P i : Nat) + 1 = iI (fb_ct P (i + 1) : Nat) := by
  rw [iI_s, fb_ct_succ, if_pos c]
theorem ct_no {P : Nat → Bool} {i : Nat} (c : ¬ P i = true) : fb_ct P (i + 1) = fb_ct P i := by
  rw [fb_ct_succ, if_neg c, Nat.add_zero]
theorem fos_loop {d s : Nat} {v : mV} {σ : zS} {post : zPo} {X : zX} (hX : zClosed none (zCall (d + 1)) post nX3_firstOfScene X) (hv : vB v) (hC : CI σ v) (hs : s < 60) : ∀ (m i : Nat), i + m = an (va v) → post (some (.int (iI (mFs (msQ (va v) s) m i)))) σ → X 2 [some (.ref 16), some (.int (iI s)), some (.int (iI i))] [] σ
  | 0, i, hm, h => by
    have e : i = an (va v) := by omega
    subst e
    refine zq_X3_firstOfScene_2 hX _ _ σ (zIf_f ?_ h)
    rw [hC.2.2.1.1]; exact Int32.lt_irrefl
  | m + 1, i, hm, h => by
    have h60 := hv.1.n60
    have hin : i < an (va v) := by omega
    have e1 : zAt σ 18 (iI i) = iI (mSc (mCt (va v)) i) := by rw [zAt_k (show i < zN 18 by show i < 60; omega)]; exact hC.2.2.1.2.2.2.2.1 i hin
    refine zq_X3_firstOfScene_2 hX _ _ σ (zIf_t ?_ ?_)
    · rw [hC.2.2.1.1, iI_lt (by omega) (by omega) (by omega) (by omega)]; omega
    · rw [e1, iI_s]
      unfold mFs at h
      refine ⟨fun z => ?_, fun z => ?_⟩
      · rw [if_pos ((msQ_iI hs h60 hin).mp z)] at h; exact h
      · rw [if_neg (fun y => z ((msQ_iI hs h60 hin).mpr y))] at h
        exact fos_loop hX hv hC hs m (i + 1) (by omega) h
theorem frs_loop {d s : Nat} {v : mV} {σ : zS} {post : zPo} {X : zX} (hX : zClosed none (zCall (d + 1)) post nX3_framesOfScene X) (hv : vB v) (hC : CI σ v) (hs : s < 60) (h : post (some (.int (iI (fb_ct (msQ (va v) s) (an (va v)))))) σ) : ∀ (m i : Nat), i + m = an (va v) → X 4 [some (.ref 16), some (.int (iI s)), some (.int (iI (fb_ct (msQ (va v) s) i))), some (.int (iI i))] [] σ
  | 0, i, hm => by
    have e : i = an (va v) := by omega
    subst e
    refine zq_X3_framesOfScene_4 hX _ _ _ σ (zIf_f ?_ h)
    rw [hC.2.2.1.1]; exact Int32.lt_irrefl
  | m + 1, i, hm => by
    have h60 := hv.1.n60
    have hin : i < an (va v) := by omega
    have e1 : zAt σ 18 (iI i) = iI (mSc (mCt (va v)) i) := by rw [zAt_k (show i < zN 18 by show i < 60; omega)]; exact hC.2.2.1.2.2.2.2.1 i hin
    have go := frs_loop hX hv hC hs h m (i + 1) (by omega)
    refine zq_X3_framesOfScene_4 hX _ _ _ σ (zIf_t ?_ ?_)
    · rw [hC.2.2.1.1, iI_lt (by omega) (by omega) (by omega) (by omega)]; omega
    · rw [e1, iI_s i]
      refine ⟨fun z => ?_, fun z => ?_⟩
      · rw [ct_iI ((msQ_iI hs h60 hin).mp z)]; exact go
      · rw [ct_no (fun y => z ((msQ_iI hs h60 hin).mpr y))] at go; exact go
theorem grs_loop {d s : Nat} {v : mV} {σ : zS} {post : zPo} {X : zX} (hX : zClosed none (zCall (d + 1)) post nX3_groupsOfScene X) (hv : vB v) (hC : CI σ v) (hs : s < 60) (h : post (some (.int (iI (fb_ct (msG (va v) s) (an (va v)))))) σ) : ∀ (m i : Nat), i + m = an (va v) → X 4 [some (.ref 16), some (.int (iI s)), some (.int (iI (fb_ct (msG (va v) s) i))), some (.int (iI i))] [] σ
  | 0, i, hm => by
    have e : i = an (va v) := by omega
    subst e
    refine zq_X3_groupsOfScene_4 hX _ _ _ σ (zIf_f ?_ h)
    rw [hC.2.2.1.1]; exact Int32.lt_irrefl
  | m + 1, i, hm => by
    have h60 := hv.1.n60
    have hin : i < an (va v) := by omega
    have e1 : zAt σ 18 (iI i) = iI (mSc (mCt (va v)) i) := by rw [zAt_k (show i < zN 18 by show i < 60; omega)]; exact hC.2.2.1.2.2.2.2.1 i hin
    have e2 : zAt σ 17 (iI i) = iI (mT (va v) i) := by rw [zAt_k (show i < zN 17 by show i < 60; omega)]; exact hC.2.2.1.2.2.2.1 i hin
    have ht : mT (va v) i ≤ 2 := mTy_lt _ _ _ _ _
    have e3 : iI (mT (va v) i : Nat) = 0 ↔ mT (va v) i = 0 := by rw [show (0 : Int32) = iI 0 from rfl, iI_eq (by omega) (by omega) (by omega) (by omega)]; omega
    have go := grs_loop hX hv hC hs h m (i + 1) (by omega)
    refine zq_X3_groupsOfScene_4 hX _ _ _ σ (zIf_t ?_ ?_)
    · rw [hC.2.2.1.1, iI_lt (by omega) (by omega) (by omega) (by omega)]; omega
    · rw [e1, e2, iI_s i]
      refine ⟨fun z => ⟨fun y => ?_, fun y => ?_⟩, fun z => ?_⟩
      · have p : msG (va v) s i = true := by
          unfold msG
          rw [(msQ_iI hs h60 hin).mp z, decide_eq_true (e3.mp y)]
          rfl
        rw [ct_iI p]; exact go
      · rw [ct_no (P := msG (va v) s) (fun w => y (e3.mpr (by
          unfold msG at w
          rw [Bool.and_eq_true, decide_eq_true_eq] at w
          exact w.2)))] at go
        exact go
      · rw [ct_no (P := msG (va v) s) (fun w => z ((msQ_iI hs h60 hin).mpr (by
          unfold msG at w
          rw [Bool.and_eq_true] at w
          exact w.1)))] at go
        exact go
theorem bos_loop {d s : Nat} {v : mV} {σ : zS} {post : zPo} {X : zX} (hX : zClosed none (zCall (d + 2)) post nX11_bitsOfScene X) (hv : vB v) (hC : CI σ v) (hm : amd (va v) = true) (hs : s < 60) (h : post (some (.int (iI (fb_sm (msB (va v) (aq (va v)) s) (an (va v)))))) σ) : ∀ (m i : Nat), i + m = an (va v) → X 4 [some (.ref 0), some (.int (iI s)), some (.int (iI (fb_sm (msB (va v) (aq (va v)) s) i))), some (.int (iI i))] [] σ
  | 0, i, hm2 => by
    have e : i = an (va v) := by omega
    subst e
    refine zq_X11_bitsOfScene_4 hX _ _ _ σ (zIf_f ?_ h)
    rw [hC.1.1]; exact Int32.lt_irrefl
  | m + 1, i, hm2 => by
    have h60 := hv.1.n60
    have hin : i < an (va v) := by omega
    have e1 : zAt σ 18 (iI i) = iI (mSc (mCt (va v)) i) := by rw [zAt_k (show i < zN 18 by show i < 60; omega)]; exact hC.2.2.1.2.2.2.2.1 i hin
    have e2 : zAt σ 10 (iI i) = iI (aq (va v) i) := by rw [zAt_k (show i < zN 10 by show i < 60; omega)]; exact hC.2.1.2 hm i hin
    have go := bos_loop hX hv hC hm hs h m (i + 1) (by omega)
    refine zq_X11_bitsOfScene_4 hX _ _ _ σ (zIf_t ?_ ?_)
    · rw [hC.1.1, iI_lt (by omega) (by omega) (by omega) (by omega)]; omega
    · rw [e1, e2, kBi hv hC hin (hv.1.q (by omega)), iI_kk, iI_s]
      rw [fb_sm_succ] at go
      unfold msB at go
      refine ⟨fun z => ?_, fun z => ?_⟩
      · rw [if_pos ((msQ_iI hs h60 hin).mp z)] at go; exact go
      · rw [if_neg (fun y => z ((msQ_iI hs h60 hin).mpr y)), Nat.add_zero] at go; exact go
theorem mos_loop {d s : Nat} {v : mV} {σ : zS} {post : zPo} {X : zX} (hX : zClosed none (zCall (d + 2)) post nX11_meanOfScene X) (hv : vB v) (hC : CI σ v) (hm : amd (va v) = true) (hs : s < 60) (hs2 : s < mS (mCt (va v)) (an (va v))) (h : post (some (.int (iI (10 * fb_sm (msS (va v) (aq (va v)) s) (an (va v)) / fb_ct (msQ (va v) s) (an (va v)) : Nat)))) σ) : ∀ (m i : Nat), i + m = an (va v) → X 4 [some (.ref 0), some (.int (iI s)), some (.int (iI (fb_sm (msS (va v) (aq (va v)) s) i))), some (.int (iI i))] [] σ
  | 0, i, hm2 => by
    have h60 := hv.1.n60
    have e : i = an (va v) := by omega
    subst e
    have c1 := ms_pos hs2
    have c2 := fb_ct_le (msQ (va v) s) (an (va v))
    have c3 : fb_sm (msS (va v) (aq (va v)) s) (an (va v)) ≤ an (va v) * 51 := fb_sm_bound (fun k hk => by
      unfold msS
      split
      · exact hv.1.q (by omega)
      · omega)
    refine zq_X11_meanOfScene_4 hX _ _ _ σ (zIf_f ?_ ?_)
    · rw [hC.1.1]; exact Int32.lt_irrefl
    · refine ze_X3_framesOfScene (d := d + 1) _ σ (fun Y hY => zq_X3_framesOfScene_0 (d := d) hY _ σ ?_)
      refine frs_loop (d := d) hY hv hC hs ⟨_, rfl, ?_⟩ (an (va v)) 0 (by omega)
      show post (some (.int (Int64.toInt32 (zRat (Int32.toInt64 (10 * iI _)) (Int32.toInt64 (iI _)))))) σ
      rw [show (10 : Int32) = iI 10 from rfl, iI_mul, iI_l (by omega) (by omega), iI_l (by omega) (by omega), zRat_lI (by omega) (by omega) (by omega) (by omega), lI_i, Int.tdiv_eq_ediv_of_nonneg (by omega)]
      exact h
  | m + 1, i, hm2 => by
    have h60 := hv.1.n60
    have hin : i < an (va v) := by omega
    have e1 : zAt σ 18 (iI i) = iI (mSc (mCt (va v)) i) := by rw [zAt_k (show i < zN 18 by show i < 60; omega)]; exact hC.2.2.1.2.2.2.2.1 i hin
    have e2 : zAt σ 10 (iI i) = iI (aq (va v) i) := by rw [zAt_k (show i < zN 10 by show i < 60; omega)]; exact hC.2.1.2 hm i hin
    have go := mos_loop hX hv hC hm hs hs2 h m (i + 1) (by omega)
    refine zq_X11_meanOfScene_4 hX _ _ _ σ (zIf_t ?_ ?_)
    · rw [hC.1.1, iI_lt (by omega) (by omega) (by omega) (by omega)]; omega
    · rw [e1, e2, iI_kk, iI_s]
      rw [fb_sm_succ] at go
      unfold msS at go
      refine ⟨fun z => ?_, fun z => ?_⟩
      · rw [if_pos ((msQ_iI hs h60 hin).mp z)] at go; exact go
      · rw [if_neg (fun y => z ((msQ_iI hs h60 hin).mpr y)), Nat.add_zero] at go; exact go
theorem sp_kScene {d s w : Nat} {v : mV} {σ : zS} {k : Int32 → zS → Prop} (hv : vB v) (hC : CI σ v) (hs : s < mS (mCt (va v)) (an (va v))) (hw : w ≤ 5) (hm : w = 3 ∨ w = 4 → amd (va v) = true) (h : k (iI (msV (va v) s w)) σ) : zCall (d + 4) nX11_scene [.ref 0, .int (iI s), .int (iI w)] σ (zPI k) := by
  have h60 := hv.1.n60
  have hs60 : mS (mCt (va v)) (an (va v)) ≤ an (va v) := mS_le _ _
  have s60 : s < 60 := by omega
  have g0 : ∀ K : Int32 → zS → Prop, K (iI (mFs (msQ (va v) s) (an (va v)) 0)) σ → zCall (d + 3) nX3_firstOfScene [.ref 16, .int (iI s)] σ (zPI K) := fun K h => ze_X3_firstOfScene (d := d + 2) _ σ (fun Y hY => zq_X3_firstOfScene_0 (d := d + 1) hY _ σ (fos_loop (d := d + 1) hY hv hC s60 (an (va v)) 0 (by omega) ⟨_, rfl, h⟩))
  have g1 : ∀ K : Int32 → zS → Prop, K (iI (fb_ct (msQ (va v) s) (an (va v)) : Nat)) σ → zCall (d + 3) nX3_framesOfScene [.ref 16, .int (iI s)] σ (zPI K) := fun K h => ze_X3_framesOfScene (d := d + 2) _ σ (fun Y hY => zq_X3_framesOfScene_0 (d := d + 1) hY _ σ (frs_loop (d := d + 1) hY hv hC s60 ⟨_, rfl, h⟩ (an (va v)) 0 (by omega)))
  have g5 : ∀ K : Int32 → zS → Prop, K (iI (fb_ct (msG (va v) s) (an (va v)) : Nat)) σ → zCall (d + 3) nX3_groupsOfScene [.ref 16, .int (iI s)] σ (zPI K) := fun K h => ze_X3_groupsOfScene (d := d + 2) _ σ (fun Y hY => zq_X3_groupsOfScene_0 (d := d + 1) hY _ σ (grs_loop (d := d + 1) hY hv hC s60 ⟨_, rfl, h⟩ (an (va v)) 0 (by omega)))
  refine ze_X11_scene _ _ σ (fun X hX => zq_X11_scene_0 hX _ _ σ (zIf_t ?_ (zIf_t ((w7 (m := 5) (by decide)).mpr ⟨w, rfl, hw⟩) ?_)))
  · rw [hC.2.2.1.2.1]; exact (isF (Nat.le_trans hs60 h60)).mpr ⟨s, rfl, hs⟩
  · have e5 : zAt σ 5 (iI s) = iI (aw (va v) s) := by rw [zAt_k (show s < zN 5 from s60)]; exact hC.1.2.2.2.2.1 s s60
    rw [e5]
    have c : w = 0 ∨ w = 1 ∨ w = 2 ∨ w = 3 ∨ w = 4 ∨ w = 5 := by omega
    rcases c with rfl | rfl | rfl | rfl | rfl | rfl
    · exact ⟨fun _ => zIf_f (by decide) (zIf_f (by decide) (zIf_t (by decide) (g0 _ ⟨_, rfl, h⟩))), fun _ => zIf_t (by decide) (g0 _ ⟨_, rfl, h⟩)⟩
    · exact ⟨fun _ => zIf_f (by decide) (zIf_f (by decide) (zIf_f (by decide) (zIf_t (by decide) (g1 _ ⟨_, rfl, h⟩)))), fun _ => zIf_f (by decide) (zIf_t (by decide) (g1 _ ⟨_, rfl, h⟩))⟩
    · exact ⟨fun _ => zIf_f (by decide) (zIf_f (by decide) (zIf_f (by decide) (zIf_f (by decide) (zIf_t (by decide) ⟨_, rfl, h⟩)))), fun _ => zIf_f (by decide) (zIf_f (by decide) (zIf_t (by decide) ⟨_, rfl, h⟩))⟩
    · have m := hm (Or.inl rfl)
      refine zIf_f (sl_n hC.2.1.1 m) (zIf_f (by decide) (zIf_f (by decide) (zIf_f (by decide) (zIf_t (by decide) ?_))))
      exact ze_X11_bitsOfScene (d := d + 2) _ σ (fun Y hY => zq_X11_bitsOfScene_0 (d := d) hY _ σ (bos_loop (d := d) hY hv hC m s60 ⟨_, rfl, _, rfl, h⟩ (an (va v)) 0 (by omega)))
    · have m := hm (Or.inr rfl)
      refine zIf_f (sl_n hC.2.1.1 m) (zIf_f (by decide) (zIf_f (by decide) (zIf_f (by decide) (zIf_f (by decide) (zIf_t (by decide) ?_)))))
      exact ze_X11_meanOfScene (d := d + 2) _ σ (fun Y hY => zq_X11_meanOfScene_0 (d := d) hY _ σ (mos_loop (d := d) hY hv hC m s60 hs ⟨_, rfl, _, rfl, h⟩ (an (va v)) 0 (by omega)))
    · exact ⟨fun _ => zIf_f (by decide) (zIf_f (by decide) (zIf_f (by decide) (zIf_f (by decide) (zIf_f (by decide) (zIf_f (by decide) (zIf_f (by decide) (g5 _ ⟨_, rfl, h⟩))))))), fun _ => zIf_f (by decide) (zIf_f (by decide) (zIf_f (by decide) (zIf_f (by decide) (zIf_f (by decide) (g5 _ ⟨_, rfl, h⟩)))))⟩
-- the reference
theorem rsc_loop {d s w : Nat} {v : mV} {σ : zS} {post : zPo} {X : zX} (hX : zClosed none (zCall (d + 3)) post nX12_scene X) (hv : vB v) (hR : RI σ v) (l : rLa σ (va v)) (hs : s < mS (mCt (va v)) (an (va v))) (hw : w ≤ 5) (h : post (some (.int (iI (msV (va v) s w)))) σ) : ∀ (m i : Nat), i + m = an (va v) → X 71 [some (.ref 63), some (.int (iI s)), some (.int (iI w)), some (.int (iI (mFs (msQ (va v) s) i 0))), some (.int (iI (fb_ct (msQ (va v) s) i))), some (.int (iI (fb_sm (msB (va v) (aq (va v)) s) i))), some (.int (iI (fb_sm (msS (va v) (aq (va v)) s) i))), some (.int (iI (fb_ct (msG (va v) s) i))), some (.int (iI i))] [] σ
  | 0, i, hm2 => by
    have h60 := hv.1.n60
    have e : i = an (va v) := by omega
    subst e
    have hs60 : mS (mCt (va v)) (an (va v)) ≤ an (va v) := mS_le _ _
    have c1 := ms_pos hs
    have c2 := fb_ct_le (msQ (va v) s) (an (va v))
    have c3 : fb_sm (msS (va v) (aq (va v)) s) (an (va v)) ≤ an (va v) * 51 := fb_sm_bound (fun k hk => by
      unfold msS
      split
      · exact hv.1.q (by omega)
      · omega)
    refine zq_X12_scene_71 hX _ _ _ _ _ _ _ _ σ (zIf_f ?_ ?_)
    · rw [hR.1.1]; exact Int32.lt_irrefl
    · have c : w = 0 ∨ w = 1 ∨ w = 2 ∨ w = 3 ∨ w = 4 ∨ w = 5 := by omega
      rcases c with rfl | rfl | rfl | rfl | rfl | rfl
      · exact zIf_t (by decide) h
      · exact zIf_f (by decide) (zIf_t (by decide) h)
      · refine zIf_f (by decide) (zIf_f (by decide) (zIf_t (by decide) ?_))
        rw [iI_121p, iI_k (by omega)]
        refine ⟨vin_k (by show 121 + s < 268; omega) (by decide), ?_⟩
        rw [(rAt_0.mp hR.1).2.2.2.2.1 s (by omega)]
        exact h
      · exact zIf_f (by decide) (zIf_f (by decide) (zIf_f (by decide) (zIf_t (by decide) h)))
      · refine zIf_f (by decide) (zIf_f (by decide) (zIf_f (by decide) (zIf_f (by decide) (zIf_t (by decide) ⟨?_, ?_⟩))))
        · rw [show (0 : Int32) = iI 0 from rfl, iI_eq (by omega) (by omega) (by omega) (by omega)]; omega
        · rw [show (10 : Int32) = iI 10 from rfl, iI_mul, iI_divN (by omega) (by omega) (by omega) (by omega)]
          exact h
      · exact zIf_f (by decide) (zIf_f (by decide) (zIf_f (by decide) (zIf_f (by decide) (zIf_f (by decide) h))))
  | m + 1, i, hm2 => by
    have h60 := hv.1.n60
    have hin : i < an (va v) := by omega
    have hs60 : mS (mCt (va v)) (an (va v)) ≤ an (va v) := mS_le _ _
    have e1 : σ.1 68 i = iI (mSc (mCt (va v)) i) := l.2.2.2.1 i hin
    have e2 : σ.1 67 i = iI (mT (va v) i) := l.2.2.1 i hin
    have ht : mT (va v) i ≤ 2 := mTy_lt _ _ _ _ _
    have e3 : iI (mT (va v) i : Nat) = 0 ↔ mT (va v) i = 0 := by rw [show (0 : Int32) = iI 0 from rfl, iI_eq (by omega) (by omega) (by omega) (by omega)]; omega
    have hq := hv.1.q (show i < 60 by omega)
    have go := rsc_loop hX hv hR l hs hw h m (i + 1) (by omega)
    rw [fb_sm_succ, fb_sm_succ, mFs_snoc, Nat.zero_add] at go
    have sp : (mFs (msQ (va v) s) i 0 = -1) ∨ (0 ≤ mFs (msQ (va v) s) i 0 ∧ mFs (msQ (va v) s) i 0 < 60) := by
      rcases mFs_spec (P := msQ (va v) s) i 0 with ⟨c, _⟩ | ⟨j, c, c1, c2, _⟩
      · exact Or.inl c
      · exact Or.inr ⟨by omega, by omega⟩
    have e4 : iI (mFs (msQ (va v) s) i 0) = -1 ↔ mFs (msQ (va v) s) i 0 = -1 := by
      rw [show (-1 : Int32) = iI (-1) from by decide, iI_eq (by omega) (by omega) (by omega) (by omega)]
    refine zq_X12_scene_71 hX _ _ _ _ _ _ _ _ σ (zIf_t ?_ ⟨vin_k (by show i < 60; omega) (by decide), ?_⟩)
    · rw [hR.1.1, iI_lt (by omega) (by omega) (by omega) (by omega)]; omega
    · rw [iI_k (by omega), e1, iI_208p, iI_k (by omega), hR.1.ps hv.1 hin]
      rw [iI_s (k := i)]
      refine ⟨fun z => ?_, fun z => ?_⟩
      · have cq := (msQ_iI (by omega) h60 hin).mp z
        rw [fb_ct_succ, if_pos cq, if_pos cq] at go
        unfold msB at go
        unfold msS at go
        rw [if_pos cq, if_pos cq] at go
        have fin : ∀ x3 : Int32, x3 = iI (if mFs (msQ (va v) s) i 0 = -1 then (i : Int) else mFs (msQ (va v) s) i 0) → vp_in (208 + iI (i : Nat)) (zN 64) ∧ zCall (d + 3) nX12_bits [.ref 63, .int (iI i), .int (iI (aq (va v) i))] σ (zPI fun x2 σ1 => vp_in (iI (i : Nat)) (zN 67) ∧ (zIf ((σ1.1 67 i) = 0) (X 71 [some (.ref 63), some (.int (iI s)), some (.int (iI w)), some (.int x3), some (.int (iI (fb_ct (msQ (va v) s) i : Nat) + 1)), some (.int (iI (fb_sm (msB (va v) (aq (va v)) s) i : Nat) + x2)), some (.int (iI (fb_sm (msS (va v) (aq (va v)) s) i : Nat) + (σ1.1 64 (208 + i)))), some (.int (iI (fb_ct (msG (va v) s) i : Nat) + 1)), some (.int (iI (i + 1 : Nat)))] [] σ1) (X 71 [some (.ref 63), some (.int (iI s)), some (.int (iI w)), some (.int x3), some (.int (iI (fb_ct (msQ (va v) s) i : Nat) + 1)), some (.int (iI (fb_sm (msB (va v) (aq (va v)) s) i : Nat) + x2)), some (.int (iI (fb_sm (msS (va v) (aq (va v)) s) i : Nat) + (σ1.1 64 (208 + i)))), some (.int (iI (fb_ct (msG (va v) s) i : Nat) + 0)), some (.int (iI (i + 1 : Nat)))] [] σ1))) := by
          intro x3 ex3
          refine ⟨?_, sp_bits (d := d + 1) hv.1 hR.1 l hin (by omega) ⟨vin_k (by show i < 60; omega) (by decide), ?_⟩⟩
          · rw [iI_208p]; exact vin_k (by show 208 + i < 268; omega) (by decide)
          · rw [e2, hR.1.ps hv.1 hin, iI_kk, iI_kk, iI_s, ex3]
            refine ⟨fun y => ?_, fun y => ?_⟩
            · have p : msG (va v) s i = true := by
                unfold msG
                rw [cq, decide_eq_true (e3.mp y)]
                rfl
              rw [fb_ct_succ, if_pos p] at go
              rw [iI_s]
              exact go
            · have p : ¬ msG (va v) s i = true := fun w => y (e3.mpr (by
                unfold msG at w
                rw [Bool.and_eq_true, decide_eq_true_eq] at w
                exact w.2))
              rw [fb_ct_succ, if_neg p] at go
              rw [show (0 : Int32) = iI ((0 : Nat) : Int) from rfl, iI_kk]
              exact go
        refine ⟨fun y => ?_, fun y => ?_⟩
        · have := fin (iI i) (by rw [if_pos (e4.mp y)])
          rw [iI_208p] at this
          exact this
        · have := fin (iI (mFs (msQ (va v) s) i 0)) (by rw [if_neg (fun x => y (e4.mpr x))])
          rw [iI_208p] at this
          exact this
      · have cq : ¬ msQ (va v) s i = true := fun y => z ((msQ_iI (by omega) h60 hin).mpr y)
        have cg : ¬ msG (va v) s i = true := fun w => cq (by
          unfold msG at w
          rw [Bool.and_eq_true] at w
          exact w.1)
        rw [fb_ct_succ, fb_ct_succ, if_neg cq, if_neg cq, if_neg cg, Nat.add_zero, Nat.add_zero] at go
        unfold msB at go
        unfold msS at go
        rw [if_neg cq, if_neg cq, Nat.add_zero, Nat.add_zero] at go
        have e5 : (if mFs (msQ (va v) s) i 0 = -1 then -1 else mFs (msQ (va v) s) i 0) = mFs (msQ (va v) s) i 0 := by
          split
          · omega
          · rfl
        rw [e5] at go
        exact go
theorem sp_rScene {d s w : Nat} {v : mV} {σ : zS} {k : Int32 → zS → Prop} (hv : vB v) (hR : RI σ v) (hs : s < mS (mCt (va v)) (an (va v))) (hw : w ≤ 5) (hm : w = 3 ∨ w = 4 → amd (va v) = true) (h : ∀ τ, RI τ v → zQu σ τ → k (iI (msV (va v) s w)) τ) : zCall (d + 4) nX12_scene [.ref 63, .int (iI s), .int (iI w)] σ (zPI k) := by
  have h60 := hv.1.n60
  have hs60 : mS (mCt (va v)) (an (va v)) ≤ an (va v) := mS_le _ _
  refine ze_X12_scene _ _ σ (fun X hX => zq_X12_scene_0 hX _ _ σ (sp_ty hv hR (fun τ h1 h2 l => zIf_t ?_ (zIf_t ((w7 (m := 5) (by decide)).mpr ⟨w, rfl, hw⟩) ?_))))
  · rw [l.1]; exact (isF (Nat.le_trans hs60 h60)).mpr ⟨s, rfl, hs⟩
  · have go := rsc_loop hX hv h1 l hs hw ⟨_, rfl, h τ h1 h2⟩ (an (va v)) 0 (by omega)
    refine ⟨fun z => ?_, fun _ => go⟩
    have mf := (rAt_0.mp h1.1).m.mp z
    have n34 : ¬ (w = 3 ∨ w = 4) := fun y => by
      have := hm y
      rw [mf] at this
      exact absurd this (by decide)
    refine zIf_f ?_ (zIf_f ?_ go)
    · rw [show (3 : Int32) = iI 3 from rfl, iI_eq (by omega) (by omega) (by omega) (by omega)]; omega
    · rw [show (4 : Int32) = iI 4 from rfl, iI_eq (by omega) (by omega) (by omega) (by omega)]; omega
theorem pr_scene {p q : Int32} {σ : zS} (g : G σ) : zPair nX11_scene nX12_scene [.int p, .int q] σ := by
  obtain ⟨v, hv, hC, hR⟩ := g
  have h60 := hv.1.n60
  have hs60 : mS (mCt (va v)) (an (va v)) ≤ an (va v) := mS_le _ _
  by_cases c : (0 ≤ p ∧ p ≤ iI (mS (mCt (va v)) (an (va v)) : Int) - 1) ∧ 0 ≤ q ∧ q ≤ 5
  · obtain ⟨s, rfl, hs⟩ := (isF (Nat.le_trans hs60 h60)).mp c.1
    obtain ⟨w, rfl, hw⟩ := (w7 (m := 5) (by decide)).mp c.2
    by_cases hm : w = 3 ∨ w = 4 → amd (va v) = true
    · refine zP_I (v := v) (w := v) (iI (msV (va v) s w)) hv hR ?_ (fun τ hT => ?_)
      · exact sp_kScene (d := 4) hv hC hs hw hm ⟨rfl, hC, zLw.rf _⟩
      · exact sp_rScene (d := 4) hv hT hs hw hm (fun υ h1 h2 => ⟨rfl, h1, h2.1⟩)
    · have c34 : w = 3 ∨ w = 4 := Decidable.byContradiction fun y => hm (fun z => absurd z y)
      have mf : amd (va v) = false := by
        cases e : amd (va v) with
        | true => exact absurd (fun _ => e) hm
        | false => rfl
      refine zP_I (v := v) (w := v) (-3) hv hR ?_ (fun τ hT => ?_)
      · refine ze_X11_scene (d := 7) _ _ σ (fun X hX => zq_X11_scene_0 (d := 4) hX _ _ σ (zIf_t (by rw [hC.2.2.1.2.1]; exact c.1) (zIf_t c.2 (zIf_t (hC.2.1.m.mpr mf) ?_))))
        rcases c34 with rfl | rfl
        · exact zIf_t (by decide) (kNo hC)
        · exact zIf_f (by decide) (zIf_t (by decide) (kNo hC))
      · refine ze_X12_scene (d := 7) _ _ τ (fun X hX => zq_X12_scene_0 (d := 4) hX _ _ τ (sp_ty (d := 4) hv hT (fun υ h1 h2 l => zIf_t (by rw [l.1]; exact c.1) (zIf_t c.2 (zIf_t ((rAt_0.mp h1.1).m.mpr mf) ?_)))))
        rcases c34 with rfl | rfl
        · exact zIf_t (by decide) (rOk rfl h1 h2)
        · exact zIf_f (by decide) (zIf_t (by decide) (rOk rfl h1 h2))
  · refine zP_I (v := v) (w := v) (-2) hv hR ?_ (fun τ hT => ?_)
    · refine ze_X11_scene (d := 7) _ _ σ (fun X hX => zq_X11_scene_0 (d := 4) hX _ _ σ ?_)
      rw [hC.2.2.1.2.1]
      exact ⟨fun c1 => ⟨fun c2 => absurd ⟨c1, c2⟩ c, fun _ => kNo hC⟩, fun _ => kNo hC⟩
    · refine ze_X12_scene (d := 7) _ _ τ (fun X hX => zq_X12_scene_0 (d := 4) hX _ _ τ (sp_ty (d := 4) hv hT (fun υ h1 h2 l => ?_)))
      rw [l.1]
      exact ⟨fun c1 => ⟨fun c2 => absurd ⟨c1, c2⟩ c, fun _ => rOk rfl h1 h2⟩, fun _ => rOk rfl h1 h2⟩
