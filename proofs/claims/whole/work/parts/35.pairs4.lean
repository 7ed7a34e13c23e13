/-! questions without a plan; adjust -/
/-- nothing but rows of the reference, and no long, has changed -/
def zQu (σ τ : zS) : Prop := zHg σ τ ∧ τ.2 = σ.2
theorem zQu.rf (σ : zS) : zQu σ σ := ⟨zHg.rf σ, rfl⟩
theorem zQu.tr {σ τ υ : zS} (h : zQu σ τ) (g : zQu τ υ) : zQu σ υ := ⟨h.1.tr g.1, g.2.trans h.2⟩
theorem sp_ty {d : Nat} {v : mV} {σ : zS} {k : zS → Prop} (hv : vB v) (hR : RI σ v) (h : ∀ τ, RI τ v → zQu σ τ → rLa τ (va v) → k τ) : zCall (d + 3) nX12_findsTypes [.ref 63] σ (zPV k) :=
  sp_types hv.1 hR.1 (fun τ f e l => h τ (hR.fr f (by decide) (e 16 (by decide) (by decide))) ⟨f.hg (by decide), f.2⟩ l)
theorem rOk {A x : Int32} {σ τ : zS} {v : mV} (e : x = A) (h : RI τ v) (q : zQu σ τ) : (zPI fun y υ => y = A ∧ RI υ v ∧ zHg σ υ) (some (.int x)) τ := ⟨_, rfl, e, h, q.1⟩
theorem kOk {A x : Int32} {σ : zS} {v : mV} (e : x = A) (h : CI σ v) : (zPI fun y υ => y = A ∧ CI υ v ∧ zLw σ υ) (some (.int x)) σ := ⟨_, rfl, e, h, zLw.rf _⟩
def mFr (a : mA) (f w : Nat) : Nat := if w = 0 then atx a f else if w = 1 then amo a f else if w = 2 then mT a f else if w = 3 then mSc (mCt a) f else if w = 4 then mP a f else if w = 5 then mK a f else if w = 6 then mF (aS a 0) (mCt a) (f + 1) else mGl (an a) (aS a 0) (mCt a) (mF (aS a 0) (mCt a) (f + 1))
theorem sp_kFrame {d f w : Nat} {a : mA} {σ : zS} {k : Int32 → zS → Prop} (hb : aB a) (hc : kA0 σ 1 4 a) (hl : kLa σ a) (hf : f < an a) (hw : w ≤ 7) (h : k (iI (mFr a f w)) σ) : zCall (d + 3) nX11_frame [.ref 0, .int (iI f), .int (iI w)] σ (zPI k) := by
  have h60 := hb.n60
  obtain ⟨l0, l1, l2, l3, l4, l5, l6, l7, l8, l9⟩ := hl
  refine ze_X11_frame _ _ σ (fun X hX => zq_X11_frame_0 hX _ _ σ (zIf_t (by rw [hc.1]; exact (isF h60).mpr ⟨f, rfl, hf⟩) (zIf_t ?_ ?_)))
  · rw [show (0 : Int32) = iI 0 from rfl, show (7 : Int32) = iI 7 from rfl, iI_le (by omega) (by omega) (by omega) (by omega), iI_le (by omega) (by omega) (by omega) (by omega)]; omega
  · rw [zAt_k (show f < zN 2 by show f < 60; omega), zAt_k (show f < zN 3 by show f < 60; omega), zAt_k (show f < zN 17 by show f < 60; omega), zAt_k (show f < zN 18 by show f < 60; omega), zAt_k (show f < zN 22 by show f < 60; omega), zAt_k (show f < zN 21 by show f < 60; omega), zAt_k (show f < zN 19 by show f < 60; omega), zAt_k (show f < zN 20 by show f < 60; omega), hc.2.1 f hf, hc.2.2.1 f hf, l3 f hf, l4 f hf, l5 f hf, l6 f hf, l7 f hf, l8 f hf]
    have c : w = 0 ∨ w = 1 ∨ w = 2 ∨ w = 3 ∨ w = 4 ∨ w = 5 ∨ w = 6 ∨ w = 7 := by omega
    rcases c with rfl | rfl | rfl | rfl | rfl | rfl | rfl | rfl
    · exact zIf_t (by decide) ⟨_, rfl, h⟩
    · exact zIf_f (by decide) (zIf_t (by decide) ⟨_, rfl, h⟩)
    · exact zIf_f (by decide) (zIf_f (by decide) (zIf_t (by decide) ⟨_, rfl, h⟩))
    · exact zIf_f (by decide) (zIf_f (by decide) (zIf_f (by decide) (zIf_t (by decide) ⟨_, rfl, h⟩)))
    · exact zIf_f (by decide) (zIf_f (by decide) (zIf_f (by decide) (zIf_f (by decide) (zIf_t (by decide) ⟨_, rfl, h⟩))))
    · exact zIf_f (by decide) (zIf_f (by decide) (zIf_f (by decide) (zIf_f (by decide) (zIf_f (by decide) (zIf_t (by decide) ⟨_, rfl, h⟩)))))
    · exact zIf_f (by decide) (zIf_f (by decide) (zIf_f (by decide) (zIf_f (by decide) (zIf_f (by decide) (zIf_f (by decide) (zIf_t (by decide) ⟨_, rfl, h⟩))))))
    · exact zIf_f (by decide) (zIf_f (by decide) (zIf_f (by decide) (zIf_f (by decide) (zIf_f (by decide) (zIf_f (by decide) (zIf_f (by decide) ⟨_, rfl, h⟩))))))
theorem sp_rFrame {d f w : Nat} {v : mV} {σ : zS} {k : Int32 → zS → Prop} (hv : vB v) (hR : RI σ v) (hf : f < an (va v)) (hw : w ≤ 7) (h : ∀ τ, RI τ v → zQu σ τ → k (iI (mFr (va v) f w)) τ) : zCall (d + 4) nX12_frame [.ref 63, .int (iI f), .int (iI w)] σ (zPI k) := by
  have h60 := hv.1.n60
  refine ze_X12_frame _ _ σ (fun X hX => zq_X12_frame_0 hX _ _ σ (zIf_t (by rw [hR.1.1]; exact (isF h60).mpr ⟨f, rfl, hf⟩) (sp_ty hv hR (fun τ hT hq hl => ?_))))
  obtain ⟨l0, l1, l2, l3, l4, l5, l6⟩ := hl
  have r := rAt_0.mp hT.1
  have h := h τ hT hq
  rw [iI_1p, iI_k (by omega), iI_61p, iI_k (by omega), iI_k (by omega)]
  have v6 : ∀ q, q < 100 → zN q = 60 → vp_in (iI (f : Int)) (zN q) := fun q _ e => vin_k (by rw [e]; omega) (by rw [e]; decide)
  have c : w = 0 ∨ w = 1 ∨ w = 2 ∨ w = 3 ∨ w = 4 ∨ w = 5 ∨ w = 6 ∨ w = 7 := by omega
  rcases c with rfl | rfl | rfl | rfl | rfl | rfl | rfl | rfl
  · exact zIf_t (by decide) ⟨vin_k (by show 1 + f < 268; omega) (by decide), _, rfl, by rw [r.2.1 f hf]; exact h⟩
  · exact zIf_f (by decide) (zIf_t (by decide) ⟨vin_k (by show 61 + f < 268; omega) (by decide), _, rfl, by rw [r.2.2.1 f hf]; exact h⟩)
  · exact zIf_f (by decide) (zIf_f (by decide) (zIf_t (by decide) ⟨v6 67 (by decide) rfl, _, rfl, by rw [l2 f hf]; exact h⟩))
  · exact zIf_f (by decide) (zIf_f (by decide) (zIf_f (by decide) (zIf_t (by decide) ⟨v6 68 (by decide) rfl, _, rfl, by rw [l3 f hf]; exact h⟩)))
  · exact zIf_f (by decide) (zIf_f (by decide) (zIf_f (by decide) (zIf_f (by decide) (zIf_t (by decide) ⟨v6 70 (by decide) rfl, _, rfl, by rw [l5 f hf]; exact h⟩))))
  · refine zIf_f (by decide) (zIf_f (by decide) (zIf_f (by decide) (zIf_f (by decide) (zIf_f (by decide) (zIf_t (by decide) ?_)))))
    obtain ⟨b1, b2, b3⟩ := hv.1.1.2 f hf
    exact sp_work (d := d + 2) (t := mT (va v) f) (x := atx (va v) f) (m := amo (va v) f) (by omega) (mTy_lt _ _ _ _ _) b2 b3 (l2 f hf) (r.2.1 f hf) (r.2.2.1 f hf) ⟨_, rfl, h⟩
  · exact zIf_f (by decide) (zIf_f (by decide) (zIf_f (by decide) (zIf_f (by decide) (zIf_f (by decide) (zIf_f (by decide) (zIf_t (by decide) ⟨v6 69 (by decide) rfl, _, rfl, by rw [l4 f hf]; exact h⟩))))))
  · refine zIf_f (by decide) (zIf_f (by decide) (zIf_f (by decide) (zIf_f (by decide) (zIf_f (by decide) (zIf_f (by decide) (zIf_f (by decide) (zIf_t (by decide) ⟨v6 69 (by decide) rfl, ?_⟩)))))))
    rw [l4 f hf]
    have hF : ∀ k, k < an (va v) → τ.1 69 k = iI ((mF (aS (va v) 0) (mCt (va v)) (k + 1) : Nat) : Int) ∧ mF (aS (va v) 0) (mCt (va v)) (k + 1) ≤ 60 := fun k hk => ⟨l4 k hk, by have := mF_le (aS (va v) 0) (mCt (va v)) (k + 1); omega⟩
    exact sp_groupSize (d := d + 2) (F := fun k => mF (aS (va v) 0) (mCt (va v)) (k + 1)) h60 r.1 hF (hF f hf).2 ⟨_, rfl, h⟩
theorem w7 {q : Int32} {m : Nat} (hm : m < 1000) : (0 ≤ q ∧ q ≤ iI (m : Int)) ↔ ∃ w : Nat, q = iI w ∧ w ≤ m := by
  constructor
  · intro c
    obtain ⟨w, e, _, w2⟩ := rgN (p := q) 0 m (by decide) (by omega) c
    exact ⟨w, e, w2⟩
  · rintro ⟨w, rfl, hw⟩
    rw [show (0 : Int32) = iI 0 from rfl, iI_le (by omega) (by omega) (by omega) (by omega), iI_le (by omega) (by omega) (by omega) (by omega)]; omega
theorem pr_frame {p q : Int32} {σ : zS} (g : G σ) : zPair nX11_frame nX12_frame [.int p, .int q] σ := by
  obtain ⟨v, hv, hC, hR⟩ := g
  have n60 := hv.1.n60
  by_cases cf : 0 ≤ p ∧ p ≤ iI (an (va v) : Int) - 1
  · by_cases c : 0 ≤ q ∧ q ≤ 7
    · obtain ⟨f, rfl, hf⟩ := (isF n60).mp cf
      obtain ⟨w, rfl, hw⟩ := (w7 (m := 7) (by decide)).mp c
      refine zP_I (v := v) (w := v) (iI (mFr (va v) f w)) hv hR ?_ (fun τ hT => ?_)
      · exact sp_kFrame (d := 5) hv.1 hC.1 hC.2.2.1 hf hw ⟨rfl, hC, zLw.rf _⟩
      · exact sp_rFrame (d := 4) hv hT hf hw (fun υ h1 h2 => ⟨rfl, h1, h2.1⟩)
    · refine zP_I (v := v) (w := v) (-2) hv hR ?_ (fun τ hT => ?_)
      · exact ze_X11_frame (d := 7) _ _ σ (fun X hX => zq_X11_frame_0 (d := 5) hX _ _ σ (zIf_t (by rw [hC.1.1]; exact cf) (zIf_f c (kNo hC))))
      · have nc : ∀ k : Int32, 0 ≤ k ∧ k ≤ 7 → ¬ q = k := fun k hk e => c (by rw [e]; exact hk)
        exact ze_X12_frame (d := 7) _ _ τ (fun X hX => zq_X12_frame_0 (d := 4) hX _ _ τ (zIf_t (by rw [hT.1.1]; exact cf) (sp_ty (d := 4) hv hT (fun υ h1 h2 _ => zIf_f (nc 0 (by decide)) (zIf_f (nc 1 (by decide)) (zIf_f (nc 2 (by decide)) (zIf_f (nc 3 (by decide)) (zIf_f (nc 4 (by decide)) (zIf_f (nc 5 (by decide)) (zIf_f (nc 6 (by decide)) (zIf_f (nc 7 (by decide)) (rOk rfl h1 h2)))))))))))) 
  · refine zP_I (v := v) (w := v) (-2) hv hR ?_ (fun τ hT => ?_)
    · exact ze_X11_frame (d := 7) _ _ σ (fun X hX => zq_X11_frame_0 (d := 5) hX _ _ σ (zIf_f (by rw [hC.1.1]; exact cf) (kNo hC)))
    · exact ze_X12_frame (d := 7) _ _ τ (fun X hX => zq_X12_frame_0 (d := 4) hX _ _ τ (zIf_f (by rw [hT.1.1]; exact cf) (rNo hT)))
theorem pr_coded {p : Int32} {σ : zS} (g : G σ) : zPair nX11_coded nX12_coded [.int p] σ := by
  obtain ⟨v, hv, hC, hR⟩ := g
  have n60 := hv.1.n60
  by_cases cf : 0 ≤ p ∧ p ≤ iI (an (va v) : Int) - 1
  · obtain ⟨f, rfl, hf⟩ := (isF n60).mp cf
    refine zP_I (v := v) (w := v) (iI (mO (va v) f)) hv hR ?_ (fun τ hT => ?_)
    · refine ze_X11_coded (d := 7) _ σ (fun X hX => zq_X11_coded_0 (d := 5) hX _ σ (zIf_t (by rw [hC.1.1]; exact cf) ?_))
      rw [zAt_k (show f < zN 23 by show f < 60; omega)]
      exact kOk (hC.2.2.1.2.2.2.2.2.2.2.2.2 f hf) hC
    · refine ze_X12_coded (d := 7) _ τ (fun X hX => zq_X12_coded_0 (d := 4) hX _ τ (zIf_t (by rw [hT.1.1]; exact cf) (sp_ty (d := 4) hv hT (fun υ h1 h2 l => ⟨vin_k (by show f < 60; omega) (by decide), ?_⟩))))
      rw [iI_k (by omega)]
      exact rOk (l.2.2.2.2.2.2 f hf) h1 h2
  · refine zP_I (v := v) (w := v) (-2) hv hR ?_ (fun τ hT => ?_)
    · exact ze_X11_coded (d := 7) _ σ (fun X hX => zq_X11_coded_0 (d := 5) hX _ σ (zIf_f (by rw [hC.1.1]; exact cf) (kNo hC)))
    · exact ze_X12_coded (d := 7) _ τ (fun X hX => zq_X12_coded_0 (d := 4) hX _ τ (zIf_f (by rw [hT.1.1]; exact cf) (rNo hT)))
theorem pr_bitsAt {p q : Int32} {σ : zS} (g : G σ) : zPair nX11_bitsAt nX12_bitsAt [.int p, .int q] σ := by
  obtain ⟨v, hv, hC, hR⟩ := g
  have n60 := hv.1.n60
  by_cases c : (0 ≤ p ∧ p ≤ iI (an (va v) : Int) - 1) ∧ 0 ≤ q ∧ q ≤ 51
  · obtain ⟨f, rfl, hf⟩ := (isF n60).mp c.1
    obtain ⟨w, rfl, hw⟩ := (w7 (m := 51) (by decide)).mp c.2
    refine zP_I (v := v) (w := v) (iI (mBi (mK (va v) f) w)) hv hR ?_ (fun τ hT => ?_)
    · refine ze_X11_bitsAt (d := 7) _ _ σ (fun X hX => zq_X11_bitsAt_0 (d := 5) hX _ _ σ (zIf_t (by rw [hC.1.1]; exact c.1) (zIf_t c.2 ?_)))
      exact kOk (cBits_iI (by omega) (by omega) (mWk_le hv.1.1 hf) (hC.2.2.1.2.2.2.2.2.2.2.1 f hf) hC.2.2.2.1) hC
    · refine ze_X12_bitsAt (d := 7) _ _ τ (fun X hX => zq_X12_bitsAt_0 (d := 4) hX _ _ τ (zIf_t (by rw [hT.1.1]; exact c.1) (zIf_t c.2 (sp_ty (d := 4) hv hT (fun υ h1 h2 l => ?_)))))
      exact sp_bits (d := 5) hv.1 h1.1 l hf (by omega) (rOk rfl h1 h2)
  · refine zP_I (v := v) (w := v) (-2) hv hR ?_ (fun τ hT => ?_)
    · refine ze_X11_bitsAt (d := 7) _ _ σ (fun X hX => zq_X11_bitsAt_0 (d := 5) hX _ _ σ ?_)
      rw [hC.1.1]
      exact ⟨fun c1 => ⟨fun c2 => absurd ⟨c1, c2⟩ c, fun _ => kNo hC⟩, fun _ => kNo hC⟩
    · refine ze_X12_bitsAt (d := 7) _ _ τ (fun X hX => zq_X12_bitsAt_0 (d := 4) hX _ _ τ ?_)
      rw [hT.1.1]
      exact ⟨fun c1 => ⟨fun c2 => absurd ⟨c1, c2⟩ c, fun _ => rNo hT⟩, fun _ => rNo hT⟩
theorem kLo {σ : zS} {v : mV} {f w : Nat} (hv : vB v) (hC : CI σ v) (hf : f < an (va v)) (hw : w ≤ 51) : cLoss σ (iI f) (iI w) = iI (mLo (aw (va v) (mSc (mCt (va v)) f)) (mT (va v) f) w) := by
  have n60 := hv.1.n60
  have hs : mSc (mCt (va v)) f < 60 := mSc_lt n60 hf
  exact cLoss_iI (by omega) hs (hv.1.2.2.2.2.2.2.2.2.1 _ hs).2 (mTy_lt _ _ _ _ _) (by omega) (hC.2.2.1.2.2.2.2.1 f hf) (hC.1.2.2.2.2.1 _ hs) (hC.2.2.1.2.2.2.1 f hf) hC.2.2.2.1
theorem kBi {σ : zS} {v : mV} {f w : Nat} (hv : vB v) (hC : CI σ v) (hf : f < an (va v)) (hw : w ≤ 51) : cBits σ (iI f) (iI w) = iI (mBi (mK (va v) f) w) := by
  have n60 := hv.1.n60
  exact cBits_iI (by omega) (by omega) (mWk_le hv.1.1 hf) (hC.2.2.1.2.2.2.2.2.2.2.1 f hf) hC.2.2.2.1
theorem pr_lossAt {p q : Int32} {σ : zS} (g : G σ) : zPair nX11_lossAt nX12_lossAt [.int p, .int q] σ := by
  obtain ⟨v, hv, hC, hR⟩ := g
  have n60 := hv.1.n60
  by_cases c : (0 ≤ p ∧ p ≤ iI (an (va v) : Int) - 1) ∧ 0 ≤ q ∧ q ≤ 51
  · obtain ⟨f, rfl, hf⟩ := (isF n60).mp c.1
    obtain ⟨w, rfl, hw⟩ := (w7 (m := 51) (by decide)).mp c.2
    refine zP_I (v := v) (w := v) (iI (mLo (aw (va v) (mSc (mCt (va v)) f)) (mT (va v) f) w)) hv hR ?_ (fun τ hT => ?_)
    · refine ze_X11_lossAt (d := 7) _ _ σ (fun X hX => zq_X11_lossAt_0 (d := 4) hX _ _ σ (zIf_t (by rw [hC.1.1]; exact c.1) (zIf_t c.2 ?_)))
      exact kOk (kLo hv hC hf hw) hC
    · refine ze_X12_lossAt (d := 7) _ _ τ (fun X hX => zq_X12_lossAt_0 (d := 4) hX _ _ τ (zIf_t (by rw [hT.1.1]; exact c.1) (zIf_t c.2 (sp_ty (d := 4) hv hT (fun υ h1 h2 l => ?_)))))
      exact sp_loss (d := 5) hv.1 h1.1 l hf (by omega) (rOk rfl h1 h2)
  · refine zP_I (v := v) (w := v) (-2) hv hR ?_ (fun τ hT => ?_)
    · refine ze_X11_lossAt (d := 7) _ _ σ (fun X hX => zq_X11_lossAt_0 (d := 4) hX _ _ σ ?_)
      rw [hC.1.1]
      exact ⟨fun c1 => ⟨fun c2 => absurd ⟨c1, c2⟩ c, fun _ => kNo hC⟩, fun _ => kNo hC⟩
    · refine ze_X12_lossAt (d := 7) _ _ τ (fun X hX => zq_X12_lossAt_0 (d := 4) hX _ _ τ ?_)
      rw [hT.1.1]
      exact ⟨fun c1 => ⟨fun c2 => absurd ⟨c1, c2⟩ c, fun _ => rNo hT⟩, fun _ => rNo hT⟩
theorem kPl.m {σ : zS} {p : Nat} {a : mA} (h : kPl σ p a) : σ.1 p 0 = 0 ↔ amd a = false := by
  rw [h.1]
  cases amd a with
  | true => exact ⟨fun z => absurd z (by decide), fun z => absurd z (by decide)⟩
  | false => exact ⟨fun _ => rfl, fun _ => rfl⟩
theorem rF.m {f : Nat → Int32} {a : mA} (h : rF f a) : f 207 = 0 ↔ amd a = false := by
  rw [h.2.2.2.2.2.2.2.2.1]
  cases amd a with
  | true => exact ⟨fun z => absurd z (by decide), fun z => absurd z (by decide)⟩
  | false => exact ⟨fun _ => rfl, fun _ => rfl⟩
theorem pr_adjust {p q : Int32} {σ : zS} (g : G σ) : zPair nX11_adjust nX12_adjust [.int p, .int q] σ := by
  obtain ⟨v, hv, hC, hR⟩ := g
  have n60 := hv.1.n60
  by_cases c : (0 ≤ p ∧ p ≤ iI (an (va v) : Int) - 1) ∧ 0 ≤ q ∧ q ≤ 51
  · cases hm : amd (va v) with
    | false =>
      refine zP_I (v := v) (w := v) (-3) hv hR ?_ (fun τ hT => ?_)
      · exact ze_X11_adjust (d := 7) _ _ σ (fun X hX => zq_X11_adjust_0 (d := 5) hX _ _ σ (zIf_t (by rw [hC.1.1]; exact c.1) (zIf_t c.2 (zIf_t (hC.2.1.m.mpr hm) (kNo hC)))))
      · exact ze_X12_adjust (d := 7) _ _ τ (fun X hX => zq_X12_adjust_0 (d := 5) hX _ _ τ (zIf_t (by rw [hT.1.1]; exact c.1) (zIf_t c.2 (zIf_t ((rAt_0.mp hT.1).m.mpr hm) (rNo hT)))))
    | true =>
      obtain ⟨f, rfl, hf⟩ := (isF n60).mp c.1
      obtain ⟨w, rfl, hw⟩ := (w7 (m := 51) (by decide)).mp c.2
      have ab : aB (aPl (va v) (amd (va v)) (nU (aq (va v)) f w)) := hv.1.pl (fun i hi => by
        by_cases e : i = f
        · rw [e, nU_s]; omega
        · rw [nU_n e]; exact hv.1.2.2.2.2.2.2.2.2.2.2.1 i hi) hv.1.2.2.2.2.2.2.2.2.2.2.2
      have nm : ∀ x : Int32, (x = 0 ↔ amd (va v) = false) → ¬ x = 0 := fun x hx e => by
        have := hx.mp e
        rw [hm] at this
        exact absurd this (by decide)
      refine zP_I (v := v) (w := vA v (aPl (va v) (amd (va v)) (nU (aq (va v)) f w))) (iI (aq (va v) f)) (hv.a ab) hR ?_ (fun τ hT => ?_)
      · refine ze_X11_adjust (d := 7) _ _ σ (fun X hX => zq_X11_adjust_0 (d := 5) hX _ _ σ (zIf_t (by rw [hC.1.1]; exact c.1) (zIf_t c.2 (zIf_f (nm _ hC.2.1.m) ?_))))
        rw [zAt_k (show f < zN 10 by show f < 60; omega), zPt_k (show f < zN 10 by show f < 60; omega)]
        have fr : ∀ r, r ≠ 10 → (zSI σ 10 f (iI w)).1 r = σ.1 r := fun r hr => zSI_1 hr
        have k0 : kA0 (zSI σ 10 f (iI w)) 1 4 (va v) := hC.1.of (fun r hr => fr r (by revert r; decide))
        have l0 : kLa (zSI σ 10 f (iI w)) (va v) := hC.2.2.1.of (fun r hr => fr r (by revert r; decide))
        refine ⟨_, rfl, hC.2.1.2 hm f hf, hC.pa (a := aPl (va v) (amd (va v)) (nU (aq (va v)) f w)) ((zFr.rf _ σ).si (by decide) _ _) k0 ⟨(fr 9 (by decide) ▸ hC.2.1.1 : _), fun _ i hi => ?_⟩ l0, (zLw.rf σ).si (by decide) _ _⟩
        show (zSI σ 10 f (iI w)).1 10 i = _
        rw [zSI_s]
        exact upd_n (fun i hi e => hC.2.1.2 hm i hi) i hi
      · have r := rAt_0.mp hT.1
        refine ze_X12_adjust (d := 7) _ _ τ (fun X hX => zq_X12_adjust_0 (d := 5) hX _ _ τ (zIf_t (by rw [hT.1.1]; exact c.1) (zIf_t c.2 (zIf_f (nm _ r.m) ?_))))
        rw [iI_208p]
        refine sp_sets (d := 6) (j := 208 + f) (by omega) ⟨_, rfl, r.2.2.2.2.2.2.2.2.2 f (by omega), hT.m (rF.pl hv.1 r ?_ (fun i hi => ?_) (fun j hj => ?_)) (fun r hr => zSI_1 hr), (zHg.rf τ).si (by decide) _ _⟩
        · rw [zSI_at, if_neg (by omega)]; exact am_if r
        · rw [zSI_at]
          by_cases e : i = f
          · rw [if_pos (by omega), e, nU_s]
          · rw [if_neg (by omega), nU_n e]; exact r.2.2.2.2.2.2.2.2.2 i hi
        · rw [zSI_at, if_neg (by omega)]
  · refine zP_I (v := v) (w := v) (-2) hv hR ?_ (fun τ hT => ?_)
    · refine ze_X11_adjust (d := 7) _ _ σ (fun X hX => zq_X11_adjust_0 (d := 5) hX _ _ σ ?_)
      rw [hC.1.1]
      exact ⟨fun c1 => ⟨fun c2 => absurd ⟨c1, c2⟩ c, fun _ => kNo hC⟩, fun _ => kNo hC⟩
    · refine ze_X12_adjust (d := 7) _ _ τ (fun X hX => zq_X12_adjust_0 (d := 5) hX _ _ τ ?_)
      rw [hT.1.1]
      exact ⟨fun c1 => ⟨fun c2 => absurd ⟨c1, c2⟩ c, fun _ => rNo hT⟩, fun _ => rNo hT⟩
