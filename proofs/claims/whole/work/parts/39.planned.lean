/-! planned -/
def mPn (a : mA) (q : Nat → Nat) (f w : Nat) : Nat := if w = 0 then q f else if w = 1 then mBi (mK a f) (q f) else if w = 2 then mLo (aw a (mSc (mCt a) f)) (mT a f) (q f) else if w = 3 then aBe a q (mP a f) else if w = 4 then aAf a q (mP a f) else if w = 5 then aLk a q (mP a f) else aSp a q (mP a f)
/-- what the course holds of q -/
def kCo (a : mA) (q : Nat → Nat) (τ : zS) : Prop := ∀ p, p < an a → τ.1 27 p = iI (mBp a q p) ∧ τ.1 28 p = iI (aBe a q p) ∧ τ.1 29 p = iI (aAf a q p) ∧ τ.1 30 p = iI (aLk a q p) ∧ τ.1 31 p = iI (aSp a q p)
theorem mP_lt {a : mA} {f : Nat} (hf : f < an a) : mP a f < an a := mPl_lt (fun z => mTy_last z) hf
theorem mO_P {a : mA} {f : Nat} (hf : f < an a) : mO a (mP a f) = f := mOr_pl hf
theorem mP_O {a : mA} {p : Nat} (hp : p < an a) : mP a (mO a p) = p := (mOr_lt (fun z => mTy_last z) hp).2
theorem mBp_P {a : mA} {q : Nat → Nat} {f : Nat} (hf : f < an a) : mBp a q (mP a f) = mBi (mK a f) (q f) := by
  unfold mBp
  rw [mO_P hf]
theorem sp_kFf {d f w : Nat} {v : mV} {τ : zS} {k : Int32 → zS → Prop} (hv : vB v) (hC : CI τ v) (hm : amd (va v) = true) (hF : kCo (va v) (aq (va v)) τ) (hf : f < an (va v)) (hw : w ≤ 6) (h : k (iI (mPn (va v) (aq (va v)) f w)) τ) : zCall (d + 4) nX11_followedFrame [.ref 0, .int (iI f), .int (iI w)] τ (zPI k) := by
  have h60 := hv.1.n60
  have hp := mP_lt (a := va v) hf
  obtain ⟨c1, c2, c3, c4, c5⟩ := hF _ hp
  refine ze_X11_followedFrame _ _ τ (fun X hX => zq_X11_followedFrame_0 hX _ _ τ ?_)
  have e22 : zAt τ 22 (iI f) = iI (mP (va v) f) := by rw [zAt_k (show f < zN 22 by show f < 60; omega)]; exact hC.2.2.1.2.2.2.2.2.2.2.2.1 f hf
  have e10 : zAt τ 10 (iI f) = iI (aq (va v) f) := by rw [zAt_k (show f < zN 10 by show f < 60; omega)]; exact hC.2.1.2 hm f hf
  rw [e22, e10, zAt_k (show mP (va v) f < zN 27 by show mP (va v) f < 60; omega), zAt_k (show mP (va v) f < zN 28 by show mP (va v) f < 60; omega), zAt_k (show mP (va v) f < zN 29 by show mP (va v) f < 60; omega), zAt_k (show mP (va v) f < zN 30 by show mP (va v) f < 60; omega), zAt_k (show mP (va v) f < zN 31 by show mP (va v) f < 60; omega), c1, c2, c3, c4, c5, kLo hv hC hf (hv.1.q (by omega)), mBp_P hf]
  have c : w = 0 ∨ w = 1 ∨ w = 2 ∨ w = 3 ∨ w = 4 ∨ w = 5 ∨ w = 6 := by omega
  rcases c with rfl | rfl | rfl | rfl | rfl | rfl | rfl
  · exact zIf_t (by decide) ⟨_, rfl, h⟩
  · exact zIf_f (by decide) (zIf_t (by decide) ⟨_, rfl, h⟩)
  · exact zIf_f (by decide) (zIf_f (by decide) (zIf_t (by decide) ⟨_, rfl, h⟩))
  · exact zIf_f (by decide) (zIf_f (by decide) (zIf_f (by decide) (zIf_t (by decide) ⟨_, rfl, h⟩)))
  · exact zIf_f (by decide) (zIf_f (by decide) (zIf_f (by decide) (zIf_f (by decide) (zIf_t (by decide) ⟨_, rfl, h⟩))))
  · exact zIf_f (by decide) (zIf_f (by decide) (zIf_f (by decide) (zIf_f (by decide) (zIf_f (by decide) (zIf_t (by decide) ⟨_, rfl, h⟩)))))
  · exact zIf_f (by decide) (zIf_f (by decide) (zIf_f (by decide) (zIf_f (by decide) (zIf_f (by decide) (zIf_f (by decide) ⟨_, rfl, h⟩)))))
/-- what the reference's rows hold of its plan -/
def rCoo (a : mA) (τ : zS) : Prop := ∀ p, p < an a → τ.1 72 p = iI (aBe a (aq a) p) ∧ τ.1 73 p = iI (aAf a (aq a) p) ∧ τ.1 74 p = iI (aLk a (aq a) p) ∧ τ.1 75 p = iI (aSp a (aq a) p)
theorem rAt.ps {τ : zS} {a : mA} (hc : rAt τ 64 0 a) (hb : aB a) {f : Nat} (hf : f < an a) : τ.1 64 (208 + f) = iI (aq a f) := hc.q (Nat.lt_of_lt_of_le hf hb.n60)
theorem sp_rPart {d f w : Nat} {v : mV} {τ : zS} {k : Int32 → zS → Prop} (hv : vB v) (hR : RI τ v) (l : rLa τ (va v)) (hF : rCoo (va v) τ) (hf : f < an (va v)) (hw : w ≤ 6) (h : k (iI (mPn (va v) (aq (va v)) f w)) τ) : zCall (d + 3) nX12_part [.ref 63, .int (iI f), .int (iI w)] τ (zPI k) := by
  have h60 := hv.1.n60
  have hp := mP_lt (a := va v) hf
  have hq := hv.1.q (show f < 60 by omega)
  obtain ⟨c1, c2, c3, c4⟩ := hF _ hp
  have e70 : τ.1 70 f = iI (mP (va v) f) := l.2.2.2.2.2.1 f hf
  refine ze_X12_part _ _ τ (fun X hX => zq_X12_part_0 hX _ _ τ ?_)
  rw [iI_208p, iI_k (by omega), iI_k (by omega), e70, hR.1.ps hv.1 hf, iI_k (by omega), c1, c2, c3, c4]
  refine ⟨vin_k (by show 208 + f < 268; omega) (by decide), vin_k (by show f < 60; omega) (by decide), ?_⟩
  have v6 : ∀ q, zN q = 60 → vp_in (iI (mP (va v) f : Nat)) (zN q) := fun q e => vin_k (by rw [e]; omega) (by rw [e]; decide)
  have c : w = 0 ∨ w = 1 ∨ w = 2 ∨ w = 3 ∨ w = 4 ∨ w = 5 ∨ w = 6 := by omega
  rcases c with rfl | rfl | rfl | rfl | rfl | rfl | rfl
  · exact zIf_t (by decide) ⟨_, rfl, h⟩
  · exact zIf_f (by decide) (zIf_t (by decide) (sp_bits (d := d) hv.1 hR.1 l hf (by omega) ⟨_, rfl, h⟩))
  · exact zIf_f (by decide) (zIf_f (by decide) (zIf_t (by decide) (sp_loss (d := d) hv.1 hR.1 l hf (by omega) ⟨_, rfl, h⟩)))
  · exact zIf_f (by decide) (zIf_f (by decide) (zIf_f (by decide) (zIf_t (by decide) ⟨v6 72 rfl, _, rfl, h⟩)))
  · exact zIf_f (by decide) (zIf_f (by decide) (zIf_f (by decide) (zIf_f (by decide) (zIf_t (by decide) ⟨v6 73 rfl, _, rfl, h⟩))))
  · exact zIf_f (by decide) (zIf_f (by decide) (zIf_f (by decide) (zIf_f (by decide) (zIf_f (by decide) (zIf_t (by decide) ⟨v6 74 rfl, _, rfl, h⟩)))))
  · exact zIf_f (by decide) (zIf_f (by decide) (zIf_f (by decide) (zIf_f (by decide) (zIf_f (by decide) (zIf_f (by decide) ⟨v6 75 rfl, _, rfl, h⟩)))))
/-- the component follows its own plan -/
theorem sp_kFol {d : Nat} {v : mV} {σ : zS} {k : zS → Prop} (hv : vB v) (hC : CI σ v) (hm : amd (va v) = true) (h : ∀ τ, zFr FO σ τ → CI τ v → kCo (va v) (aq (va v)) τ → τ.1 26 0 = iI (aUn (va v) (aq (va v))) → k τ) : zCall (d + 5) nX1_follow [.ref 26, .ref 10] σ (zPV k) :=
  sp_follow (a := va v) (q := aq (va v)) rfl (by decide) rfl hv.1 hC.at hC.2.2.1 hC.2.2.2.1 (fun i hi => ⟨hC.2.1.2 hm i hi, hv.1.q (Nat.lt_of_lt_of_le hi hv.1.n60)⟩) (fun τ ht => h τ ht.1 (hC.fr ht.1 (by decide)) ht.2.2.2 ht.2.1)
/-- the reference lays its layout and runs its plan -/
theorem sp_rRun {d : Nat} {v : mV} {σ : zS} {k : zS → Prop} (hv : vB v) (hR : RI σ v) (l : rLa σ (va v)) (h : ∀ τ, RI τ v → zQu σ τ → rLa τ (va v) → rCoo (va v) τ → k τ) : zCall (d + 5) nX12_runsAsSet [.ref 63] σ (zPV k) :=
  sp_runsAsSet hv.1 hR.1 l (fun τ ht => h τ (hR.fr ht.1 (by decide) (ht.2.1 16 (by decide))) ⟨ht.1.hg (by decide), ht.1.2⟩ (ht.rLa l) (fun p hp => ht.2.2.2 p hp))
theorem sp_rPlanned {d f w : Nat} {v : mV} {σ : zS} {k : Int32 → zS → Prop} (hv : vB v) (hR : RI σ v) (hm : amd (va v) = true) (hf : f < an (va v)) (hw : w ≤ 6) (h : ∀ τ, RI τ v → zQu σ τ → k (iI (mPn (va v) (aq (va v)) f w)) τ) : zCall (d + 6) nX12_planned [.ref 63, .int (iI f), .int (iI w)] σ (zPI k) := by
  have h60 := hv.1.n60
  refine ze_X12_planned _ _ σ (fun X hX => zq_X12_planned_0 hX _ _ σ (zIf_t (by rw [hR.1.1]; exact (isF h60).mpr ⟨f, rfl, hf⟩) (zIf_t ((w7 (m := 6) (by decide)).mpr ⟨w, rfl, hw⟩) (zIf_f (sl_n (am_if (rAt_0.mp hR.1)) hm) ?_))))
  refine sp_ty (d := d + 2) hv hR (fun τ h1 h2 l => sp_rRun (d := d) hv h1 l (fun υ k1 k2 l2 c => ?_))
  exact sp_rPart (d := d + 2) hv k1 l2 c hf hw ⟨_, rfl, h υ k1 (h2.tr k2)⟩
theorem pr_planned {p q : Int32} {σ : zS} (g : G σ) : zPair nX11_planned nX12_planned [.int p, .int q] σ := by
  obtain ⟨v, hv, hC, hR⟩ := g
  have n60 := hv.1.n60
  by_cases c : (0 ≤ p ∧ p ≤ iI (an (va v) : Int) - 1) ∧ 0 ≤ q ∧ q ≤ 6
  · cases hm : amd (va v) with
    | false =>
      refine zP_I (v := v) (w := v) (-3) hv hR ?_ (fun τ hT => ?_)
      · exact ze_X11_planned (d := 7) _ _ σ (fun X hX => zq_X11_planned_0 (d := 2) hX _ _ σ (zIf_t (by rw [hC.1.1]; exact c.1) (zIf_t c.2 (zIf_t (hC.2.1.m.mpr hm) (kNo hC)))))
      · exact ze_X12_planned (d := 7) _ _ τ (fun X hX => zq_X12_planned_0 (d := 2) hX _ _ τ (zIf_t (by rw [hT.1.1]; exact c.1) (zIf_t c.2 (zIf_t ((rAt_0.mp hT.1).m.mpr hm) (rNo hT)))))
    | true =>
      obtain ⟨f, rfl, hf⟩ := (isF n60).mp c.1
      obtain ⟨w, rfl, hw⟩ := (w7 (m := 6) (by decide)).mp c.2
      refine zP_I (v := v) (w := v) (iI (mPn (va v) (aq (va v)) f w)) hv hR ?_ (fun τ hT => ?_)
      · refine ze_X11_planned (d := 7) _ _ σ (fun X hX => zq_X11_planned_0 (d := 2) hX _ _ σ (zIf_t (by rw [hC.1.1]; exact c.1) (zIf_t c.2 (zIf_f (sl_n hC.2.1.1 hm) ?_))))
        exact sp_kFol (d := 2) hv hC hm (fun τ f1 c1 c2 _ => sp_kFf (d := 3) hv c1 hm c2 hf hw ⟨_, rfl, rfl, c1, f1.lw (by decide)⟩)
      · exact sp_rPlanned (d := 2) hv hT hm hf hw (fun υ h1 h2 => ⟨rfl, h1, h2.1⟩)
  · refine zP_I (v := v) (w := v) (-2) hv hR ?_ (fun τ hT => ?_)
    · refine ze_X11_planned (d := 7) _ _ σ (fun X hX => zq_X11_planned_0 (d := 2) hX _ _ σ ?_)
      rw [hC.1.1]
      exact ⟨fun c1 => ⟨fun c2 => absurd ⟨c1, c2⟩ c, fun _ => kNo hC⟩, fun _ => kNo hC⟩
    · refine ze_X12_planned (d := 7) _ _ τ (fun X hX => zq_X12_planned_0 (d := 2) hX _ _ τ ?_)
      rw [hT.1.1]
      exact ⟨fun c1 => ⟨fun c2 => absurd ⟨c1, c2⟩ c, fun _ => rNo hT⟩, fun _ => rNo hT⟩
