/-! the component's calls, where there is no plan -/
theorem iI_kk (a k : Nat) : (iI (a : Int)) + iI (k : Int) = iI ((a + k : Nat) : Int) := iI_add _ _
theorem tN_add {a k : Nat} (h : a + k < 2147483648) : Int32.toNatClampNeg (iI (a : Int) + iI (k : Int)) = a + k := by
  rw [iI_kk, iI_k h]
/-- the first place from i on, among m -/
def mFs (P : Nat → Bool) : Nat → Nat → Int
  | 0, _ => -1
  | m + 1, i => if P i = true then (i : Int) else mFs P m (i + 1)
/-- another clip: the plan is forgotten -/
def aClip (a : mA) (n : Nat) (tx mo : Nat → Nat) : mA := (n, tx, mo, aS a, aw a, azf a, azl a, azo a, false, aq a)
def aSet (a : mA) (S : Nat → Nat) (m : Bool) : mA := (an a, atx a, amo a, S, aw a, azf a, azl a, azo a, m, aq a)
def aWt (a : mA) (w : Nat → Nat) : mA := (an a, atx a, amo a, aS a, w, azf a, azl a, azo a, amd a, aq a)
theorem aB.clip {a : mA} (h : aB a) {n : Nat} {tx mo : Nat → Nat} (hm : mB n tx mo) : aB (aClip a n tx mo) := by
  obtain ⟨b1, b2, b3, b4, b5, b6, b7, b8, b9, b10, b11, b12⟩ := h
  exact ⟨hm, b2, b3, b4, b5, b6, b7, b8, b9, b10, b11, fun z => absurd (show (false : Bool) = true from z) (by decide)⟩
theorem aB.set {a : mA} (h : aB a) {S : Nat → Nat} {m : Bool} (h2 : 1 ≤ S 0 ∧ S 0 ≤ 60) (h3 : S 1 ≤ 3) (h4 : S 2 ≤ S 3 ∧ S 3 ≤ 51) (h5 : 100 ≤ S 4 ∧ S 4 ≤ 1000000) (h6 : S 5 ≤ 100) (h7 : S 6 ≤ 100000) (h8 : S 7 = aS a 7) (hm : m = true → amd a = true) : aB (aSet a S m) := by
  obtain ⟨b1, b2, b3, b4, b5, b6, b7, b8, b9, b10, b11, b12⟩ := h
  exact ⟨b1, h2, h3, h4, h5, h6, h7, (show S 7 ≤ 6 by omega), b9, fun j hj => b10 j (by rw [← h8]; exact hj), b11, fun z => b12 (hm z)⟩
theorem aB.wt {a : mA} (h : aB a) {w : Nat → Nat} (hw : ∀ j, j < 60 → 1 ≤ w j ∧ w j ≤ 8) : aB (aWt a w) := by
  obtain ⟨b1, b2, b3, b4, b5, b6, b7, b8, b9, b10, b11, b12⟩ := h
  exact ⟨b1, b2, b3, b4, b5, b6, b7, b8, hw, b10, b11, b12⟩
theorem vB.a {v : mV} (h : vB v) {a : mA} (ha : aB a) : vB (vA v a) := ⟨ha, h.2.1, h.2.2.1, h.2.2.2.1, h.2.2.2.2⟩
theorem kA0.clip {σ τ : zS} {a : mA} {n : Nat} {tx mo : Nat → Nat} (h : kA0 σ 1 4 a) (e : ∀ r, r ∈ [4, 5, 6, 7, 8] → τ.1 r = σ.1 r) (h1 : τ.1 1 0 = iI n) (h2 : ∀ i, i < n → τ.1 2 i = iI (tx i)) (h3 : ∀ i, i < n → τ.1 3 i = iI (mo i)) : kA0 τ 1 4 (aClip a n tx mo) := by
  obtain ⟨a1, a2, a3, a4, a5, a6, a7, a8⟩ := h
  refine ⟨h1, h2, h3, fun j hj => ?_, fun j hj => ?_, fun j hj => ?_, fun j hj => ?_, fun j hj => ?_⟩
  · rw [e 4 (by decide)]; exact a4 j hj
  · rw [e 5 (by decide)]; exact a5 j hj
  · rw [e 6 (by decide)]; exact a6 j hj
  · rw [e 7 (by decide)]; exact a7 j hj
  · rw [e 8 (by decide)]; exact a8 j hj
theorem kA0.set {σ τ : zS} {a : mA} {S : Nat → Nat} {m : Bool} (h : kA0 σ 1 4 a) (e : ∀ r, r ∈ [1, 2, 3, 5, 6, 7, 8] → τ.1 r = σ.1 r) (h4 : ∀ j, j < 8 → τ.1 4 j = iI (S j)) (h7 : S 7 = aS a 7) : kA0 τ 1 4 (aSet a S m) := by
  obtain ⟨a1, a2, a3, a4, a5, a6, a7, a8⟩ := h
  refine ⟨?_, fun j hj => ?_, fun j hj => ?_, h4, fun j hj => ?_, fun j hj => ?_, fun j hj => ?_, fun j hj => ?_⟩
  · rw [e 1 (by decide)]; exact a1
  · rw [e 2 (by decide)]; exact a2 j hj
  · rw [e 3 (by decide)]; exact a3 j hj
  · rw [e 5 (by decide)]; exact a5 j hj
  · rw [e 6 (by decide)]; exact a6 j (by rw [← h7]; exact hj)
  · rw [e 7 (by decide)]; exact a7 j (by rw [← h7]; exact hj)
  · rw [e 8 (by decide)]; exact a8 j (by rw [← h7]; exact hj)
theorem kLa.set {σ : zS} {a : mA} {S : Nat → Nat} {m : Bool} (h : kLa σ a) (h0 : S 0 = aS a 0) (h1 : S 1 = aS a 1) : kLa σ (aSet a S m) := by
  show kL σ (an a) (S 0) (S 1) (atx a) (amo a)
  rw [h0, h1]
  exact h
theorem sp_anew {d : Nat} {σ τ : zS} {v : mV} {a : mA} {k : zS → Prop} (hC : CI σ v) (f : zFr [1, 2, 3, 4, 5, 6, 7, 8] σ τ) (hb : aB a) (hm : amd a = false) (hc : kA0 τ 1 4 a) (h : ∀ υ, CI υ (vA v a) → zLw σ υ → zFr (9 :: LR) τ υ → k υ) : zCall (d + 5) nX11_arrangeAnew [.ref 0] τ (zPV k) :=
  sp_arrangeAnew hb hc hm (fun υ hf h1 h2 h3 => h υ ⟨h1, h2, h3, hC.2.2.2.of (fun r hr => (hf.1 r (by revert r; decide)).trans (f.1 r (by revert r; decide))) (by rw [hf.1 11 (by decide), f.1 11 (by decide)]) rfl rfl rfl rfl⟩ ((f.lw (by decide)).tr (hf.lw (by decide))) hf)
theorem CI.pa {σ τ : zS} {v : mV} {a : mA} (hC : CI σ v) (f : zFr [4, 5, 6, 7, 8, 9, 10] σ τ) (h1 : kA0 τ 1 4 a) (h2 : kPl τ 9 a) (h3 : kLa τ a) : CI τ (vA v a) :=
  ⟨h1, h2, h3, hC.2.2.2.of (fun r hr => f.1 r (by revert r; decide)) (by rw [f.1 11 (by decide)]) rfl rfl rfl rfl⟩
theorem sp_cadd {d n p q : Nat} {σ : zS} {k : zS → Prop} (hn : n < 60) (h0 : σ.1 1 0 = iI n) (h : k (zSI (zSI (zSI σ 2 n (iI p)) 3 n (iI q)) 1 0 (iI ((n + 1 : Nat) : Int)))) : zCall (d + 2) nX0_add [.ref 1, .int (iI p), .int (iI q)] σ (zPV k) := by
  refine ze_X0_add_1 _ _ σ (fun X hX => zq_X0_add_1_0 hX _ _ σ ⟨rfl, ?_⟩)
  rw [h0, zPt_k (show n < zN 2 from hn), zPt_k (show n < zN 3 from hn), iI_s]
  exact h
def nU (f : Nat → Nat) (k x : Nat) : Nat → Nat := fun i => if i = k then x else f i
theorem nU_s (f : Nat → Nat) (k x : Nat) : nU f k x k = x := if_pos rfl
theorem nU_n {f : Nat → Nat} {k x i : Nat} (h : i ≠ k) : nU f k x i = f i := if_neg h
theorem upd_n {f : Nat → Int32} {g : Nat → Nat} {k x n : Nat} (h : ∀ i, i < n → i ≠ k → f i = iI (g i)) : ∀ i, i < n → upd f k (iI x) i = iI (nU g k x i) := fun i hi => by
  by_cases e : i = k
  · rw [e, nU_s]; simp [upd]
  · rw [nU_n e]; simp only [upd, if_neg e]; exact h i hi e
def mFr (a : mA) (f w : Nat) : Nat := if w = 0 then atx a f else if w = 1 then amo a f else if w = 2 then mT a f else if w = 3 then mSc (mCt a) f else if w = 4 then mP a f else if w = 5 then mK a f else if w = 6 then mF (aS a 0) (mCt a) (f + 1) else mGl (an a) (aS a 0) (mCt a) (mF (aS a 0) (mCt a) (f + 1))
theorem sp_kFrame {d f w : Nat} {a : mA} {σ : zS} {k : Int32 → zS → Prop} (hb : aB a) (hc : kA0 σ 1 4 a) (hl : kLa σ a) (hf : f < an a) (hw : w ≤ 7) (h : k (iI (mFr a f w)) σ) : zCall (d + 3) nX11_frame [.ref 0, .int (iI f), .int (iI w)] σ (zPI k) := by
  have h60 := hb.n60
  obtain ⟨l0, l1, l2, l3, l4, l5, l6, l7, l8, l9⟩ := hl
  refine ze_X11_frame _ _ σ (fun X hX => zq_X11_frame_0 hX _ _ σ (zIf_t (by rw [hc.1]; exact (isF h60).mpr ⟨f, rfl, hf⟩) (zIf_t ?_ ?_)))
  · rw [show (0 : Int32) = iI 0 from rfl, show (7 : Int32) = iI 7 from rfl, iI_le (by omega) (by omega) (by omega) (by omega), iI_le (by omega) (by omega) (by omega) (by omega)]; omega
  · rw [zAt_k (show f < zN 2 by show f < 60; omega), zAt_k (show f < zN 3 by show f < 60; omega), zAt_k (show f < zN 17 by show f < 60; omega), zAt_k (show f < zN 18 by show f < 60; omega), zAt_k (show f < zN 22 by show f < 60; omega), zAt_k (show f < zN 21 by show f < 60; omega), zAt_k (show f < zN 19 by show f < 60; omega), zAt_k (show f < zN 20 by show f < 60; omega), hc.2.1 f hf, hc.2.2.1 f hf, l3 f hf, l4 f hf, l5 f hf, l6 f hf, l7 f hf, l8 f hf]
    have c : w = 0 ∨ w = 1 ∨ w = 2 ∨ w = 3 ∨ w = 4 ∨ w = 5 ∨ w = 6 ∨ w = 7 := by omega
    rcases c with rfl | rfl | rfl | rfl | rfl | rfl | rfl | rfl
    · exact zIf_t (by decide) ⟨_, rfl, h⟩
    · exact zIf_f (by decide) (zIf_t (by decide) ⟨_, rfl, h⟩)
    · exact zIf_f (by decide) (zIf_f (by decide) (zIf_t (by decide) ⟨_, rfl, h⟩))
    · exact zIf_f (by decide) (zIf_f (by decide) (zIf_f (by decide) (zIf_t (by decide) ⟨_, rfl, h⟩)))
    · exact zIf_f (by decide) (zIf_f (by decide) (zIf_f (by decide) (zIf_f (by decide) (zIf_t (by decide) ⟨_, rfl, h⟩))))
    · exact zIf_f (by decide) (zIf_f (by decide) (zIf_f (by decide) (zIf_f (by decide) (zIf_f (by decide) (zIf_t (by decide) ⟨_, rfl, h⟩)))))
    · exact zIf_f (by decide) (zIf_f (by decide) (zIf_f (by decide) (zIf_f (by decide) (zIf_f (by decide) (zIf_f (by decide) (zIf_t (by decide) ⟨_, rfl, h⟩))))))
    · exact zIf_f (by decide) (zIf_f (by decide) (zIf_f (by decide) (zIf_f (by decide) (zIf_f (by decide) (zIf_f (by decide) (zIf_f (by decide) ⟨_, rfl, h⟩))))))
theorem w7 {q : Int32} {m : Nat} (hm : m < 1000) : (0 ≤ q ∧ q ≤ iI (m : Int)) ↔ ∃ w : Nat, q = iI w ∧ w ≤ m := by
  constructor
  · intro c
    obtain ⟨w, e, _, w2⟩ := rgN (p := q) 0 m (by decide) (by omega) c
    exact ⟨w, e, w2⟩
  · rintro ⟨w, rfl, hw⟩
    rw [show (0 : Int32) = iI 0 from rfl, iI_le (by omega) (by omega) (by omega) (by omega), iI_le (by omega) (by omega) (by omega) (by omega)]; omega
theorem kLo {σ : zS} {v : mV} {f w : Nat} (hv : vB v) (hC : CI σ v) (hf : f < an (va v)) (hw : w ≤ 51) : cLoss σ (iI f) (iI w) = iI (mLo (aw (va v) (mSc (mCt (va v)) f)) (mT (va v) f) w) := by
  have n60 := hv.1.n60
  have hs : mSc (mCt (va v)) f < 60 := mSc_lt n60 hf
  exact cLoss_iI (by omega) hs (hv.1.2.2.2.2.2.2.2.2.1 _ hs).2 (mTy_lt _ _ _ _ _) (by omega) (hC.2.2.1.2.2.2.2.1 f hf) (hC.1.2.2.2.2.1 _ hs) (hC.2.2.1.2.2.2.1 f hf) hC.2.2.2.1
theorem kBi {σ : zS} {v : mV} {f w : Nat} (hv : vB v) (hC : CI σ v) (hf : f < an (va v)) (hw : w ≤ 51) : cBits σ (iI f) (iI w) = iI (mBi (mK (va v) f) w) := by
  have n60 := hv.1.n60
  exact cBits_iI (by omega) (by omega) (mWk_le hv.1.1 hf) (hC.2.2.1.2.2.2.2.2.2.2.1 f hf) hC.2.2.2.1
theorem kPl.m {σ : zS} {p : Nat} {a : mA} (h : kPl σ p a) : σ.1 p 0 = 0 ↔ amd a = false := by
  rw [h.1]
  cases amd a with
  | true => exact ⟨fun z => absurd z (by decide), fun z => absurd z (by decide)⟩
  | false => exact ⟨fun _ => rfl, fun _ => rfl⟩
def mCo (v : mV) (w : Nat) : Nat := if w = 0 then an (va v) else if w = 1 then mS (mCt (va v)) (an (va v)) else if w = 2 then mG (aS (va v) 0) (mCt (va v)) (an (va v)) else if w = 3 then (if amd (va v) = true then 1 else 0) else if w = 4 then aS (va v) 7 else if w = 5 then aS (va v) 0 else if w = 6 then aS (va v) 1 else if w = 7 then aS (va v) 4 else if w = 8 then aS (va v) 5 else if w = 9 then aS (va v) 6 else vl v
theorem sp_kCount {d w : Nat} {v : mV} {σ : zS} {k : Int32 → zS → Prop} (hC : CI σ v) (hw : w ≤ 10) (h : k (iI (mCo v w)) σ) : zCall (d + 1) nX11_count [.ref 0, .int (iI w)] σ (zPI k) := by
  refine ze_X11_count _ σ (fun X hX => zq_X11_count_0 hX _ σ ?_)
  have c : w = 0 ∨ w = 1 ∨ w = 2 ∨ w = 3 ∨ w = 4 ∨ w = 5 ∨ w = 6 ∨ w = 7 ∨ w = 8 ∨ w = 9 ∨ w = 10 := by omega
  rcases c with rfl | rfl | rfl | rfl | rfl | rfl | rfl | rfl | rfl | rfl | rfl
  · exact zIf_t (by decide) ⟨_, rfl, by rw [hC.1.1]; exact h⟩
  · exact zIf_f (by decide) (zIf_t (by decide) ⟨_, rfl, by rw [hC.2.2.1.2.1]; exact h⟩)
  · exact zIf_f (by decide) (zIf_f (by decide) (zIf_t (by decide) ⟨_, rfl, by rw [hC.2.2.1.2.2.1]; exact h⟩))
  · refine zIf_f (by decide) (zIf_f (by decide) (zIf_f (by decide) (zIf_t (by decide) ?_)))
    refine ⟨fun z => ⟨_, rfl, ?_⟩, fun z => ⟨_, rfl, ?_⟩⟩
    · have e : mCo v 3 = 0 := by show (if amd (va v) = true then 1 else 0) = 0; rw [hC.2.1.m.mp z]; rfl
      rw [e] at h; exact h
    · have e : amd (va v) = true := by
        cases hm : amd (va v) with
        | true => rfl
        | false => exact absurd (hC.2.1.m.mpr hm) z
      have e2 : mCo v 3 = 1 := by show (if amd (va v) = true then 1 else 0) = 1; rw [e]; rfl
      rw [e2] at h; exact h
  · exact zIf_f (by decide) (zIf_f (by decide) (zIf_f (by decide) (zIf_f (by decide) (zIf_t (by decide) ⟨_, rfl, by rw [hC.1.2.2.2.1 7 (by decide)]; exact h⟩))))
  · exact zIf_f (by decide) (zIf_f (by decide) (zIf_f (by decide) (zIf_f (by decide) (zIf_f (by decide) (zIf_t (by decide) ⟨_, rfl, by rw [hC.1.2.2.2.1 0 (by decide)]; exact h⟩)))))
  · exact zIf_f (by decide) (zIf_f (by decide) (zIf_f (by decide) (zIf_f (by decide) (zIf_f (by decide) (zIf_f (by decide) (zIf_t (by decide) ⟨_, rfl, by rw [hC.1.2.2.2.1 1 (by decide)]; exact h⟩))))))
  · exact zIf_f (by decide) (zIf_f (by decide) (zIf_f (by decide) (zIf_f (by decide) (zIf_f (by decide) (zIf_f (by decide) (zIf_f (by decide) (zIf_t (by decide) ⟨_, rfl, by rw [hC.1.2.2.2.1 4 (by decide)]; exact h⟩)))))))
  · exact zIf_f (by decide) (zIf_f (by decide) (zIf_f (by decide) (zIf_f (by decide) (zIf_f (by decide) (zIf_f (by decide) (zIf_f (by decide) (zIf_f (by decide) (zIf_t (by decide) ⟨_, rfl, by rw [hC.1.2.2.2.1 5 (by decide)]; exact h⟩))))))))
  · exact zIf_f (by decide) (zIf_f (by decide) (zIf_f (by decide) (zIf_f (by decide) (zIf_f (by decide) (zIf_f (by decide) (zIf_f (by decide) (zIf_f (by decide) (zIf_f (by decide) (zIf_t (by decide) ⟨_, rfl, by rw [hC.1.2.2.2.1 6 (by decide)]; exact h⟩)))))))))
  · exact zIf_f (by decide) (zIf_f (by decide) (zIf_f (by decide) (zIf_f (by decide) (zIf_f (by decide) (zIf_f (by decide) (zIf_f (by decide) (zIf_f (by decide) (zIf_f (by decide) (zIf_f (by decide) (zIf_t (by decide) ⟨_, rfl, by rw [hC.2.2.2.2.1]; exact h⟩))))))))))
theorem n0_iI {n : Nat} (hn : n ≤ 60) : iI (n : Int) = 0 ↔ n = 0 := by
  rw [show (0 : Int32) = iI 0 from rfl, iI_eq (by omega) (by omega) (by omega) (by omega)]; omega
def msQ (a : mA) (s f : Nat) : Bool := decide (mSc (mCt a) f = s)
def msG (a : mA) (s f : Nat) : Bool := msQ a s f && decide (mT a f = 0)
theorem msQ_iI {a : mA} {s f : Nat} (hs : s < 60) (h60 : an a ≤ 60) (hf : f < an a) : iI (mSc (mCt a) f : Nat) = iI (s : Nat) ↔ msQ a s f = true := by
  have := mSc_lt (cut := mCt a) h60 hf
  unfold msQ
  rw [decide_eq_true_eq, iI_eq (by omega) (by omega) (by omega) (by omega)]
  omega
theorem ct_iI {P : Nat → Bool} {i : Nat} (c : P i = true) : iI (fb_ct P i : Nat) + 1 = iI (fb_ct P (i + 1) : Nat) := by
  rw [iI_s, fb_ct_succ, if_pos c]
theorem ct_no {P : Nat → Bool} {i : Nat} (c : ¬ P i = true) : fb_ct P (i + 1) = fb_ct P i := by
  rw [fb_ct_succ, if_neg c, Nat.add_zero]
theorem fos_loop {d s : Nat} {v : mV} {σ : zS} {post : zPo} {X : zX} (hX : zClosed none (zCall (d + 1)) post nX3_firstOfScene X) (hv : vB v) (hC : CI σ v) (hs : s < 60) : ∀ (m i : Nat), i + m = an (va v) → post (some (.int (iI (mFs (msQ (va v) s) m i)))) σ → X 2 [some (.ref 16), some (.int (iI s)), some (.int (iI i))] [] σ
  | 0, i, hm, h => by
    have e : i = an (va v) := by omega
    subst e
    refine zq_X3_firstOfScene_2 hX _ _ σ (zIf_f ?_ h)
    rw [hC.2.2.1.1]; exact Int32.lt_irrefl
  | m + 1, i, hm, h => by
    have h60 := hv.1.n60
    have hin : i < an (va v) := by omega
    have e1 : zAt σ 18 (iI i) = iI (mSc (mCt (va v)) i) := by rw [zAt_k (show i < zN 18 by show i < 60; omega)]; exact hC.2.2.1.2.2.2.2.1 i hin
    refine zq_X3_firstOfScene_2 hX _ _ σ (zIf_t ?_ ?_)
    · rw [hC.2.2.1.1, iI_lt (by omega) (by omega) (by omega) (by omega)]; omega
    · rw [e1, iI_s]
      unfold mFs at h
      refine ⟨fun z => ?_, fun z => ?_⟩
      · rw [if_pos ((msQ_iI hs h60 hin).mp z)] at h; exact h
      · rw [if_neg (fun y => z ((msQ_iI hs h60 hin).mpr y))] at h
        exact fos_loop hX hv hC hs m (i + 1) (by omega) h
theorem frs_loop {d s : Nat} {v : mV} {σ : zS} {post : zPo} {X : zX} (hX : zClosed none (zCall (d + 1)) post nX3_framesOfScene X) (hv : vB v) (hC : CI σ v) (hs : s < 60) (h : post (some (.int (iI (fb_ct (msQ (va v) s) (an (va v)))))) σ) : ∀ (m i : Nat), i + m = an (va v) → X 4 [some (.ref 16), some (.int (iI s)), some (.int (iI (fb_ct (msQ (va v) s) i))), some (.int (iI i))] [] σ
  | 0, i, hm => by
    have e : i = an (va v) := by omega
    subst e
    refine zq_X3_framesOfScene_4 hX _ _ _ σ (zIf_f ?_ h)
    rw [hC.2.2.1.1]; exact Int32.lt_irrefl
  | m + 1, i, hm => by
    have h60 := hv.1.n60
    have hin : i < an (va v) := by omega
    have e1 : zAt σ 18 (iI i) = iI (mSc (mCt (va v)) i) := by rw [zAt_k (show i < zN 18 by show i < 60; omega)]; exact hC.2.2.1.2.2.2.2.1 i hin
    have go := frs_loop hX hv hC hs h m (i + 1) (by omega)
    refine zq_X3_framesOfScene_4 hX _ _ _ σ (zIf_t ?_ ?_)
    · rw [hC.2.2.1.1, iI_lt (by omega) (by omega) (by omega) (by omega)]; omega
    · rw [e1, iI_s i]
      refine ⟨fun z => ?_, fun z => ?_⟩
      · rw [ct_iI ((msQ_iI hs h60 hin).mp z)]; exact go
      · rw [ct_no (fun y => z ((msQ_iI hs h60 hin).mpr y))] at go; exact go
theorem grs_loop {d s : Nat} {v : mV} {σ : zS} {post : zPo} {X : zX} (hX : zClosed none (zCall (d + 1)) post nX3_groupsOfScene X) (hv : vB v) (hC : CI σ v) (hs : s < 60) (h : post (some (.int (iI (fb_ct (msG (va v) s) (an (va v)))))) σ) : ∀ (m i : Nat), i + m = an (va v) → X 4 [some (.ref 16), some (.int (iI s)), some (.int (iI (fb_ct (msG (va v) s) i))), some (.int (iI i))] [] σ
  | 0, i, hm => by
    have e : i = an (va v) := by omega
    subst e
    refine zq_X3_groupsOfScene_4 hX _ _ _ σ (zIf_f ?_ h)
    rw [hC.2.2.1.1]; exact Int32.lt_irrefl
  | m + 1, i, hm => by
    have h60 := hv.1.n60
    have hin : i < an (va v) := by omega
    have e1 : zAt σ 18 (iI i) = iI (mSc (mCt (va v)) i) := by rw [zAt_k (show i < zN 18 by show i < 60; omega)]; exact hC.2.2.1.2.2.2.2.1 i hin
    have e2 : zAt σ 17 (iI i) = iI (mT (va v) i) := by rw [zAt_k (show i < zN 17 by show i < 60; omega)]; exact hC.2.2.1.2.2.2.1 i hin
    have ht : mT (va v) i ≤ 2 := mTy_lt _ _ _ _ _
    have e3 : iI (mT (va v) i : Nat) = 0 ↔ mT (va v) i = 0 := by rw [show (0 : Int32) = iI 0 from rfl, iI_eq (by omega) (by omega) (by omega) (by omega)]; omega
    have go := grs_loop hX hv hC hs h m (i + 1) (by omega)
    refine zq_X3_groupsOfScene_4 hX _ _ _ σ (zIf_t ?_ ?_)
    · rw [hC.2.2.1.1, iI_lt (by omega) (by omega) (by omega) (by omega)]; omega
    · rw [e1, e2, iI_s i]
      refine ⟨fun z => ⟨fun y => ?_, fun y => ?_⟩, fun z => ?_⟩
      · have p : msG (va v) s i = true := by
          unfold msG
          rw [(msQ_iI hs h60 hin).mp z, decide_eq_true (e3.mp y)]
          rfl
        rw [ct_iI p]; exact go
      · rw [ct_no (P := msG (va v) s) (fun w => y (e3.mpr (by
          unfold msG at w
          rw [Bool.and_eq_true, decide_eq_true_eq] at w
          exact w.2)))] at go
        exact go
      · rw [ct_no (P := msG (va v) s) (fun w => z ((msQ_iI hs h60 hin).mpr (by
          unfold msG at w
          rw [Bool.and_eq_true] at w
          exact w.1)))] at go
        exact go
/-- the component holds a, and there is no plan -/
def KI (σ : zS) (a : mA) : Prop := ∃ v : mV, vB v ∧ CI σ v ∧ va v = a ∧ amd a = false
theorem KI.b {σ : zS} {a : mA} (h : KI σ a) : aB a := by
  obtain ⟨v, hv, hC, rfl, hm⟩ := h
  exact hv.1
theorem KI.hg {σ τ : zS} {a : mA} (h : KI σ a) (f : zHg σ τ) : KI τ a := by
  obtain ⟨v, hv, hC, e, hm⟩ := h
  exact ⟨v, hv, hC.hg f, e, hm⟩
variable {d f w p q s t m : Nat} {a : mA} {σ : zS} {k : Int32 → zS → Prop}
theorem c_frame (h : KI σ a) (hf : f < an a) (hw : w ≤ 7) (hk : k (iI (mFr a f w)) σ) : zCall (d + 3) nX11_frame [.ref 0, .int (iI f), .int (iI w)] σ (zPI k) := by
  obtain ⟨v, hv, hC, rfl, hm⟩ := h
  exact sp_kFrame hv.1 hC.1 hC.2.2.1 hf hw hk
theorem c_frame8 (h : KI σ a) (hf : f < an a) (hk : k (-2) σ) : zCall (d + 3) nX11_frame [.ref 0, .int (iI f), .int 8] σ (zPI k) := by
  obtain ⟨v, hv, hC, rfl, hm⟩ := h
  exact ze_X11_frame (d := d + 2) _ _ σ (fun X hX => zq_X11_frame_0 (d := d) hX _ _ σ (zIf_t (by rw [hC.1.1]; exact (isF hv.1.n60).mpr ⟨f, rfl, hf⟩) (zIf_f (by decide) ⟨_, rfl, hk⟩)))
theorem c_frameB (h : KI σ a) (hk : k (-2) σ) : zCall (d + 3) nX11_frame [.ref 0, .int (iI (an a)), .int 0] σ (zPI k) := by
  obtain ⟨v, hv, hC, rfl, hm⟩ := h
  have n60 := hv.1.n60
  refine ze_X11_frame (d := d + 2) _ _ σ (fun X hX => zq_X11_frame_0 (d := d) hX _ _ σ (zIf_f ?_ ⟨_, rfl, hk⟩))
  rw [hC.1.1]
  rintro ⟨-, z⟩
  rw [iI_m, iI_le (by omega) (by omega) (by omega) (by omega)] at z
  omega
theorem c_coded (h : KI σ a) (hp : p < an a) (hk : k (iI (mO a p)) σ) : zCall (d + 3) nX11_coded [.ref 0, .int (iI p)] σ (zPI k) := by
  obtain ⟨v, hv, hC, rfl, hm⟩ := h
  have n60 := hv.1.n60
  refine ze_X11_coded (d := d + 2) _ σ (fun X hX => zq_X11_coded_0 (d := d) hX _ σ (zIf_t (by rw [hC.1.1]; exact (isF n60).mpr ⟨p, rfl, hp⟩) ?_))
  rw [zAt_k (show p < zN 23 by show p < 60; omega), hC.2.2.1.2.2.2.2.2.2.2.2.2 p hp]
  exact ⟨_, rfl, hk⟩
theorem c_codedB (h : KI σ a) (h0 : an a = 0) (hk : k (-2) σ) : zCall (d + 3) nX11_coded [.ref 0, .int 0] σ (zPI k) := by
  obtain ⟨v, hv, hC, rfl, hm⟩ := h
  exact ze_X11_coded (d := d + 2) _ σ (fun X hX => zq_X11_coded_0 (d := d) hX _ σ (zIf_f (by rw [hC.1.1, h0]; decide) ⟨_, rfl, hk⟩))
theorem c_bits (h : KI σ a) (hf : f < an a) (hq : q ≤ 51) (hk : k (iI (mBi (mK a f) q)) σ) : zCall (d + 3) nX11_bitsAt [.ref 0, .int (iI f), .int (iI q)] σ (zPI k) := by
  obtain ⟨v, hv, hC, rfl, hm⟩ := h
  refine ze_X11_bitsAt (d := d + 2) _ _ σ (fun X hX => zq_X11_bitsAt_0 (d := d) hX _ _ σ (zIf_t (by rw [hC.1.1]; exact (isF hv.1.n60).mpr ⟨f, rfl, hf⟩) (zIf_t ((w7 (m := 51) (by decide)).mpr ⟨q, rfl, hq⟩) ?_)))
  rw [kBi hv hC hf hq]
  exact ⟨_, rfl, hk⟩
theorem c_bits52 (h : KI σ a) (hf : f < an a) (hk : k (-2) σ) : zCall (d + 3) nX11_bitsAt [.ref 0, .int (iI f), .int 52] σ (zPI k) := by
  obtain ⟨v, hv, hC, rfl, hm⟩ := h
  exact ze_X11_bitsAt (d := d + 2) _ _ σ (fun X hX => zq_X11_bitsAt_0 (d := d) hX _ _ σ (zIf_t (by rw [hC.1.1]; exact (isF hv.1.n60).mpr ⟨f, rfl, hf⟩) (zIf_f (by decide) ⟨_, rfl, hk⟩)))
theorem c_loss (h : KI σ a) (hf : f < an a) (hq : q ≤ 51) (hk : k (iI (mLo (aw a (mSc (mCt a) f)) (mT a f) q)) σ) : zCall (d + 4) nX11_lossAt [.ref 0, .int (iI f), .int (iI q)] σ (zPI k) := by
  obtain ⟨v, hv, hC, rfl, hm⟩ := h
  refine ze_X11_lossAt (d := d + 3) _ _ σ (fun X hX => zq_X11_lossAt_0 (d := d) hX _ _ σ (zIf_t (by rw [hC.1.1]; exact (isF hv.1.n60).mpr ⟨f, rfl, hf⟩) (zIf_t ((w7 (m := 51) (by decide)).mpr ⟨q, rfl, hq⟩) ?_)))
  rw [kLo hv hC hf hq]
  exact ⟨_, rfl, hk⟩
theorem c_count0 (h : KI σ a) (hk : k (iI (an a)) σ) : zCall (d + 1) nX11_count [.ref 0, .int 0] σ (zPI k) := by
  obtain ⟨v, hv, hC, rfl, hm⟩ := h
  exact sp_kCount (w := 0) hC (by decide) hk
theorem c_count1 (h : KI σ a) (hk : k (iI (mS (mCt a) (an a))) σ) : zCall (d + 1) nX11_count [.ref 0, .int 1] σ (zPI k) := by
  obtain ⟨v, hv, hC, rfl, hm⟩ := h
  exact sp_kCount (w := 1) hC (by decide) hk
theorem c_count2 (h : KI σ a) (hk : k (iI (mG (aS a 0) (mCt a) (an a))) σ) : zCall (d + 1) nX11_count [.ref 0, .int 2] σ (zPI k) := by
  obtain ⟨v, hv, hC, rfl, hm⟩ := h
  exact sp_kCount (w := 2) hC (by decide) hk
theorem c_count3 (h : KI σ a) (hk : k 0 σ) : zCall (d + 1) nX11_count [.ref 0, .int 3] σ (zPI k) := by
  obtain ⟨v, hv, hC, rfl, hm⟩ := h
  refine sp_kCount (w := 3) hC (by decide) ?_
  have e : mCo v 3 = 0 := by show (if amd (va v) = true then 1 else 0) = 0; rw [hm]; rfl
  rw [e]
  exact hk
/-- of a scene: its first frame, its frames, its weight, its intra frames -/
def mSn (a : mA) (s w : Nat) : Int := if w = 0 then mFs (msQ a s) (an a) 0 else if w = 1 then (fb_ct (msQ a s) (an a) : Nat) else if w = 2 then (aw a s : Nat) else (fb_ct (msG a s) (an a) : Nat)
theorem c_scene (h : KI σ a) (hs : s < mS (mCt a) (an a)) (hw : w = 0 ∨ w = 1 ∨ w = 2 ∨ w = 5) (hk : k (iI (mSn a s w)) σ) : zCall (d + 4) nX11_scene [.ref 0, .int (iI s), .int (iI w)] σ (zPI k) := by
  obtain ⟨v, hv, hC, rfl, hm⟩ := h
  have h60 := hv.1.n60
  have hs60 : mS (mCt (va v)) (an (va v)) ≤ an (va v) := mS_le _ _
  have s60 : s < 60 := by omega
  have g0 : ∀ K : Int32 → zS → Prop, K (iI (mFs (msQ (va v) s) (an (va v)) 0)) σ → zCall (d + 3) nX3_firstOfScene [.ref 16, .int (iI s)] σ (zPI K) := fun K h => ze_X3_firstOfScene (d := d + 2) _ σ (fun Y hY => zq_X3_firstOfScene_0 (d := d + 1) hY _ σ (fos_loop (d := d + 1) hY hv hC s60 (an (va v)) 0 (by omega) ⟨_, rfl, h⟩))
  have g1 : ∀ K : Int32 → zS → Prop, K (iI (fb_ct (msQ (va v) s) (an (va v)) : Nat)) σ → zCall (d + 3) nX3_framesOfScene [.ref 16, .int (iI s)] σ (zPI K) := fun K h => ze_X3_framesOfScene (d := d + 2) _ σ (fun Y hY => zq_X3_framesOfScene_0 (d := d + 1) hY _ σ (frs_loop (d := d + 1) hY hv hC s60 ⟨_, rfl, h⟩ (an (va v)) 0 (by omega)))
  have g5 : ∀ K : Int32 → zS → Prop, K (iI (fb_ct (msG (va v) s) (an (va v)) : Nat)) σ → zCall (d + 3) nX3_groupsOfScene [.ref 16, .int (iI s)] σ (zPI K) := fun K h => ze_X3_groupsOfScene (d := d + 2) _ σ (fun Y hY => zq_X3_groupsOfScene_0 (d := d + 1) hY _ σ (grs_loop (d := d + 1) hY hv hC s60 ⟨_, rfl, h⟩ (an (va v)) 0 (by omega)))
  refine ze_X11_scene _ _ σ (fun X hX => zq_X11_scene_0 hX _ _ σ (zIf_t ?_ (zIf_t ((w7 (m := 5) (by decide)).mpr ⟨w, rfl, by omega⟩) ?_)))
  · rw [hC.2.2.1.2.1]; exact (isF (Nat.le_trans hs60 h60)).mpr ⟨s, rfl, hs⟩
  · have e5 : zAt σ 5 (iI s) = iI (aw (va v) s) := by rw [zAt_k (show s < zN 5 from s60)]; exact hC.1.2.2.2.2.1 s s60
    rw [e5]
    rcases hw with rfl | rfl | rfl | rfl
    · exact ⟨fun _ => zIf_f (by decide) (zIf_f (by decide) (zIf_t (by decide) (g0 _ ⟨_, rfl, hk⟩))), fun _ => zIf_t (by decide) (g0 _ ⟨_, rfl, hk⟩)⟩
    · exact ⟨fun _ => zIf_f (by decide) (zIf_f (by decide) (zIf_f (by decide) (zIf_t (by decide) (g1 _ ⟨_, rfl, hk⟩)))), fun _ => zIf_f (by decide) (zIf_t (by decide) (g1 _ ⟨_, rfl, hk⟩))⟩
    · exact ⟨fun _ => zIf_f (by decide) (zIf_f (by decide) (zIf_f (by decide) (zIf_f (by decide) (zIf_t (by decide) ⟨_, rfl, hk⟩)))), fun _ => zIf_f (by decide) (zIf_f (by decide) (zIf_t (by decide) ⟨_, rfl, hk⟩))⟩
    · exact ⟨fun _ => zIf_f (by decide) (zIf_f (by decide) (zIf_f (by decide) (zIf_f (by decide) (zIf_f (by decide) (zIf_f (by decide) (zIf_f (by decide) (g5 _ ⟨_, rfl, hk⟩))))))), fun _ => zIf_f (by decide) (zIf_f (by decide) (zIf_f (by decide) (zIf_f (by decide) (zIf_f (by decide) (g5 _ ⟨_, rfl, hk⟩)))))⟩
theorem c_scene3 (h : KI σ a) (hs : s < mS (mCt a) (an a)) (hk : k (-3) σ) : zCall (d + 4) nX11_scene [.ref 0, .int (iI s), .int 3] σ (zPI k) := by
  obtain ⟨v, hv, hC, rfl, hm⟩ := h
  have h60 := hv.1.n60
  have hs60 : mS (mCt (va v)) (an (va v)) ≤ an (va v) := mS_le _ _
  refine ze_X11_scene _ _ σ (fun X hX => zq_X11_scene_0 hX _ _ σ (zIf_t ?_ (zIf_t (by decide) (zIf_t (hC.2.1.m.mpr hm) (zIf_t (by decide) ⟨_, rfl, hk⟩)))))
  rw [hC.2.2.1.2.1]; exact (isF (Nat.le_trans hs60 h60)).mpr ⟨s, rfl, hs⟩
theorem c_sceneB (h : KI σ a) (hk : k (-2) σ) : zCall (d + 4) nX11_scene [.ref 0, .int (iI (mS (mCt a) (an a))), .int 0] σ (zPI k) := by
  obtain ⟨v, hv, hC, rfl, hm⟩ := h
  have h60 := hv.1.n60
  have hs60 : mS (mCt (va v)) (an (va v)) ≤ an (va v) := mS_le _ _
  refine ze_X11_scene _ _ σ (fun X hX => zq_X11_scene_0 hX _ _ σ (zIf_f ?_ ⟨_, rfl, hk⟩))
  rw [hC.2.2.1.2.1]
  rintro ⟨-, z⟩
  have z : iI ((mS (mCt (va v)) (an (va v)) : Nat) : Int) ≤ iI ((mS (mCt (va v)) (an (va v)) : Nat) : Int) - 1 := z
  rw [iI_m, iI_le (by omega) (by omega) (by omega) (by omega)] at z
  omega
-- calls that change the clip or a setting
theorem c_append (h : KI σ a) (hn : an a < 60) (t1 : 1 ≤ t) (t2 : t ≤ 4000) (m2 : m ≤ 4000) (hk : ∀ τ, KI τ (aClip a (an a + 1) (nU (atx a) (an a) t) (nU (amo a) (an a) m)) → zLw σ τ → k (iI (an a)) τ) : zCall (d + 6) nX11_append [.ref 0, .int (iI t), .int (iI m)] σ (zPI k) := by
  obtain ⟨v, hv, hC, rfl, hm⟩ := h
  have n60 := hv.1.n60
  have tb : mB (an (va v) + 1) (nU (atx (va v)) (an (va v)) t) (nU (amo (va v)) (an (va v)) m) := ⟨by omega, fun i hi => by
    by_cases e : i = an (va v)
    · rw [e, nU_s, nU_s]; omega
    · rw [nU_n e, nU_n e]; exact hv.1.1.2 i (by omega)⟩
  have ab := hv.1.clip tb
  have c : (1 ≤ iI (t : Int) ∧ iI (t : Int) ≤ 4000) ∧ (0 ≤ iI (m : Int) ∧ iI (m : Int) ≤ 4000) := by
    rw [show (1 : Int32) = iI 1 from rfl, show (4000 : Int32) = iI 4000 from rfl, show (0 : Int32) = iI 0 from rfl, iI_le (by omega) (by omega) (by omega) (by omega), iI_le (by omega) (by omega) (by omega) (by omega), iI_le (by omega) (by omega) (by omega) (by omega), iI_le (by omega) (by omega) (by omega) (by omega)]
    omega
  refine ze_X11_append (d := d + 5) _ _ σ (fun X hX => zq_X11_append_0 (d := d) hX _ _ σ ?_)
  refine sp_isPicture (d := d + 3) (fun _ => ?_) (fun z => absurd c z)
  refine zIf_f (by decide) (zIf_t ?_ ?_)
  · rw [hC.1.1, show (60 : Int32) = iI 60 from rfl, iI_lt (by omega) (by omega) (by omega) (by omega)]; omega
  · refine sp_cadd (d := d + 3) (n := an (va v)) (by omega) hC.1.1 ?_
    refine sp_anew (d := d) (v := v) hC ((((zFr.rf _ σ).si (by decide) _ _).si (by decide) _ _).si (by decide) _ _) ab rfl (hC.1.clip (fun r hr => ?_) (by simp [zSI_at]) ?_ ?_) (fun υ h1 h2 h3 => ⟨_, rfl, ?_⟩)
    · rw [zSI_1 (by revert r; decide), zSI_1 (by revert r; decide), zSI_1 (by revert r; decide)]
    · rw [zSI_1 (by decide), zSI_1 (by decide), zSI_s]
      exact upd_n (fun i hi e => hC.1.2.1 i (by omega))
    · rw [zSI_1 (by decide), zSI_s, zSI_1 (by decide)]
      exact upd_n (fun i hi e => hC.1.2.2.1 i (by omega))
    · have e : υ.1 1 0 - 1 = iI (an (va v)) := by rw [h1.1.1, iI_m]; exact congrArg iI (by show (((an (va v) + 1 : Nat) : Int) - 1) = _; omega)
      rw [e]
      exact hk υ ⟨_, hv.a ab, h1, rfl, rfl⟩ h2
theorem c_appendB {x y : Int32} (h : KI σ a) (c : ¬ ((1 ≤ x ∧ x ≤ 4000) ∧ (0 ≤ y ∧ y ≤ 4000))) (hk : k (-2) σ) : zCall (d + 6) nX11_append [.ref 0, .int x, .int y] σ (zPI k) :=
  ze_X11_append (d := d + 5) _ _ σ (fun X hX => zq_X11_append_0 (d := d) hX _ _ σ (sp_isPicture (d := d + 3) (fun z => absurd z c) (fun _ => zIf_t rfl ⟨_, rfl, hk⟩)))
theorem c_drop (h : KI σ a) (c : 0 < an a) (hk : ∀ τ, KI τ (aClip a (an a - 1) (atx a) (amo a)) → zLw σ τ → k (iI ((an a - 1 : Nat) : Int)) τ) : zCall (d + 6) nX11_drop [.ref 0] σ (zPI k) := by
  obtain ⟨v, hv, hC, rfl, hm⟩ := h
  have n60 := hv.1.n60
  have tb : mB (an (va v) - 1) (atx (va v)) (amo (va v)) := ⟨by omega, fun i hi => hv.1.1.2 i (by omega)⟩
  have ab := hv.1.clip tb
  have e0 : iI (an (va v) : Int) - 1 = iI ((an (va v) - 1 : Nat) : Int) := by rw [iI_m]; exact congrArg iI (by omega)
  have ne : ¬ iI (an (va v) : Int) = 0 := by rw [show (0 : Int32) = iI 0 from rfl, iI_eq (by omega) (by omega) (by omega) (by omega)]; omega
  refine ze_X11_drop (d := d + 5) σ (fun X hX => zq_X11_drop_0 (d := d) hX σ (zIf_f (by rw [hC.1.1]; exact ne) ?_))
  rw [hC.1.1, e0]
  refine sp_anew (d := d) (v := v) hC ((zFr.rf _ σ).si (by decide) _ _) ab rfl (hC.1.clip (fun r hr => ?_) (by simp [zSI_at]) ?_ ?_) (fun υ h1 h2 h3 => ⟨_, rfl, ?_⟩)
  · rw [zSI_1 (by revert r; decide)]
  · rw [zSI_1 (by decide)]; exact fun i hi => hC.1.2.1 i (by omega)
  · rw [zSI_1 (by decide)]; exact fun i hi => hC.1.2.2.1 i (by omega)
  · rw [h1.1.1]
    exact hk υ ⟨_, hv.a ab, h1, rfl, rfl⟩ h2
theorem c_dropS (h : KI σ a) (c : an a = 0) (hk : k (-3) σ) : zCall (d + 6) nX11_drop [.ref 0] σ (zPI k) := by
  obtain ⟨v, hv, hC, rfl, hm⟩ := h
  exact ze_X11_drop (d := d + 5) σ (fun X hX => zq_X11_drop_0 (d := d) hX σ (zIf_t (by rw [hC.1.1, c]; rfl) ⟨_, rfl, hk⟩))
theorem c_set (h : KI σ a) (hf : f < an a) (t1 : 1 ≤ t) (t2 : t ≤ 4000) (m2 : m ≤ 4000) (hk : ∀ τ, KI τ (aClip a (an a) (nU (atx a) f t) (nU (amo a) f m)) → zLw σ τ → k (if mCut (nU (atx a) f t) (nU (amo a) f m) f = true then 1 else 0) τ) : zCall (d + 6) nX11_set [.ref 0, .int (iI f), .int (iI t), .int (iI m)] σ (zPI k) := by
  obtain ⟨v, hv, hC, rfl, hm⟩ := h
  have n60 := hv.1.n60
  have tb : mB (an (va v)) (nU (atx (va v)) f t) (nU (amo (va v)) f m) := ⟨by omega, fun i hi => by
    by_cases e : i = f
    · rw [e, nU_s, nU_s]; omega
    · rw [nU_n e, nU_n e]; exact hv.1.1.2 i (by omega)⟩
  have ab := hv.1.clip tb
  have c : (1 ≤ iI (t : Int) ∧ iI (t : Int) ≤ 4000) ∧ (0 ≤ iI (m : Int) ∧ iI (m : Int) ≤ 4000) := by
    rw [show (1 : Int32) = iI 1 from rfl, show (4000 : Int32) = iI 4000 from rfl, show (0 : Int32) = iI 0 from rfl, iI_le (by omega) (by omega) (by omega) (by omega), iI_le (by omega) (by omega) (by omega) (by omega), iI_le (by omega) (by omega) (by omega) (by omega), iI_le (by omega) (by omega) (by omega) (by omega)]
    omega
  refine ze_X11_set (d := d + 5) _ _ _ σ (fun X hX => zq_X11_set_0 (d := d) hX _ _ _ σ (zIf_t (by rw [hC.1.1]; exact (isF n60).mpr ⟨f, rfl, hf⟩) ?_))
  refine sp_isPicture (d := d + 3) (fun _ => ?_) (fun z => absurd c z)
  refine zIf_f (by decide) ?_
  rw [zPt_k (show f < zN 2 by show f < 60; omega), zPt_k (show f < zN 3 by show f < 60; omega)]
  refine sp_anew (d := d) (v := v) hC (((zFr.rf _ σ).si (by decide) _ _).si (by decide) _ _) ab rfl (hC.1.clip (fun r hr => ?_) ?_ ?_ ?_) (fun υ h1 h2 h3 => ?_)
  · rw [zSI_1 (by revert r; decide), zSI_1 (by revert r; decide)]
  · rw [zSI_1 (by decide), zSI_1 (by decide)]; exact hC.1.1
  · rw [zSI_1 (by decide), zSI_s]
    exact upd_n (fun i hi e => hC.1.2.1 i (by omega))
  · rw [zSI_s, zSI_1 (by decide)]
    exact upd_n (fun i hi e => hC.1.2.2.1 i (by omega))
  · have e := cCut_iff (n := an (va v)) (tx := nU (atx (va v)) f t) (mo := nU (amo (va v)) f m) tb (h1.at.kC) hf
    have hk := hk υ ⟨_, hv.a ab, h1, rfl, rfl⟩ h2
    refine ⟨fun z => ⟨_, rfl, ?_⟩, fun z => ⟨_, rfl, ?_⟩⟩
    · rw [if_pos (e.mp z)] at hk; exact hk
    · rw [if_neg (fun y => z (e.mpr y))] at hk; exact hk
theorem c_setInterval (h : KI σ a) (t1 : 1 ≤ t) (t2 : t ≤ 60) (hk : ∀ τ, KI τ (aSet a (nU (aS a) 0 t) false) → zLw σ τ → k (iI (aS a 0)) τ) : zCall (d + 6) nX11_setInterval [.ref 0, .int (iI t)] σ (zPI k) := by
  obtain ⟨v, hv, hC, rfl, hm⟩ := h
  have b := hv.1
  have ab : aB (aSet (va v) (nU (aS (va v)) 0 t) false) := b.set ⟨t1, t2⟩ b.2.2.1 b.2.2.2.1 b.2.2.2.2.1 b.2.2.2.2.2.1 b.2.2.2.2.2.2.1 rfl (fun z => absurd (show (false : Bool) = true from z) (by decide))
  have c : 1 ≤ iI (t : Int) ∧ iI (t : Int) ≤ 60 := by
    rw [show (1 : Int32) = iI 1 from rfl, show (60 : Int32) = iI 60 from rfl, iI_le (by omega) (by omega) (by omega) (by omega), iI_le (by omega) (by omega) (by omega) (by omega)]
    omega
  refine ze_X11_setInterval (d := d + 5) _ σ (fun X hX => zq_X11_setInterval_0 (d := d) hX _ σ (zIf_t c ?_))
  refine sp_anew (d := d) (v := v) hC ((zFr.rf _ σ).si (by decide) _ _) ab rfl (hC.1.set (fun r hr => zSI_1 (by revert r; decide)) ?_ rfl) (fun υ h1 h2 h3 => ⟨_, rfl, by rw [hC.1.2.2.2.1 0 (by decide)]; exact hk υ ⟨_, hv.a ab, h1, rfl, rfl⟩ h2⟩)
  rw [zSI_s]
  exact upd_n (fun i hi e => hC.1.2.2.2.1 i hi)
theorem c_setIntervalB (h : KI σ a) (hk : k (-2) σ) : zCall (d + 6) nX11_setInterval [.ref 0, .int 61] σ (zPI k) :=
  ze_X11_setInterval (d := d + 5) _ σ (fun X hX => zq_X11_setInterval_0 (d := d) hX _ σ (zIf_f (by decide) ⟨_, rfl, hk⟩))
theorem c_setBridges (h : KI σ a) (t2 : t ≤ 3) (hk : ∀ τ, KI τ (aSet a (nU (aS a) 1 t) false) → zLw σ τ → k (iI (aS a 1)) τ) : zCall (d + 6) nX11_setBridges [.ref 0, .int (iI t)] σ (zPI k) := by
  obtain ⟨v, hv, hC, rfl, hm⟩ := h
  have b := hv.1
  have ab : aB (aSet (va v) (nU (aS (va v)) 1 t) false) := b.set b.2.1 t2 b.2.2.2.1 b.2.2.2.2.1 b.2.2.2.2.2.1 b.2.2.2.2.2.2.1 rfl (fun z => absurd (show (false : Bool) = true from z) (by decide))
  have c : 0 ≤ iI (t : Int) ∧ iI (t : Int) ≤ 3 := by
    rw [show (0 : Int32) = iI 0 from rfl, show (3 : Int32) = iI 3 from rfl, iI_le (by omega) (by omega) (by omega) (by omega), iI_le (by omega) (by omega) (by omega) (by omega)]
    omega
  refine ze_X11_setBridges (d := d + 5) _ σ (fun X hX => zq_X11_setBridges_0 (d := d) hX _ σ (zIf_t c ?_))
  refine sp_anew (d := d) (v := v) hC ((zFr.rf _ σ).si (by decide) _ _) ab rfl (hC.1.set (fun r hr => zSI_1 (by revert r; decide)) ?_ rfl) (fun υ h1 h2 h3 => ⟨_, rfl, by rw [hC.1.2.2.2.1 1 (by decide)]; exact hk υ ⟨_, hv.a ab, h1, rfl, rfl⟩ h2⟩)
  rw [zSI_s]
  exact upd_n (fun i hi e => hC.1.2.2.2.1 i hi)
theorem c_setWeight (h : KI σ a) (hs : s < 60) (t1 : 1 ≤ t) (t2 : t ≤ 8) (hk : ∀ τ, KI τ (aWt a (nU (aw a) s t)) → zLw σ τ → k (iI (aw a s)) τ) : zCall (d + 2) nX11_setWeight [.ref 0, .int (iI s), .int (iI t)] σ (zPI k) := by
  obtain ⟨v, hv, hC, rfl, hm⟩ := h
  have ab : aB (aWt (va v) (nU (aw (va v)) s t)) := hv.1.wt (fun j hj => by
    by_cases e : j = s
    · rw [e, nU_s]; omega
    · rw [nU_n e]; exact hv.1.2.2.2.2.2.2.2.2.1 j hj)
  have c1 : 0 ≤ iI (s : Int) ∧ iI (s : Int) ≤ 59 := by
    rw [show (0 : Int32) = iI 0 from rfl, show (59 : Int32) = iI 59 from rfl, iI_le (by omega) (by omega) (by omega) (by omega), iI_le (by omega) (by omega) (by omega) (by omega)]
    omega
  have c2 : 1 ≤ iI (t : Int) ∧ iI (t : Int) ≤ 8 := by
    rw [show (1 : Int32) = iI 1 from rfl, show (8 : Int32) = iI 8 from rfl, iI_le (by omega) (by omega) (by omega) (by omega), iI_le (by omega) (by omega) (by omega) (by omega)]
    omega
  refine ze_X11_setWeight (d := d + 1) _ _ σ (fun X hX => zq_X11_setWeight_0 (d := d) hX _ _ σ (zIf_t c1 (zIf_t c2 ?_)))
  rw [zAt_k (show s < zN 5 from hs), zPt_k (show s < zN 5 from hs), hC.1.2.2.2.2.1 s hs]
  have fr : ∀ r, r ≠ 5 → (zSI σ 5 s (iI t)).1 r = σ.1 r := fun r hr => zSI_1 hr
  refine ⟨_, rfl, hk _ ⟨_, hv.a ab, hC.pa ((zFr.rf _ σ).si (by decide) _ _) ?_ (hC.2.1.of (fr 9 (by decide)) (fr 10 (by decide))) (hC.2.2.1.of (fun r hr => fr r (by revert r; decide))), rfl, hm⟩ ((zLw.rf σ).si (by decide) _ _)⟩
  obtain ⟨a1, a2, a3, a4, a5, a6, a7, a8⟩ := hC.1
  refine ⟨?_, fun j hj => ?_, fun j hj => ?_, fun j hj => ?_, ?_, fun j hj => ?_, fun j hj => ?_, fun j hj => ?_⟩
  · rw [fr 1 (by decide)]; exact a1
  · rw [fr 2 (by decide)]; exact a2 j hj
  · rw [fr 3 (by decide)]; exact a3 j hj
  · rw [fr 4 (by decide)]; exact a4 j hj
  · rw [zSI_s]; exact upd_n (fun i hi e => a5 i hi)
  · rw [fr 6 (by decide)]; exact a6 j hj
  · rw [fr 7 (by decide)]; exact a7 j hj
  · rw [fr 8 (by decide)]; exact a8 j hj
theorem c_constantS (h : KI σ a) (c : an a = 0) (hk : k (-3) σ) : zCall (d + 7) nX11_constant [.ref 0, .int 5] σ (zPI k) := by
  obtain ⟨v, hv, hC, rfl, hm⟩ := h
  exact ze_X11_constant (d := d + 6) _ σ (fun X hX => zq_X11_constant_0 (d := d) hX _ σ (zIf_t (by decide) (zIf_t (by rw [hC.1.1]; exact (n0_iI hv.1.n60).mpr c) ⟨_, rfl, hk⟩)))
theorem c_plannedS (h : KI σ a) (c : 0 < an a) (hk : k (-3) σ) : zCall (d + 6) nX11_planned [.ref 0, .int 0, .int 0] σ (zPI k) := by
  obtain ⟨v, hv, hC, rfl, hm⟩ := h
  exact ze_X11_planned (d := d + 5) _ _ σ (fun X hX => zq_X11_planned_0 (d := d) hX _ _ σ (zIf_t (by rw [hC.1.1]; exact (isF hv.1.n60).mpr ⟨0, rfl, c⟩) (zIf_t (by decide) (zIf_t (hC.2.1.m.mpr hm) ⟨_, rfl, hk⟩))))
theorem c_totalS {k : Int64 → zS → Prop} (h : KI σ a) (hk : k (-3) σ) : zCall (d + 6) nX11_total [.ref 0, .int 0] σ (zPJ k) := by
  obtain ⟨v, hv, hC, rfl, hm⟩ := h
  exact ze_X11_total (d := d + 5) _ σ (fun X hX => zq_X11_total_0 (d := d) hX _ σ (zIf_t (by decide) (zIf_t (hC.2.1.m.mpr hm) ⟨_, rfl, hk⟩)))
