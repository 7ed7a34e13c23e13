/-! the law asks of a frame; of the scenes -/
theorem mP_lt {a : mA} {f : Nat} (hf : f < an a) : mP a f < an a := mPl_lt (fun z => mTy_last z) hf
theorem mO_P {a : mA} {f : Nat} (hf : f < an a) : mO a (mP a f) = f := mOr_pl hf
theorem told_end {d i q : Nat} {a : mA} {σ : zS} {post : zPo} {X : zX} (hX : zClosed none (zCall (d + 5)) post nL_isTold X) (hK : KI σ a) (hB : LB a) (hL : LA σ a) (hi : i < an a) (hq : q ≤ 51) (h : post (some (.int 1)) σ) : X 13 [some (.ref 0), some (.ref 63), some (.int (iI i)), some (.int (iI q)), some (.int (iI (mF (aS a 0) (mCt a) (i + 1) : Nat))), some (.int (iI (mGl (an a) (aS a 0) (mCt a) (mF (aS a 0) (mCt a) (i + 1)) : Nat))), some (.int (iI (an a)))] [] σ := by
  have hn := hB.2
  have f0 : iI (mFr a i 0 : Nat) = σ.1 63 (Int32.toNatClampNeg (iI (i : Int))) := by rw [iI_k (by omega), hL.2.2.2.1 i hi]; rfl
  have f1 : iI (mFr a i 1 : Nat) = σ.1 63 (Int32.toNatClampNeg (18 + iI (i : Int))) := by rw [iI_18p, iI_k (by omega), hL.2.2.2.2.1 i hi]; rfl
  have v1 : vp_in (18 + iI (i : Int)) (zN 63) := by rw [iI_18p]; exact vin_a (by omega)
  refine zq_L_isTold_13 hX _ _ _ _ _ σ (zIf_f ?_ ?_)
  · rw [hL.1]; exact Int32.lt_irrefl
  · refine c_frame (w := 0) hK hi (by decide) ⟨vin_a (by omega), zIf_t f0 ?_⟩
    refine c_frame (w := 1) hK hi (by decide) ⟨v1, zIf_t f1 ?_⟩
    refine c_frame (w := 2) hK hi (by decide) (sp_lType (d := d + 2) hB hL hi (zIf_t rfl ?_))
    refine c_frame (w := 3) hK hi (by decide) (sp_lScene (d := d + 3) hB hL hi (zIf_t rfl ?_))
    refine c_frame (w := 4) hK hi (by decide) (sp_lPlace (d := d) hB hL hi (zIf_t rfl ?_))
    refine c_frame (w := 5) hK hi (by decide) (sp_lWork (d := d + 1) hB hL hi (zIf_t rfl ?_))
    refine c_frame (w := 6) hK hi (by decide) (zIf_t rfl ?_)
    refine c_frame (w := 7) hK hi (by decide) (zIf_t rfl ?_)
    refine sp_lPlace (d := d) hB hL hi (c_coded (d := d + 2) (p := mP a i) hK (mP_lt hi) (zIf_t (by rw [mO_P hi]) ?_))
    refine c_bits (d := d + 2) hK hi hq (sp_lBits (d := d) hB hL hi (by omega) (zIf_t rfl ?_))
    refine c_loss (d := d + 1) hK hi hq (sp_lLoss (d := d + 1) hB hL hi (by omega) (zIf_t rfl ?_))
    exact c_frame8 (d := d + 2) hK hi (zIf_t rfl (c_bits52 (d := d + 2) hK hi (zIf_t rfl h)))
theorem told_loop {d i q : Nat} {a : mA} {σ : zS} {post : zPo} {X : zX} (hX : zClosed none (zCall (d + 5)) post nL_isTold X) (hK : KI σ a) (hB : LB a) (hL : LA σ a) (hi : i < an a) (hq : q ≤ 51) (h : post (some (.int 1)) σ) : ∀ (m j : Nat), j + m = an a → X 13 [some (.ref 0), some (.ref 63), some (.int (iI i)), some (.int (iI q)), some (.int (iI (mF (aS a 0) (mCt a) (i + 1) : Nat))), some (.int (iI (fb_ct (fun t => decide (mF (aS a 0) (mCt a) (t + 1) = mF (aS a 0) (mCt a) (i + 1))) j : Nat))), some (.int (iI j))] [] σ
  | 0, j, hm => by
    have e : j = an a := by omega
    subst e
    exact told_end hX hK hB hL hi hq h
  | m + 1, j, hm => by
    have hn := hB.2
    have go := told_loop hX hK hB hL hi hq h m (j + 1) (by omega)
    have hF1 := mF_lt (aS a 0) (mCt a) j
    have hF2 := mF_lt (aS a 0) (mCt a) i
    rw [fb_ct_succ] at go
    refine zq_L_isTold_13 hX _ _ _ _ _ σ (zIf_t ?_ (sp_lGroup (d := d + 3) hB hL (show j < an a by omega) ⟨fun z => ?_, fun z => ?_⟩))
    · rw [hL.1, iI_lt (by omega) (by omega) (by omega) (by omega)]; omega
    · rw [iI_eq (by omega) (by omega) (by omega) (by omega)] at z
      rw [decide_eq_true (show mF (aS a 0) (mCt a) (j + 1) = mF (aS a 0) (mCt a) (i + 1) by omega), if_pos rfl] at go
      rw [iI_s, iI_s]
      exact go
    · rw [iI_eq (by omega) (by omega) (by omega) (by omega)] at z
      rw [decide_eq_false (show ¬ mF (aS a 0) (mCt a) (j + 1) = mF (aS a 0) (mCt a) (i + 1) by omega), if_neg (by decide)] at go
      rw [iI_s, show (0 : Int32) = iI ((0 : Nat) : Int) from rfl, iI_kk]
      exact go
theorem sp_told {d i q : Nat} {a : mA} {σ : zS} {k : Int32 → zS → Prop} (hK : KI σ a) (hB : LB a) (hL : LA σ a) (hi : i < an a) (hq : q ≤ 51) (hk : k 1 σ) : zCall (d + 6) nL_isTold [.ref 0, .ref 63, .int (iI i), .int (iI q)] σ (zPI k) :=
  ze_L_isTold (d := d + 5) _ _ σ (fun X hX => zq_L_isTold_0 (d := d) hX _ _ σ (sp_lGroup (d := d + 3) hB hL hi (told_loop (d := d) hX hK hB hL hi hq ⟨_, rfl, hk⟩ (an a) 0 (by omega))))
-- the scenes
theorem scs_chain {d s : Nat} {a : mA} {σ : zS} {post : zPo} {X : zX} (hX : zClosed none (zCall (d + 4)) post nL_areScenes X) (hK : KI σ a) (hB : LB a) (hL : LA σ a) (hs : s < mS (mCt a) (an a)) {G : Int32} (h : X 53 [some (.ref 0), some (.ref 63), some (.int (iI (mS (mCt a) (an a)))), some (.int G), some (.int (iI ((s + 1 : Nat) : Int))), none, none, none, none, none] [] σ) : ∀ j, j ≤ an a → X 76 [some (.ref 0), some (.ref 63), some (.int (iI (mS (mCt a) (an a)))), some (.int G), some (.int (iI s)), some (.int (iI (mFs (msQ a s) (an a - j) j))), some (.int (iI ((fb_ct (msQ a s) (an a) - fb_ct (msQ a s) j : Nat) : Int))), some (.int (iI ((fb_ct (msG a s) (an a) - fb_ct (msG a s) j : Nat) : Int))), some (.int (iI ((j : Int) - 1))), none] [] σ
  | 0, hj => by
    have hn := hB.2
    have hs60 := mS_le (mCt a) (an a)
    have v2 : vp_in (40 + iI (s : Int)) (zN 63) := by rw [iI_40p]; exact vin_a (by omega)
    have w2 : iI (mSn a s 2) = σ.1 63 (Int32.toNatClampNeg (40 + iI (s : Int))) := by rw [iI_40p, iI_k (by omega), hL.2.2.2.2.2 s (by omega)]; rfl
    refine zq_L_areScenes_76 hX _ _ _ _ _ _ _ σ (zIf_t (by decide) ?_)
    refine c_scene (d := d) (w := 0) hK hs (by decide) (zIf_t rfl ?_)
    refine c_scene (d := d) (w := 1) hK hs (by decide) (zIf_t rfl ?_)
    refine c_scene (d := d) (w := 2) hK hs (by decide) ⟨v2, zIf_t w2 ?_⟩
    refine c_scene (d := d) (w := 5) hK hs (by decide) (zIf_t rfl ?_)
    refine c_scene3 (d := d) hK hs (zIf_t rfl ?_)
    rw [iI_s]
    exact h
  | j + 1, hj => by
    have hn := hB.2
    have hs60 := mS_le (mCt a) (an a)
    have go := scs_chain hX hK hB hL hs h j (by omega)
    have ht : mT a j ≤ 2 := mTy_lt _ _ _ _ _
    have em : an a - j = (an a - (j + 1)) + 1 := by omega
    have ef : mFs (msQ a s) (an a - j) j = if msQ a s j = true then (j : Int) else mFs (msQ a s) (an a - (j + 1)) (j + 1) := by rw [em]; rfl
    have q1 := fb_ct_mono (msQ a s) hj
    have g1 := fb_ct_mono (msG a s) hj
    have q2 := fb_ct_succ (msQ a s) j
    have g2 := fb_ct_succ (msG a s) j
    have ej : iI (((j + 1 : Nat) : Int) - 1) = iI (j : Int) := congrArg iI (by omega)
    have e3 : iI (mT a j : Nat) = 0 ↔ mT a j = 0 := by rw [show (0 : Int32) = iI 0 from rfl, iI_eq (by omega) (by omega) (by omega) (by omega)]; omega
    rw [ef] at go
    rw [ej]
    have no : ∀ x : Nat, iI (x : Int) + 0 = iI (x : Int) := fun x => by rw [show (0 : Int32) = iI ((0 : Nat) : Int) from rfl, iI_kk]; rfl
    refine zq_L_areScenes_76 hX _ _ _ _ _ _ _ σ (zIf_f ?_ (sp_lScene (d := d + 2) hB hL (show j < an a by omega) ⟨fun z => sp_lType (d := d + 1) hB hL (show j < an a by omega) ⟨fun y => ?_, fun y => ?_⟩, fun z => ?_⟩))
    · rw [show (0 : Int32) = iI 0 from rfl, iI_lt (by omega) (by omega) (by omega) (by omega)]; omega
    · have pq := (msQ_iI (a := a) (s := s) (f := j) (by omega) (by omega) (by omega)).mp z
      have pg : msG a s j = true := by
        unfold msG
        rw [pq, decide_eq_true (e3.mp y)]
        rfl
      rw [pq, if_pos rfl] at q2
      rw [pg, if_pos rfl] at g2
      rw [if_pos pq] at go
      rw [iI_s, iI_s, iI_pm, show fb_ct (msQ a s) (an a) - fb_ct (msQ a s) (j + 1) + 1 = fb_ct (msQ a s) (an a) - fb_ct (msQ a s) j by omega, show fb_ct (msG a s) (an a) - fb_ct (msG a s) (j + 1) + 1 = fb_ct (msG a s) (an a) - fb_ct (msG a s) j by omega]
      exact go
    · have pq := (msQ_iI (a := a) (s := s) (f := j) (by omega) (by omega) (by omega)).mp z
      have pg : msG a s j = false := by
        unfold msG
        rw [pq, decide_eq_false (fun w => y (e3.mpr w))]
        rfl
      rw [pq, if_pos rfl] at q2
      rw [pg, if_neg (by decide)] at g2
      rw [if_pos pq] at go
      rw [iI_s, no, iI_pm, show fb_ct (msQ a s) (an a) - fb_ct (msQ a s) (j + 1) + 1 = fb_ct (msQ a s) (an a) - fb_ct (msQ a s) j by omega, show fb_ct (msG a s) (an a) - fb_ct (msG a s) (j + 1) = fb_ct (msG a s) (an a) - fb_ct (msG a s) j by omega]
      exact go
    · have pq : ¬ msQ a s j = true := fun w => z ((msQ_iI (a := a) (s := s) (f := j) (by omega) (by omega) (by omega)).mpr w)
      have pg : ¬ msG a s j = true := fun w => pq (by
        unfold msG at w
        rw [Bool.and_eq_true] at w
        exact w.1)
      rw [if_neg pq] at q2 go
      rw [if_neg pg] at g2
      rw [no, no, iI_pm, show fb_ct (msQ a s) (an a) - fb_ct (msQ a s) (j + 1) = fb_ct (msQ a s) (an a) - fb_ct (msQ a s) j by omega, show fb_ct (msG a s) (an a) - fb_ct (msG a s) (j + 1) = fb_ct (msG a s) (an a) - fb_ct (msG a s) j by omega]
      exact go
theorem scs_loop {d : Nat} {a : mA} {σ : zS} {post : zPo} {X : zX} (hX : zClosed none (zCall (d + 4)) post nL_areScenes X) (hK : KI σ a) (hB : LB a) (hL : LA σ a) (h : post (some (.int 1)) σ) : ∀ (m s : Nat), s + m = mS (mCt a) (an a) → X 53 [some (.ref 0), some (.ref 63), some (.int (iI (mS (mCt a) (an a)))), some (.int (iI (mG (aS a 0) (mCt a) (an a)))), some (.int (iI s)), none, none, none, none, none] [] σ
  | 0, s, hm => by
    have e : s = mS (mCt a) (an a) := by omega
    subst e
    refine zq_L_areScenes_53 hX _ _ _ σ (zIf_f Int32.lt_irrefl ?_)
    refine c_count0 (d := d + 3) hK (zIf_t hL.1.symm ?_)
    refine c_count1 (d := d + 3) hK (zIf_t rfl ?_)
    refine c_count2 (d := d + 3) hK (zIf_t rfl ?_)
    exact c_sceneB (d := d) hK (zIf_t rfl h)
  | m + 1, s, hm => by
    have hn := hB.2
    have hs60 := mS_le (mCt a) (an a)
    have go := scs_chain hX hK hB hL (show s < mS (mCt a) (an a) by omega) (scs_loop hX hK hB hL h m (s + 1) (by omega)) (an a) (Nat.le_refl _)
    rw [Nat.sub_self, Nat.sub_self, Nat.sub_self] at go
    refine zq_L_areScenes_53 hX _ _ _ σ (zIf_t ?_ ?_)
    · rw [iI_lt (by omega) (by omega) (by omega) (by omega)]; omega
    · rw [hL.1, iI_m]
      exact go
theorem gr_loop {d : Nat} {a : mA} {σ : zS} {post : zPo} {X : zX} (hX : zClosed none (zCall (d + 4)) post nL_areScenes X) (hB : LB a) (hL : LA σ a) {S : Int32} (h : X 53 [some (.ref 0), some (.ref 63), some (.int S), some (.int (iI (mG (aS a 0) (mCt a) (an a)))), some (.int 0), none, none, none, none, none] [] σ) : ∀ (m j : Nat), j + m = an a → X 18 [some (.ref 0), some (.ref 63), some (.int S), some (.int (iI (fb_ct (fun t => decide (mT a t = 0)) j : Nat))), some (.int (iI j)), none, none, none, none, none] [] σ
  | 0, j, hm => by
    have e : j = an a := by omega
    subst e
    refine zq_L_areScenes_18 hX _ _ _ σ (zIf_f ?_ ?_)
    · rw [hL.1]; exact Int32.lt_irrefl
    · rw [show fb_ct (fun t => decide (mT a t = 0)) (an a) = mG (aS a 0) (mCt a) (an a) from lG_n (n := an a) (br := aS a 1) (an a)]
      exact h
  | m + 1, j, hm => by
    have hn := hB.2
    have ht : mT a j ≤ 2 := mTy_lt _ _ _ _ _
    have go := gr_loop hX hB hL h m (j + 1) (by omega)
    rw [fb_ct_succ] at go
    refine zq_L_areScenes_18 hX _ _ _ σ (zIf_t ?_ (sp_lType (d := d + 1) hB hL (show j < an a by omega) ⟨fun z => ?_, fun z => ?_⟩))
    · rw [hL.1, iI_lt (by omega) (by omega) (by omega) (by omega)]; omega
    · rw [show (0 : Int32) = iI 0 from rfl, iI_eq (by omega) (by omega) (by omega) (by omega)] at z
      rw [decide_eq_true (show mT a j = 0 by omega), if_pos rfl] at go
      rw [iI_s, iI_s]
      exact go
    · rw [show (0 : Int32) = iI 0 from rfl, iI_eq (by omega) (by omega) (by omega) (by omega)] at z
      rw [decide_eq_false (show ¬ mT a j = 0 by omega), if_neg (by decide)] at go
      rw [iI_s, show (0 : Int32) = iI ((0 : Nat) : Int) from rfl, iI_kk]
      exact go
theorem sp_scenes {d : Nat} {a : mA} {σ : zS} {k : Int32 → zS → Prop} (hK : KI σ a) (hB : LB a) (hL : LA σ a) (h0 : 0 < an a) (hk : k 1 σ) : zCall (d + 5) nL_areScenes [.ref 0, .ref 63] σ (zPI k) := by
  have hn := hB.2
  have hp := mS_pos (cut := mCt a) h0
  refine ze_L_areScenes (d := d + 4) σ (fun X hX => zq_L_areScenes_0 (d := d) hX σ ?_)
  rw [hL.1, iI_m, show ((an a : Int) - 1) = ((an a - 1 : Nat) : Int) by omega]
  refine sp_lScene (d := d + 2) hB hL (show an a - 1 < an a by omega) ?_
  have e : iI (mSc (mCt a) (an a - 1) : Nat) + 1 = iI (mS (mCt a) (an a) : Nat) := by
    rw [iI_s]
    unfold mSc
    rw [show an a - 1 + 1 = an a by omega, show mS (mCt a) (an a) - 1 + 1 = mS (mCt a) (an a) by omega]
  show X 18 [some (.ref 0), some (.ref 63), some (.int (iI (mSc (mCt a) (an a - 1) : Nat) + 1)), some (.int 0), some (.int 0), none, none, none, none, none] [] σ
  rw [e]
  exact gr_loop (d := d) hX hB hL (scs_loop (d := d) hX hK hB hL ⟨_, rfl, hk⟩ (mS (mCt a) (an a)) 0 (by omega)) (an a) 0 (by omega)
