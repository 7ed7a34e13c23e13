/-! the law's own functions of its cells -/
/-- the law's cells hold a -/
def LA (σ : zS) (a : mA) : Prop := σ.1 63 36 = iI (an a) ∧ σ.1 63 37 = iI (aS a 0) ∧ σ.1 63 38 = iI (aS a 1) ∧ (∀ i, i < an a → σ.1 63 i = iI (atx a i)) ∧ (∀ i, i < an a → σ.1 63 (18 + i) = iI (amo a i)) ∧ ∀ j, j < 18 → σ.1 63 (40 + j) = iI (aw a j)
theorem LA.of {σ τ : zS} {a : mA} (h : LA σ a) (e : τ.1 63 = σ.1 63) : LA τ a := by
  unfold LA at h ⊢
  rw [e]
  exact h
theorem vin_a {k : Nat} (h : k < 64) : vp_in (iI (k : Int)) (zN 63) := vin_k h (by decide)
/-- bounds under which the law keeps its clip -/
def LB (a : mA) : Prop := aB a ∧ an a ≤ 12
theorem LB.n {a : mA} (h : LB a) : an a ≤ 12 := h.2
theorem sp_lCut {d i : Nat} {a : mA} {σ : zS} {k : Int32 → zS → Prop} (hB : LB a) (hL : LA σ a) (hi : i < an a) (h1 : mCt a i = true → k 1 σ) (h0 : ¬ mCt a i = true → k 0 σ) : zCall (d + 1) nL_isCut [.ref 63, .int (iI i)] σ (zPI k) := by
  have hn := hB.2
  obtain ⟨b1, b2, b3⟩ := hB.1.1.2 i hi
  have e : mCt a i = true ↔ 0 < i ∧ 3 * atx a i < 2 * amo a i := by
    show mCut (atx a) (amo a) i = true ↔ _
    unfold mCut
    rw [Bool.and_eq_true, decide_eq_true_eq, decide_eq_true_eq]
  refine ze_L_isCut _ σ (fun X hX => zq_L_isCut_0 hX _ σ ?_)
  rw [iI_18p, iI_k (by omega), iI_k (by omega), hL.2.2.2.1 i hi, hL.2.2.2.2.1 i hi, show (2 : Int32) = iI 2 from rfl, show (3 : Int32) = iI 3 from rfl, iI_mul, iI_mul]
  refine ⟨fun z => ⟨_, rfl, h0 (fun y => ?_)⟩, fun z => ⟨vin_a (by omega), vin_a (by omega), fun y => ⟨_, rfl, h0 (fun x => ?_)⟩, fun y => ⟨_, rfl, h1 (e.mpr ⟨?_, ?_⟩)⟩⟩⟩
  · rw [show (0 : Int32) = iI 0 from rfl, iI_le (by omega) (by omega) (by omega) (by omega)] at z
    have := (e.mp y).1
    omega
  · rw [iI_le (by omega) (by omega) (by omega) (by omega)] at y
    have := (e.mp x).2
    omega
  · rw [show (0 : Int32) = iI 0 from rfl, iI_le (by omega) (by omega) (by omega) (by omega)] at z
    omega
  · rw [iI_le (by omega) (by omega) (by omega) (by omega)] at y
    omega
theorem lg_loop {d i : Nat} {a : mA} {σ : zS} {post : zPo} {X : zX} (hX : zClosed none (zCall (d + 1)) post nL_groupOf X) (hB : LB a) (hL : LA σ a) (hi : i < an a) (h : post (some (.int (iI (mF (aS a 0) (mCt a) (i + 1) : Nat)))) σ) : ∀ (m j : Nat), j + m = i + 1 → 1 ≤ j → X 4 [some (.ref 63), some (.int (iI i)), some (.int (iI (mF (aS a 0) (mCt a) j : Nat))), some (.int (iI j))] [] σ
  | 0, j, hm, h1 => by
    have hn := hB.2
    have e : j = i + 1 := by omega
    subst e
    refine zq_L_groupOf_4 hX _ _ _ σ (zIf_f ?_ h)
    rw [iI_le (by omega) (by omega) (by omega) (by omega)]; omega
  | m + 1, j, hm, h1 => by
    have hn := hB.2
    have hiv := hB.1.2.1
    have go : ∀ v : Nat, mF (aS a 0) (mCt a) (j + 1) = v → X 4 [some (.ref 63), some (.int (iI i)), some (.int (iI (v : Nat))), some (.int (iI j + 1))] [] σ := fun v hv => by
      rw [← hv, iI_s]
      exact lg_loop hX hB hL hi h m (j + 1) (by omega) (by omega)
    have st := lF_step (iv := aS a 0) (cut := mCt a) hiv.1 h1
    have hF := mF_le (aS a 0) (mCt a) j
    refine zq_L_groupOf_4 hX _ _ _ σ (zIf_t ?_ (sp_lCut (d := d) hB hL (show j < an a by omega) (fun c => zIf_f (by decide) (go j ?_)) (fun c => zIf_t rfl ?_)))
    · rw [iI_le (by omega) (by omega) (by omega) (by omega)]; omega
    · rw [st, if_pos (Or.inl c)]
    · rw [hL.2.1, iI_kk]
      refine ⟨fun z => go j ?_, fun z => go _ ?_⟩
      · rw [iI_eq (by omega) (by omega) (by omega) (by omega)] at z
        rw [st, if_pos (Or.inr (by omega))]
      · rw [iI_eq (by omega) (by omega) (by omega) (by omega)] at z
        rw [st, if_neg]
        rintro (y | y)
        · exact c y
        · omega
theorem sp_lGroup {d i : Nat} {a : mA} {σ : zS} {k : Int32 → zS → Prop} (hB : LB a) (hL : LA σ a) (hi : i < an a) (hk : k (iI (mF (aS a 0) (mCt a) (i + 1) : Nat)) σ) : zCall (d + 2) nL_groupOf [.ref 63, .int (iI i)] σ (zPI k) := by
  refine ze_L_groupOf (d := d + 1) _ σ (fun X hX => zq_L_groupOf_0 (d := d) hX _ σ ?_)
  have := lg_loop (d := d) hX hB hL hi ⟨_, rfl, hk⟩ i 1 (by omega) (Nat.le_refl 1)
  have e : mF (aS a 0) (mCt a) 1 = 0 := by
    rw [mF_succ, if_pos (mIt_0 _ _)]
  rw [e] at this
  exact this
theorem sp_lType {d i : Nat} {a : mA} {σ : zS} {k : Int32 → zS → Prop} (hB : LB a) (hL : LA σ a) (hi : i < an a) (hk : k (iI (mT a i)) σ) : zCall (d + 3) nL_type [.ref 63, .int (iI i)] σ (zPI k) := by
  have hn := hB.2
  have hbr := hB.1.2.2.1
  have hF := mF_lt (aS a 0) (mCt a) i
  have h0 : mT a i = 0 → k 0 σ := fun e => by rw [e] at hk; exact hk
  have h1 : mT a i = 1 → k 1 σ := fun e => by rw [e] at hk; exact hk
  have h2 : mT a i = 2 → k 2 σ := fun e => by rw [e] at hk; exact hk
  refine ze_L_type (d := d + 2) _ σ (fun X hX => zq_L_type_0 (d := d) hX _ σ (sp_lGroup (d := d) hB hL hi ?_))
  by_cases e : i = mF (aS a 0) (mCt a) (i + 1)
  · refine zIf_t ?_ ⟨_, rfl, h0 (lTy0.mpr e)⟩
    rw [iI_eq (by omega) (by omega) (by omega) (by omega)]; omega
  · have ty : mT a i = _ := lTy (br := aS a 1) hi e
    refine zIf_f ?_ ?_
    · rw [iI_eq (by omega) (by omega) (by omega) (by omega)]; omega
    · rw [hL.1, iI_s]
      by_cases e1 : i + 1 = an a
      · refine zIf_t (by rw [e1]) ⟨_, rfl, h1 ?_⟩
        rw [ty, if_pos (Or.inl (Or.inl e1))]
      · refine zIf_f ?_ (sp_lGroup (d := d) hB hL (show i + 1 < an a by omega) ?_)
        · rw [iI_eq (by omega) (by omega) (by omega) (by omega)]; omega
        · have hF2 := mF_lt (aS a 0) (mCt a) (i + 1)
          by_cases e2 : mF (aS a 0) (mCt a) (i + 1 + 1) = mF (aS a 0) (mCt a) (i + 1)
          · refine zIf_t (by rw [e2]) ⟨?_, ?_⟩
            · rw [hL.2.2.1, iI_p, show (0 : Int32) = iI 0 from rfl, iI_eq (by omega) (by omega) (by omega) (by omega)]; omega
            · have c1 : iI (i : Int) - iI (mF (aS a 0) (mCt a) (i + 1) : Nat) = iI ((i - mF (aS a 0) (mCt a) (i + 1) : Nat) : Int) := by
                rw [iI_sub]; congr 1; omega
              rw [hL.2.2.1, c1, iI_p]
              have hmod : ((i - mF (aS a 0) (mCt a) (i + 1) : Nat) : Int) % ((aS a 1 : Int) + 1) = (((i - mF (aS a 0) (mCt a) (i + 1)) % (aS a 1 + 1) : Nat) : Int) := (Int.natCast_emod _ _).symm
              have hml : (i - mF (aS a 0) (mCt a) (i + 1)) % (aS a 1 + 1) < aS a 1 + 1 := Nat.mod_lt _ (by omega)
              rw [iI_rem (by omega) (by omega) (by omega) (by omega), hmod]
              refine ⟨fun z => ⟨_, rfl, h1 ?_⟩, fun z => ⟨_, rfl, h2 ?_⟩⟩
              · rw [show (0 : Int32) = iI 0 from rfl, iI_eq (by omega) (by omega) (by omega) (by omega)] at z
                rw [ty, if_pos (Or.inr (by omega))]
              · rw [show (0 : Int32) = iI 0 from rfl, iI_eq (by omega) (by omega) (by omega) (by omega)] at z
                rw [ty, if_neg]
                rintro ((y | y) | y)
                · exact e1 y
                · exact y e2
                · exact z (by omega)
          · refine zIf_f ?_ ⟨_, rfl, h1 ?_⟩
            · rw [iI_eq (by omega) (by omega) (by omega) (by omega)]; omega
            · rw [ty, if_pos (Or.inl (Or.inr e2))]
theorem ls_loop {d i : Nat} {a : mA} {σ : zS} {post : zPo} {X : zX} (hX : zClosed none (zCall (d + 1)) post nL_sceneOf X) (hB : LB a) (hL : LA σ a) (hi : i < an a) (h : post (some (.int (iI (mSc (mCt a) i : Nat)))) σ) : ∀ (m j : Nat), j + m = i + 1 → 1 ≤ j → X 4 [some (.ref 63), some (.int (iI i)), some (.int (iI ((mS (mCt a) j - 1 : Nat) : Int))), some (.int (iI j))] [] σ
  | 0, j, hm, h1 => by
    have hn := hB.2
    have e : j = i + 1 := by omega
    subst e
    refine zq_L_sceneOf_4 hX _ _ _ σ (zIf_f ?_ h)
    rw [iI_le (by omega) (by omega) (by omega) (by omega)]; omega
  | m + 1, j, hm, h1 => by
    have hn := hB.2
    have hp := mS_pos (cut := mCt a) (i := j) (by omega)
    have st := lS_step (cut := mCt a) h1
    have go := ls_loop hX hB hL hi h m (j + 1) (by omega) (by omega)
    refine zq_L_sceneOf_4 hX _ _ _ σ (zIf_t ?_ (sp_lCut (d := d) hB hL (show j < an a by omega) (fun c => zIf_f (by decide) ?_) (fun c => zIf_t rfl ?_)))
    · rw [iI_le (by omega) (by omega) (by omega) (by omega)]; omega
    · rw [if_pos c] at st
      rw [iI_s, iI_s, show mS (mCt a) j - 1 + 1 = mS (mCt a) (j + 1) - 1 by omega]
      exact go
    · rw [if_neg c] at st
      rw [iI_s, show (0 : Int32) = iI ((0 : Nat) : Int) from rfl, iI_kk, show mS (mCt a) j - 1 + 0 = mS (mCt a) (j + 1) - 1 by omega]
      exact go
theorem sp_lScene {d i : Nat} {a : mA} {σ : zS} {k : Int32 → zS → Prop} (hB : LB a) (hL : LA σ a) (hi : i < an a) (hk : k (iI (mSc (mCt a) i : Nat)) σ) : zCall (d + 2) nL_sceneOf [.ref 63, .int (iI i)] σ (zPI k) := by
  refine ze_L_sceneOf (d := d + 1) _ σ (fun X hX => zq_L_sceneOf_0 (d := d) hX _ σ ?_)
  have := ls_loop (d := d) hX hB hL hi ⟨_, rfl, hk⟩ i 1 (by omega) (Nat.le_refl 1)
  have e : mS (mCt a) 1 = 1 := by simp [mS, fb_ct, mOp]
  rw [e] at this
  exact this
theorem lb_loop {d i : Nat} {a : mA} {σ : zS} {post : zPo} {X : zX} (hX : zClosed none (zCall (d + 3)) post nL_bridgesBefore X) (hB : LB a) (hL : LA σ a) (hi : i < an a) (h : post (some (.int (iI ((i - mW (mT a) i : Nat) : Int)))) σ) : ∀ j, j ≤ i → mW (mT a) j = mW (mT a) i → X 2 [some (.ref 63), some (.int (iI i)), some (.int (iI ((i - j : Nat) : Int)))] [] σ
  | 0, hj, e => by
    have hn := hB.2
    have e2 : mW (mT a) i = 0 := by rw [← e]; rfl
    rw [e2] at h
    refine zq_L_bridgesBefore_2 hX _ _ σ (zIf_t ?_ h)
    rw [iI_sub, show (0 : Int32) = iI 0 from rfl, iI_le (by omega) (by omega) (by omega) (by omega)]; omega
  | j + 1, hj, e => by
    have hn := hB.2
    have ht : mT a j ≤ 2 := mTy_lt _ _ _ _ _
    have e1 : iI (i : Int) - iI ((i - (j + 1) : Nat) : Int) = iI ((j + 1 : Nat) : Int) := by
      rw [iI_sub]; congr 1; omega
    have e2 : iI ((j + 1 : Nat) : Int) - 1 = iI (j : Int) := by
      rw [iI_m]; congr 1; omega
    have e3 : mW (mT a) (j + 1) = if mT a j = 2 then mW (mT a) j else j + 1 := rfl
    refine zq_L_bridgesBefore_2 hX _ _ σ (zIf_f ?_ ?_)
    · rw [e1, show (0 : Int32) = iI 0 from rfl, iI_le (by omega) (by omega) (by omega) (by omega)]; omega
    · rw [e1, e2]
      refine sp_lType (d := d) hB hL (show j < an a by omega) ⟨fun z => ?_, fun z => ?_⟩
      · rw [show (2 : Int32) = iI 2 from rfl, iI_eq (by omega) (by omega) (by omega) (by omega)] at z
        rw [iI_s, show i - (j + 1) + 1 = i - j by omega]
        refine lb_loop hX hB hL hi h j (by omega) ?_
        rw [← e, e3, if_pos (by omega)]
      · rw [show (2 : Int32) = iI 2 from rfl, iI_eq (by omega) (by omega) (by omega) (by omega)] at z
        rw [e3, if_neg (by omega)] at e
        rw [← e] at h
        exact h
theorem sp_lBefore {d i : Nat} {a : mA} {σ : zS} {k : Int32 → zS → Prop} (hB : LB a) (hL : LA σ a) (hi : i < an a) (hk : k (iI ((i - mW (mT a) i : Nat) : Int)) σ) : zCall (d + 4) nL_bridgesBefore [.ref 63, .int (iI i)] σ (zPI k) := by
  refine ze_L_bridgesBefore (d := d + 3) _ σ (fun X hX => zq_L_bridgesBefore_0 (d := d) hX _ σ ?_)
  have := lb_loop (d := d) hX hB hL hi ⟨_, rfl, hk⟩ i (Nat.le_refl i) rfl
  rw [show i - i = 0 by omega] at this
  exact this
theorem lp_loop {d i : Nat} {a : mA} {σ : zS} {post : zPo} {X : zX} (hX : zClosed none (zCall (d + 4)) post nL_place X) (hB : LB a) (hL : LA σ a) (hi : i < an a) (h : post (some (.int (iI ((i + 1 : Nat) : Int)))) σ) : ∀ (m j : Nat), j + m + 1 = an a → i ≤ j → mW (mT a) j = mW (mT a) i → X 19 [some (.ref 63), some (.int (iI i)), some (.int (iI j))] [] σ := by
  have hn := hB.2
  have wi := mW_le (mT a) i
  have fin : ∀ j : Nat, i ≤ j → j < an a → mW (mT a) j = mW (mT a) i → zCall (d + 4) nL_bridgesBefore [.ref 63, .int (iI j)] σ (zPI fun x4 σ3 => zCall (d + 4) nL_bridgesBefore [.ref 63, .int (iI i)] σ3 (zPI fun x6 σ5 => post (some (.int (((iI j - x4) + 1) + x6))) σ5)) := by
    intro j h1 h2 e
    refine sp_lBefore (d := d) hB hL h2 (sp_lBefore (d := d) hB hL hi ?_)
    have e2 : iI (j : Int) - iI ((j - mW (mT a) j : Nat) : Int) + 1 + iI ((i - mW (mT a) i : Nat) : Int) = iI ((i + 1 : Nat) : Int) := by
      rw [iI_sub, iI_p, iI_add]
      congr 1
      have := mW_le (mT a) j
      omega
    show post (some (.int (iI (j : Int) - iI ((j - mW (mT a) j : Nat) : Int) + 1 + iI ((i - mW (mT a) i : Nat) : Int)))) σ
    rw [e2]
    exact h
  intro m
  induction m with
  | zero =>
    intro j hm h1 e
    have ht : mT a j ≤ 2 := mTy_lt _ _ _ _ _
    have h2 : mT a j ≠ 2 := by
      have := mTy_last (n := an a) (iv := aS a 0) (br := aS a 1) (cut := mCt a) (by omega)
      rw [show an a - 1 = j by omega] at this
      exact this
    refine zq_L_place_19 hX _ _ σ (sp_lType (d := d + 1) hB hL (show j < an a by omega) (zIf_f ?_ (fin j h1 (by omega) e)))
    rw [show (2 : Int32) = iI 2 from rfl, iI_eq (by omega) (by omega) (by omega) (by omega)]; omega
  | succ m ih =>
    intro j hm h1 e
    have ht : mT a j ≤ 2 := mTy_lt _ _ _ _ _
    refine zq_L_place_19 hX _ _ σ (sp_lType (d := d + 1) hB hL (show j < an a by omega) ⟨fun z => ?_, fun z => fin j h1 (by omega) e⟩)
    rw [show (2 : Int32) = iI 2 from rfl, iI_eq (by omega) (by omega) (by omega) (by omega)] at z
    rw [iI_s]
    refine ih (j + 1) (by omega) (by omega) ?_
    rw [← e]
    show (if mT a j = 2 then mW (mT a) j else j + 1) = _
    rw [if_pos (by omega)]
theorem sp_lPlace {d i : Nat} {a : mA} {σ : zS} {k : Int32 → zS → Prop} (hB : LB a) (hL : LA σ a) (hi : i < an a) (hk : k (iI (mP a i)) σ) : zCall (d + 5) nL_place [.ref 63, .int (iI i)] σ (zPI k) := by
  have hn := hB.2
  have ht : mT a i ≤ 2 := mTy_lt _ _ _ _ _
  have wi := mW_le (mT a) i
  have e : mP a i = if mT a i = 2 then i + 1 else mW (mT a) i := rfl
  refine ze_L_place (d := d + 4) _ σ (fun X hX => zq_L_place_0 (d := d) hX _ σ (sp_lType (d := d + 1) hB hL hi ⟨fun z => ?_, fun z => ?_⟩))
  · rw [show (2 : Int32) = iI 2 from rfl, iI_lt (by omega) (by omega) (by omega) (by omega)] at z
    refine sp_lBefore (d := d) hB hL hi ⟨_, rfl, ?_⟩
    rw [e, if_neg (by omega)] at hk
    rw [iI_sub, show ((i : Int) - ((i - mW (mT a) i : Nat) : Int)) = ((mW (mT a) i : Nat) : Int) by omega]
    exact hk
  · rw [show (2 : Int32) = iI 2 from rfl, iI_lt (by omega) (by omega) (by omega) (by omega)] at z
    rw [e, if_pos (by omega)] at hk
    exact lp_loop (d := d) hX hB hL hi ⟨_, rfl, hk⟩ (an a - 1 - i) i (by omega) (Nat.le_refl i) rfl
theorem sp_lStep {d q : Nat} {σ : zS} {k : Int32 → zS → Prop} (hq : q < 52) (hk : k (iI (mStp q)) σ) : zCall (d + 1) nL_step [.int (iI q)] σ (zPI k) := by
  refine ze_L_step _ σ (fun X hX => zq_L_step_0 hX _ σ ?_)
  have hm : iI (q : Int) - iI q / 6 * 6 = iI ((q % 6 : Nat) : Int) := by
    rw [show (6 : Int32) = iI 6 from rfl, iI_rem (by omega) (by omega) (by omega) (by omega)]
    exact congrArg iI (by omega)
  rw [hm]
  have c : ∀ j : Nat, j < 6 → (iI ((q % 6 : Nat) : Int) = iI (j : Int) ↔ q % 6 = j) := fun j hj => by
    rw [iI_eq (by omega) (by omega) (by omega) (by omega)]; omega
  have sh := lShl q hq
  have go : ∀ b : Nat, mB6 (q % 6) = b → zPI k (some (.int (iI (b : Int) <<< (((iI (q : Int) / 6) : Int32) &&& 31)))) σ := by
    intro b e
    rw [e] at sh
    rw [sh]
    exact ⟨_, rfl, hk⟩
  have g : ∀ j : Nat, q % 6 = j → mB6 (q % 6) = mB6 j := fun j e => by rw [e]
  refine ⟨fun z => go 10 (g 0 ((c 0 (by omega)).mp z)), fun z0 => ⟨fun z => go 11 (g 1 ((c 1 (by omega)).mp z)), fun z1 => ⟨fun z => go 13 (g 2 ((c 2 (by omega)).mp z)), fun z2 => ⟨fun z => go 14 (g 3 ((c 3 (by omega)).mp z)), fun z3 => ⟨fun z => go 16 (g 4 ((c 4 (by omega)).mp z)), fun z4 => go 18 (g 5 ?_)⟩⟩⟩⟩⟩
  have y0 : q % 6 ≠ 0 := fun y => z0 ((c 0 (by omega)).mpr y)
  have y1 : q % 6 ≠ 1 := fun y => z1 ((c 1 (by omega)).mpr y)
  have y2 : q % 6 ≠ 2 := fun y => z2 ((c 2 (by omega)).mpr y)
  have y3 : q % 6 ≠ 3 := fun y => z3 ((c 3 (by omega)).mpr y)
  have y4 : q % 6 ≠ 4 := fun y => z4 ((c 4 (by omega)).mpr y)
  omega
theorem sp_lWork {d i : Nat} {a : mA} {σ : zS} {k : Int32 → zS → Prop} (hB : LB a) (hL : LA σ a) (hi : i < an a) (hk : k (iI (mK a i)) σ) : zCall (d + 4) nL_work [.ref 63, .int (iI i)] σ (zPI k) := by
  have hn := hB.2
  obtain ⟨b1, b2, b3⟩ := hB.1.1.2 i hi
  have ht : mT a i ≤ 2 := mTy_lt _ _ _ _ _
  have e : mK a i = if mT a i = 0 then 4 * atx a i else if mT a i = 1 then atx a i + 2 * amo a i else atx a i / 2 + amo a i := rfl
  refine ze_L_work (d := d + 3) _ σ (fun X hX => zq_L_work_0 (d := d) hX _ σ (sp_lType (d := d) hB hL hi ?_))
  rw [iI_18p, iI_k (by omega), iI_k (by omega), hL.2.2.2.1 i hi, hL.2.2.2.2.1 i hi, show (2 : Int32) = iI 2 from rfl, show (4 : Int32) = iI 4 from rfl, show (0 : Int32) = iI 0 from rfl, show (1 : Int32) = iI 1 from rfl, iI_mul, iI_mul, iI_add, iI_divN (by omega) (by omega) (by omega) (by omega), iI_add]
  refine ⟨fun z => ⟨vin_a (by omega), _, rfl, ?_⟩, fun z => ⟨fun y => ⟨vin_a (by omega), vin_a (by omega), _, rfl, ?_⟩, fun y => ⟨vin_a (by omega), vin_a (by omega), _, rfl, ?_⟩⟩⟩
  · rw [iI_eq (by omega) (by omega) (by omega) (by omega)] at z
    rw [e, if_pos (by omega)] at hk
    exact hk
  · rw [iI_eq (by omega) (by omega) (by omega) (by omega)] at z y
    rw [e, if_neg (by omega), if_pos (by omega)] at hk
    exact hk
  · rw [iI_eq (by omega) (by omega) (by omega) (by omega)] at z y
    rw [e, if_neg (by omega), if_neg (by omega)] at hk
    rw [show ((atx a i : Int) / 2 + (amo a i : Int)) = ((atx a i / 2 + amo a i : Nat) : Int) by omega]
    exact hk
theorem mK_le {a : mA} (hB : LB a) {i : Nat} (hi : i < an a) : mK a i ≤ 16000 := mWk_le hB.1.1 hi
theorem sp_lBits {d i q : Nat} {a : mA} {σ : zS} {k : Int32 → zS → Prop} (hB : LB a) (hL : LA σ a) (hi : i < an a) (hq : q < 52) (hk : k (iI (mBi (mK a i) q)) σ) : zCall (d + 5) nL_bits [.ref 63, .int (iI i), .int (iI q)] σ (zPI k) := by
  have hw := mK_le hB hi
  obtain ⟨s1, s2⟩ := mStp_b q hq
  refine ze_L_bits (d := d + 4) _ _ σ (fun X hX => zq_L_bits_0 (d := d) hX _ _ σ (sp_lWork (d := d) hB hL hi (sp_lStep (d := d + 3) hq ⟨?_, _, rfl, ?_⟩)))
  · rw [show (0 : Int32) = iI 0 from rfl, iI_eq (by omega) (by omega) (by omega) (by omega)]; omega
  · rw [show (200 : Int32) = iI 200 from rfl, iI_mul, iI_divN (by omega) (by omega) (by omega) (by omega), show (40 : Int32) = iI 40 from rfl, iI_add]
    have e : (40 : Int) + 200 * (mK a i : Int) / (mStp q : Int) = ((mBi (mK a i) q : Nat) : Int) := by
      unfold mBi
      rw [Int.natCast_add, Int.natCast_ediv, Int.natCast_mul, Int.mul_comm]
      rfl
    rw [e]
    exact hk
theorem sp_lLoss {d i q : Nat} {a : mA} {σ : zS} {k : Int32 → zS → Prop} (hB : LB a) (hL : LA σ a) (hi : i < an a) (hq : q < 52) (hk : k (iI (mLo (aw a (mSc (mCt a) i)) (mT a i) q)) σ) : zCall (d + 4) nL_loss [.ref 63, .int (iI i), .int (iI q)] σ (zPI k) := by
  have hn := hB.2
  have ht : mT a i ≤ 2 := mTy_lt _ _ _ _ _
  have hs : mSc (mCt a) i < 18 := by
    have := mS_le (mCt a) (i + 1)
    unfold mSc
    omega
  have hw := (hB.1.2.2.2.2.2.2.2.2.1 (mSc (mCt a) i) (by omega)).2
  obtain ⟨s1, s2⟩ := mStp_b q hq
  obtain ⟨a1, a2, a3⟩ := mLo_b hw ht hq
  refine ze_L_loss (d := d + 3) _ _ σ (fun X hX => zq_L_loss_0 (d := d) hX _ _ σ (sp_lScene (d := d + 1) hB hL hi ?_))
  rw [iI_40p, iI_k (by omega), hL.2.2.2.2.2 _ hs]
  refine ⟨vin_a (by omega), sp_lType (d := d) hB hL hi (sp_lStep (d := d + 2) hq (sp_lStep (d := d + 2) hq ⟨_, rfl, ?_⟩))⟩
  have e1 : (3 : Int32) - iI (mT a i : Nat) = iI ((3 - mT a i : Nat) : Int) := by
    rw [show (3 : Int32) = iI 3 from rfl, iI_sub]
    exact congrArg iI (by omega)
  have e2 : lI (aw a (mSc (mCt a) i) : Int) * lI ((3 - mT a i : Nat) : Int) * lI (mStp q : Int) * lI (mStp q : Int) = lI ((aw a (mSc (mCt a) i) * (3 - mT a i) * mStp q * mStp q : Nat) : Int) := by
    rw [lI_mul, lI_mul, lI_mul, Int.natCast_mul, Int.natCast_mul, Int.natCast_mul]
  rw [e1, iI_l (by omega) (by omega), iI_l (by omega) (by omega), iI_l (by omega) (by omega), e2, show (16 : Int64) = lI 16 from rfl, lI_div (by omega) (by omega) (by omega) (by omega), lI_i, Int.tdiv_eq_ediv_of_nonneg (by omega)]
  exact hk
