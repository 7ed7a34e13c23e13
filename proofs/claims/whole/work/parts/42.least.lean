/-! leastSize, leastStart, leastRate -/
theorem bFi_mono {sz sz' st st' rt rt' : Nat} {B B' : Nat → Nat} (h1 : sz ≤ sz') (h2 : st ≤ st') (h3 : rt ≤ rt') : ∀ {p : Nat}, (∀ j, j < p → B' j ≤ B j) → bFi sz st rt B p ≤ bFi sz' st' rt' B' p
  | 0, _ => by
    simp only [bFi]
    exact Nat.div_le_div_right (Nat.mul_le_mul h1 h2)
  | p + 1, h => by
    have i1 := bFi_mono h1 h2 h3 (p := p) (fun j hj => h j (by omega))
    have i2 := h p (by omega)
    simp only [bFi]
    omega
theorem bU_mono {sz sz' st st' rt rt' n : Nat} {B B' : Nat → Nat} (h1 : sz ≤ sz') (h2 : st ≤ st') (h3 : rt ≤ rt') (h : ∀ j, j < n → B' j ≤ B j) : bU sz' st' rt' B' n ≤ bU sz st rt B n := by
  refine fb_ct_sub (fun k hk z => ?_)
  have i1 := bFi_mono h1 h2 h3 (p := k) (fun j hj => h j (by omega))
  have i2 := h k hk
  have z2 : bBe sz' st' rt' B' k < B' k := of_decide_eq_true z
  refine decide_eq_true ?_
  unfold bBe at z2 ⊢
  omega
/-- would x do, as size, start or rate -/
def kP (a : mA) (kind x : Nat) : Bool := decide ((if kind = 0 then bU x (aS a 5) (aS a 6) (mBp a (aq a)) (an a) else if kind = 1 then bU (aS a 4) x (aS a 6) (mBp a (aq a)) (an a) else bU (aS a 4) (aS a 5) x (mBp a (aq a)) (an a)) = 0)
theorem kP_mono {a : mA} {kind x y : Nat} (h : x ≤ y) (hx : kP a kind x = true) : kP a kind y = true := by
  unfold kP at hx ⊢
  rw [decide_eq_true_eq] at hx ⊢
  by_cases c : kind = 0
  · rw [if_pos c] at hx ⊢
    have := bU_mono (B := mBp a (aq a)) (B' := mBp a (aq a)) (n := an a) h (Nat.le_refl (aS a 5)) (Nat.le_refl (aS a 6)) (fun _ _ => Nat.le_refl _)
    omega
  · rw [if_neg c] at hx ⊢
    by_cases c1 : kind = 1
    · rw [if_pos c1] at hx ⊢
      have := bU_mono (B := mBp a (aq a)) (B' := mBp a (aq a)) (n := an a) (Nat.le_refl (aS a 4)) h (Nat.le_refl (aS a 6)) (fun _ _ => Nat.le_refl _)
      omega
    · rw [if_neg c1] at hx ⊢
      have := bU_mono (B := mBp a (aq a)) (B' := mBp a (aq a)) (n := an a) (Nat.le_refl (aS a 4)) (Nat.le_refl (aS a 5)) h (fun _ _ => Nat.le_refl _)
      omega
def mLst (P : Nat → Bool) (lo hi : Nat) : Int := mFs P (hi + 1 - lo) lo
theorem mLst_is {P : Nat → Bool} {lo hi x : Nat} (h1 : lo ≤ x) (h2 : x ≤ hi) (h3 : P x = true) (h4 : ∀ y, lo ≤ y → y < x → ¬ P y = true) : mLst P lo hi = (x : Int) := by
  unfold mLst
  rcases mFs_spec (P := P) (hi + 1 - lo) lo with ⟨c, c2⟩ | ⟨j, c, c1, c2, c3, c4⟩
  · have := c2 x h1 (by omega)
    rw [h3] at this
    exact absurd this (by decide)
  · rw [c]
    rcases Nat.lt_trichotomy j x with d | d | d
    · exact absurd c3 (h4 j c1 d)
    · rw [d]
    · have := c4 x h1 d
      rw [h3] at this
      exact absurd this (by decide)
theorem mLst_no {P : Nat → Bool} {lo hi : Nat} (h : ∀ y, lo ≤ y → y ≤ hi → ¬ P y = true) : mLst P lo hi = -1 := by
  unfold mLst
  rcases mFs_spec (P := P) (hi + 1 - lo) lo with ⟨c, c2⟩ | ⟨j, c, c1, c2, c3, c4⟩
  · exact c
  · exact absurd c3 (h j c1 (by omega))
-- the component
def kB (a : mA) (σ : zS) : Prop := ∀ p, p < an a → σ.1 27 p = iI (mBp a (aq a) p)
theorem sp_suff {d kind x : Nat} {v : mV} {σ : zS} {k : Int32 → zS → Prop} (hv : vB v) (hC : CI σ v) (hB : kB (va v) σ) (hk : kind ≤ 2) (hx : x ≤ (if kind = 0 then 1000000 else if kind = 1 then 100 else 100000)) (h1 : kP (va v) kind x = true → ∀ τ, zFr CR σ τ → k 1 τ) (h0 : ¬ kP (va v) kind x = true → ∀ τ, zFr CR σ τ → k 0 τ) : zCall (d + 4) nX2_suffices [.ref 39, .int (iI kind), .int (iI x)] σ (zPI k) := by
  have n60 := hv.1.n60
  have hs := hC.1.2.2.2.1
  have qb : ∀ i, i < an (va v) → aq (va v) i ≤ 51 := fun i hi => hv.1.q (by omega)
  have hB2 : ∀ p, p < an (va v) → σ.1 27 p = iI (mBp (va v) (aq (va v)) p) ∧ mBp (va v) (aq (va v)) p ≤ 320040 := fun p hp => ⟨hB p hp, (mBp_le hv.1 qb hp).2⟩
  have b4 := hv.1.2.2.2.2.1.2
  have b5 := hv.1.2.2.2.2.2.1
  have b6 := hv.1.2.2.2.2.2.2.1
  have fin : ∀ (u : Nat) (τ : zS), zFr CR σ τ → τ.1 26 0 = iI u → u ≤ 60 → (u = 0 ↔ kP (va v) kind x = true) → zIf ((τ.1 26 0) = 0) (zPI k (some (.int 1)) τ) (zPI k (some (.int 0)) τ) := fun u τ f e hu e2 => by
    rw [e]
    exact ⟨fun z => ⟨_, rfl, h1 (e2.mp ((n0_iI hu).mp z)) τ f⟩, fun z => ⟨_, rfl, h0 (fun y => z ((n0_iI hu).mpr (e2.mpr y))) τ f⟩⟩
  have ule : ∀ sz st rt, bU sz st rt (mBp (va v) (aq (va v))) (an (va v)) ≤ 60 := fun sz st rt => Nat.le_trans (fb_ct_le _ _) n60
  refine ze_X2_suffices _ _ σ (fun X hX => zq_X2_suffices_0 hX _ _ σ ?_)
  rw [hs 4 (by decide), hs 5 (by decide), hs 6 (by decide)]
  have c : kind = 0 ∨ kind = 1 ∨ kind = 2 := by omega
  rcases c with rfl | rfl | rfl
  · refine zIf_t (by decide) (zIf_f (by decide) (zIf_f (by decide) (sp_pass (d := d) n60 hx b5 b6 hC.2.2.1.1 hB2 (fun τ ht => fin _ τ ht.1 ht.2.2.2.2.1 (ule _ _ _) ?_))))
    unfold kP
    rw [decide_eq_true_eq, if_pos rfl]
  · refine zIf_f (by decide) (zIf_t (by decide) (zIf_f (by decide) (sp_pass (d := d) n60 b4 hx b6 hC.2.2.1.1 hB2 (fun τ ht => fin _ τ ht.1 ht.2.2.2.2.1 (ule _ _ _) ?_))))
    unfold kP
    rw [decide_eq_true_eq, if_neg (by decide), if_pos rfl]
  · refine zIf_f (by decide) (zIf_f (by decide) (zIf_t (by decide) (sp_pass (d := d) n60 b4 b5 hx hC.2.2.1.1 hB2 (fun τ ht => fin _ τ ht.1 ht.2.2.2.2.1 (ule _ _ _) ?_))))
    unfold kP
    rw [decide_eq_true_eq, if_neg (by decide), if_neg (by decide)]
theorem kB.of {a : mA} {σ τ : zS} (h : kB a σ) (e : τ.1 27 = σ.1 27) : kB a τ := fun p hp => by rw [e]; exact h p hp
theorem fl_loop {d kind l0 h0 : Nat} {v : mV} {σ : zS} {post : zPo} {X : zX} (hX : zClosed none (zCall (d + 4)) post nX2_findLeast X) (hv : vB v) (hk : kind ≤ 2) (hh : h0 ≤ (if kind = 0 then 1000000 else if kind = 1 then 100 else 100000)) (h : ∀ τ, CI τ v → zFr FO σ τ → post (some (.int (iI (mLst (kP (va v) kind) l0 h0)))) τ) : ∀ (m t lo hi : Nat) (τ : zS), t + m = 32 → l0 ≤ lo → lo ≤ hi → hi ≤ h0 → hi - lo + 1 ≤ 2 ^ m → kP (va v) kind hi = true → (∀ y, l0 ≤ y → y < lo → ¬ kP (va v) kind y = true) → CI τ v → kB (va v) τ → zFr FO σ τ → X 30 [some (.ref 39), none, some (.int (iI kind)), none, none, some (.int (iI lo)), some (.int (iI hi)), some (.int (iI t)), none] [] τ
  | 0, t, lo, hi, τ, hm, g1, g2, g3, g4, g5, g6, hC, hB, f => by
    have e : t = 32 := by omega
    subst e
    have e2 : lo = hi := by omega
    subst e2
    refine zq_X2_findLeast_30 hX _ _ _ _ τ (zIf_f (by decide) ?_)
    rw [← mLst_is (hi := h0) g1 g3 g5 g6]
    exact h τ hC f
  | m + 1, t, lo, hi, τ, hm, g1, g2, g3, g4, g5, g6, hC, hB, f => by
    have hh2 : h0 ≤ 1000000 := by
      refine Nat.le_trans hh ?_
      split
      · omega
      · split <;> omega
    refine zq_X2_findLeast_30 hX _ _ _ _ τ (zIf_t ?_ ?_)
    · rw [show (32 : Int32) = iI 32 from rfl, iI_lt (by omega) (by omega) (by omega) (by omega)]; omega
    · by_cases c : lo = hi
      · subst c
        refine zIf_f Int32.lt_irrefl ?_
        rw [← mLst_is (hi := h0) g1 g3 g5 g6]
        exact h τ hC f
      · refine zIf_t (by rw [iI_lt (by omega) (by omega) (by omega) (by omega)]; omega) ?_
        have e : (iI (lo : Int) + iI hi) / 2 = iI (((lo + hi) / 2 : Nat) : Int) := by
          rw [iI_add, show (2 : Int32) = iI 2 from rfl, iI_divN (by omega) (by omega) (by omega) (by omega)]
          exact congrArg iI (by omega)
        rw [Nat.pow_succ] at g4
        rw [e, iI_s, iI_s]
        refine sp_suff (d := d) hv hC hB hk (Nat.le_trans (show (lo + hi) / 2 ≤ h0 by omega) hh) (fun z υ f1 => zIf_f (by decide) ?_) (fun z υ f1 => zIf_t rfl ?_)
        · exact fl_loop hX hv hk hh h m (t + 1) lo ((lo + hi) / 2) υ (by omega) g1 (by omega) (by omega) (by omega) z g6 (hC.fr f1 (by decide)) (hB.of (f1.1 27 (by decide))) (f.tr f1 (by decide))
        · refine fl_loop hX hv hk hh h m (t + 1) ((lo + hi) / 2 + 1) hi υ (by omega) (by omega) (by omega) g3 (by omega) g5 (fun y y1 y2 => ?_) (hC.fr f1 (by decide)) (hB.of (f1.1 27 (by decide))) (f.tr f1 (by decide))
          exact fun y3 => z (kP_mono (by omega) y3)
theorem sp_findLeast {d kind l0 h0 : Nat} {v : mV} {σ : zS} {k : Int32 → zS → Prop} (hv : vB v) (hC : CI σ v) (hm : amd (va v) = true) (hk : kind ≤ 2) (hl : l0 ≤ h0) (hh : h0 ≤ (if kind = 0 then 1000000 else if kind = 1 then 100 else 100000)) (h : ∀ τ, CI τ v → zFr FO σ τ → k (iI (mLst (kP (va v) kind) l0 h0)) τ) : zCall (d + 5) nX2_findLeast [.ref 39, .ref 10, .int (iI kind), .int (iI l0), .int (iI h0)] σ (zPI k) := by
  have hh2 : h0 ≤ 1000000 := by
    refine Nat.le_trans hh ?_
    split
    · omega
    · split <;> omega
  refine ze_X2_findLeast _ _ _ _ σ (fun X hX => zq_X2_findLeast_0 hX _ _ _ _ rfl σ ?_)
  refine sp_takeBits (d := d + 1) (a := va v) (q := aq (va v)) rfl (by decide) rfl hv.1 hC.2.2.1 hC.2.2.2.1 (fun i hi => ⟨hC.2.1.2 hm i hi, hv.1.q (Nat.lt_of_lt_of_le hi hv.1.n60)⟩) (fun τ ht => ?_)
  have hC2 := hC.fr ht.1 (by decide)
  refine sp_suff (d := d) hv hC2 ht.2 hk hh (fun z υ f1 => zIf_f (by decide) ?_) (fun z υ f1 => zIf_t rfl ?_)
  · exact fl_loop hX hv hk hh (fun ω c f => ⟨_, rfl, h ω c f⟩) 32 0 l0 h0 υ rfl (Nat.le_refl _) hl (Nat.le_refl _) (Nat.le_trans (show h0 - l0 + 1 ≤ 1000001 by omega) (by decide)) z (fun y y1 y2 => absurd y2 (by omega)) (hC2.fr f1 (by decide)) (fun p hp => by rw [f1.1 27 (by decide)]; exact ht.2 p hp) ((ht.1.wd (by decide)).tr f1 (by decide))
  · have e : mLst (kP (va v) kind) l0 h0 = -1 := mLst_no (fun y y1 y2 y3 => z (kP_mono y2 y3))
    have := h υ (hC2.fr f1 (by decide)) ((ht.1.wd (by decide)).tr f1 (by decide))
    rw [e] at this
    exact ⟨_, rfl, this⟩
-- the reference
theorem sp_dry {d sz st rt : Nat} {v : mV} {σ : zS} {k : Int32 → zS → Prop} (hv : vB v) (hR : RI σ v) (l : rLa σ (va v)) (hsz : sz ≤ 1000000) (hst : st ≤ 100) (hrt : rt ≤ 100000) (h0 : bU sz st rt (mBp (va v) (aq (va v))) (an (va v)) = 0 → ∀ τ, RI τ v → zQu σ τ → rLa τ (va v) → k 0 τ) (h1 : ¬ bU sz st rt (mBp (va v) (aq (va v))) (an (va v)) = 0 → ∀ τ, RI τ v → zQu σ τ → rLa τ (va v) → k 1 τ) : zCall (d + 5) nX12_isDry [.ref 63, .int (iI sz), .int (iI st), .int (iI rt)] σ (zPI k) := by
  have ule : bU sz st rt (mBp (va v) (aq (va v))) (an (va v)) ≤ 60 := Nat.le_trans (fb_ct_le _ _) hv.1.n60
  refine ze_X12_isDry _ _ _ σ (fun X hX => zq_X12_isDry_0 hX _ _ _ σ (sp_runs (d := d) hv.1 hR.1 l hsz hst hrt (fun τ ht => ?_)))
  have r1 := hR.fr ht.1 (by decide) (ht.2.1 16 (by decide))
  have q1 : zQu σ τ := ⟨ht.1.hg (by decide), ht.1.2⟩
  have l1 := ht.rLa l
  rw [ht.2.2.1, show (0 : Int32) = iI 0 from rfl, iI_le (by omega) (by omega) (by omega) (by omega)]
  exact ⟨fun z => ⟨_, rfl, h0 (by omega) τ r1 q1 l1⟩, fun z => ⟨_, rfl, h1 (by omega) τ r1 q1 l1⟩⟩
theorem rls_loop {d : Nat} {v : mV} {σ : zS} {post : zPo} {X : zX} (hX : zClosed none (zCall (d + 5)) post nX12_leastSize X) (hv : vB v) (h : ∀ τ, RI τ v → zQu σ τ → post (some (.int (iI (mLst (kP (va v) 0) 100 1000000)))) τ) : ∀ (m l hi : Nat) (τ : zS), hi - l ≤ m → 100 ≤ l → l ≤ hi → hi ≤ 1000000 → kP (va v) 0 hi = true → (∀ y, 100 ≤ y → y < l → ¬ kP (va v) 0 y = true) → RI τ v → rLa τ (va v) → zQu σ τ → X 51 [some (.ref 63), some (.int (iI ((l : Int) - 1))), some (.int (iI hi)), none, none] [] τ
  | 0, l, hi, τ, hm, g1, g2, g3, g5, g6, r, la, q => by
    have e2 : l = hi := by omega
    subst e2
    refine zq_X12_leastSize_51 hX _ _ τ (zIf_t ?_ ?_)
    · rw [iI_sub, show (1 : Int32) = iI 1 from rfl, iI_le (by omega) (by omega) (by omega) (by omega)]; omega
    · rw [← mLst_is (hi := 1000000) g1 g3 g5 g6]
      exact h τ r q
  | m + 1, l, hi, τ, hm, g1, g2, g3, g5, g6, r, la, q => by
    by_cases c : l = hi
    · subst c
      refine zq_X12_leastSize_51 hX _ _ τ (zIf_t ?_ ?_)
      · rw [iI_sub, show (1 : Int32) = iI 1 from rfl, iI_le (by omega) (by omega) (by omega) (by omega)]; omega
      · rw [← mLst_is (hi := 1000000) g1 g3 g5 g6]
        exact h τ r q
    · have e : (iI ((l : Int) - 1) + iI hi) / 2 = iI (((l - 1 + hi) / 2 : Nat) : Int) := by
        rw [iI_add, show (2 : Int32) = iI 2 from rfl, iI_divN (by omega) (by omega) (by omega) (by omega)]
        exact congrArg iI (by omega)
      have s5 : τ.1 64 186 = _ := r.1.s (j := 5) (by decide)
      have s6 : τ.1 64 187 = _ := r.1.s (j := 6) (by decide)
      refine zq_X12_leastSize_51 hX _ _ τ (zIf_f ?_ ?_)
      · rw [iI_sub, show (1 : Int32) = iI 1 from rfl, iI_le (by omega) (by omega) (by omega) (by omega)]; omega
      · rw [e, s5, s6]
        refine sp_dry (d := d) hv r la (by omega) hv.1.2.2.2.2.2.1 hv.1.2.2.2.2.2.2.1 (fun z υ r1 q1 l1 => zIf_t rfl ?_) (fun z υ r1 q1 l1 => zIf_f (by decide) ?_)
        · have z2 : kP (va v) 0 ((l - 1 + hi) / 2) = true := decide_eq_true (by rw [if_pos rfl]; exact z)
          exact rls_loop hX hv h m l ((l - 1 + hi) / 2) υ (by omega) g1 (by omega) (by omega) z2 g6 r1 l1 (q.tr q1)
        · have z2 : ¬ kP (va v) 0 ((l - 1 + hi) / 2) = true := fun y => z (by have := of_decide_eq_true y; rw [if_pos rfl] at this; exact this)
          have go := rls_loop hX hv h m ((l - 1 + hi) / 2 + 1) hi υ (by omega) (by omega) (by omega) g3 g5 (fun y y1 y2 y3 => z2 (kP_mono (by omega) y3)) r1 l1 (q.tr q1)
          rw [show (((l - 1 + hi) / 2 + 1 : Nat) : Int) - 1 = ((l - 1 + hi) / 2 : Nat) by omega] at go
          exact go
theorem rlr_loop {d : Nat} {v : mV} {σ : zS} {post : zPo} {X : zX} (hX : zClosed none (zCall (d + 5)) post nX12_leastRate X) (hv : vB v) (h : ∀ τ, RI τ v → zQu σ τ → post (some (.int (iI (mLst (kP (va v) 2) 0 100000)))) τ) : ∀ (m l hi : Nat) (τ : zS), hi - l ≤ m → l ≤ hi → hi ≤ 100000 → kP (va v) 2 hi = true → (∀ y, 0 ≤ y → y < l → ¬ kP (va v) 2 y = true) → RI τ v → rLa τ (va v) → zQu σ τ → X 50 [some (.ref 63), some (.int (iI ((l : Int) - 1))), some (.int (iI hi)), none, none] [] τ
  | 0, l, hi, τ, hm, g2, g3, g5, g6, r, la, q => by
    have e2 : l = hi := by omega
    subst e2
    refine zq_X12_leastRate_50 hX _ _ τ (zIf_t ?_ ?_)
    · rw [iI_sub, show (1 : Int32) = iI 1 from rfl, iI_le (by omega) (by omega) (by omega) (by omega)]; omega
    · rw [← mLst_is (hi := 100000) (Nat.zero_le l) g3 g5 g6]
      exact h τ r q
  | m + 1, l, hi, τ, hm, g2, g3, g5, g6, r, la, q => by
    by_cases c : l = hi
    · subst c
      refine zq_X12_leastRate_50 hX _ _ τ (zIf_t ?_ ?_)
      · rw [iI_sub, show (1 : Int32) = iI 1 from rfl, iI_le (by omega) (by omega) (by omega) (by omega)]; omega
      · rw [← mLst_is (hi := 100000) (Nat.zero_le l) g3 g5 g6]
        exact h τ r q
    · have e : (iI ((l : Int) - 1) + iI hi + 1) / 2 = iI (((l + hi) / 2 : Nat) : Int) := by
        rw [iI_add, show (1 : Int32) = iI 1 from rfl, iI_add, show (2 : Int32) = iI 2 from rfl, iI_divN (by omega) (by omega) (by omega) (by omega)]
        exact congrArg iI (by omega)
      have s4 : τ.1 64 185 = _ := r.1.s (j := 4) (by decide)
      have s5 : τ.1 64 186 = _ := r.1.s (j := 5) (by decide)
      refine zq_X12_leastRate_50 hX _ _ τ (zIf_f ?_ (zIf_f ?_ ?_))
      · rw [iI_sub, show (1 : Int32) = iI 1 from rfl, iI_le (by omega) (by omega) (by omega) (by omega)]; omega
      · rw [e, iI_eq (by omega) (by omega) (by omega) (by omega)]; omega
      · rw [e, s4, s5]
        have k2 : ∀ x, kP (va v) 2 x = true ↔ bU (aS (va v) 4) (aS (va v) 5) x (mBp (va v) (aq (va v))) (an (va v)) = 0 := fun x => by
          unfold kP
          rw [decide_eq_true_eq, if_neg (by decide), if_neg (by decide)]
        refine sp_dry (d := d) hv r la hv.1.2.2.2.2.1.2 hv.1.2.2.2.2.2.1 (by omega) (fun z υ r1 q1 l1 => zIf_t rfl ?_) (fun z υ r1 q1 l1 => zIf_f (by decide) ?_)
        · exact rlr_loop hX hv h m l ((l + hi) / 2) υ (by omega) (by omega) (by omega) ((k2 _).mpr z) g6 r1 l1 (q.tr q1)
        · have z2 : ¬ kP (va v) 2 ((l + hi) / 2) = true := fun y => z ((k2 _).mp y)
          have go := rlr_loop hX hv h m ((l + hi) / 2 + 1) hi υ (by omega) (by omega) g3 g5 (fun y y1 y2 y3 => z2 (kP_mono (by omega) y3)) r1 l1 (q.tr q1)
          rw [show (((l + hi) / 2 + 1 : Nat) : Int) - 1 = ((l + hi) / 2 : Nat) by omega] at go
          exact go
theorem rlt_loop {d : Nat} {v : mV} {σ : zS} {post : zPo} {X : zX} (hX : zClosed none (zCall (d + 5)) post nX12_leastStart X) (hv : vB v) (h : ∀ τ, RI τ v → zQu σ τ → post (some (.int (iI (mLst (kP (va v) 1) 0 100)))) τ) : ∀ (m i : Nat) (τ : zS), i + m = 101 → (∀ y, 0 ≤ y → y < i → ¬ kP (va v) 1 y = true) → RI τ v → rLa τ (va v) → zQu σ τ → X 20 [some (.ref 63), some (.int (iI i))] [] τ
  | 0, i, τ, hm, g6, r, la, q => by
    have e : i = 101 := by omega
    subst e
    refine zq_X12_leastStart_20 hX _ τ (zIf_f (by decide) ?_)
    have := h τ r q
    rw [mLst_no (fun y y1 y2 => g6 y y1 (by omega))] at this
    exact this
  | m + 1, i, τ, hm, g6, r, la, q => by
    have s4 : τ.1 64 185 = _ := r.1.s (j := 4) (by decide)
    have s6 : τ.1 64 187 = _ := r.1.s (j := 6) (by decide)
    have k1 : ∀ x, kP (va v) 1 x = true ↔ bU (aS (va v) 4) x (aS (va v) 6) (mBp (va v) (aq (va v))) (an (va v)) = 0 := fun x => by
      unfold kP
      rw [decide_eq_true_eq, if_neg (by decide), if_pos rfl]
    refine zq_X12_leastStart_20 hX _ τ (zIf_t ?_ ?_)
    · rw [show (100 : Int32) = iI 100 from rfl, iI_le (by omega) (by omega) (by omega) (by omega)]; omega
    · rw [s4, s6, iI_s]
      refine sp_dry (d := d) hv r la hv.1.2.2.2.2.1.2 (by omega) hv.1.2.2.2.2.2.2.1 (fun z υ r1 q1 l1 => zIf_t rfl ?_) (fun z υ r1 q1 l1 => zIf_f (by decide) ?_)
      · rw [← mLst_is (hi := 100) (Nat.zero_le i) (by omega) ((k1 i).mpr z) g6]
        exact h υ r1 (q.tr q1)
      · exact rlt_loop hX hv h m (i + 1) υ (by omega) (fun y y1 y2 => by
          by_cases c : y = i
          · rw [c]; exact fun w => z ((k1 i).mp w)
          · exact g6 y y1 (by omega)) r1 l1 (q.tr q1)
theorem pr_leastSize {σ : zS} (g : G σ) : zPair nX11_leastSize nX12_leastSize [] σ := by
  obtain ⟨v, hv, hC, hR⟩ := g
  cases hm : amd (va v) with
  | false =>
    refine zP_I (v := v) (w := v) (-3) hv hR ?_ (fun τ hT => ?_)
    · exact ze_X11_leastSize (d := 7) σ (fun X hX => zq_X11_leastSize_0 (d := 1) hX σ (zIf_t (hC.2.1.m.mpr hm) (kNo hC)))
    · exact ze_X12_leastSize (d := 7) τ (fun X hX => zq_X12_leastSize_0 (d := 2) hX τ (zIf_t ((rAt_0.mp hT.1).m.mpr hm) (rNo hT)))
  | true =>
    refine zP_I (v := v) (w := v) (iI (mLst (kP (va v) 0) 100 1000000)) hv hR ?_ (fun τ hT => ?_)
    · refine ze_X11_leastSize (d := 7) σ (fun X hX => zq_X11_leastSize_0 (d := 1) hX σ (zIf_f (sl_n hC.2.1.1 hm) ?_))
      refine ze_X2_findSize (d := 6) _ σ (fun Y hY => zq_X2_findSize_0 (d := 1) hY _ rfl σ ?_)
      exact sp_findLeast (d := 1) (kind := 0) (l0 := 100) (h0 := 1000000) hv hC hm (by decide) (by decide) (by decide) (fun υ c f => ⟨_, rfl, _, rfl, rfl, c, f.lw (by decide)⟩)
    · refine ze_X12_leastSize (d := 7) τ (fun X hX => zq_X12_leastSize_0 (d := 2) hX τ (zIf_f (sl_n (am_if (rAt_0.mp hT.1)) hm) ?_))
      refine sp_ty (d := 4) hv hT (fun υ h1 h2 l => ?_)
      have s5 : υ.1 64 186 = _ := h1.1.s (j := 5) (by decide)
      have s6 : υ.1 64 187 = _ := h1.1.s (j := 6) (by decide)
      have k0 : ∀ x, kP (va v) 0 x = true ↔ bU x (aS (va v) 5) (aS (va v) 6) (mBp (va v) (aq (va v))) (an (va v)) = 0 := fun x => by
        unfold kP
        rw [decide_eq_true_eq, if_pos rfl]
      rw [s5, s6]
      refine sp_dry (d := 2) (sz := 1000000) hv h1 l (by decide) hv.1.2.2.2.2.2.1 hv.1.2.2.2.2.2.2.1 (fun z ω r1 q1 l1 => zIf_t rfl ?_) (fun z ω r1 q1 l1 => zIf_f (by decide) ?_)
      · exact rls_loop (d := 2) (σ := τ) hX hv (fun ψ r2 q2 => ⟨_, rfl, rfl, r2, q2.1⟩) 1000000 100 1000000 ω (by decide) (by decide) (by decide) (by decide) ((k0 _).mpr z) (fun y y1 y2 => absurd y2 (by omega)) r1 l1 (h2.tr q1)
      · refine rOk ?_ r1 (h2.tr q1)
        rw [mLst_no (fun y y1 y2 y3 => z ((k0 _).mp (kP_mono y2 y3)))]
        decide
theorem pr_leastStart {σ : zS} (g : G σ) : zPair nX11_leastStart nX12_leastStart [] σ := by
  obtain ⟨v, hv, hC, hR⟩ := g
  cases hm : amd (va v) with
  | false =>
    refine zP_I (v := v) (w := v) (-3) hv hR ?_ (fun τ hT => ?_)
    · exact ze_X11_leastStart (d := 7) σ (fun X hX => zq_X11_leastStart_0 (d := 1) hX σ (zIf_t (hC.2.1.m.mpr hm) (kNo hC)))
    · exact ze_X12_leastStart (d := 7) τ (fun X hX => zq_X12_leastStart_0 (d := 2) hX τ (zIf_t ((rAt_0.mp hT.1).m.mpr hm) (rNo hT)))
  | true =>
    refine zP_I (v := v) (w := v) (iI (mLst (kP (va v) 1) 0 100)) hv hR ?_ (fun τ hT => ?_)
    · refine ze_X11_leastStart (d := 7) σ (fun X hX => zq_X11_leastStart_0 (d := 1) hX σ (zIf_f (sl_n hC.2.1.1 hm) ?_))
      refine ze_X2_findStart (d := 6) _ σ (fun Y hY => zq_X2_findStart_0 (d := 1) hY _ rfl σ ?_)
      exact sp_findLeast (d := 1) (kind := 1) (l0 := 0) (h0 := 100) hv hC hm (by decide) (by decide) (by decide) (fun υ c f => ⟨_, rfl, _, rfl, rfl, c, f.lw (by decide)⟩)
    · refine ze_X12_leastStart (d := 7) τ (fun X hX => zq_X12_leastStart_0 (d := 2) hX τ (zIf_f (sl_n (am_if (rAt_0.mp hT.1)) hm) ?_))
      refine sp_ty (d := 4) hv hT (fun υ h1 h2 l => ?_)
      exact rlt_loop (d := 2) (σ := τ) hX hv (fun ψ r2 q2 => ⟨_, rfl, rfl, r2, q2.1⟩) 101 0 υ rfl (fun y y1 y2 => absurd y2 (by omega)) h1 l h2
theorem pr_leastRate {σ : zS} (g : G σ) : zPair nX11_leastRate nX12_leastRate [] σ := by
  obtain ⟨v, hv, hC, hR⟩ := g
  cases hm : amd (va v) with
  | false =>
    refine zP_I (v := v) (w := v) (-3) hv hR ?_ (fun τ hT => ?_)
    · exact ze_X11_leastRate (d := 7) σ (fun X hX => zq_X11_leastRate_0 (d := 1) hX σ (zIf_t (hC.2.1.m.mpr hm) (kNo hC)))
    · exact ze_X12_leastRate (d := 7) τ (fun X hX => zq_X12_leastRate_0 (d := 2) hX τ (zIf_t ((rAt_0.mp hT.1).m.mpr hm) (rNo hT)))
  | true =>
    refine zP_I (v := v) (w := v) (iI (mLst (kP (va v) 2) 0 100000)) hv hR ?_ (fun τ hT => ?_)
    · refine ze_X11_leastRate (d := 7) σ (fun X hX => zq_X11_leastRate_0 (d := 1) hX σ (zIf_f (sl_n hC.2.1.1 hm) ?_))
      refine ze_X2_findRate (d := 6) _ σ (fun Y hY => zq_X2_findRate_0 (d := 1) hY _ rfl σ ?_)
      exact sp_findLeast (d := 1) (kind := 2) (l0 := 0) (h0 := 100000) hv hC hm (by decide) (by decide) (by decide) (fun υ c f => ⟨_, rfl, _, rfl, rfl, c, f.lw (by decide)⟩)
    · refine ze_X12_leastRate (d := 7) τ (fun X hX => zq_X12_leastRate_0 (d := 2) hX τ (zIf_f (sl_n (am_if (rAt_0.mp hT.1)) hm) ?_))
      refine sp_ty (d := 4) hv hT (fun υ h1 h2 l => ?_)
      have s4 : υ.1 64 185 = _ := h1.1.s (j := 4) (by decide)
      have s5 : υ.1 64 186 = _ := h1.1.s (j := 5) (by decide)
      have k2 : ∀ x, kP (va v) 2 x = true ↔ bU (aS (va v) 4) (aS (va v) 5) x (mBp (va v) (aq (va v))) (an (va v)) = 0 := fun x => by
        unfold kP
        rw [decide_eq_true_eq, if_neg (by decide), if_neg (by decide)]
      rw [s4, s5]
      refine sp_dry (d := 2) (rt := 100000) hv h1 l hv.1.2.2.2.2.1.2 hv.1.2.2.2.2.2.1 (by decide) (fun z ω r1 q1 l1 => zIf_t rfl ?_) (fun z ω r1 q1 l1 => zIf_f (by decide) ?_)
      · exact rlr_loop (d := 2) (σ := τ) hX hv (fun ψ r2 q2 => ⟨_, rfl, rfl, r2, q2.1⟩) 100000 0 100000 ω (by decide) (by decide) (by decide) ((k2 _).mpr z) (fun y y1 y2 => absurd y2 (by omega)) r1 l1 (h2.tr q1)
      · refine rOk ?_ r1 (h2.tr q1)
        rw [mLst_no (fun y y1 y2 y3 => z ((k2 _).mp (kP_mono y2 y3)))]
        decide
