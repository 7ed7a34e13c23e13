/-! the reference's buffer -/
theorem rAt.of {σ τ : zS} {r o : Nat} {a : mA} (h : rAt σ r o a) (e : τ.1 r = σ.1 r) : rAt τ r o a := by
  unfold rAt at h ⊢
  rw [e]
  exact h
theorem rLa.of {σ τ : zS} {a : mA} (h : rLa σ a) (e8 : τ.1 63 8 = σ.1 63 8) (e9 : τ.1 63 9 = σ.1 63 9) (e67 : τ.1 67 = σ.1 67) (e68 : τ.1 68 = σ.1 68) (e69 : τ.1 69 = σ.1 69) (e70 : τ.1 70 = σ.1 70) (e71 : τ.1 71 = σ.1 71) : rLa τ a := by
  unfold rLa rL at h ⊢
  rw [e8, e9, e67, e68, e69, e70, e71]
  exact h
/-- the reference's world behind a frame at place p -/
def rPa (σ : zS) (p su be lk af c : Nat) : zS := zSI (zSI (zSI (zSI (zSI σ 75 p (iI su)) 72 p (iI be)) 74 p (iI lk)) 73 p (iI af)) 63 14 (iI c)
theorem pa_141 {d p lk af c u : Nat} {σ : zS} {post : zPo} {X : zX} (hX : zClosed none (zCall (d + 2)) post nX12_passes X) (hp : p < 60) (hlk : lk < 2147483648) (h74 : σ.1 74 p = iI lk) (hu : σ.1 63 14 = iI u) (hc : c = u + if 0 < lk then 1 else 0) (h : post none (zSI (zSI σ 73 p (iI af)) 63 14 (iI c))) : X 141 [some (.ref 63), some (.int (iI p)), none, none, none, none, none] [.int (iI af), .int (iI p), .ref 73] σ := by
  refine zq_X12_passes_141 hX _ _ _ σ ⟨vin_k (by show p < 60; omega) (by decide), vin_k (by show p < 60; omega) (by decide), ?_⟩
  rw [iI_k (by omega), h74, hu, show (0 : Int32) = iI 0 from rfl, iI_le (by omega) (by omega) (by omega) (by omega)]
  refine ⟨fun z => zq_X12_passes_161 hX _ _ _ ?_, fun z => zq_X12_passes_161 hX _ _ _ ?_⟩
  · rw [if_neg (by omega)] at hc
    rw [iI_add, show ((u : Int) + 0) = (c : Int) by omega]
    exact h
  · rw [if_pos (by omega)] at hc
    rw [show (1 : Int32) = iI 1 from rfl, iI_add, show ((u : Int) + 1) = (c : Int) by omega]
    exact h
theorem pa_117 {d p be its c u : Nat} {σ : zS} {post : zPo} {X : zX} (hX : zClosed none (zCall (d + 2)) post nX12_passes X) (hp : p < 60) (hbe : be < 1000000000) (hits : its < 1000000000) (hu : σ.1 63 14 = iI u) (hc : c = u + if be < its then 1 else 0) (h : post none (zSI (zSI (zSI σ 74 p (iI ((its - be : Nat) : Int))) 73 p (iI ((be - its : Nat) : Int))) 63 14 (iI c))) : X 117 [some (.ref 63), some (.int (iI p)), none, none, none, some (.int (iI be)), some (.int (iI its))] [.int (iI ((its - be : Nat) : Int)), .int (iI p), .ref 74] σ := by
  refine zq_X12_passes_117 hX _ _ _ _ _ σ ⟨vin_k (by show p < 60; omega) (by decide), vin_k (by show p < 60; omega) (by decide), ?_⟩
  have e : (zSI σ 74 p (iI ((its - be : Nat) : Int))).1 74 p = iI ((its - be : Nat) : Int) := by simp [zSI_at]
  rw [iI_k (by omega), e, show (0 : Int32) = iI 0 from rfl, iI_le (by omega) (by omega) (by omega) (by omega), iI_sub]
  have go : X 141 [some (.ref 63), some (.int (iI p)), none, none, none, none, none] [.int (iI ((be - its : Nat) : Int)), .int (iI p), .ref 73] (zSI σ 74 p (iI ((its - be : Nat) : Int))) :=
    pa_141 hX hp (by omega) e (by rw [zSI_1 (by decide)]; exact hu) (by rw [hc]; congr 1; split <;> split <;> omega) h
  refine ⟨fun z => ?_, fun z => ?_⟩
  · rw [show ((be : Int) - its) = ((be - its : Nat) : Int) by omega]
    exact go
  · rw [show (0 : Int) = ((be - its : Nat) : Int) by omega]
    exact go
theorem mO_lt {a : mA} {p : Nat} (hp : p < an a) : mO a p < an a := (mOr_lt (fun z => mTy_last z) hp).1
theorem rAt.q {σ : zS} {a : mA} (h : rAt σ 64 0 a) {i : Nat} (hi : i < 60) : σ.1 64 (208 + i) = iI (aq a i) := by
  have := h.2.2.2.2.2.2.2.2.2 i hi
  rwa [Nat.zero_add] at this
theorem pa_49 {d p fl be u c : Nat} {a : mA} {σ : zS} {post : zPo} {X : zX} (hX : zClosed none (zCall (d + 2)) post nX12_passes X) (hb : aB a) (hc : rAt σ 64 0 a) (hl : rLa σ a) (hp : p < an a) (hfl : fl < 100000000) (hbe : be ≤ fl) (hu : σ.1 63 14 = iI u) (hcc : c = u + if be < mBp a (aq a) p then 1 else 0) (h : post none (rPa σ p (fl - be) be (mBp a (aq a) p - be) (be - mBp a (aq a) p) c)) : X 49 [some (.ref 63), some (.int (iI p)), none, none, none, some (.int (iI fl)), none] [.int (iI ((fl - be : Nat) : Int)), .int (iI p), .ref 75] σ := by
  have h60 := hb.n60
  have ho := mO_lt hp
  have hq := hb.2.2.2.2.2.2.2.2.2.2.1 (mO a p) (by omega)
  have hits := (mBp_le (q := aq a) hb (fun i hi => hb.2.2.2.2.2.2.2.2.2.2.1 i (by omega)) hp).2
  have e71 : σ.1 71 p = iI (mO a p) := hl.2.2.2.2.2.2 p hp
  have e208 : Int32.toNatClampNeg (208 + iI (mO a p : Int)) = 208 + mO a p := by rw [show (208 : Int32) = iI ((208 : Nat) : Int) from rfl, tN_add (by omega)]
  have e1 : (zSI σ 75 p (iI ((fl - be : Nat) : Int))).1 75 p = iI ((fl - be : Nat) : Int) := by simp [zSI_at]
  have e2 : iI (fl : Int) - iI ((fl - be : Nat) : Int) = iI (be : Int) := by rw [iI_sub]; exact congrArg iI (by omega)
  refine zq_X12_passes_49 hX _ _ _ _ σ ⟨vin_k (by show p < 60; omega) (by decide), vin_k (by show p < 60; omega) (by decide), vin_k (by show p < 60; omega) (by decide), vin_k (by show p < 60; omega) (by decide), ?_, ?_⟩
  · rw [iI_k (by omega), e71, show (208 : Int32) = iI ((208 : Nat) : Int) from rfl, iI_kk]
    exact vin_k (by show 208 + mO a p < 268; omega) (by decide)
  · rw [iI_k (by omega), e71, e208, hc.q (by omega), e1, e2]
    refine sp_bits (d := d) (a := a) hb (hc.of ((zSI_1 (by decide)).trans (zSI_1 (by decide)))) (hl.of (by simp [zSI_at]) (by simp [zSI_at]) ((zSI_1 (by decide)).trans (zSI_1 (by decide))) ((zSI_1 (by decide)).trans (zSI_1 (by decide))) ((zSI_1 (by decide)).trans (zSI_1 (by decide))) ((zSI_1 (by decide)).trans (zSI_1 (by decide))) ((zSI_1 (by decide)).trans (zSI_1 (by decide)))) ho (by omega) ?_
    have go : X 117 [some (.ref 63), some (.int (iI p)), none, none, none, some (.int (iI be)), some (.int (iI (mBp a (aq a) p)))] [.int (iI ((mBp a (aq a) p - be : Nat) : Int)), .int (iI p), .ref 74] (zSI (zSI σ 75 p (iI ((fl - be : Nat) : Int))) 72 p (iI be)) :=
      pa_117 hX (by omega) (by omega) (by omega) (by simp [zSI_at]; exact hu) hcc h
    show zIf (iI (mBp a (aq a) p : Int) ≤ iI be) _ _
    rw [iI_le (by omega) (by omega) (by omega) (by omega)]
    refine ⟨fun z => ?_, fun z => ?_⟩
    · rw [show (mBp a (aq a) p - be : Nat) = 0 by omega] at go
      exact go
    · have e3 : iI (mBp a (aq a) p : Int) - iI be = iI ((mBp a (aq a) p - be : Nat) : Int) := by rw [iI_sub]; exact congrArg iI (by omega)
      show X 117 _ [.int (iI (mBp a (aq a) p : Int) - iI be), _, _] _
      rw [e3]
      exact go
theorem pa_24 {d p fl sz u c : Nat} {a : mA} {σ : zS} {post : zPo} {X : zX} (hX : zClosed none (zCall (d + 2)) post nX12_passes X) (hb : aB a) (hc : rAt σ 64 0 a) (hl : rLa σ a) (hp : p < an a) (hsz : sz < 100000000) (hfl : fl < 100000000) (h0 : p = 0 → fl ≤ sz) (hu : σ.1 63 14 = iI u) (hcc : c = u + if min sz fl < mBp a (aq a) p then 1 else 0) (h : post none (rPa σ p (fl - min sz fl) (min sz fl) (mBp a (aq a) p - min sz fl) (min sz fl - mBp a (aq a) p) c)) : X 24 [some (.ref 63), some (.int (iI p)), some (.int (iI sz)), none, none, none, none] [.int (iI fl)] σ := by
  have h60 := hb.n60
  have go := pa_49 hX hb hc hl hp hfl (Nat.min_le_right sz fl) hu hcc h
  have g48 : fl ≤ sz → X 48 [some (.ref 63), some (.int (iI p)), none, none, none, some (.int (iI fl)), none] [.int (iI p), .ref 75] σ := fun z => by
    refine zq_X12_passes_48 hX _ _ _ σ ?_
    rw [show fl - min sz fl = 0 by omega] at go
    exact go
  refine zq_X12_passes_24 hX _ _ _ σ ?_
  rw [show (0 : Int32) = iI 0 from rfl, iI_le (by omega) (by omega) (by omega) (by omega), iI_le (by omega) (by omega) (by omega) (by omega)]
  refine ⟨fun z => g48 (h0 (by omega)), fun z => ⟨fun z2 => g48 (by omega), fun z2 => ?_⟩⟩
  rw [iI_sub, show ((fl : Int) - sz) = ((fl - min sz fl : Nat) : Int) by omega]
  exact go
theorem sp_passes {d p fl sz st rt u c : Nat} {a : mA} {σ : zS} {k : zS → Prop} (hb : aB a) (hc : rAt σ 64 0 a) (hl : rLa σ a) (hp : p < an a) (hsz : sz ≤ 1000000) (hst : st ≤ 100) (hfl : fl < 100000000) (h0 : p = 0 → fl = sz * st / 100) (h1 : p ≠ 0 → σ.1 73 (p - 1) + iI rt = iI fl) (hu : σ.1 63 14 = iI u) (hcc : c = u + if min sz fl < mBp a (aq a) p then 1 else 0) (h : k (rPa σ p (fl - min sz fl) (min sz fl) (mBp a (aq a) p - min sz fl) (min sz fl - mBp a (aq a) p) c)) : zCall (d + 3) nX12_passes [.ref 63, .int (iI p), .int (iI sz), .int (iI st), .int (iI rt)] σ (zPV k) := by
  have h60 := hb.n60
  refine ze_X12_passes _ _ _ _ σ (fun X hX => zq_X12_passes_0 hX _ _ _ _ σ ?_)
  rw [show (0 : Int32) = iI 0 from rfl, iI_eq (by omega) (by omega) (by omega) (by omega)]
  refine ⟨fun z => ?_, fun z => ?_⟩
  · have hm : sz * st ≤ 1000000 * 100 := Nat.mul_le_mul hsz hst
    have hm2 : sz * st ≤ sz * 100 := Nat.mul_le_mul_left _ hst
    have e : iI (sz : Int) * iI (st : Int) / 100 = iI (fl : Int) := by
      rw [iI_mul, show (100 : Int32) = iI 100 from rfl, ← Int.natCast_mul, iI_divN (by omega) (by omega) (by omega) (by omega), h0 (by omega), Int.natCast_ediv]
      rfl
    rw [e]
    exact pa_24 hX hb hc hl hp (by omega) hfl (fun _ => by rw [h0 (by omega)]; omega) hu hcc ⟨rfl, h⟩
  · have e : iI (p : Int) - 1 = iI ((p - 1 : Nat) : Int) := by
      rw [show (1 : Int32) = iI 1 from rfl, iI_sub]; exact congrArg iI (by omega)
    rw [e, iI_k (by omega), h1 (by omega)]
    exact ⟨vin_k (by show p - 1 < 60; omega) (by decide), pa_24 hX hb hc hl hp (by omega) hfl (fun y => absurd y (by omega)) hu hcc ⟨rfl, h⟩⟩
def RF : List Nat := [63, 72, 73, 74, 75]
def rPs (n sz st rt : Nat) (B : Nat → Nat) (σ : zS) (i : Nat) (τ : zS) : Prop := zFr RF σ τ ∧ (∀ j, j ≠ 14 → τ.1 63 j = σ.1 63 j) ∧ τ.1 63 14 = iI (bU sz st rt B i) ∧ ∀ p, p < i → τ.1 72 p = iI (bBe sz st rt B p) ∧ τ.1 73 p = iI (bAf sz st rt B p) ∧ τ.1 74 p = iI (bLa sz st rt B p) ∧ τ.1 75 p = iI (bSu sz st rt B p)
theorem rPs.rAt {n sz st rt i : Nat} {B : Nat → Nat} {a : mA} {σ τ : zS} (h : rPs n sz st rt B σ i τ) (hc : rAt σ 64 0 a) : rAt τ 64 0 a := hc.of (h.1.1 64 (by decide))
theorem rPs.rLa {n sz st rt i : Nat} {B : Nat → Nat} {a : mA} {σ τ : zS} (h : rPs n sz st rt B σ i τ) (hc : rLa σ a) : rLa τ a := hc.of (h.2.1 8 (by decide)) (h.2.1 9 (by decide)) (h.1.1 67 (by decide)) (h.1.1 68 (by decide)) (h.1.1 69 (by decide)) (h.1.1 70 (by decide)) (h.1.1 71 (by decide))
theorem bU_s (sz st rt : Nat) (B : Nat → Nat) (i : Nat) : bU sz st rt B (i + 1) = bU sz st rt B i + if min sz (bFi sz st rt B i) < B i then 1 else 0 := by
  have eb : bUp sz st rt B i = decide (min sz (bFi sz st rt B i) < B i) := rfl
  show fb_ct (bUp sz st rt B) (i + 1) = _
  rw [fb_ct_succ, eb]
  simp only [decide_eq_true_eq]
  rfl
theorem ru_loop {d sz st rt : Nat} {a : mA} {σ : zS} {post : zPo} {X : zX} (hX : zClosed none (zCall (d + 3)) post nX12_runs X) (hb : aB a) (hc : rAt σ 64 0 a) (hl : rLa σ a) (hsz : sz ≤ 1000000) (hst : st ≤ 100) (hrt : rt ≤ 100000) (h : ∀ τ, rPs (an a) sz st rt (mBp a (aq a)) σ (an a) τ → post none τ) : ∀ (m i : Nat) (τ : zS), i + m = an a → rPs (an a) sz st rt (mBp a (aq a)) σ i τ → X 8 [some (.ref 63), some (.int (iI sz)), some (.int (iI st)), some (.int (iI rt)), some (.int (iI i))] [] τ
  | 0, i, τ, hm, hk => by
    have e : i = an a := by omega
    subst e
    refine zq_X12_runs_8 hX _ _ _ _ τ (zIf_f ?_ (h τ hk))
    rw [hk.1.1 64 (by decide), hc.1]
    exact Int32.lt_irrefl
  | m + 1, i, τ, hm, hk => by
    have h60 := hb.n60
    have hin : i < an a := by omega
    have hfi := bFi_le (sz := sz) (rt := rt) (mBp a (aq a)) hst i
    refine zq_X12_runs_8 hX _ _ _ _ τ (zIf_t ?_ ?_)
    · rw [hk.1.1 64 (by decide), hc.1, iI_lt (by omega) (by omega) (by omega) (by omega)]; omega
    · refine sp_passes (d := d) (a := a) (fl := bFi sz st rt (mBp a (aq a)) i) (u := bU sz st rt (mBp a (aq a)) i) hb (hk.rAt hc) (hk.rLa hl) hin hsz hst (by omega) (fun z => by rw [z]; rfl) (fun z => ?_) hk.2.2.1 (bU_s _ _ _ _ _) ?_
      · rw [(hk.2.2.2 (i - 1) (by omega)).2.1, iI_kk]
        cases i with
        | zero => exact absurd rfl z
        | succ j => rfl
      · rw [iI_s]
        refine ru_loop hX hb hc hl hsz hst hrt h m (i + 1) _ (by omega) ⟨((((hk.1.si (by decide) _ _).si (by decide) _ _).si (by decide) _ _).si (by decide) _ _).si (by decide) _ _, fun j hj => ?_, by simp [zSI_at, rPa], fun p hp => ?_⟩
        · simp [zSI_at, rPa, hj]
          exact hk.2.1 j hj
        · simp only [rPa, zSI_at]
          by_cases e : p = i
          · subst e
            simp
            exact ⟨rfl, rfl, rfl, rfl⟩
          · simp [e]
            exact hk.2.2.2 p (by omega)
theorem sp_runs {d sz st rt : Nat} {a : mA} {σ : zS} {k : zS → Prop} (hb : aB a) (hc : rAt σ 64 0 a) (hl : rLa σ a) (hsz : sz ≤ 1000000) (hst : st ≤ 100) (hrt : rt ≤ 100000) (h : ∀ τ, rPs (an a) sz st rt (mBp a (aq a)) σ (an a) τ → k τ) : zCall (d + 4) nX12_runs [.ref 63, .int (iI sz), .int (iI st), .int (iI rt)] σ (zPV k) :=
  ze_X12_runs _ _ _ σ (fun X hX => zq_X12_runs_0 hX _ _ _ σ (ru_loop hX hb (hc.of (zSI_1 (by decide))) (hl.of (by simp [zSI_at]) (by simp [zSI_at]) (zSI_1 (by decide)) (zSI_1 (by decide)) (zSI_1 (by decide)) (zSI_1 (by decide)) (zSI_1 (by decide))) hsz hst hrt (fun τ ht => ⟨rfl, h τ ⟨((zFr.rf RF σ).si (by decide) 14 0).tr ht.1 (fun _ z => z), fun j hj => (ht.2.1 j hj).trans (by simp [zSI_at, hj]), ht.2.2⟩⟩) (an a) 0 _ (by omega) ⟨zFr.rf _ _, fun _ _ => rfl, by simp [zSI_at]; rfl, fun p hp => by omega⟩))
/-- the reference has run its plan -/
def rFo (a : mA) (σ τ : zS) : Prop := rPs (an a) (aS a 4) (aS a 5) (aS a 6) (mBp a (aq a)) σ (an a) τ
theorem sp_runsAsSet {d : Nat} {a : mA} {σ : zS} {k : zS → Prop} (hb : aB a) (hc : rAt σ 64 0 a) (hl : rLa σ a) (h : ∀ τ, rFo a σ τ → k τ) : zCall (d + 5) nX12_runsAsSet [.ref 63] σ (zPV k) := by
  refine ze_X12_runsAsSet σ (fun X hX => zq_X12_runsAsSet_0 hX σ ?_)
  have e4 := hc.s (j := 4) (by decide)
  have e5 := hc.s (j := 5) (by decide)
  have e6 := hc.s (j := 6) (by decide)
  rw [e4, e5, e6]
  exact sp_runs (d := d) hb hc hl hb.2.2.2.2.1.2 hb.2.2.2.2.2.1 hb.2.2.2.2.2.2.1 (fun τ ht => ⟨rfl, h τ ht⟩)
theorem sp_underflowsNow {d : Nat} {a : mA} {σ : zS} {k : Int32 → zS → Prop} (hb : aB a) (hc : rAt σ 64 0 a) (hl : rLa σ a) (h : ∀ τ, rFo a σ τ → k (iI (aUn a (aq a))) τ) : zCall (d + 6) nX12_underflowsNow [.ref 63] σ (zPI k) :=
  ze_X12_underflowsNow σ (fun X hX => zq_X12_underflowsNow_0 hX σ (sp_runsAsSet (d := d) hb hc hl (fun τ ht => ⟨_, rfl, by rw [ht.2.2.1]; exact h τ ht⟩)))
theorem rfu_loop {d n : Nat} {P : Nat → Bool} {L : Nat → Nat} {σ : zS} {post : zPo} {X : zX} (hX : zClosed none (zCall (d + 5)) post nX12_firstUnderflow X) (hn : n ≤ 60) (hl : σ.1 64 0 = iI n) (hL : ∀ p, p < n → σ.1 74 p = iI (L p) ∧ L p < 2147483648 ∧ (P p = true ↔ 0 < L p)) : ∀ (m i : Nat), i + m = n → post (some (.int (iI (mFs P m i)))) σ → X 6 [some (.ref 63), some (.int (iI i))] [] σ
  | 0, i, hm, h => by
    have e : i = n := by omega
    subst e
    refine zq_X12_firstUnderflow_6 hX _ σ (zIf_f ?_ (zIf_t hl.symm h))
    rw [hl]
    exact Int32.lt_irrefl
  | m + 1, i, hm, h => by
    have hin : i < n := by omega
    obtain ⟨l1, l2, l3⟩ := hL i hin
    refine zq_X12_firstUnderflow_6 hX _ σ (zIf_t ?_ ⟨vin_k (by show i < 60; omega) (by decide), ?_⟩)
    · rw [hl, iI_lt (by omega) (by omega) (by omega) (by omega)]; omega
    · rw [iI_k (by omega), l1, hl, show (0 : Int32) = iI 0 from rfl, iI_eq (by omega) (by omega) (by omega) (by omega), iI_eq (by omega) (by omega) (by omega) (by omega), iI_s]
      refine ⟨fun z => ?_, fun z => zIf_f (by omega) ?_⟩
      · refine rfu_loop hX hn hl hL m (i + 1) (by omega) ?_
        unfold mFs at h
        rw [if_neg (fun y => by have := l3.mp y; omega)] at h
        exact h
      · unfold mFs at h
        rw [if_pos (l3.mpr (by omega))] at h
        exact h
theorem bLa_up {sz st rt : Nat} {B : Nat → Nat} {p : Nat} : bUp sz st rt B p = true ↔ 0 < bLa sz st rt B p := by
  unfold bUp bLa
  rw [decide_eq_true_eq]
  omega
theorem sp_rFirst {d : Nat} {a : mA} {σ : zS} {k : Int32 → zS → Prop} (hb : aB a) (hc : rAt σ 64 0 a) (hl : rLa σ a) (h : ∀ τ, rFo a σ τ → k (iI (mFs (aUp a (aq a)) (an a) 0)) τ) : zCall (d + 6) nX12_firstUnderflow [.ref 63] σ (zPI k) := by
  refine ze_X12_firstUnderflow σ (fun X hX => zq_X12_firstUnderflow_0 hX σ (sp_runsAsSet (d := d) hb hc hl (fun τ ht => ?_)))
  refine rfu_loop (P := aUp a (aq a)) hX hb.n60 ((ht.rAt hc).1) (fun p hp => ⟨(ht.2.2.2 p hp).2.2.1, ?_, bLa_up⟩) (an a) 0 (by omega) ⟨_, rfl, h τ ht⟩
  have := (mBp_le (q := aq a) hb (fun i hi => hb.2.2.2.2.2.2.2.2.2.2.1 i (by have := hb.n60; omega)) hp).2
  unfold bLa
  omega
