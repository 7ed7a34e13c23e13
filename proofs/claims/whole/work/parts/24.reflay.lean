/-! the reference's layout: what findsTypes leaves -/
/-- the reference's clip is this one -/
def kR (σ : zS) (n : Nat) (tx mo : Nat → Nat) : Prop := σ.1 64 0 = iI n ∧ (∀ i, i < n → σ.1 64 (1 + i) = iI (tx i)) ∧ ∀ i, i < n → σ.1 64 (61 + i) = iI (mo i)
theorem kR.fr {σ τ : zS} {n : Nat} {tx mo : Nat → Nat} (h : kR σ n tx mo) (h1 : τ.1 64 = σ.1 64) : kR τ n tx mo := by
  unfold kR at h ⊢
  rw [h1]
  exact h
theorem iI_kk (a k : Nat) : (iI (a : Int)) + iI (k : Int) = iI ((a + k : Nat) : Int) := iI_add _ _
theorem tN_add {a k : Nat} (h : a + k < 2147483648) : Int32.toNatClampNeg (iI (a : Int) + iI (k : Int)) = a + k := by
  rw [iI_kk, iI_k h]
theorem rCo_k {i : Nat} (h : i < 60) : rCo (iI i) := by
  refine Or.inr ⟨?_, ?_⟩
  · rw [show (61 : Int32) = iI ((61 : Nat) : Int) from rfl, iI_kk]
    exact vin_k (by show 61 + i < 268; omega) (by decide)
  · rw [show (1 : Int32) = iI ((1 : Nat) : Int) from rfl, iI_kk]
    exact vin_k (by show 1 + i < 268; omega) (by decide)
theorem rCut_iff {σ : zS} {n i : Nat} {tx mo : Nat → Nat} (hb : mB n tx mo) (hc : kR σ n tx mo) (hi : i < n) : rCut σ (iI i) ↔ mCut tx mo i = true := by
  have h60 := hb.1
  obtain ⟨b1, b2, b3⟩ := hb.2 i hi
  unfold rCut mCut
  rw [show (61 : Int32) = iI ((61 : Nat) : Int) from rfl, show (1 : Int32) = iI ((1 : Nat) : Int) from rfl, tN_add (by omega), tN_add (by omega), hc.2.1 i hi, hc.2.2 i hi]
  rw [show (3 : Int32) = iI 3 from rfl, show (2 : Int32) = iI 2 from rfl, show (0 : Int32) = iI 0 from rfl, iI_mul, iI_mul, iI_lt (by omega) (by omega) (by omega) (by omega), iI_lt (by omega) (by omega) (by omega) (by omega)]
  simp only [Bool.and_eq_true, decide_eq_true_eq]
  omega
def rFi (iv n : Nat) (cut : Nat → Bool) (σ : zS) (i : Nat) (τ : zS) : Prop := zFr [63, 67, 68, 69] σ τ ∧ (∀ j, j ≠ 8 → j ≠ 9 → τ.1 63 j = σ.1 63 j) ∧ τ.1 63 8 = iI (mS cut i) ∧ τ.1 63 9 = iI (mG iv cut i) ∧ (∀ k, k < i → τ.1 68 k = iI (mSc cut k)) ∧ ∀ k, k < i → τ.1 69 k = iI (mF iv cut (k + 1))
theorem rFi_next {iv n i : Nat} {cut : Nat → Bool} {σ τ : zS} (h : rFi iv n cut σ i τ) {s g a b t : Int32} (hs : s = iI (mS cut (i + 1))) (hg : g = iI (mG iv cut (i + 1))) (ha : a = iI (mSc cut i)) (hb : b = iI (mF iv cut (i + 1))) : rFi iv n cut σ (i + 1) (zSI (zSI (zSI (zSI (zSI τ 63 8 s) 63 9 g) 68 i a) 69 i b) 67 i t) := by
  obtain ⟨g1, g2, g3, g4, g5, g6⟩ := h
  refine ⟨((((g1.si (by decide) _ _).si (by decide) _ _).si (by decide) _ _).si (by decide) _ _).si (by decide) _ _, fun j h8 h9 => ?_, ?_, ?_, fun k hk => ?_, fun k hk => ?_⟩
  · simp only [zSI_at]
    simp [h8, h9]
    exact g2 j h8 h9
  · simp [zSI_at, hs]
  · simp [zSI_at, hg]
  · simp only [zSI_at]
    by_cases e : k = i
    · subst e; simp [ha]
    · simp [e]; exact g5 k (by omega)
  · simp only [zSI_at]
    by_cases e : k = i
    · subst e; simp [hb]
    · simp [e]; exact g6 k (by omega)
theorem rfi_loop {d n iv : Nat} {tx mo : Nat → Nat} {σ : zS} {post : zPo} {X : zX} (hX : zClosed none (zCall (d + 1)) post nX12_findsIntra X) (hb : mB n tx mo) (hc : kR σ n tx mo) (hiv : 1 ≤ iv ∧ iv ≤ 60) (hv : σ.1 64 181 = iI iv) (h : ∀ τ, rFi iv n (mCut tx mo) σ n τ → post none τ) : ∀ (m i : Nat) (τ : zS), i + m = n → rFi iv n (mCut tx mo) σ i τ → X 14 [some (.ref 63), some (.int (iI (mF iv (mCut tx mo) i))), some (.int (iI i)), none] [] τ
  | 0, i, τ, hm, hk => by
    have e : i = n := by omega
    subst e
    refine zq_X12_findsIntra_14 hX _ _ τ (zIf_f ?_ (h τ hk))
    rw [hk.1.1 64 (by decide), hc.1]
    exact Int32.lt_irrefl
  | m + 1, i, τ, hm, hk => by
    have h60 := hb.1
    have hin : i < n := by omega
    have hct : kR τ n tx mo := hc.fr (hk.1.1 64 (by decide))
    have hcut := rCut_iff hb hct hin
    have hF := mF_le iv (mCut tx mo) i
    have hnear := mF_near hiv.1 (mCut tx mo) i
    have v68 : vp_in (iI (i : Int)) (zN 68) := vin_k (by show i < 60; omega) (by decide)
    have v69 : vp_in (iI (i : Int)) (zN 69) := vin_k (by show i < 60; omega) (by decide)
    have v67 : vp_in (iI (i : Int)) (zN 67) := vin_k (by show i < 60; omega) (by decide)
    have ek : Int32.toNatClampNeg (iI (i : Int)) = i := iI_k (by omega)
    have go : ∀ (f : Int32) (S : zS), rFi iv n (mCut tx mo) σ (i + 1) S → f = iI (mF iv (mCut tx mo) (i + 1)) → X 14 [some (.ref 63), some (.int f), some (.int (iI i + 1)), none] [] S := by
      intro f S hS hf
      rw [hf, iI_s]
      exact rfi_loop hX hb hc hiv hv h m (i + 1) S (by omega) hS
    have hk0 := hk
    obtain ⟨g1, g2, g3, g4, g5, g6⟩ := hk
    have hpos := mS_pos (cut := mCut tx mo) (i := i + 1) (by omega)
    have hSs : ∀ it : Bool, mOp (mCut tx mo) i = it → mS (mCut tx mo) (i + 1) = mS (mCut tx mo) i + if it then 1 else 0 := fun it e => by rw [← e]; rfl
    have hGs : ∀ it : Bool, mIt iv (mCut tx mo) i = it → mG iv (mCut tx mo) (i + 1) = mG iv (mCut tx mo) i + if it then 1 else 0 := fun it e => by rw [← e]; rfl
    have i0 : ∀ z : Int, iI z + 0 = iI z := fun z => by rw [show (0 : Int32) = iI 0 from rfl, iI_add]; congr 1; omega
    have open1 : mOp (mCut tx mo) i = true → vp_in (iI (i : Int)) (zN 68) ∧ (vp_in (iI (i : Int)) (zN 69) ∧ (vp_in (iI (i : Int)) (zN 67) ∧ X 14 [some (.ref 63), some (.int (iI i)), some (.int (iI i + 1)), none] [] (zSI (zSI (zSI (zSI (zSI τ 63 8 (τ.1 63 8 + 1)) 63 9 (τ.1 63 9 + 1)) 68 (Int32.toNatClampNeg (iI i)) (τ.1 63 8 + 1 - 1)) 69 (Int32.toNatClampNeg (iI i)) (iI i)) 67 (Int32.toNatClampNeg (iI i)) 0))) := by
      intro ho
      have hit : mIt iv (mCut tx mo) i = true := by simp [mIt, ho]
      have e1 := hSs true ho
      have e2 := hGs true hit
      have e3 : mF iv (mCut tx mo) (i + 1) = i := mF_it.mpr hit
      refine ⟨v68, v69, v67, go _ _ ?_ (by rw [e3])⟩
      rw [ek, g3, g4, iI_p, iI_p, iI_m]
      refine rFi_next hk0 (by rw [e1]; rfl) (by rw [e2]; rfl) ?_ (by rw [e3])
      unfold mSc
      rw [e1]
      exact congrArg iI (by simp)
    refine zq_X12_findsIntra_14 hX _ _ τ (zIf_t ?_ ⟨fun h0 => ?_, fun h0 => ⟨rCo_k (by omega), fun h1 => ?_, fun h1 => ⟨fun h2 => ?_, fun h2 => ?_⟩⟩⟩)
    · rw [hct.1, iI_lt (by omega) (by omega) (by omega) (by omega)]; omega
    · have : i = 0 := by
        have := (iI_eq (a := (i : Int)) (b := 0) (by omega) (by omega) (by omega) (by omega)).mp h0
        omega
      exact open1 (by simp [mOp, this])
    · exact open1 (by simp [mOp, hcut.mp h1])
    · have hi0 : i ≠ 0 := fun e => h0 (by subst e; rfl)
      have hno : mOp (mCut tx mo) i = false := by
        cases hh : mCut tx mo i with
        | true => exact absurd (hcut.mpr hh) h1
        | false => simp [mOp, hi0, hh]
      rw [g1.1 64 (by decide), hv, iI_sub, iI_eq (by omega) (by omega) (by omega) (by omega)] at h2
      have hit : mIt iv (mCut tx mo) i = true := by
        simp only [mIt, hno, Bool.false_or, decide_eq_true_eq]
        omega
      have e1 := hSs false hno
      have e2 := hGs true hit
      have e3 : mF iv (mCut tx mo) (i + 1) = i := mF_it.mpr hit
      refine ⟨v68, v69, v67, go _ _ ?_ (by rw [e3])⟩
      rw [ek, g3, g4, i0, iI_p, iI_m]
      refine rFi_next hk0 (by rw [e1]; rfl) (by rw [e2]; rfl) ?_ (by rw [e3])
      unfold mSc
      rw [e1]
      exact congrArg iI (by simp at e1 ⊢; omega)
    · have hi0 : i ≠ 0 := fun e => h0 (by subst e; rfl)
      have hno : mOp (mCut tx mo) i = false := by
        cases hh : mCut tx mo i with
        | true => exact absurd (hcut.mpr hh) h1
        | false => simp [mOp, hi0, hh]
      rw [g1.1 64 (by decide), hv, iI_sub, iI_eq (by omega) (by omega) (by omega) (by omega)] at h2
      have hit : mIt iv (mCut tx mo) i = false := by
        simp only [mIt, hno, Bool.false_or, decide_eq_false_iff_not]
        omega
      have e1 := hSs false hno
      have e2 := hGs false hit
      have e3 : mF iv (mCut tx mo) (i + 1) = mF iv (mCut tx mo) i := by rw [mF_succ, hit]; rfl
      refine ⟨v68, v69, v67, go _ _ ?_ (by rw [e3])⟩
      rw [ek, g3, g4, i0, i0, iI_m]
      refine rFi_next hk0 (by rw [e1]; rfl) (by rw [e2]; rfl) ?_ (by rw [e3])
      unfold mSc
      rw [e1]
      exact congrArg iI (by simp at e1 ⊢; omega)
theorem sp_findsIntra {d n iv : Nat} {tx mo : Nat → Nat} {σ : zS} {k : zS → Prop} (hb : mB n tx mo) (hc : kR σ n tx mo) (hiv : 1 ≤ iv ∧ iv ≤ 60) (hv : σ.1 64 181 = iI iv) (h : ∀ τ, rFi iv n (mCut tx mo) σ n τ → k τ) : zCall (d + 2) nX12_findsIntra [.ref 63] σ (zPV k) :=
  ze_X12_findsIntra σ (fun X hX => zq_X12_findsIntra_0 hX σ (rfi_loop (d := d) (iv := iv) (σ := σ) hX hb hc hiv hv (fun τ ht => ⟨rfl, h τ ht⟩) n 0 _ (by omega)
    ⟨((zFr.rf _ _).si (by decide) _ _).si (by decide) _ _, fun j h8 h9 => by simp [zSI_at, h8, h9], by simp [zSI_at]; rfl, by simp [zSI_at]; rfl, fun k hk => by omega, fun k hk => by omega⟩))
theorem gs_loop {d n f : Nat} {F : Nat → Nat} {σ : zS} {post : zPo} {X : zX} (hX : zClosed none (zCall (d + 0)) post nX12_groupSize X) (hn : n ≤ 60) (hl : σ.1 64 0 = iI n) (hF : ∀ k, k < n → σ.1 69 k = iI (F k) ∧ F k ≤ 60) (hf : f ≤ 60) (h : post (some (.int (iI (fb_ct (fun j => decide (F j = f)) n)))) σ) : ∀ (m i : Nat), i + m = n → X 4 [some (.ref 63), some (.int (iI f)), some (.int (iI (fb_ct (fun j => decide (F j = f)) i))), some (.int (iI i))] [] σ
  | 0, i, hm => by
    have e : i = n := by omega
    subst e
    refine zq_X12_groupSize_4 hX _ _ _ σ (zIf_f ?_ h)
    rw [hl]
    exact Int32.lt_irrefl
  | m + 1, i, hm => by
    obtain ⟨a1, a2⟩ := hF i (by omega)
    have ek : Int32.toNatClampNeg (iI (i : Int)) = i := iI_k (by omega)
    have go := gs_loop hX hn hl hF hf h m (i + 1) (by omega)
    rw [fb_ct_succ] at go
    refine zq_X12_groupSize_4 hX _ _ _ σ (zIf_t ?_ ⟨vin_k (by show i < 60; omega) (by decide), fun b => ?_, fun b => ?_⟩)
    · rw [hl, iI_lt (by omega) (by omega) (by omega) (by omega)]; omega
    · rw [ek, a1, iI_eq (by omega) (by omega) (by omega) (by omega)] at b
      rw [show (if decide (F i = f) = true then 1 else 0) = 1 from by simp; omega] at go
      rw [iI_s, iI_s]
      exact go
    · rw [ek, a1, iI_eq (by omega) (by omega) (by omega) (by omega)] at b
      rw [show (if decide (F i = f) = true then 1 else 0) = 0 from by simp; omega] at go
      rw [iI_s, show (0 : Int32) = iI 0 from rfl, iI_add]
      exact go
theorem sp_groupSize {d n f : Nat} {F : Nat → Nat} {σ : zS} {k : Int32 → zS → Prop} (hn : n ≤ 60) (hl : σ.1 64 0 = iI n) (hF : ∀ k, k < n → σ.1 69 k = iI (F k) ∧ F k ≤ 60) (hf : f ≤ 60) (h : k (iI (fb_ct (fun j => decide (F j = f)) n)) σ) : zCall (d + 1) nX12_groupSize [.ref 63, .int (iI f)] σ (zPI k) :=
  ze_X12_groupSize _ σ (fun X hX => zq_X12_groupSize_0 hX _ σ (gs_loop (d := d) (F := F) hX hn hl hF hf ⟨_, rfl, h⟩ n 0 (by omega)))
