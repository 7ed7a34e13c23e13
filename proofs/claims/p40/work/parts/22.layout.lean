/-! the component's layout: what arrange leaves -/
def mCut (tx mo : Nat → Nat) (i : Nat) : Bool := decide (0 < i) && decide (3 * tx i < 2 * mo i)
/-- the bounds of a clip -/
def mB (n : Nat) (tx mo : Nat → Nat) : Prop := n ≤ 60 ∧ ∀ i, i < n → 1 ≤ tx i ∧ tx i ≤ 4000 ∧ mo i ≤ 4000
/-- the component's clip is this one -/
def kC (σ : zS) (n : Nat) (tx mo : Nat → Nat) : Prop := σ.1 1 0 = iI n ∧ (∀ i, i < n → σ.1 2 i = iI (tx i)) ∧ ∀ i, i < n → σ.1 3 i = iI (mo i)
theorem kC.fr {σ τ : zS} {n : Nat} {tx mo : Nat → Nat} (h : kC σ n tx mo) (h1 : τ.1 1 = σ.1 1) (h2 : τ.1 2 = σ.1 2) (h3 : τ.1 3 = σ.1 3) : kC τ n tx mo := by
  unfold kC at h ⊢
  rw [h1, h2, h3]
  exact h
theorem iI_p (z : Int) : iI z + 1 = iI (z + 1) := iI_add z 1
theorem iI_m (z : Int) : iI z - 1 = iI (z - 1) := iI_sub z 1
theorem iI_pm (z : Int) : iI z + (-1) = iI (z - 1) := by
  show iI z + iI (-1) = _
  rw [iI_add]
  rfl
theorem cCut_iff {σ : zS} {n i : Nat} {tx mo : Nat → Nat} (hb : mB n tx mo) (hc : kC σ n tx mo) (hi : i < n) : cCut σ (iI i) ↔ mCut tx mo i = true := by
  have h60 := hb.1
  obtain ⟨b1, b2, b3⟩ := hb.2 i hi
  unfold cCut mCut
  rw [zAt_k (show i < zN 2 from Nat.lt_of_lt_of_le hi h60), zAt_k (show i < zN 3 from Nat.lt_of_lt_of_le hi h60), hc.2.1 i hi, hc.2.2 i hi]
  rw [show (3 : Int32) = iI 3 from rfl, show (2 : Int32) = iI 2 from rfl, show (0 : Int32) = iI 0 from rfl, iI_mul, iI_mul, iI_lt (by omega) (by omega) (by omega) (by omega), iI_lt (by omega) (by omega) (by omega) (by omega)]
  simp only [Bool.and_eq_true, decide_eq_true_eq]
  omega
def kFs (iv n : Nat) (cut : Nat → Bool) (σ : zS) (i : Nat) (τ : zS) : Prop := zFr [16, 18, 19] σ τ ∧ τ.1 16 0 = iI n ∧ τ.1 16 1 = iI (mS cut i) ∧ τ.1 16 2 = iI (mG iv cut i) ∧ (∀ k, k < i → τ.1 18 k = iI ((mS cut (k + 1) : Nat) - 1 : Int)) ∧ ∀ k, k < i → τ.1 19 k = iI (mF iv cut (k + 1))
theorem kFs_next {iv n i : Nat} {cut : Nat → Bool} {σ τ S : zS} (h : kFs iv n cut σ i τ) (hi : i < 60) (h1 : zFr [16, 18, 19] σ S) (h2 : S.1 16 0 = iI n) (h3 : S.1 16 1 = iI (mS cut (i + 1))) (h4 : S.1 16 2 = iI (mG iv cut (i + 1))) (h5 : S.1 18 = τ.1 18) (h6 : S.1 19 = τ.1 19) {a b : Int32} (ha : a = iI ((mS cut (i + 1) : Nat) - 1 : Int)) (hb : b = iI (mF iv cut (i + 1))) : kFs iv n cut σ (i + 1) (zPt (zPt S 18 (iI i) a) 19 (iI i) b) := by
  rw [zPt_k (show i < zN 19 from hi), zPt_k (show i < zN 18 from hi)]
  obtain ⟨g1, g2, g3, g4, g5, g6⟩ := h
  refine ⟨(h1.si (by decide) _ _).si (by decide) _ _, ?_, ?_, ?_, fun k hk => ?_, fun k hk => ?_⟩
  · simpa [zSI_at] using h2
  · simpa [zSI_at] using h3
  · simpa [zSI_at] using h4
  · simp only [zSI_at]
    by_cases e : k = i
    · subst e; simp [ha]
    · simp [e]
      rw [h5]; exact g5 k (by omega)
  · simp only [zSI_at]
    by_cases e : k = i
    · subst e; simp [hb]
    · simp [e]
      rw [h6]; exact g6 k (by omega)
theorem fs_loop {d n iv : Nat} {tx mo : Nat → Nat} {σ : zS} {post : zPo} {X : zX} (hX : zClosed none (zCall (d + 2)) post nX3_findStarts X) (hb : mB n tx mo) (hc : kC σ n tx mo) (hiv : iv ≤ 60) (h : ∀ τ, kFs iv n (mCut tx mo) σ n τ → post none τ) : ∀ (m i : Nat) (τ : zS), i + m = n → kFs iv n (mCut tx mo) σ i τ → X 15 [some (.ref 16), some (.ref 1), some (.int (iI iv)), some (.int (iI (mF iv (mCut tx mo) i))), some (.int (iI i)), none] [] τ
  | 0, i, τ, hm, hk => by
    have e : i = n := by omega
    subst e
    refine zq_X3_findStarts_15 hX _ _ _ τ (zIf_f ?_ (h τ hk))
    rw [hk.2.1]
    exact Int32.lt_irrefl
  | m + 1, i, τ, hm, hk => by
    have h60 := hb.1
    have hin : i < n := by omega
    have hct : kC τ n tx mo := hc.fr (hk.1.1 1 (by decide)) (hk.1.1 2 (by decide)) (hk.1.1 3 (by decide))
    have hcut := cCut_iff hb hct hin
    have hF := mF_le iv (mCut tx mo) i
    have go : ∀ (S : zS) (a b : Int32), kFs iv n (mCut tx mo) σ (i + 1) S → b = iI (mF iv (mCut tx mo) (i + 1)) → X 15 [some (.ref 16), some (.ref 1), some (.int (iI iv)), some (.int b), some (.int (iI i + 1)), none] [] S := by
      intro S a b hS hb2
      rw [hb2, iI_s]
      exact fs_loop hX hb hc hiv h m (i + 1) S (by omega) hS
    have hk0 := hk
    obtain ⟨g1, g2, g3, g4, g5, g6⟩ := hk
    have hSs : ∀ it : Bool, mOp (mCut tx mo) i = it → mS (mCut tx mo) (i + 1) = mS (mCut tx mo) i + if it then 1 else 0 := fun it e => by rw [← e]; rfl
    have hGs : ∀ it : Bool, mIt iv (mCut tx mo) i = it → mG iv (mCut tx mo) (i + 1) = mG iv (mCut tx mo) i + if it then 1 else 0 := fun it e => by rw [← e]; rfl
    have open1 : mOp (mCut tx mo) i = true → X 15 [some (.ref 16), some (.ref 1), some (.int (iI iv)), some (.int (iI i)), some (.int (iI i + 1)), none] [] (zPt (zPt (zSI (zSI τ 16 1 (τ.1 16 1 + 1)) 16 2 (τ.1 16 2 + 1)) 18 (iI i) (τ.1 16 1 + 1 - 1)) 19 (iI i) (iI i)) := by
      intro ho
      have hit : mIt iv (mCut tx mo) i = true := by simp [mIt, ho]
      have e1 := hSs true ho
      have e2 := hGs true hit
      have e3 : mF iv (mCut tx mo) (i + 1) = i := mF_it.mpr hit
      refine go _ 0 _ (kFs_next hk0 (by omega) ((g1.si (by decide) _ _).si (by decide) _ _) ?_ ?_ ?_ ?_ ?_ ?_ (by rw [e3])) (by rw [e3])
      · simpa [zSI_at] using g2
      · simp only [zSI_at]
        simp
        rw [g3, e1, iI_p]; rfl
      · simp only [zSI_at]
        simp
        rw [g4, e2, iI_p]; rfl
      · exact (zSI_1 (by decide)).trans (zSI_1 (by decide))
      · exact (zSI_1 (by decide)).trans (zSI_1 (by decide))
      · rw [g3, iI_p, iI_m, e1]; rfl
    refine zq_X3_findStarts_15 hX _ _ _ τ (zIf_t ?_ ⟨fun h0 => ?_, fun h0 => ⟨fun h1 => ?_, fun h1 => ⟨fun h2 => ?_, fun h2 => ?_⟩⟩⟩)
    · rw [g2, iI_lt (by omega) (by omega) (by omega) (by omega)]; omega
    · have : i = 0 := by
        have := (iI_eq (a := (i : Int)) (b := 0) (by omega) (by omega) (by omega) (by omega)).mp h0
        omega
      exact open1 (by simp [mOp, this])
    · exact open1 (by simp [mOp, hcut.mp h1])
    · have hi0 : i ≠ 0 := fun e => h0 (by subst e; rfl)
      have hno : mOp (mCut tx mo) i = false := by
        cases hh : mCut tx mo i with
        | true => exact absurd (hcut.mpr hh) h1
        | false => simp [mOp, hi0, hh]
      rw [iI_sub, iI_lt (by omega) (by omega) (by omega) (by omega)] at h2
      have hit : mIt iv (mCut tx mo) i = false := by
        simp only [mIt, hno, Bool.false_or, decide_eq_false_iff_not]
        omega
      have e1 := hSs false hno
      have e2 := hGs false hit
      have e3 : mF iv (mCut tx mo) (i + 1) = mF iv (mCut tx mo) i := by rw [mF_succ, hit]; rfl
      refine go _ 0 _ (kFs_next hk0 (by omega) g1 g2 (by rw [g3, e1]; rfl) (by rw [g4, e2]; rfl) rfl rfl ?_ (by rw [e3])) (by rw [e3])
      rw [g3, iI_m, e1]; rfl
    · have hi0 : i ≠ 0 := fun e => h0 (by subst e; rfl)
      have hno : mOp (mCut tx mo) i = false := by
        cases hh : mCut tx mo i with
        | true => exact absurd (hcut.mpr hh) h1
        | false => simp [mOp, hi0, hh]
      rw [iI_sub, iI_lt (by omega) (by omega) (by omega) (by omega)] at h2
      have hit : mIt iv (mCut tx mo) i = true := by
        simp only [mIt, hno, Bool.false_or, decide_eq_true_eq]
        omega
      have e1 := hSs false hno
      have e2 := hGs true hit
      have e3 : mF iv (mCut tx mo) (i + 1) = i := mF_it.mpr hit
      refine go _ 0 _ (kFs_next hk0 (by omega) (g1.si (by decide) _ _) ?_ ?_ ?_ ?_ ?_ ?_ (by rw [e3])) (by rw [e3])
      · simpa [zSI_at] using g2
      · simp only [zSI_at]
        simp
        rw [g3, e1]; rfl
      · simp only [zSI_at]
        simp
        rw [g4, e2, iI_p]; rfl
      · exact zSI_1 (by decide)
      · exact zSI_1 (by decide)
      · rw [g3, iI_m, e1]; rfl
theorem sp_findStarts {d n iv : Nat} {tx mo : Nat → Nat} {σ : zS} {k : zS → Prop} (hb : mB n tx mo) (hc : kC σ n tx mo) (hl : σ.1 16 0 = iI n) (hiv : iv ≤ 60) (h : ∀ τ, kFs iv n (mCut tx mo) σ n τ → k τ) : zCall (d + 3) nX3_findStarts [.ref 16, .ref 1, .int (iI iv)] σ (zPV k) :=
  ze_X3_findStarts _ σ (fun X hX => zq_X3_findStarts_0 hX _ σ (fs_loop (d := d) (iv := iv) (σ := σ) hX hb hc hiv (fun τ ht => ⟨rfl, h τ ht⟩) n 0 _ (by omega)
    ⟨((zFr.rf _ _).si (by decide) _ _).si (by decide) _ _, by simpa [zSI_at] using hl, by simp [zSI_at]; rfl, by simp [zSI_at]; rfl, fun k hk => by omega, fun k hk => by omega⟩))
-- measureGroups
def kMg (iv n : Nat) (cut : Nat → Bool) (σ : zS) (d : Nat) (τ : zS) : Prop := zFr [20] σ τ ∧ ∀ k, n - d ≤ k → k < n → τ.1 20 k = iI (mGl n iv cut (mF iv cut (k + 1)))
theorem mg_loop {d n iv : Nat} {cut : Nat → Bool} {σ : zS} {post : zPo} {X : zX} (hX : zClosed none (zCall (d + 1)) post nX3_measureGroups X) (hn : n ≤ 60) (hF : ∀ k, k < n → σ.1 19 k = iI (mF iv cut (k + 1))) (h : ∀ τ, kMg iv n cut σ n τ → post none τ) : ∀ (m j : Nat) (τ : zS), j + m = n → kMg iv n cut σ j τ → X 12 [some (.ref 16), some (.int (iI (mEd n iv cut j))), some (.int (iI ((m : Int) - 1))), none] [] τ
  | 0, j, τ, hm, hk => by
    have e : j = n := by omega
    subst e
    refine zq_X3_measureGroups_12 hX _ _ τ (zIf_t ?_ (h τ hk))
    decide
  | m + 1, j, τ, hm, hk => by
    obtain ⟨g1, g2⟩ := hk
    have e0 : ((m + 1 : Nat) : Int) - 1 = ((m : Nat) : Int) := by omega
    have e1 : zAt τ 19 (iI (((m + 1 : Nat) : Int) - 1)) = iI (mF iv cut (m + 1)) := by
      rw [e0, zAt_k (show m < zN 19 from Nat.lt_of_lt_of_le (by omega) hn), g1.1 19 (by decide)]
      exact hF m (by omega)
    have hlt := mF_lt iv cut m
    obtain ⟨q1, q2, q3, q4⟩ := mEd_spec (n := n) (iv := iv) (cut := cut) j (by omega)
    have hgl := mGl_spec (n := n) (iv := iv) (cut := cut) (f := m) (by omega)
    rw [show n - 1 - m = j by omega] at hgl
    have hv : iI (mEd n iv cut j) - iI (mF iv cut (m + 1)) = iI (mGl n iv cut (mF iv cut (m + 1))) := by
      rw [iI_sub, hgl]
      congr 1
      omega
    have hnext : kMg iv n cut σ (j + 1) (zPt τ 20 (iI (((m + 1 : Nat) : Int) - 1)) (iI (mEd n iv cut j) - zAt τ 19 (iI (((m + 1 : Nat) : Int) - 1)))) := by
      rw [e1, hv, e0, zPt_k (show m < zN 20 from Nat.lt_of_lt_of_le (by omega) hn)]
      refine ⟨g1.si (by decide) _ _, fun k h1 h2 => ?_⟩
      rw [zSI_at]
      by_cases e : k = m
      · subst e; simp
      · rw [if_neg (fun z => e z.2)]
        exact g2 k (by omega) h2
    have e5 : iI (((m + 1 : Nat) : Int) - 1) + (-1) = iI ((m : Int) - 1) := by rw [e0, iI_pm]
    refine zq_X3_measureGroups_12 hX _ _ τ (zIf_f ?_ ⟨fun h1 => ?_, fun h1 => ?_⟩)
    · rw [show (0 : Int32) = iI 0 from rfl, iI_lt (by omega) (by omega) (by omega) (by omega)]; omega
    · rw [e1, iI_eq (by omega) (by omega) (by omega) (by omega)] at h1
      have h2 : mIt iv cut m = true := mF_it.mp (by omega)
      have h3 : mEd n iv cut (j + 1) = m := by
        simp only [mEd]
        rw [show n - 1 - j = m by omega, if_pos h2]
      have := mg_loop hX hn hF h m (j + 1) _ (by omega) hnext
      rw [h3] at this
      rw [e5, e0]
      rw [e0] at this
      exact this
    · rw [e1, iI_eq (by omega) (by omega) (by omega) (by omega)] at h1
      have h2 : ¬ mIt iv cut m = true := fun z => h1 (by rw [mF_it.mpr z]; omega)
      have h3 : mEd n iv cut (j + 1) = mEd n iv cut j := by
        simp only [mEd]
        rw [show n - 1 - j = m by omega, if_neg h2]
      have := mg_loop hX hn hF h m (j + 1) _ (by omega) hnext
      rw [h3] at this
      rw [e5]
      exact this
theorem sp_measureGroups {d n iv : Nat} {cut : Nat → Bool} {σ : zS} {k : zS → Prop} (hn : n ≤ 60) (hl : σ.1 16 0 = iI n) (hF : ∀ k, k < n → σ.1 19 k = iI (mF iv cut (k + 1))) (h : ∀ τ, kMg iv n cut σ n τ → k τ) : zCall (d + 2) nX3_measureGroups [.ref 16] σ (zPV k) := by
  refine ze_X3_measureGroups σ (fun X hX => zq_X3_measureGroups_0 hX σ ?_)
  rw [hl, iI_m]
  exact mg_loop hX hn hF (fun τ ht => ⟨rfl, h τ ht⟩) n 0 σ (by omega) ⟨zFr.rf _ _, fun k h1 h2 => by omega⟩
-- chooseTypes
def kCt (n : Nat) (ty : Nat → Nat) (σ : zS) (i : Nat) (τ : zS) : Prop := zFr [17] σ τ ∧ ∀ k, k < i → τ.1 17 k = iI (ty k)
theorem ct_loop {d n iv br : Nat} {cut : Nat → Bool} {σ : zS} {post : zPo} {X : zX} (hX : zClosed none (zCall (d + 1)) post nX3_chooseTypes X) (hn : n ≤ 60) (hbr : br ≤ 3) (hl : σ.1 16 0 = iI n) (hF : ∀ k, k < n → σ.1 19 k = iI (mF iv cut (k + 1))) (hG : ∀ k, k < n → σ.1 20 k = iI (mGl n iv cut (mF iv cut (k + 1)))) (h : ∀ τ, kCt n (mTy n iv br cut) σ n τ → post none τ) : ∀ (m i : Nat) (τ : zS), i + m = n → kCt n (mTy n iv br cut) σ i τ → X 2 [some (.ref 16), some (.int (iI br)), some (.int (iI i)), none, none] [] τ
  | 0, i, τ, hm, hk => by
    have e : i = n := by omega
    subst e
    refine zq_X3_chooseTypes_2 hX _ _ τ (zIf_f ?_ (h τ hk))
    rw [hk.1.1 16 (by decide), hl]
    exact Int32.lt_irrefl
  | m + 1, i, τ, hm, hk => by
    obtain ⟨g1, g2⟩ := hk
    have hin : i < n := by omega
    have e1 : zAt τ 19 (iI i) = iI (mF iv cut (i + 1)) := by
      rw [zAt_k (show i < zN 19 from Nat.lt_of_lt_of_le hin hn), g1.1 19 (by decide)]
      exact hF i hin
    have e2 : zAt τ 20 (iI i) = iI (mGl n iv cut (mF iv cut (i + 1))) := by
      rw [zAt_k (show i < zN 20 from Nat.lt_of_lt_of_le hin hn), g1.1 20 (by decide)]
      exact hG i hin
    have hlt := mF_lt iv cut i
    have hgl := fb_ct_le (fun j => decide (mF iv cut (j + 1) = mF iv cut (i + 1))) n
    have hgl2 : mGl n iv cut (mF iv cut (i + 1)) ≤ 60 := by unfold mGl; omega
    have hgl1 : 1 ≤ mGl n iv cut (mF iv cut (i + 1)) := by
      have := mGl_spec (n := n) (iv := iv) (cut := cut) hin
      obtain ⟨q1, q2, q3, q4⟩ := mEd_spec (n := n) (iv := iv) (cut := cut) (n - 1 - i) (by omega)
      omega
    have go : ∀ t : Nat, mTy n iv br cut i = t → X 2 [some (.ref 16), some (.int (iI br)), some (.int (iI i + 1)), none, none] [] (zPt τ 17 (iI i) (iI t)) := by
      intro t ht
      rw [iI_s, zPt_k (show i < zN 17 from Nat.lt_of_lt_of_le hin hn)]
      refine ct_loop hX hn hbr hl hF hG h m (i + 1) _ (by omega) ⟨g1.si (by decide) _ _, fun k hk => ?_⟩
      rw [zSI_at]
      by_cases e : k = i
      · subst e; rw [if_pos ⟨rfl, rfl⟩, ht]
      · rw [if_neg (fun z => e z.2)]; exact g2 k (by omega)
    have c1 : iI i - iI (mF iv cut (i + 1)) = iI ((i - mF iv cut (i + 1) : Nat) : Int) := by
      rw [iI_sub]; congr 1; omega
    have c2 : iI (mGl n iv cut (mF iv cut (i + 1))) - 1 = iI ((mGl n iv cut (mF iv cut (i + 1)) - 1 : Nat) : Int) := by
      rw [iI_m]; congr 1; omega
    refine zq_X3_chooseTypes_2 hX _ _ τ (zIf_t ?_ ?_)
    · rw [g1.1 16 (by decide), hl, iI_lt (by omega) (by omega) (by omega) (by omega)]; omega
    · rw [e1, e2, c1, c2]
      have z0 : ∀ x : Nat, x ≤ 60 → (iI (x : Int) = 0 ↔ x = 0) := fun x hx => by
        rw [show (0 : Int32) = iI 0 from rfl, iI_eq (by omega) (by omega) (by omega) (by omega)]; omega
      have hmod : ((i - mF iv cut (i + 1) : Nat) : Int) % ((br : Int) + 1) = (((i - mF iv cut (i + 1)) % (br + 1) : Nat) : Int) := (Int.natCast_emod _ _).symm
      have hml : (i - mF iv cut (i + 1)) % (br + 1) < br + 1 := Nat.mod_lt _ (by omega)
      refine ⟨fun a => ⟨fun b => ?_, fun b => ?_⟩, fun a => ⟨fun b => ?_, fun b => ⟨fun c => ?_, fun c => ?_⟩⟩⟩
      · rw [z0 _ (by omega)] at b
        exact go 0 (by unfold mTy; rw [if_pos b])
      · rw [z0 _ (by omega)] at b
        rw [iI_eq (by omega) (by omega) (by omega) (by omega)] at a
        exact go 1 (by unfold mTy; rw [if_neg b, if_pos (Or.inl (by omega))])
      · rw [z0 _ (by omega)] at b
        exact go 0 (by unfold mTy; rw [if_pos b])
      · rw [z0 _ (by omega)] at b
        obtain ⟨-, c⟩ := c
        rw [iI_p, iI_rem (by omega) (by omega) (by omega) (by omega), hmod, show (0 : Int32) = iI 0 from rfl, iI_eq (by omega) (by omega) (by omega) (by omega)] at c
        exact go 1 (by unfold mTy; rw [if_neg b, if_pos (Or.inr (by omega))])
      · rw [z0 _ (by omega)] at b
        rw [iI_eq (by omega) (by omega) (by omega) (by omega)] at a
        refine go 2 (by unfold mTy; rw [if_neg b, if_neg]; rintro (y | y)
                        · exact a (by omega)
                        · refine c ⟨?_, ?_⟩
                          · rw [iI_p, show (0 : Int32) = iI 0 from rfl, iI_eq (by omega) (by omega) (by omega) (by omega)]; omega
                          · rw [iI_p, iI_rem (by omega) (by omega) (by omega) (by omega), hmod, show (0 : Int32) = iI 0 from rfl, iI_eq (by omega) (by omega) (by omega) (by omega)]; omega)
theorem sp_chooseTypes {d n iv br : Nat} {cut : Nat → Bool} {σ : zS} {k : zS → Prop} (hn : n ≤ 60) (hbr : br ≤ 3) (hl : σ.1 16 0 = iI n) (hF : ∀ k, k < n → σ.1 19 k = iI (mF iv cut (k + 1))) (hG : ∀ k, k < n → σ.1 20 k = iI (mGl n iv cut (mF iv cut (k + 1)))) (h : ∀ τ, kCt n (mTy n iv br cut) σ n τ → k τ) : zCall (d + 2) nX3_chooseTypes [.ref 16, .int (iI br)] σ (zPV k) :=
  ze_X3_chooseTypes _ σ (fun X hX => zq_X3_chooseTypes_0 hX _ σ (ct_loop hX hn hbr hl hF hG (fun τ ht => ⟨rfl, h τ ht⟩) n 0 σ (by omega) ⟨zFr.rf _ _, fun k hk => by omega⟩))
