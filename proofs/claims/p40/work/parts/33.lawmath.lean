/-! what the law's own functions count, in the same plain numbers -/
theorem lF_step {iv : Nat} {cut : Nat → Bool} {k : Nat} (h1 : 1 ≤ iv) (hk : 1 ≤ k) : mF iv cut (k + 1) = if cut k = true ∨ k = mF iv cut k + iv then k else mF iv cut k := by
  rw [mF_succ]
  have a := mF_near h1 cut k
  have b := mF_le iv cut k
  have e : mIt iv cut k = true ↔ (cut k = true ∨ k = mF iv cut k + iv) := by
    unfold mIt mOp
    simp only [Bool.or_eq_true, decide_eq_true_eq]
    constructor
    · rintro ((h | h) | h)
      · omega
      · exact Or.inl h
      · exact Or.inr (by omega)
    · rintro (h | h)
      · exact Or.inl (Or.inr h)
      · exact Or.inr (by omega)
  by_cases c : mIt iv cut k = true
  · rw [if_pos c, if_pos (e.mp c)]
  · rw [if_neg c, if_neg (fun z => c (e.mpr z))]
/-- the last frame of its group -/
theorem lLast {n iv : Nat} {cut : Nat → Bool} {i : Nat} (hi : i < n) (h0 : i ≠ mF iv cut (i + 1)) : i - mF iv cut (i + 1) = mGl n iv cut (mF iv cut (i + 1)) - 1 ↔ (i + 1 = n ∨ mF iv cut (i + 2) ≠ mF iv cut (i + 1)) := by
  have hF := mF_lt iv cut i
  rw [mGl_spec hi]
  by_cases e : i + 1 = n
  · have e2 : n - 1 - i = 0 := by omega
    rw [e2]
    show i - mF iv cut (i + 1) = n - mF iv cut (i + 1) - 1 ↔ _
    exact ⟨fun _ => Or.inl e, fun _ => by omega⟩
  · have e2 : n - 1 - i = (n - 2 - i) + 1 := by omega
    have e3 : n - 1 - (n - 2 - i) = i + 1 := by omega
    rw [e2]
    have e4 : mEd n iv cut (n - 2 - i + 1) = if mIt iv cut (i + 1) = true then i + 1 else mEd n iv cut (n - 2 - i) := by
      simp only [mEd]
      rw [e3]
    rw [e4, show mF iv cut (i + 2) = _ from mF_succ iv cut (i + 1)]
    by_cases c : mIt iv cut (i + 1) = true
    · rw [if_pos c, if_pos c]
      exact ⟨fun _ => Or.inr (by omega), fun _ => by omega⟩
    · rw [if_neg c, if_neg c]
      obtain ⟨h1, -⟩ := mEd_spec (n := n) (iv := iv) (cut := cut) (n - 2 - i) (by omega)
      refine ⟨fun z => by omega, fun z => ?_⟩
      rcases z with z | z
      · exact absurd z e
      · exact absurd rfl z
theorem lTy {n iv br : Nat} {cut : Nat → Bool} {i : Nat} (hi : i < n) (h0 : i ≠ mF iv cut (i + 1)) : mTy n iv br cut i = if (i + 1 = n ∨ mF iv cut (i + 2) ≠ mF iv cut (i + 1)) ∨ (i - mF iv cut (i + 1)) % (br + 1) = 0 then 1 else 2 := by
  have hF := mF_lt iv cut i
  have key := lLast (n := n) hi h0
  unfold mTy
  rw [if_neg (by omega)]
  by_cases c : (i + 1 = n ∨ mF iv cut (i + 2) ≠ mF iv cut (i + 1)) ∨ (i - mF iv cut (i + 1)) % (br + 1) = 0
  · rw [if_pos c, if_pos (c.imp key.mpr id)]
  · rw [if_neg c, if_neg (fun z => c (z.imp key.mp id))]
theorem lTy0 {n iv br : Nat} {cut : Nat → Bool} {i : Nat} : mTy n iv br cut i = 0 ↔ i = mF iv cut (i + 1) := by
  have hF := mF_lt iv cut i
  unfold mTy
  by_cases e : i - mF iv cut (i + 1) = 0
  · rw [if_pos e]
    exact ⟨fun _ => by omega, fun _ => rfl⟩
  · rw [if_neg e]
    refine ⟨fun z => ?_, fun z => absurd z (by omega)⟩
    split at z <;> omega
theorem lTyI {n iv br : Nat} {cut : Nat → Bool} {i : Nat} : mTy n iv br cut i = 0 ↔ mIt iv cut i = true := by
  rw [lTy0, ← mF_it (iv := iv) (cut := cut)]
  exact ⟨fun h => h.symm, fun h => h.symm⟩
theorem lS_step {cut : Nat → Bool} {k : Nat} (hk : 1 ≤ k) : mS cut (k + 1) = mS cut k + if cut k = true then 1 else 0 := by
  have e : mOp cut k = cut k := by
    unfold mOp
    rw [decide_eq_false (by omega)]
    rfl
  show fb_ct (mOp cut) (k + 1) = _
  rw [fb_ct_succ, e]
  rfl
theorem lG_n {n iv br : Nat} {cut : Nat → Bool} : ∀ m, fb_ct (fun i => decide (mTy n iv br cut i = 0)) m = mG iv cut m := fun m => fb_ct_cong (fun k _ => by
  by_cases c : mIt iv cut k = true
  · rw [c]; exact decide_eq_true (lTyI.mpr c)
  · rw [decide_eq_false (fun z => c (lTyI.mp z))]
    simpa using c)
-- numbers of 32 bits that are not negative
theorem iI_tn (x : Int32) : iI ((x.toBitVec.toNat : Nat) : Int) = x := by
  unfold iI
  apply Int32.toBitVec_inj.1
  rw [Int32.toBitVec_ofInt]
  apply BitVec.eq_of_toNat_eq
  rw [BitVec.ofInt_natCast, BitVec.toNat_ofNat]
  exact Nat.mod_eq_of_lt x.toBitVec.isLt
theorem lAnd (x c : Int32) : ∃ r : Nat, r ≤ c.toBitVec.toNat ∧ x &&& c = iI (r : Int) := by
  refine ⟨(x &&& c).toBitVec.toNat, ?_, (iI_tn _).symm⟩
  rw [Int32.toBitVec_and, BitVec.toNat_and]
  exact Nat.and_le_right
theorem lAnd31 (x : Int32) : ∃ r : Nat, r < 2147483648 ∧ x &&& 2147483647 = iI (r : Int) := by
  obtain ⟨r, h, e⟩ := lAnd x 2147483647
  have h2 : (2147483647 : Int32).toBitVec.toNat = 2147483647 := by decide +kernel
  exact ⟨r, by omega, e⟩
theorem lAnd3 (x : Int32) : ∃ r : Nat, r ≤ 3 ∧ x &&& 3 = iI (r : Int) := by
  obtain ⟨r, h, e⟩ := lAnd x 3
  have h2 : (3 : Int32).toBitVec.toNat = 3 := by decide +kernel
  exact ⟨r, by omega, e⟩
theorem lShl : ∀ q, q < 52 → iI (mB6 (q % 6) : Int) <<< ((iI (q : Int) / 6) &&& 31) = iI (mStp q : Int) := by decide +kernel
theorem iI_18p (k : Nat) : (18 : Int32) + iI (k : Int) = iI ((18 + k : Nat) : Int) := by rw [show (18 : Int32) = iI ((18 : Nat) : Int) from rfl, iI_kk]
theorem iI_40p (k : Nat) : (40 : Int32) + iI (k : Int) = iI ((40 + k : Nat) : Int) := by rw [show (40 : Int32) = iI ((40 : Nat) : Int) from rfl, iI_kk]
