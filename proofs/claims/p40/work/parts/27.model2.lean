/-! the reference's works, bits and losses; what settles a quantizer -/
theorem aB.n60 {a : mA} (h : aB a) : an a ≤ 60 := h.1.1
theorem mSc_lt {cut : Nat → Bool} {n k : Nat} (hn : n ≤ 60) (hk : k < n) : mSc cut k < 60 := by
  have := mS_le cut (k + 1)
  unfold mSc
  omega
