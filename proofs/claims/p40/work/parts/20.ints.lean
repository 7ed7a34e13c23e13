/-! numbers of 32 bits as integers -/
def iI (z : Int) : Int32 := Int32.ofInt z
def lI (z : Int) : Int64 := Int64.ofInt z
theorem iI_n (n : Nat) : nI n = iI n := Int32.ofInt_eq_ofNat.symm
theorem iI_add (a b : Int) : iI a + iI b = iI (a + b) := (Int32.ofInt_add a b).symm
theorem iI_sub (a b : Int) : iI a - iI b = iI (a - b) := by
  unfold iI
  rw [Int.sub_eq_add_neg, Int32.ofInt_add, Int32.ofInt_neg, Int32.sub_eq_add_neg]
theorem iI_mul (a b : Int) : iI a * iI b = iI (a * b) := by
  unfold iI
  refine Int32.toInt_inj.1 ?_
  rw [Int32.toInt_mul, Int32.toInt_ofInt, Int32.toInt_ofInt, Int32.toInt_ofInt]
  show (a.bmod 4294967296 * b.bmod 4294967296).bmod 4294967296 = (a * b).bmod 4294967296
  rw [Int.bmod_mul_bmod, Int.mul_bmod_bmod]
theorem iI_neg (a : Int) : -iI a = iI (-a) := (Int32.ofInt_neg a).symm
theorem iI_toInt {z : Int} (h1 : -2147483648 ≤ z) (h2 : z < 2147483648) : (iI z).toInt = z := Int32.toInt_ofInt_of_le h1 h2
theorem iI_lt {a b : Int} (h1 : -2147483648 ≤ a) (h2 : a < 2147483648) (h3 : -2147483648 ≤ b) (h4 : b < 2147483648) : iI a < iI b ↔ a < b := by
  rw [Int32.lt_iff_toInt_lt, iI_toInt h1 h2, iI_toInt h3 h4]
theorem iI_le {a b : Int} (h1 : -2147483648 ≤ a) (h2 : a < 2147483648) (h3 : -2147483648 ≤ b) (h4 : b < 2147483648) : iI a ≤ iI b ↔ a ≤ b := by
  rw [Int32.le_iff_toInt_le, iI_toInt h1 h2, iI_toInt h3 h4]
theorem iI_eq {a b : Int} (h1 : -2147483648 ≤ a) (h2 : a < 2147483648) (h3 : -2147483648 ≤ b) (h4 : b < 2147483648) : iI a = iI b ↔ a = b := by
  rw [← Int32.toInt_inj, iI_toInt h1 h2, iI_toInt h3 h4]
theorem iI_nat {z : Int} (h1 : -2147483648 ≤ z) (h2 : z < 2147483648) : (iI z).toNatClampNeg = z.toNat := Int32.toNatClampNeg_ofInt_of_le h1 h2
theorem iI_k {k : Nat} (h : k < 2147483648) : (iI (k : Int)).toNatClampNeg = k := by
  rw [iI_nat (by omega) (by omega)]
  rfl
theorem iI_div {a b : Int} (h1 : -2147483648 ≤ a) (h2 : a < 2147483648) (h3 : 0 < b) (h4 : b < 2147483648) : iI a / iI b = iI (a.tdiv b) := by
  refine Int32.toInt_inj.1 ?_
  have hb : iI b ≠ -1 := by
    intro e
    have e2 := congrArg Int32.toInt e
    rw [iI_toInt (by omega) h4] at e2
    have : ((-1 : Int32)).toInt = -1 := by decide
    omega
  rw [Int32.toInt_div_of_ne_right _ _ hb, iI_toInt h1 h2, iI_toInt (by omega) h4]
  have hh : (a.tdiv b).natAbs ≤ a.natAbs := by
    rw [Int.natAbs_tdiv]
    exact Nat.div_le_self _ _
  by_cases h0 : 0 ≤ a
  · have := Int.tdiv_nonneg h0 (Int.le_of_lt h3)
    rw [iI_toInt (by omega) (by omega)]
  · by_cases h5 : a = -2147483648
    · have : (a.tdiv b).natAbs ≤ 2147483648 := by omega
      have h6 : a.tdiv b ≤ 0 := by
        have := Int.tdiv_nonneg (a := -a) (by omega) (Int.le_of_lt h3)
        rw [Int.neg_tdiv] at this
        omega
      rw [iI_toInt (by omega) (by omega)]
    · rw [iI_toInt (by omega) (by omega)]
theorem iI_divN {a b : Int} (h1 : 0 ≤ a) (h2 : a < 2147483648) (h3 : 0 < b) (h4 : b < 2147483648) : iI a / iI b = iI (a / b) := by
  rw [iI_div (by omega) h2 h3 h4, Int.tdiv_eq_ediv_of_nonneg h1]
theorem iI_rem {a b : Int} (h1 : 0 ≤ a) (h2 : a < 2147483648) (h3 : 0 < b) (h4 : b < 2147483648) : iI a - iI a / iI b * iI b = iI (a % b) := by
  rw [iI_divN h1 h2 h3 h4, iI_mul, iI_sub, Int.emod_def, Int.mul_comm]
theorem lI_add (a b : Int) : lI a + lI b = lI (a + b) := by
  unfold lI
  exact (Int64.ofInt_add a b).symm
theorem lI_sub (a b : Int) : lI a - lI b = lI (a - b) := by
  unfold lI
  rw [Int.sub_eq_add_neg, Int64.ofInt_add, Int64.ofInt_neg, Int64.sub_eq_add_neg]
theorem lI_mul (a b : Int) : lI a * lI b = lI (a * b) := by
  unfold lI
  refine Int64.toInt_inj.1 ?_
  rw [Int64.toInt_mul, Int64.toInt_ofInt, Int64.toInt_ofInt, Int64.toInt_ofInt]
  show (a.bmod 18446744073709551616 * b.bmod 18446744073709551616).bmod 18446744073709551616 = (a * b).bmod 18446744073709551616
  rw [Int.bmod_mul_bmod, Int.mul_bmod_bmod]
theorem lI_toInt {z : Int} (h1 : -9223372036854775808 ≤ z) (h2 : z < 9223372036854775808) : (lI z).toInt = z := Int64.toInt_ofInt_of_le h1 h2
theorem lI_lt {a b : Int} (h1 : -9223372036854775808 ≤ a) (h2 : a < 9223372036854775808) (h3 : -9223372036854775808 ≤ b) (h4 : b < 9223372036854775808) : lI a < lI b ↔ a < b := by
  rw [Int64.lt_iff_toInt_lt, lI_toInt h1 h2, lI_toInt h3 h4]
theorem lI_le {a b : Int} (h1 : -9223372036854775808 ≤ a) (h2 : a < 9223372036854775808) (h3 : -9223372036854775808 ≤ b) (h4 : b < 9223372036854775808) : lI a ≤ lI b ↔ a ≤ b := by
  rw [Int64.le_iff_toInt_le, lI_toInt h1 h2, lI_toInt h3 h4]
theorem lI_eq {a b : Int} (h1 : -9223372036854775808 ≤ a) (h2 : a < 9223372036854775808) (h3 : -9223372036854775808 ≤ b) (h4 : b < 9223372036854775808) : lI a = lI b ↔ a = b := by
  rw [← Int64.toInt_inj, lI_toInt h1 h2, lI_toInt h3 h4]
theorem iI_l {z : Int} (h1 : -2147483648 ≤ z) (h2 : z < 2147483648) : (iI z).toInt64 = lI z := by
  refine Int64.toInt_inj.1 ?_
  rw [Int32.toInt_toInt64, iI_toInt h1 h2, lI_toInt (by omega) (by omega)]
theorem lI_i (z : Int) : (lI z).toInt32 = iI z := Int64.toInt32_ofInt
theorem lI_div {a b : Int} (h1 : -9223372036854775808 < a) (h2 : a < 9223372036854775808) (h3 : 0 < b) (h4 : b < 9223372036854775808) : lI a / lI b = lI (a.tdiv b) := by
  refine Int64.toInt_inj.1 ?_
  have hb : lI b ≠ -1 := by
    intro e
    have e2 := congrArg Int64.toInt e
    rw [lI_toInt (by omega) h4] at e2
    have : ((-1 : Int64)).toInt = -1 := by decide
    omega
  rw [Int64.toInt_div_of_ne_right _ _ hb, lI_toInt (by omega) h2, lI_toInt (by omega) h4]
  have hh : (a.tdiv b).natAbs ≤ a.natAbs := by
    rw [Int.natAbs_tdiv]
    exact Nat.div_le_self _ _
  rw [lI_toInt (by omega) (by omega)]
theorem zRat_lI {a b : Int} (h1 : -9223372036854775808 < a) (h2 : a < 9223372036854775808) (h3 : 0 < b) (h4 : b < 9223372036854775808) : zRat (lI a) (lI b) = lI (a.tdiv b) := by
  unfold zRat
  rw [if_neg, lI_div h1 h2 h3 h4]
  intro e
  have := (lI_eq (a := b) (b := 0) (by omega) h4 (by omega) (by omega)).mp e
  omega
-- conditions
theorem zIf_t {c A B : Prop} (h : c) (a : A) : zIf c A B := ⟨fun _ => a, fun z => absurd h z⟩
theorem zIf_f {c A B : Prop} (h : ¬ c) (b : B) : zIf c A B := ⟨fun z => absurd z h, fun _ => b⟩
theorem vin_k {k n : Nat} (h : k < n) (hn : n < 2147483648) : vp_in (iI (k : Int)) n := by
  rw [← iI_n]
  exact vp_in_nI h hn
theorem vin_z {z : Int} {n : Nat} (h0 : 0 ≤ z) (h : z < (n : Int)) (hn : n < 2147483648) : vp_in (iI z) n := by
  obtain ⟨k, rfl⟩ := Int.eq_ofNat_of_zero_le h0
  exact vin_k (by omega) hn
theorem iI_s (k : Nat) : iI (k : Int) + 1 = iI ((k + 1 : Nat) : Int) := by
  show iI (k : Int) + iI 1 = _
  rw [iI_add]
  rfl
-- reading what was written
theorem zAt_k {σ : zS} {q k : Nat} (h : k < zN q) : zAt σ q (iI (k : Int)) = σ.1 q k := by
  have h2 := zN_lt q
  unfold zAt
  rw [if_pos, iI_k (by omega)]
  rw [← iI_n]
  exact ⟨nI_le (Nat.zero_le k) (by omega), nI_lt h (by omega)⟩
theorem zAt_z {σ : zS} {q : Nat} {z : Int} (h0 : 0 ≤ z) (h : z < (zN q : Int)) : zAt σ q (iI z) = σ.1 q z.toNat := by
  obtain ⟨k, rfl⟩ := Int.eq_ofNat_of_zero_le h0
  exact zAt_k (by omega)
theorem zAtJ_k {σ : zS} {q k : Nat} (h : k < zN q) : zAtJ σ q (iI (k : Int)) = σ.2 q k := by
  have h2 := zN_lt q
  unfold zAtJ
  rw [if_pos, iI_k (by omega)]
  rw [← iI_n]
  exact ⟨nI_le (Nat.zero_le k) (by omega), nI_lt h (by omega)⟩
theorem zPt_k {σ : zS} {q k : Nat} {v : Int32} (h : k < zN q) : zPt σ q (iI (k : Int)) v = zSI σ q k v := by
  have h2 := zN_lt q
  rw [zPt_in, iI_k (by omega)]
  rw [← iI_n]
  exact ⟨nI_le (Nat.zero_le k) (by omega), nI_lt h (by omega)⟩
theorem zPtJ_k {σ : zS} {q k : Nat} {v : Int64} (h : k < zN q) : zPtJ σ q (iI (k : Int)) v = zSJ σ q k v := by
  have h2 := zN_lt q
  rw [zPtJ_in, iI_k (by omega)]
  rw [← iI_n]
  exact ⟨nI_le (Nat.zero_le k) (by omega), nI_lt h (by omega)⟩
theorem zSI_at (σ : zS) (r j : Nat) (x : Int32) (a b : Nat) : (zSI σ r j x).1 a b = if a = r ∧ b = j then x else σ.1 a b := by
  by_cases h : a = r
  · subst h
    by_cases h2 : b = j <;> simp [zSI, upd, h2]
  · simp [zSI, h]
theorem zSI_2 (σ : zS) (r j : Nat) (x : Int32) : (zSI σ r j x).2 = σ.2 := rfl
theorem zSJ_at (σ : zS) (r j : Nat) (x : Int64) (a b : Nat) : (zSJ σ r j x).2 a b = if a = r ∧ b = j then x else σ.2 a b := by
  by_cases h : a = r
  · subst h
    by_cases h2 : b = j <;> simp [zSJ, vp_updL, h2]
  · simp [zSJ, h]
theorem zSJ_i (σ : zS) (r j : Nat) (x : Int64) : (zSJ σ r j x).1 = σ.1 := rfl
theorem zSR_at (σ : zS) (r : Nat) (f : Nat → Int32) (a b : Nat) : (zSR σ r f).1 a b = if a = r then f b else σ.1 a b := by
  by_cases h : a = r <;> simp [zSR, h]
theorem zSR_2 (σ : zS) (r : Nat) (f : Nat → Int32) : (zSR σ r f).2 = σ.2 := rfl
theorem zSI_ne {σ : zS} {r j : Nat} {x : Int32} {a : Nat} (h : ¬ a = r) : (zSI σ r j x).1 a = σ.1 a := zSI_1 h
/-- nothing but these rows has changed -/
def zFr (L : List Nat) (σ τ : zS) : Prop := (∀ a, a ∉ L → τ.1 a = σ.1 a) ∧ τ.2 = σ.2
theorem zFr.rf (L : List Nat) (σ : zS) : zFr L σ σ := ⟨fun _ _ => rfl, rfl⟩
theorem zFr.si {L : List Nat} {σ τ : zS} (h : zFr L σ τ) {r : Nat} (hr : r ∈ L) (j : Nat) (x : Int32) : zFr L σ (zSI τ r j x) := ⟨fun a ha => (zSI_1 (fun e => ha (by rw [e]; exact hr))).trans (h.1 a ha), h.2⟩
theorem zFr.sr {L : List Nat} {σ τ : zS} (h : zFr L σ τ) {r : Nat} (hr : r ∈ L) (f : Nat → Int32) : zFr L σ (zSR τ r f) := ⟨fun a ha => (zSR_1 (fun e => ha (by rw [e]; exact hr))).trans (h.1 a ha), h.2⟩
theorem zFr.tr {L M : List Nat} {σ τ υ : zS} (h : zFr L σ τ) (h2 : zFr M τ υ) (hM : ∀ a, a ∈ M → a ∈ L) : zFr L σ υ := ⟨fun a ha => (h2.1 a (fun z => ha (hM a z))).trans (h.1 a ha), h2.2.trans h.2⟩
theorem zFr.wd {L M : List Nat} {σ τ : zS} (h : zFr M σ τ) (hM : ∀ a, a ∈ M → a ∈ L) : zFr L σ τ := ⟨fun a ha => h.1 a (fun z => ha (hM a z)), h.2⟩
