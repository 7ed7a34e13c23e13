/-! distribute -/
theorem cmp_c {a b : Int} (h1 : -9223372036854775808 ≤ a) (h2 : a < 9223372036854775808) (h3 : -9223372036854775808 ≤ b) (h4 : b < 9223372036854775808) : lg_cmp (lI a) (lI b) = if b < a then 1 else if a = b then 0 else -1 := by
  have l := lI_lt (a := b) (b := a) h3 h4 h1 h2
  have e := lI_eq (a := a) (b := b) h1 h2 h3 h4
  unfold lg_cmp
  by_cases c : b < a
  · rw [if_pos c, if_pos (l.mpr c)]
  · rw [if_neg c, if_neg (fun z => c (l.mp z))]
    by_cases c2 : a = b
    · rw [if_pos c2, if_pos (e.mpr c2)]
    · rw [if_neg c2, if_neg (fun z => c2 (e.mp z))]
theorem cmp_le {a b : Int} (h1 : -9223372036854775808 ≤ a) (h2 : a < 9223372036854775808) (h3 : -9223372036854775808 ≤ b) (h4 : b < 9223372036854775808) : lg_cmp (lI a) (lI b) ≤ 0 ↔ a ≤ b := by
  rw [cmp_c h1 h2 h3 h4]
  by_cases c : b < a
  · rw [if_pos c]; exact ⟨fun z => absurd z (by decide), fun z => by omega⟩
  · rw [if_neg c]
    by_cases c2 : a = b
    · rw [if_pos c2]; exact ⟨fun _ => by omega, fun _ => by decide⟩
    · rw [if_neg c2]; exact ⟨fun _ => by omega, fun _ => by decide⟩
theorem cmp_lt {a b : Int} (h1 : -9223372036854775808 ≤ a) (h2 : a < 9223372036854775808) (h3 : -9223372036854775808 ≤ b) (h4 : b < 9223372036854775808) : lg_cmp (lI a) (lI b) < 0 ↔ a < b := by
  rw [cmp_c h1 h2 h3 h4]
  by_cases c : b < a
  · rw [if_pos c]; exact ⟨fun z => absurd z (by decide), fun z => by omega⟩
  · rw [if_neg c]
    by_cases c2 : a = b
    · rw [if_pos c2]; exact ⟨fun z => absurd z (by decide), fun z => by omega⟩
    · rw [if_neg c2]; exact ⟨fun _ => by omega, fun _ => by decide⟩
theorem ex_rt : ∀ v : Nat, ∃ r, r * r ≤ v ∧ v < (r + 1) * (r + 1)
  | 0 => ⟨0, by decide, by decide⟩
  | v + 1 => by
    obtain ⟨r, h1, h2⟩ := ex_rt v
    by_cases c : v + 1 < (r + 1) * (r + 1)
    · exact ⟨r, by omega, c⟩
    · refine ⟨r + 1, by omega, ?_⟩
      have : (r + 1 + 1) * (r + 1 + 1) = (r + 1) * (r + 1) + 2 * (r + 1) + 1 := by
        simp only [Nat.add_mul, Nat.mul_add]
        omega
      omega
noncomputable def mRt (v : Nat) : Nat := Classical.choose (ex_rt v)
theorem mRt_1 (v : Nat) : mRt v * mRt v ≤ v := (Classical.choose_spec (ex_rt v)).1
theorem mRt_2 (v : Nat) : v < (mRt v + 1) * (mRt v + 1) := (Classical.choose_spec (ex_rt v)).2
theorem sq_lt {a b : Nat} (h : a * a < b * b) : a < b := Decidable.byContradiction fun c => by
  have : b * b ≤ a * a := Nat.mul_le_mul (by omega) (by omega)
  omega
theorem mRt_u {v r : Nat} (h1 : r * r ≤ v) (h2 : v < (r + 1) * (r + 1)) : r = mRt v := by
  have a1 := mRt_1 v
  have a2 := mRt_2 v
  have b1 := sq_lt (Nat.lt_of_le_of_lt h1 a2)
  have b2 := sq_lt (Nat.lt_of_le_of_lt a1 h2)
  omega
theorem mRt_b {v : Nat} (h : v < 16777216) : mRt v < 4096 := sq_lt (Nat.lt_of_le_of_lt (mRt_1 v) h)
theorem rt_loop {d v : Nat} {σ : zS} {post : zPo} {X : zX} (hX : zClosed none (zCall (d + 0)) post nX4_rootOf X) (hv : v < 16777216) (h : post (some (.int (iI (mRt v)))) σ) : ∀ (k r : Nat), r + 2 * 2 ^ k ≤ 4096 → r * r ≤ v → v < (r + 2 * 2 ^ k) * (r + 2 * 2 ^ k) → X 6 [some (.int (iI v)), some (.int (iI r)), some (.int (iI ((2 ^ k : Nat) : Int)))] [] σ
  | 0, r, h0, h1, h2 => by
    have end_ : ∀ r', r' * r' ≤ v → v < (r' + 1) * (r' + 1) → X 6 [some (.int (iI v)), some (.int (iI r')), some (.int 0)] [] σ := fun r' e1 e2 => by
      refine zq_X4_rootOf_6 hX _ _ _ σ (zIf_t (by decide) ?_)
      rw [mRt_u e1 e2]
      exact h
    have e2 : iI ((2 ^ 0 : Nat) : Int) / 2 = 0 := by decide
    have m1 : (r + 1) * (r + 1) ≤ 4096 * 4096 := Nat.mul_le_mul (by omega) (by omega)
    have e1 : (iI (r : Int) + iI ((2 ^ 0 : Nat) : Int)) * (iI (r : Int) + iI ((2 ^ 0 : Nat) : Int)) = iI (((r + 1) * (r + 1) : Nat) : Int) := by
      rw [iI_add, iI_mul, Int.natCast_mul]
      rfl
    refine zq_X4_rootOf_6 hX _ _ _ σ (zIf_f (by decide) ?_)
    rw [e1, e2, iI_kk]
    rw [iI_le (by omega) (by omega) (by omega) (by omega)]
    exact ⟨fun z => end_ (r + 1) (by omega) h2, fun z => end_ r h1 (by omega)⟩
  | k + 1, r, h0, h1, h2 => by
    have p2 : 2 ^ (k + 1) = 2 * 2 ^ k := by rw [Nat.pow_succ, Nat.mul_comm]
    have pp : 0 < 2 ^ k := Nat.pow_pos (by decide)
    rw [p2] at h0 h2 ⊢
    have e2 : iI ((2 * 2 ^ k : Nat) : Int) / 2 = iI ((2 ^ k : Nat) : Int) := by
      rw [show (2 : Int32) = iI 2 from rfl, iI_divN (by omega) (by omega) (by omega) (by omega)]
      exact congrArg iI (by omega)
    have m1 : (r + 2 * 2 ^ k) * (r + 2 * 2 ^ k) ≤ 4096 * 4096 := Nat.mul_le_mul (by omega) (by omega)
    have e1 : (iI (r : Int) + iI ((2 * 2 ^ k : Nat) : Int)) * (iI (r : Int) + iI ((2 * 2 ^ k : Nat) : Int)) = iI (((r + 2 * 2 ^ k) * (r + 2 * 2 ^ k) : Nat) : Int) := by
      rw [iI_kk, iI_mul, Int.natCast_mul]
    refine zq_X4_rootOf_6 hX _ _ _ σ (zIf_f ?_ ?_)
    · rw [show (0 : Int32) = iI 0 from rfl, iI_le (by omega) (by omega) (by omega) (by omega)]; omega
    · rw [e1, e2, iI_kk]
      rw [iI_le (by omega) (by omega) (by omega) (by omega)]
      refine ⟨fun z => ?_, fun z => ?_⟩
      · exact rt_loop hX hv h k (r + 2 * 2 ^ k) (by omega) (by omega) (by rw [show r + 2 * 2 ^ k + 2 * 2 ^ k = r + 2 * (2 * 2 ^ k) by omega]; exact h2)
      · exact rt_loop hX hv h k r (by omega) h1 (by omega)
theorem sp_rootOf {d v : Nat} {σ : zS} {k : Int32 → zS → Prop} (hv : v < 16777216) (h : k (iI (mRt v)) σ) : zCall (d + 1) nX4_rootOf [.int (iI v)] σ (zPI k) :=
  ze_X4_rootOf _ σ (fun X hX => zq_X4_rootOf_0 hX _ σ (rt_loop (d := d) hX hv ⟨_, rfl, h⟩ 11 0 (by decide) (Nat.zero_le v) hv))
theorem rrt_loop {d v : Nat} {σ : zS} {post : zPo} {X : zX} (hX : zClosed none (zCall (d + 0)) post nX12_root X) (hv : v < 16777216) (h : post (some (.int (iI (mRt v)))) σ) : ∀ (m r : Nat), r + m = mRt v → X 2 [some (.int (iI v)), some (.int (iI r))] [] σ
  | 0, r, hm => by
    have e : r = mRt v := by omega
    have b := mRt_b hv
    have m1 : (r + 1) * (r + 1) ≤ 4096 * 4096 := Nat.mul_le_mul (by omega) (by omega)
    refine zq_X12_root_2 hX _ _ σ (zIf_f ?_ ?_)
    · rw [iI_s, iI_mul, ← Int.natCast_mul, iI_le (by omega) (by omega) (by omega) (by omega)]
      have := mRt_2 v
      rw [← e] at this
      omega
    · rw [e]; exact h
  | m + 1, r, hm => by
    have b := mRt_b hv
    have m1 : (r + 1) * (r + 1) ≤ 4096 * 4096 := Nat.mul_le_mul (by omega) (by omega)
    have m2 : (r + 1) * (r + 1) ≤ mRt v * mRt v := Nat.mul_le_mul (by omega) (by omega)
    have m3 := mRt_1 v
    refine zq_X12_root_2 hX _ _ σ (zIf_t ?_ ?_)
    · rw [iI_s, iI_mul, ← Int.natCast_mul, iI_le (by omega) (by omega) (by omega) (by omega)]; omega
    · rw [iI_s]
      exact rrt_loop hX hv h m (r + 1) (by omega)
theorem sp_root {d v : Nat} {σ : zS} {k : Int32 → zS → Prop} (hv : v < 16777216) (h : k (iI (mRt v)) σ) : zCall (d + 1) nX12_root [.int (iI v)] σ (zPI k) :=
  ze_X12_root _ σ (fun X hX => zq_X12_root_0 hX _ σ (rrt_loop (d := d) hX hv ⟨_, rfl, h⟩ (mRt v) 0 (by omega)))
noncomputable def mSh (a : mA) (f : Nat) : Nat := mRt (mK a f * aw a (mSc (mCt a) f) * 64)
theorem mSh_v {a : mA} (hb : aB a) {f : Nat} (hf : f < an a) : mK a f * aw a (mSc (mCt a) f) ≤ 128000 := by
  have h1 : mK a f ≤ 16000 := mWk_le hb.1 hf
  have h2 := (hb.2.2.2.2.2.2.2.2.1 _ (mSc_lt (cut := mCt a) hb.n60 hf)).2
  have : mK a f * aw a (mSc (mCt a) f) ≤ 16000 * 8 := Nat.mul_le_mul h1 h2
  omega
theorem mSh_b {a : mA} (hb : aB a) {f : Nat} (hf : f < an a) : mSh a f < 4096 := mRt_b (by have := mSh_v hb hf; omega)
theorem mSh_0 {a : mA} (hb : aB a) (hn : 0 < an a) : 0 < mSh a 0 := by
  have ht : mT a 0 = 0 := by
    have : mF (aS a 0) (mCt a) (0 + 1) = 0 := Nat.eq_zero_of_le_zero (Nat.le_of_lt_succ (mF_lt _ _ 0))
    unfold mT mTy
    simp [this]
  have hk : 4 ≤ mK a 0 := by
    have := (hb.1.2 0 hn).1
    show 4 ≤ mWk (mT a) (atx a) (amo a) 0
    unfold mWk
    rw [if_pos ht]
    omega
  have hw := (hb.2.2.2.2.2.2.2.2.1 _ (mSc_lt (cut := mCt a) hb.n60 hn)).1
  have : 4 * 1 ≤ mK a 0 * aw a (mSc (mCt a) 0) := Nat.mul_le_mul hk hw
  refine Decidable.byContradiction fun c => ?_
  have z : mSh a 0 = 0 := by omega
  have h2 := mRt_2 (mK a 0 * aw a (mSc (mCt a) 0) * 64)
  have z2 : mRt (mK a 0 * aw a (mSc (mCt a) 0) * 64) = 0 := z
  rw [z2] at h2
  omega
noncomputable def mSs (a : mA) : Nat := fb_sm (mSh a) (an a)
theorem mSs_b {a : mA} (hb : aB a) (hn : 0 < an a) : 0 < mSs a ∧ mSs a ≤ 300000 := by
  have h1 := fb_sm_part (mSh a) hn
  have h2 := mSh_0 hb hn
  have h3 : mSs a ≤ an a * 4095 := fb_sm_bound (fun k hk => by have := mSh_b hb hk; omega)
  have h4 := hb.n60
  have h5 : fb_sm (mSh a) (an a) = mSs a := rfl
  omega
noncomputable def mTg (a : mA) (b f : Nat) : Nat := 40 + (b - 40 * an a) * mSh a f / mSs a
def mLw (K t : Nat) : Nat → Nat → Nat
  | 0, q => q
  | m + 1, q => if mBi K q ≤ t then q else mLw K t m (q + 1)
theorem mLw_b (K t : Nat) : ∀ (m q : Nat), q ≤ mLw K t m q ∧ mLw K t m q ≤ q + m
  | 0, q => ⟨Nat.le_refl q, Nat.le_refl q⟩
  | m + 1, q => by
    have := mLw_b K t m (q + 1)
    unfold mLw
    split <;> omega
noncomputable def mDq (a : mA) (b f : Nat) : Nat := mSn a f (mLw (mK a f) (mTg a b f) (aS a 3 - aS a 2) (aS a 2) : Nat)
theorem sh_iI {a : mA} (hb : aB a) {f : Nat} (hf : f < an a) : iI (mK a f : Nat) * iI (aw a (mSc (mCt a) f) : Nat) * 64 = iI ((mK a f * aw a (mSc (mCt a) f) * 64 : Nat) : Int) := by
  rw [show (64 : Int32) = iI 64 from rfl, iI_mul, iI_mul, Int.natCast_mul, Int.natCast_mul]
  rfl
theorem ws_loop {d : Nat} {v : mV} {σ : zS} {post : zPo} {X : zX} (hX : zClosed none (zCall (d + 2)) post nX4_weighShares X) (hv : vB v) (hC : CI σ v) (h : ∀ τ, zFr [33] σ τ → (∀ j, j < an (va v) → τ.1 33 j = iI (mSh (va v) j)) → post (some (.long (lI (mSs (va v))))) τ) : ∀ (m i : Nat) (τ : zS), i + m = an (va v) → zFr [33] σ τ → (∀ j, j < i → τ.1 33 j = iI (mSh (va v) j)) → X 4 [some (.ref 32), some (.long (lI (fb_sm (mSh (va v)) i))), none, some (.int (iI i)), none] [] τ
  | 0, i, τ, hm, f, g => by
    have e : i = an (va v) := by omega
    subst e
    refine zq_X4_weighShares_4 hX _ _ τ (zIf_f ?_ (h τ f g))
    rw [f.1 16 (by decide), hC.2.2.1.1]
    exact Int32.lt_irrefl
  | m + 1, i, τ, hm, f, g => by
    have h60 := hv.1.n60
    have hin : i < an (va v) := by omega
    have hs := mSc_lt (cut := mCt (va v)) h60 hin
    have e21 : zAt τ 21 (iI i) = iI (mK (va v) i) := by rw [zAt_k (show i < zN 21 by show i < 60; omega), f.1 21 (by decide)]; exact hC.2.2.1.2.2.2.2.2.2.2.1 i hin
    have eW : cWt τ (iI i) = iI (aw (va v) (mSc (mCt (va v)) i)) := cWt_iI (by omega) hs (by rw [f.1 18 (by decide)]; exact hC.2.2.1.2.2.2.2.1 i hin) (by rw [f.1 5 (by decide)]; exact hC.1.2.2.2.2.1 _ hs)
    have vb := mSh_v hv.1 hin
    have sb := mSh_b hv.1 hin
    refine zq_X4_weighShares_4 hX _ _ τ (zIf_t ?_ ?_)
    · rw [f.1 16 (by decide), hC.2.2.1.1, iI_lt (by omega) (by omega) (by omega) (by omega)]; omega
    · rw [e21, eW, sh_iI hv.1 hin, iI_s]
      refine sp_rootOf (d := d + 1) (by omega) ?_
      have em : mRt (mK (va v) i * aw (va v) (mSc (mCt (va v)) i) * 64) = mSh (va v) i := rfl
      rw [em, lI_sm (by omega), zPt_k (show i < zN 33 by show i < 60; omega)]
      refine ws_loop hX hv hC h m (i + 1) _ (by omega) (f.si (by decide) _ _) (fun j hj => ?_)
      rw [zSI_at]
      by_cases e : j = i
      · rw [if_pos ⟨rfl, e⟩, e]
      · rw [if_neg (fun z => e z.2)]; exact g j (by omega)
theorem kBi2 {σ : zS} {v : mV} {f q : Nat} (hv : vB v) (h21 : σ.1 21 f = iI (mK (va v) f)) (hst : kSt σ) (hf : f < an (va v)) (hq : q ≤ 51) : cBits σ (iI f) (iI q) = iI (mBi (mK (va v) f) q) := by
  have n60 := hv.1.n60
  exact cBits_iI (by omega) (by omega) (mWk_le hv.1.1 hf) h21 hst
theorem lw_loop2 {d f t : Nat} {v : mV} {σ : zS} {post : zPo} {X : zX} (hX : zClosed none (zCall (d + 2)) post nX4_leastWithin X) (hv : vB v) (hA : kA0 σ 1 4 (va v)) (hB : ∀ q : Nat, q ≤ 51 → cBits σ (iI f) (iI q) = iI (mBi (mK (va v) f) q)) (hf : f < an (va v)) (ht : t < 100000000000000) : ∀ (m q : Nat), q + m = aS (va v) 3 → post (some (.int (iI (mLw (mK (va v) f) t m q)))) σ → X 9 [some (.ref 32), some (.int (iI f)), some (.long (lI t)), none, some (.int (iI q))] [] σ
  | 0, q, hm, h => by
    have e : q = aS (va v) 3 := by omega
    have b3 := hv.1.2.2.2.1.2
    refine zq_X4_leastWithin_9 hX _ _ _ σ (zIf_f ?_ ?_)
    · rw [hA.2.2.2.1 3 (by decide), iI_lt (by omega) (by omega) (by omega) (by omega)]; omega
    · rw [hA.2.2.2.1 3 (by decide), ← e]; exact h
  | m + 1, q, hm, h => by
    have b3 := hv.1.2.2.2.1.2
    have bb := (mBi_le (w := mK (va v) f) (q := q) (mWk_le hv.1.1 hf) (by omega)).2
    refine zq_X4_leastWithin_9 hX _ _ _ σ (zIf_t ?_ ?_)
    · rw [hA.2.2.2.1 3 (by decide), iI_lt (by omega) (by omega) (by omega) (by omega)]; omega
    · rw [hB q (by omega), iI_l (by omega) (by omega), cmp_le (by omega) (by omega) (by omega) (by omega), iI_s]
      unfold mLw at h
      refine ⟨fun z => ?_, fun z => ?_⟩
      · rw [if_pos (by omega)] at h; exact h
      · rw [if_neg (by omega)] at h
        exact lw_loop2 hX hv hA hB hf ht m (q + 1) (by omega) h
theorem pd_loop {d b : Nat} {v : mV} {σ : zS} {post : zPo} {X : zX} (hX : zClosed none (zCall (d + 3)) post nX4_planDistributed X) (hv : vB v) (hC : CI σ v) (hb1 : b ≤ 10000000) (hsh : ∀ j, j < an (va v) → σ.1 33 j = iI (mSh (va v) j)) (h : ∀ τ, zFr [10] σ τ → (∀ j, j < an (va v) → τ.1 10 j = iI (mDq (va v) b j)) → post none τ) : ∀ (m i : Nat) (τ : zS), i + m = an (va v) → zFr [10] σ τ → (∀ j, j < i → τ.1 10 j = iI (mDq (va v) b j)) → X 23 [some (.ref 32), some (.ref 10), none, some (.long (lI (mSs (va v)))), none, some (.long (lI ((b - 40 * an (va v) : Nat) : Int))), none, some (.int (iI i)), none, none] [] τ
  | 0, i, τ, hm, f, g => by
    have e : i = an (va v) := by omega
    subst e
    refine zq_X4_planDistributed_23 hX 10 _ _ _ rfl τ (zIf_f ?_ (h τ f g))
    rw [f.1 16 (by decide), hC.2.2.1.1]
    exact Int32.lt_irrefl
  | m + 1, i, τ, hm, f, g => by
    have h60 := hv.1.n60
    have hin : i < an (va v) := by omega
    have sb := mSh_b hv.1 hin
    obtain ⟨sp1, sp2⟩ := mSs_b hv.1 (show 0 < an (va v) by omega)
    have mm : (b - 40 * an (va v)) * mSh (va v) i ≤ 10000000 * 4096 := Nat.mul_le_mul (by omega) (by omega)
    have dv : (b - 40 * an (va v)) * mSh (va v) i / mSs (va v) ≤ (b - 40 * an (va v)) * mSh (va v) i := Nat.div_le_self _ _
    have e33 : zAt τ 33 (iI i) = iI (mSh (va v) i) := by rw [zAt_k (show i < zN 33 by show i < 60; omega), f.1 33 (by decide)]; exact hsh i hin
    have et : (40 : Int64) + zRat (lI ((b - 40 * an (va v) : Nat) : Int) * Int32.toInt64 (iI (mSh (va v) i : Nat))) (lI (mSs (va v) : Nat)) = lI (mTg (va v) b i : Nat) := by
      rw [iI_l (by omega) (by omega), lI_mul, ← Int.natCast_mul, zRat_lI (by omega) (by omega) (by omega) (by omega), show (40 : Int64) = lI 40 from rfl, lI_add, Int.tdiv_eq_ediv_of_nonneg (by omega), ← Int.natCast_ediv]
      rfl
    have tb : mTg (va v) b i < 100000000000000 := by
      unfold mTg
      omega
    have lb := mLw_b (mK (va v) i) (mTg (va v) b i) (aS (va v) 3 - aS (va v) 2) (aS (va v) 2)
    have b23 := hv.1.2.2.2.1
    refine zq_X4_planDistributed_23 hX 10 _ _ _ rfl τ (zIf_t ?_ ?_)
    · rw [f.1 16 (by decide), hC.2.2.1.1, iI_lt (by omega) (by omega) (by omega) (by omega)]; omega
    · rw [e33, et, iI_s]
      have kA : kA0 τ 1 4 (va v) := hC.1.of (fun r hr => f.1 r (by revert r; decide))
      refine ze_X4_leastWithin (d := d + 2) _ _ τ (fun Y hY => zq_X4_leastWithin_0 (d := d) hY _ _ τ ?_)
      rw [kA.2.2.2.1 2 (by decide)]
      refine lw_loop2 (d := d) hY hv kA (fun q hq => kBi2 hv (by rw [f.1 21 (by decide)]; exact hC.2.2.1.2.2.2.2.2.2.2.1 i hin) (fun q hq => by rw [f.1 25 (by decide)]; exact hC.2.2.2.1 q hq) hin hq) hin tb (aS (va v) 3 - aS (va v) 2) (aS (va v) 2) (by omega) ⟨_, rfl, ?_⟩
      refine sp_settle0 (d := d + 1) hv.1 kA (by omega) (by omega) (by omega) ?_
      rw [mSn_e hv.1, zPt_k (show i < zN 10 by show i < 60; omega)]
      refine pd_loop hX hv hC hb1 hsh h m (i + 1) _ (by omega) (f.si (by decide) _ _) (fun j hj => ?_)
      rw [zSI_at]
      by_cases e : j = i
      · rw [if_pos ⟨rfl, e⟩, e]; rfl
      · rw [if_neg (fun z => e z.2)]; exact g j (by omega)
theorem sp_planDst {d b : Nat} {v : mV} {σ : zS} {k : zS → Prop} (hv : vB v) (hC : CI σ v) (hb1 : b ≤ 10000000) (hb2 : 40 * an (va v) ≤ b) (h : ∀ τ, zFr [10, 33] σ τ → (∀ j, j < an (va v) → τ.1 10 j = iI (mDq (va v) b j)) → k τ) : zCall (d + 4) nX4_planDistributed [.ref 32, .ref 10, .int (iI b)] σ (zPV k) := by
  have h60 := hv.1.n60
  refine ze_X4_planDistributed _ _ σ (fun X hX => zq_X4_planDistributed_0 hX 10 _ rfl σ ?_)
  refine ze_X4_weighShares (d := d + 2) σ (fun Y hY => zq_X4_weighShares_0 (d := d) hY σ ?_)
  refine ws_loop (d := d) (σ := σ) hY hv hC (fun τ f g => ⟨_, rfl, ?_⟩) (an (va v)) 0 σ (by omega) (zFr.rf _ _) (fun j hj => absurd hj (Nat.not_lt_zero j))
  have e : Int32.toInt64 (iI (b : Int) - 40 * τ.1 16 0) = lI ((b - 40 * an (va v) : Nat) : Int) := by
    rw [f.1 16 (by decide), hC.2.2.1.1, show (40 : Int32) = iI 40 from rfl, iI_mul, iI_sub, iI_l (by omega) (by omega)]
    exact congrArg lI (by omega)
  show X 23 [some (.ref 32), some (.ref 10), none, some (.long (lI (mSs (va v)))), none, some (.long (Int32.toInt64 (iI (b : Int) - 40 * τ.1 16 0))), none, some (.int 0), none, none] [] τ
  rw [e]
  exact pd_loop (σ := τ) hX hv (hC.fr f (by decide)) hb1 g (fun υ f2 g2 => ⟨rfl, h υ ((f.wd (by decide)).tr f2 (by decide)) g2⟩) (an (va v)) 0 τ (by omega) (zFr.rf _ _) (fun j hj => absurd hj (Nat.not_lt_zero j))
-- the reference
theorem sp_share {d f : Nat} {v : mV} {q : Nat → Nat} {σ : zS} {k : Int32 → zS → Prop} (hv : vB v) (hr : rAt σ 64 0 (aPl (va v) (amd (va v)) q)) (l : rLa σ (va v)) (hf : f < an (va v)) (h : k (iI (mSh (va v) f)) σ) : zCall (d + 2) nX12_share [.ref 63, .int (iI f)] σ (zPI k) := by
  have h60 := hv.1.n60
  have hs := mSc_lt (cut := mCt (va v)) h60 hf
  obtain ⟨b1, b2, b3⟩ := hv.1.1.2 f hf
  have r := rAt_0.mp hr
  have vb := mSh_v hv.1 hf
  refine ze_X12_share _ σ (fun X hX => zq_X12_share_0 hX _ σ ?_)
  refine sp_work (d := d) (t := mT (va v) f) (by omega) (mTy_lt _ _ _ _ _) b2 b3 (l.2.2.1 f hf) (r.2.1 f hf) (r.2.2.1 f hf) ?_
  refine sp_weight (d := d) (s := mSc (mCt (va v)) f) (w := aw (va v) (mSc (mCt (va v)) f)) (by omega) hs (l.2.2.2.1 f hf) (r.2.2.2.2.1 _ hs) ?_
  have e : iI ((if mT (va v) f = 0 then 4 * atx (va v) f else if mT (va v) f = 1 then atx (va v) f + 2 * amo (va v) f else atx (va v) f / 2 + amo (va v) f : Nat) : Int) * iI (aw (va v) (mSc (mCt (va v)) f) : Nat) * 64 = iI ((mK (va v) f * aw (va v) (mSc (mCt (va v)) f) * 64 : Nat) : Int) := sh_iI hv.1 hf
  rw [e]
  exact sp_root (d := d) (by omega) ⟨_, rfl, h⟩
theorem rlw_loop {d f t : Nat} {v : mV} {q0 : Nat → Nat} {σ : zS} {post : zPo} {X : zX} (hX : zClosed none (zCall (d + 2)) post nX12_leastWithin X) (hv : vB v) (hq0 : ∀ i, i < 60 → q0 i ≤ 51) (hr : rAt σ 64 0 (aPl (va v) (amd (va v)) q0)) (l : rLa σ (va v)) (hf : f < an (va v)) (ht : t < 100000000000000) : ∀ (m q : Nat), q + m = aS (va v) 3 → post (some (.int (iI (mLw (mK (va v) f) t m q)))) σ → X 10 [some (.ref 63), some (.int (iI f)), some (.long (lI t)), none, some (.int (iI q))] [] σ
  | 0, q, hm, h => by
    have e : q = aS (va v) 3 := by omega
    have b3 := hv.1.2.2.2.1.2
    have s3 : σ.1 64 184 = iI (aS (va v) 3) := hr.s (j := 3) (by decide)
    have bb := (mBi_le (w := mK (va v) f) (q := q) (mWk_le hv.1.1 hf) (by omega)).2
    refine zq_X12_leastWithin_10 hX _ _ _ σ (zIf_t ?_ ?_)
    · rw [s3, iI_le (by omega) (by omega) (by omega) (by omega)]; omega
    · refine sp_bits (d := d) (a := aPl (va v) (amd (va v)) q0) (hv.1.pm hq0) hr l hf (by omega) ?_
      have eb : mBi (mK (aPl (va v) (amd (va v)) q0) f) q = mBi (mK (va v) f) q := rfl
      rw [eb, iI_l (by omega) (by omega), cmp_le (by omega) (by omega) (by omega) (by omega), iI_s]
      refine ⟨fun _ => h, fun _ => zq_X12_leastWithin_10 hX _ _ _ σ (zIf_f ?_ ?_)⟩
      · rw [s3, iI_le (by omega) (by omega) (by omega) (by omega)]; omega
      · rw [s3, ← e]; exact h
  | m + 1, q, hm, h => by
    have b3 := hv.1.2.2.2.1.2
    have s3 : σ.1 64 184 = iI (aS (va v) 3) := hr.s (j := 3) (by decide)
    have bb := (mBi_le (w := mK (va v) f) (q := q) (mWk_le hv.1.1 hf) (by omega)).2
    refine zq_X12_leastWithin_10 hX _ _ _ σ (zIf_t ?_ ?_)
    · rw [s3, iI_le (by omega) (by omega) (by omega) (by omega)]; omega
    · refine sp_bits (d := d) (a := aPl (va v) (amd (va v)) q0) (hv.1.pm hq0) hr l hf (by omega) ?_
      have eb : mBi (mK (aPl (va v) (amd (va v)) q0) f) q = mBi (mK (va v) f) q := rfl
      rw [eb, iI_l (by omega) (by omega), cmp_le (by omega) (by omega) (by omega) (by omega), iI_s]
      unfold mLw at h
      refine ⟨fun z => ?_, fun z => ?_⟩
      · rw [if_pos (by omega)] at h; exact h
      · rw [if_neg (by omega)] at h
        exact rlw_loop hX hv hq0 hr l hf ht m (q + 1) (by omega) h
theorem rds1_loop {d b : Nat} {v : mV} {σ : zS} {post : zPo} {X : zX} (hX : zClosed none (zCall (d + 6)) post nX12_distribute X) (hv : vB v) (hR : RI σ v) (l : rLa σ (va v)) (h : X 77 [some (.ref 63), some (.int (iI b)), some (.long (lI (mSs (va v)))), none, some (.int 0), none, none] [] σ) : ∀ (m i : Nat), i + m = an (va v) → X 47 [some (.ref 63), some (.int (iI b)), some (.long (lI (fb_sm (mSh (va v)) i))), none, some (.int (iI i)), none, none] [] σ
  | 0, i, hm => by
    have e : i = an (va v) := by omega
    subst e
    refine zq_X12_distribute_47 hX _ _ _ σ (zIf_f ?_ h)
    rw [hR.1.1]; exact Int32.lt_irrefl
  | m + 1, i, hm => by
    have h60 := hv.1.n60
    have hin : i < an (va v) := by omega
    have sb := mSh_b hv.1 hin
    refine zq_X12_distribute_47 hX _ _ _ σ (zIf_t ?_ ?_)
    · rw [hR.1.1, iI_lt (by omega) (by omega) (by omega) (by omega)]; omega
    · refine sp_share (d := d + 4) (q := aq (va v)) hv hR.1 l hin ?_
      rw [lI_sm (by omega), iI_s]
      exact rds1_loop hX hv hR l h m (i + 1) (by omega)
theorem rds2_loop {d b : Nat} {v : mV} {σ : zS} {post : zPo} {X : zX} (hX : zClosed none (zCall (d + 6)) post nX12_distribute X) (hv : vB v) (l : rLa σ (va v)) (hb1 : b ≤ 10000000) (hb2 : 40 * an (va v) ≤ b) (hn : 0 < an (va v)) (h : ∀ τ, zFr [64] σ τ → rAt τ 64 0 (aPl (va v) (amd (va v)) (nM (mDq (va v) b) (aq (va v)) (an (va v)))) → zCall (d + 6) nX12_underflowsNow [.ref 63] (zSI τ 64 207 1) (zPI fun x8 σ7 => post (some (.int x8)) σ7)) : ∀ (m i : Nat) (τ : zS), i + m = an (va v) → zFr [64] σ τ → rAt τ 64 0 (aPl (va v) (amd (va v)) (nM (mDq (va v) b) (aq (va v)) i)) → X 77 [some (.ref 63), some (.int (iI b)), some (.long (lI (mSs (va v)))), none, some (.int (iI i)), none, none] [] τ
  | 0, i, τ, hm, f, g => by
    have e : i = an (va v) := by omega
    subst e
    refine zq_X12_distribute_77 hX _ _ _ τ (zIf_f ?_ (h τ f g))
    rw [g.1]; exact Int32.lt_irrefl
  | m + 1, i, τ, hm, f, g => by
    have h60 := hv.1.n60
    have hin : i < an (va v) := by omega
    have sb := mSh_b hv.1 hin
    obtain ⟨sp1, sp2⟩ := mSs_b hv.1 hn
    have mm : (b - 40 * an (va v)) * mSh (va v) i ≤ 10000000 * 4096 := Nat.mul_le_mul (by omega) (by omega)
    have dv : (b - 40 * an (va v)) * mSh (va v) i / mSs (va v) ≤ (b - 40 * an (va v)) * mSh (va v) i := Nat.div_le_self _ _
    have q0 : ∀ j, j < 60 → nM (mDq (va v) b) (aq (va v)) i j ≤ 51 := nM_b (fun j => mSn_b hv.1 _ _) (fun j hj => hv.1.q hj)
    have hb3 : aB (aPl (va v) (amd (va v)) (nM (mDq (va v) b) (aq (va v)) i)) := hv.1.pm q0
    have lt : rLa τ (va v) := l.of (by rw [f.1 63 (by decide)]) (by rw [f.1 63 (by decide)]) (f.1 67 (by decide)) (f.1 68 (by decide)) (f.1 69 (by decide)) (f.1 70 (by decide)) (f.1 71 (by decide))
    have et : (40 : Int64) + ((Int32.toInt64 (iI (b : Int)) - 40 * Int32.toInt64 (iI (an (va v) : Nat))) * Int32.toInt64 (iI (mSh (va v) i : Nat))) / lI (mSs (va v) : Nat) = lI (mTg (va v) b i : Nat) := by
      rw [iI_l (by omega) (by omega), iI_l (by omega) (by omega), iI_l (by omega) (by omega), show (40 : Int64) = lI 40 from rfl, lI_mul, lI_sub, show ((b : Int) - 40 * (an (va v) : Nat)) = ((b - 40 * an (va v) : Nat) : Int) by omega, lI_mul, ← Int.natCast_mul, lI_div (by omega) (by omega) (by omega) (by omega), lI_add, Int.tdiv_eq_ediv_of_nonneg (by omega), ← Int.natCast_ediv]
      rfl
    have tb : mTg (va v) b i < 100000000000000 := by
      unfold mTg
      omega
    have lb := mLw_b (mK (va v) i) (mTg (va v) b i) (aS (va v) 3 - aS (va v) 2) (aS (va v) 2)
    have b23 := hv.1.2.2.2.1
    have n0 : τ.1 64 0 = iI (an (va v)) := g.1
    refine zq_X12_distribute_77 hX _ _ _ τ (zIf_t ?_ ?_)
    · rw [n0, iI_lt (by omega) (by omega) (by omega) (by omega)]; omega
    · refine sp_share (d := d + 4) hv g lt hin ⟨?_, ?_⟩
      · rw [show (0 : Int64) = lI 0 from rfl, lI_eq (by omega) (by omega) (by omega) (by omega)]; omega
      · rw [n0, et]
        refine ze_X12_leastWithin (d := d + 5) _ _ τ (fun Y hY => zq_X12_leastWithin_0 (d := d + 3) hY _ _ τ ?_)
        have s2 : τ.1 64 183 = iI (aS (va v) 2) := g.s (j := 2) (by decide)
        rw [s2]
        refine rlw_loop (d := d + 3) hY hv q0 g lt hin tb (aS (va v) 3 - aS (va v) 2) (aS (va v) 2) (by omega) ⟨_, rfl, ?_⟩
        refine sp_settled (d := d + 4) hb3 g (by omega) (by omega) (by omega) ?_
        rw [mSn_e hb3, iI_208p, iI_k (by omega), iI_s]
        have st := g.st (x := mDq (va v) b i) hb3 (show i < 60 by omega)
        have e2 : aPl (aPl (va v) (amd (va v)) (nM (mDq (va v) b) (aq (va v)) i)) (amd (aPl (va v) (amd (va v)) (nM (mDq (va v) b) (aq (va v)) i))) (nU (aq (aPl (va v) (amd (va v)) (nM (mDq (va v) b) (aq (va v)) i))) i (mDq (va v) b i)) = aPl (va v) (amd (va v)) (nM (mDq (va v) b) (aq (va v)) (i + 1)) := by
          show aPl (va v) (amd (va v)) (nU (nM (mDq (va v) b) (aq (va v)) i) i (mDq (va v) b i)) = _
          rw [nM_s]
        rw [e2] at st
        exact ⟨vin_k (by show 208 + i < 268; omega) (by decide), rds2_loop hX hv l hb1 hb2 hn h m (i + 1) _ (by omega) (f.si (by decide) _ _) st⟩
theorem pr_distribute {p : Int32} {σ : zS} (g : G σ) : zPair nX11_distribute nX12_distribute [.int p] σ := by
  obtain ⟨v, hv, hC, hR⟩ := g
  have n60 := hv.1.n60
  by_cases c : 0 ≤ p ∧ p ≤ 10000000
  · obtain ⟨b, rfl, _, hb1⟩ := rgN (p := p) 0 10000000 (by decide) (by decide) c
    by_cases cn : an (va v) = 0
    · refine zP_I (v := v) (w := v) (-3) hv hR ?_ (fun τ hT => ?_)
      · exact ze_X11_distribute (d := 7) _ σ (fun X hX => zq_X11_distribute_0 (d := 1) hX _ σ (zIf_t c (zIf_t (by rw [hC.1.1]; exact (n0_iI n60).mpr cn) (kNo hC))))
      · exact ze_X12_distribute (d := 7) _ τ (fun X hX => zq_X12_distribute_0 (d := 1) hX _ τ (zIf_t c (zIf_t (by rw [hT.1.1]; exact (n0_iI n60).mpr cn) (rNo hT))))
    · have eb : iI (b : Int) < 40 * iI (an (va v) : Nat) ↔ b < 40 * an (va v) := by
        rw [show (40 : Int32) = iI 40 from rfl, iI_mul, iI_lt (by omega) (by omega) (by omega) (by omega)]; omega
      by_cases cb : b < 40 * an (va v)
      · refine zP_I (v := v) (w := v) (-3) hv hR ?_ (fun τ hT => ?_)
        · exact ze_X11_distribute (d := 7) _ σ (fun X hX => zq_X11_distribute_0 (d := 1) hX _ σ (zIf_t c (zIf_f (by rw [hC.1.1]; exact fun z => cn ((n0_iI n60).mp z)) (zIf_t (by rw [hC.1.1]; exact eb.mpr cb) (kNo hC)))))
        · exact ze_X12_distribute (d := 7) _ τ (fun X hX => zq_X12_distribute_0 (d := 1) hX _ τ (zIf_t c (zIf_f (by rw [hT.1.1]; exact fun z => cn ((n0_iI n60).mp z)) (zIf_t (by rw [hT.1.1]; exact eb.mpr cb) (rNo hT)))))
      · have qb : ∀ i, i < 60 → nM (mDq (va v) b) (aq (va v)) (an (va v)) i ≤ 51 := nM_b (fun j => mSn_b hv.1 _ _) (fun j hj => hv.1.q hj)
        refine zP_I (v := v) (w := vA v (aPl (va v) true (nM (mDq (va v) b) (aq (va v)) (an (va v))))) (iI (aUn (va v) (nM (mDq (va v) b) (aq (va v)) (an (va v))))) (hv.a (hv.1.pl qb (fun _ => by omega))) hR ?_ (fun τ hT => ?_)
        · refine ze_X11_distribute (d := 7) _ σ (fun X hX => zq_X11_distribute_0 (d := 1) hX _ σ (zIf_t c (zIf_f (by rw [hC.1.1]; exact fun z => cn ((n0_iI n60).mp z)) (zIf_f (by rw [hC.1.1]; exact fun z => cb (eb.mp z)) ?_))))
          refine sp_planDst (d := 3) hv hC hb1 (by omega) (fun τ f k => ?_)
          exact sp_newPlan (d := 1) hv hC (by omega) (f.wd (by decide)) (fun i hi => by rw [nM_lt hi]; exact k i hi) qb (fun υ h1 h2 => ⟨_, rfl, rfl, h1, h2⟩)
        · refine ze_X12_distribute (d := 7) _ τ (fun X hX => zq_X12_distribute_0 (d := 1) hX _ τ (zIf_t c (zIf_f (by rw [hT.1.1]; exact fun z => cn ((n0_iI n60).mp z)) (zIf_f (by rw [hT.1.1]; exact fun z => cb (eb.mp z)) ?_))))
          refine sp_ty (d := 4) hv hT (fun υ h1 h2 l => ?_)
          refine rds1_loop (d := 1) hX hv h1 l ?_ (an (va v)) 0 (by omega)
          refine rds2_loop (d := 1) (σ := υ) hX hv l hb1 (by omega) (by omega) (fun ω f k => ?_) (an (va v)) 0 υ (by omega) (zFr.rf _ _) (by rw [nM_0]; exact h1.1)
          exact sp_rNew (d := 1) hv h1 (by omega) qb k (l.of (by rw [f.1 63 (by decide)]) (by rw [f.1 63 (by decide)]) (f.1 67 (by decide)) (f.1 68 (by decide)) (f.1 69 (by decide)) (f.1 70 (by decide)) (f.1 71 (by decide))) (fun r hr => f.1 r (by revert r; decide)) (by rw [f.1 63 (by decide)]) (f.hg (by decide)) (fun ψ k1 k2 => ⟨_, rfl, rfl, k1, h2.1.tr k2⟩)
  · refine zP_I (v := v) (w := v) (-2) hv hR ?_ (fun τ hT => ?_)
    · exact ze_X11_distribute (d := 7) _ σ (fun X hX => zq_X11_distribute_0 (d := 1) hX _ σ (zIf_f c (kNo hC)))
    · exact ze_X12_distribute (d := 7) _ τ (fun X hX => zq_X12_distribute_0 (d := 1) hX _ τ (zIf_f c (rNo hT)))
