/-! demand -/
def mdT (B : Nat → Nat) (f : Nat) : Nat → Nat
  | 0 => 0
  | j + 1 => mdT B f j + B (f + j)
def mdS (B : Nat → Nat) (r f j : Nat) : Int := (mdT B f (j + 1) : Int) - (r : Int) * j
def mdM (B : Nat → Nat) (r f : Nat) : Nat → Int
  | 0 => mdS B r f 0
  | j + 1 => if mdM B r f j < mdS B r f (j + 1) then mdS B r f (j + 1) else mdM B r f j
theorem mdT_b {B : Nat → Nat} {f : Nat} : ∀ {j : Nat}, (∀ i, i < j → B (f + i) ≤ 320040) → mdT B f j ≤ j * 320040
  | 0, _ => by simp [mdT]
  | j + 1, h => by
    have := mdT_b (B := B) (f := f) (j := j) (fun i hi => h i (by omega))
    have h2 := h j (by omega)
    simp only [mdT]
    omega
theorem mdS_b {B : Nat → Nat} {r f j : Nat} (hj : j < 60) (hr : r ≤ 100000) (h : ∀ i, i < j + 1 → B (f + i) ≤ 320040) : -100000000 ≤ mdS B r f j ∧ mdS B r f j ≤ 100000000 := by
  have h1 := mdT_b h
  have h2 : r * j ≤ 100000 * 60 := Nat.mul_le_mul hr (by omega)
  have h3 : ((r * j : Nat) : Int) = (r : Int) * j := Int.natCast_mul r j
  unfold mdS
  omega
theorem mdM_b {B : Nat → Nat} {r f : Nat} (hr : r ≤ 100000) : ∀ {j : Nat}, j < 60 → (∀ i, i < j + 1 → B (f + i) ≤ 320040) → -100000000 ≤ mdM B r f j ∧ mdM B r f j ≤ 100000000
  | 0, hj, h => mdS_b hj hr h
  | j + 1, hj, h => by
    have h1 := mdM_b (B := B) (f := f) hr (j := j) (by omega) (fun i hi => h i (by omega))
    have h2 := mdS_b (B := B) (f := f) hj hr h
    simp only [mdM]
    split <;> omega
theorem mdS_s (B : Nat → Nat) (r f j : Nat) : mdS B r f (j + 1) = mdS B r f j + ((B (f + (j + 1)) : Int) - r) := by
  have e : mdT B f (j + 1 + 1) = mdT B f (j + 1) + B (f + (j + 1)) := rfl
  unfold mdS
  rw [e, Int.natCast_add, Int.natCast_add, Int.mul_add, Int.mul_comm (r : Int) (1 : Nat)]
  omega
theorem fd_loop {d f z : Nat} {v : mV} {σ : zS} {post : zPo} {X : zX} (hX : zClosed none (zCall (d + 3)) post nX2_findDemand X) (hv : vB v) (hC : CI σ v) (hB : kB (va v) σ) (hz : z < an (va v)) (h : post (some (.int (iI (mdM (mBp (va v) (aq (va v))) (aS (va v) 6) f (z - f))))) σ) : ∀ (m j : Nat), f + j + m = z → X 30 [some (.ref 39), none, none, some (.int (iI z)), some (.int (iI (mdS (mBp (va v) (aq (va v))) (aS (va v) 6) f j))), some (.int (iI (mdM (mBp (va v) (aq (va v))) (aS (va v) 6) f j))), some (.int (iI ((f + j + 1 : Nat) : Int)))] [] σ
  | 0, j, hm => by
    have n60 := hv.1.n60
    have e : z - f = j := by omega
    rw [e] at h
    refine zq_X2_findDemand_30 hX _ _ _ _ σ (zIf_f ?_ h)
    rw [iI_le (by omega) (by omega) (by omega) (by omega)]; omega
  | m + 1, j, hm => by
    have n60 := hv.1.n60
    have qb : ∀ i, i < an (va v) → aq (va v) i ≤ 51 := fun i hi => hv.1.q (by omega)
    have bb : ∀ p, p < an (va v) → mBp (va v) (aq (va v)) p ≤ 320040 := fun p hp => (mBp_le hv.1 qb hp).2
    have b6 := hv.1.2.2.2.2.2.2.1
    have h1 := mdM_b (B := mBp (va v) (aq (va v))) (f := f) b6 (j := j) (by omega) (fun i hi => bb _ (by omega))
    have h2 := mdS_b (B := mBp (va v) (aq (va v))) (f := f) (j := j + 1) (by omega) b6 (fun i hi => bb _ (by omega))
    have go := fd_loop hX hv hC hB hz h m (j + 1) (by omega)
    have e27 : zAt σ 27 (iI ((f + j + 1 : Nat) : Int)) = iI (mBp (va v) (aq (va v)) (f + (j + 1))) := by
      rw [zAt_k (show f + j + 1 < zN 27 by show f + j + 1 < 60; omega)]; exact hB _ (by omega)
    refine zq_X2_findDemand_30 hX _ _ _ _ σ (zIf_t ?_ (zIf_t ?_ ?_))
    · rw [iI_le (by omega) (by omega) (by omega) (by omega)]; omega
    · rw [hC.2.2.1.1, iI_lt (by omega) (by omega) (by omega) (by omega)]; omega
    · rw [e27, hC.1.2.2.2.1 6 (by decide), iI_sub, iI_add, ← mdS_s, iI_s]
      have em : (if iI (mdM (mBp (va v) (aq (va v))) (aS (va v) 6) f j) < iI (mdS (mBp (va v) (aq (va v))) (aS (va v) 6) f (j + 1)) then iI (mdS (mBp (va v) (aq (va v))) (aS (va v) 6) f (j + 1)) else iI (mdM (mBp (va v) (aq (va v))) (aS (va v) 6) f j)) = iI (mdM (mBp (va v) (aq (va v))) (aS (va v) 6) f (j + 1)) := by
        have l := iI_lt (a := mdM (mBp (va v) (aq (va v))) (aS (va v) 6) f j) (b := mdS (mBp (va v) (aq (va v))) (aS (va v) 6) f (j + 1)) (by omega) (by omega) (by omega) (by omega)
        show _ = iI (if mdM (mBp (va v) (aq (va v))) (aS (va v) 6) f j < mdS (mBp (va v) (aq (va v))) (aS (va v) 6) f (j + 1) then mdS (mBp (va v) (aq (va v))) (aS (va v) 6) f (j + 1) else mdM (mBp (va v) (aq (va v))) (aS (va v) 6) f j)
        by_cases c : mdM (mBp (va v) (aq (va v))) (aS (va v) 6) f j < mdS (mBp (va v) (aq (va v))) (aS (va v) 6) f (j + 1)
        · rw [if_pos c, if_pos (l.mpr c)]
        · rw [if_neg c, if_neg (fun z => c (l.mp z))]
      rw [em]
      exact go
theorem rfd_loop {d f z : Nat} {v : mV} {σ : zS} {post : zPo} {X : zX} (hX : zClosed none (zCall (d + 3)) post nX12_demand X) (hv : vB v) (hR : RI σ v) (l : rLa σ (va v)) (hfz : f ≤ z) (hz : z < an (va v)) (h : post (some (.int (iI (mdM (mBp (va v) (aq (va v))) (aS (va v) 6) f (z - f))))) σ) : ∀ (m j : Nat), f + j + m = z + 1 → X 50 [some (.ref 63), some (.int (iI f)), some (.int (iI z)), some (.int (iI (mdT (mBp (va v) (aq (va v))) f j))), some (.int (iI (if j = 0 then 0 else mdM (mBp (va v) (aq (va v))) (aS (va v) 6) f (j - 1)))), some (.int (iI ((f + j : Nat) : Int))), none] [] σ
  | 0, j, hm => by
    have n60 := hv.1.n60
    have e : z - f = j - 1 := by omega
    rw [e] at h
    refine zq_X12_demand_50 hX _ _ _ _ _ σ (zIf_f ?_ ?_)
    · rw [iI_le (by omega) (by omega) (by omega) (by omega)]; omega
    · rw [if_neg (by omega)]; exact h
  | m + 1, j, hm => by
    have n60 := hv.1.n60
    have qb : ∀ i, i < an (va v) → aq (va v) i ≤ 51 := fun i hi => hv.1.q (by omega)
    have bb : ∀ p, p < an (va v) → mBp (va v) (aq (va v)) p ≤ 320040 := fun p hp => (mBp_le hv.1 qb hp).2
    have b6 := hv.1.2.2.2.2.2.2.1
    have h2 := mdS_b (B := mBp (va v) (aq (va v))) (f := f) (j := j) (by omega) b6 (fun i hi => bb _ (by omega))
    have go := rfd_loop hX hv hR l hfz hz h m (j + 1) (by omega)
    rw [if_neg (Nat.succ_ne_zero j), Nat.add_sub_cancel] at go
    have hp : f + j < an (va v) := by omega
    have ho := mO_lt (a := va v) hp
    have e71 : σ.1 71 (f + j) = iI (mO (va v) (f + j)) := l.2.2.2.2.2.2 _ hp
    have s6 : σ.1 64 187 = _ := hR.1.s (j := 6) (by decide)
    refine zq_X12_demand_50 hX _ _ _ _ _ σ (zIf_t ?_ ?_)
    · rw [iI_le (by omega) (by omega) (by omega) (by omega)]; omega
    · rw [iI_k (by omega), e71, iI_208p, iI_k (by omega), hR.1.ps hv.1 ho]
      refine ⟨vin_k (by show f + j < 60; omega) (by decide), vin_k (by show 208 + mO (va v) (f + j) < 268; omega) (by decide), ?_⟩
      refine sp_bits (d := d + 1) hv.1 hR.1 l ho (Nat.lt_succ_of_le (hv.1.q (by omega))) ?_
      have e1 : iI (mdT (mBp (va v) (aq (va v))) f j : Nat) + iI (mBi (mK (va v) (mO (va v) (f + j))) (aq (va v) (mO (va v) (f + j))) : Nat) = iI (mdT (mBp (va v) (aq (va v))) f (j + 1) : Nat) := iI_kk _ _
      have e2 : iI (mdT (mBp (va v) (aq (va v))) f (j + 1) : Nat) - iI (aS (va v) 6 : Nat) * (iI ((f + j : Nat) : Int) - iI (f : Int)) = iI (mdS (mBp (va v) (aq (va v))) (aS (va v) 6) f j) := by
        rw [iI_sub, iI_mul, iI_sub]
        refine congrArg iI ?_
        unfold mdS
        rw [show (((f + j : Nat) : Int) - f) = (j : Int) by omega]
      rw [s6, e1, e2, iI_s]
      rw [iI_eq (by omega) (by omega) (by omega) (by omega)]
      refine ⟨fun y => ?_, fun y => ?_⟩
      · have j0 : j = 0 := by omega
        subst j0
        exact go
      · have j0 : ¬ j = 0 := by omega
        have h1 := mdM_b (B := mBp (va v) (aq (va v))) (f := f) b6 (j := j - 1) (by omega) (fun i hi => bb _ (by omega))
        rw [if_neg j0]
        have em : mdM (mBp (va v) (aq (va v))) (aS (va v) 6) f j = if mdM (mBp (va v) (aq (va v))) (aS (va v) 6) f (j - 1) < mdS (mBp (va v) (aq (va v))) (aS (va v) 6) f j then mdS (mBp (va v) (aq (va v))) (aS (va v) 6) f j else mdM (mBp (va v) (aq (va v))) (aS (va v) 6) f (j - 1) := by
          cases j with
          | zero => exact absurd rfl j0
          | succ i => rfl
        rw [em] at go
        rw [iI_le (by omega) (by omega) (by omega) (by omega)]
        refine ⟨fun w => ?_, fun w => ?_⟩
        · rw [if_neg (by omega)] at go; exact go
        · rw [if_pos (by omega)] at go; exact go
theorem pr_demand {p q : Int32} {σ : zS} (g : G σ) : zPair nX11_demand nX12_demand [.int p, .int q] σ := by
  obtain ⟨v, hv, hC, hR⟩ := g
  have n60 := hv.1.n60
  by_cases c : (0 ≤ p ∧ p ≤ iI (an (va v) : Int) - 1) ∧ (p ≤ q ∧ q ≤ iI (an (va v) : Int) - 1)
  · obtain ⟨f, rfl, hf⟩ := (isF n60).mp c.1
    obtain ⟨z, rfl, hz1, hz2⟩ : ∃ z : Nat, q = iI z ∧ f ≤ z ∧ z < an (va v) := by
      have c2 := c.2
      rw [show (1 : Int32) = iI 1 from rfl, iI_sub] at c2
      obtain ⟨z, e, z1, z2⟩ := rgZ (f : Int) ((an (va v) : Int) - 1) (by omega) (by omega) (by omega) (by omega) c2
      obtain ⟨k, rfl⟩ := Int.eq_ofNat_of_zero_le (show 0 ≤ z by omega)
      exact ⟨k, e, by omega, by omega⟩
    have cz : 0 ≤ iI (z : Int) ∧ iI (z : Int) ≤ iI (an (va v) : Int) - 1 := (isF n60).mpr ⟨z, rfl, hz2⟩
    have nl : ¬ iI (z : Int) < iI (f : Int) := by rw [iI_lt (by omega) (by omega) (by omega) (by omega)]; omega
    cases hm : amd (va v) with
    | false =>
      refine zP_I (v := v) (w := v) (-3) hv hR ?_ (fun τ hT => ?_)
      · exact ze_X11_demand (d := 7) _ _ σ (fun X hX => zq_X11_demand_0 (d := 3) hX _ _ σ (zIf_t (by rw [hC.1.1]; exact c.1) (zIf_t (by rw [hC.1.1]; exact c.2) (zIf_t (hC.2.1.m.mpr hm) (kNo hC)))))
      · exact ze_X12_demand (d := 7) _ _ τ (fun X hX => zq_X12_demand_0 (d := 4) hX _ _ τ (zIf_t (by rw [hT.1.1]; exact c.1) (zIf_t (by rw [hT.1.1]; exact cz) (zIf_f nl (zIf_t ((rAt_0.mp hT.1).m.mpr hm) (rNo hT))))))
    | true =>
      refine zP_I (v := v) (w := v) (iI (mdM (mBp (va v) (aq (va v))) (aS (va v) 6) f (z - f))) hv hR ?_ (fun τ hT => ?_)
      · refine ze_X11_demand (d := 7) _ _ σ (fun X hX => zq_X11_demand_0 (d := 3) hX _ _ σ (zIf_t (by rw [hC.1.1]; exact c.1) (zIf_t (by rw [hC.1.1]; exact c.2) (zIf_f (sl_n hC.2.1.1 hm) ?_))))
        refine ze_X2_findDemand (d := 6) _ _ _ σ (fun Y hY => zq_X2_findDemand_0 (d := 3) hY _ _ _ rfl σ ?_)
        refine sp_takeBits (d := 3) (a := va v) (q := aq (va v)) rfl (by decide) rfl hv.1 hC.2.2.1 hC.2.2.2.1 (fun i hi => ⟨hC.2.1.2 hm i hi, hv.1.q (by omega)⟩) (fun υ ht => ?_)
        have hC2 := hC.fr ht.1 (by decide)
        have e27 : zAt υ 27 (iI f) = iI (mdS (mBp (va v) (aq (va v))) (aS (va v) 6) f 0) := by
          rw [zAt_k (show f < zN 27 by show f < 60; omega), ht.2 f hf]
          refine congrArg iI ?_
          unfold mdS
          show _ = ((0 + mBp (va v) (aq (va v)) (f + 0) : Nat) : Int) - _ * ((0 : Nat) : Int)
          rw [Nat.zero_add, Nat.add_zero]
          simp
        rw [e27, iI_s]
        exact fd_loop (d := 3) (f := f) (z := z) hY hv hC2 ht.2 hz2 ⟨_, rfl, _, rfl, rfl, hC2, ht.1.lw (by decide)⟩ (z - f) 0 (by omega)
      · refine ze_X12_demand (d := 7) _ _ τ (fun X hX => zq_X12_demand_0 (d := 4) hX _ _ τ (zIf_t (by rw [hT.1.1]; exact c.1) (zIf_t (by rw [hT.1.1]; exact cz) (zIf_f nl (zIf_f (sl_n (am_if (rAt_0.mp hT.1)) hm) ?_)))))
        refine sp_ty (d := 4) hv hT (fun υ h1 h2 l => ?_)
        exact rfd_loop (d := 4) (f := f) (z := z) hX hv h1 l hz1 hz2 (rOk rfl h1 h2) (z + 1 - f) 0 (by omega)
  · refine zP_I (v := v) (w := v) (-2) hv hR ?_ (fun τ hT => ?_)
    · refine ze_X11_demand (d := 7) _ _ σ (fun X hX => zq_X11_demand_0 (d := 3) hX _ _ σ ?_)
      rw [hC.1.1]
      exact ⟨fun c1 => ⟨fun c2 => absurd ⟨c1, c2⟩ c, fun _ => kNo hC⟩, fun _ => kNo hC⟩
    · refine ze_X12_demand (d := 7) _ _ τ (fun X hX => zq_X12_demand_0 (d := 4) hX _ _ τ ?_)
      rw [hT.1.1]
      refine ⟨fun c1 => ⟨fun c2 => ⟨fun _ => rNo hT, fun c3 => absurd ⟨c1, Int32.not_lt.mp c3, c2.2⟩ c⟩, fun _ => rNo hT⟩, fun _ => rNo hT⟩
