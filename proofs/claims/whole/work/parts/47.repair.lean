/-! repair: in numbers; the component -/
/-- the next quantizer that takes fewer bits, or -1 -/
def nxt (K u most : Nat) : Int := mFs (fun x => decide (mBi K x < mBi K u)) (most - u) (u + 1)
theorem nxt_spec {K u most : Nat} : nxt K u most = -1 ∨ ∃ x : Nat, nxt K u most = (x : Int) ∧ u < x ∧ x ≤ most ∧ mBi K x < mBi K u := by
  unfold nxt
  rcases mFs_spec (P := fun x => decide (mBi K x < mBi K u)) (most - u) (u + 1) with ⟨c, _⟩ | ⟨j, c, c1, c2, c3, _⟩
  · exact Or.inl c
  · exact Or.inr ⟨j, c, by omega, by omega, of_decide_eq_true c3⟩
def mLs (a : mA) (f u : Nat) : Nat := mLo (aw a (mSc (mCt a) f)) (mT a f) u
def mCs (a : mA) (f u x : Nat) : Int := (1000 * ((mLs a f x : Int) - mLs a f u)).tdiv ((mBi (mK a f) u : Int) - mBi (mK a f) x)
def rnx (a : mA) (q : Nat → Nat) (p : Nat) : Int := nxt (mK a (mO a p)) (q (mO a p)) (aS a 3)
def rcs (a : mA) (q : Nat → Nat) (p : Nat) : Int := mCs a (mO a p) (q (mO a p)) (rnx a q p).toNat
def chN (a : mA) (q : Nat → Nat) (p : Nat) (b : Int) : Int := if rnx a q p = -1 then b else if b < 0 then (p : Int) else if rcs a q p < rcs a q b.toNat then (p : Int) else b
def chp (a : mA) (q : Nat → Nat) : Nat → Nat → Int → Int
  | 0, _, b => b
  | m + 1, p, b => chp a q m (p + 1) (chN a q p b)
def rpU (a : mA) (q : Nat → Nat) : Int := mFs (aUp a q) (an a) 0
def rpW (a : mA) (q : Nat → Nat) : Nat := mLf (fun p => decide (aBe a q p = aS a 4)) (rpU a q).toNat
def rpP (a : mA) (q : Nat → Nat) : Int := chp a q ((rpU a q).toNat + 1 - rpW a q) (rpW a q) (-1)
def rpQ (a : mA) (q : Nat → Nat) : Nat → Nat := nU q (mO a (rpP a q).toNat) (rnx a q (rpP a q).toNat).toNat
def rpR (a : mA) : Nat → (Nat → Nat) → Nat → Option (Nat × (Nat → Nat))
  | 0, _, _ => none
  | m + 1, q, r => if rpU a q = -1 then some (r, q) else if rpP a q = -1 then none else rpR a m (rpQ a q) (r + 1)
def rpA (a : mA) : Option (Nat × (Nat → Nat)) := rpR a 3061 (aq a) 0
/-- a place that can be raised, or none -/
def chI (a : mA) (q : Nat → Nat) (b : Int) : Prop := b = -1 ∨ ∃ j : Nat, b = (j : Int) ∧ j < an a ∧ rnx a q j ≠ -1
theorem chN_I {a : mA} {q : Nat → Nat} {p : Nat} {b : Int} (hp : p < an a) (h : chI a q b) : chI a q (chN a q p b) := by
  unfold chN
  by_cases c : rnx a q p = -1
  · rw [if_pos c]; exact h
  · rw [if_neg c]
    split
    · exact Or.inr ⟨p, rfl, hp, c⟩
    · split
      · exact Or.inr ⟨p, rfl, hp, c⟩
      · exact h
theorem chp_I {a : mA} {q : Nat → Nat} : ∀ (m p : Nat) (b : Int), p + m ≤ an a → chI a q b → chI a q (chp a q m p b)
  | 0, _, _, _, h => h
  | m + 1, p, b, hm, h => chp_I m (p + 1) _ (by omega) (chN_I (by omega) h)
theorem rpU_s (a : mA) (q : Nat → Nat) : rpU a q = -1 ∨ ∃ u : Nat, rpU a q = (u : Int) ∧ u < an a := by
  unfold rpU
  rcases mFs_spec (P := aUp a q) (an a) 0 with ⟨c, _⟩ | ⟨j, c, c1, c2, _, _⟩
  · exact Or.inl c
  · exact Or.inr ⟨j, c, by omega⟩
theorem rpP_I {a : mA} {q : Nat → Nat} (hu : rpU a q ≠ -1) : chI a q (rpP a q) := by
  rcases rpU_s a q with c | ⟨u, c, c1⟩
  · exact absurd c hu
  · refine chp_I _ _ _ ?_ (Or.inl rfl)
    have := mLf_le (fun p => decide (aBe a q p = aS a 4)) u
    have e : (rpU a q).toNat = u := by rw [c]; rfl
    unfold rpW
    rw [e]
    omega
def rpM (a : mA) (q : Nat → Nat) : Nat := fb_sm (fun f => 51 - q f) (an a)
theorem rpQ_b {a : mA} {q : Nat → Nat} (hb : aB a) (hq : ∀ f, f < 60 → q f ≤ 51) {p x : Nat} (hp : p < an a) (e : rnx a q p = (x : Int)) : ∀ f, f < 60 → nU q (mO a p) x f ≤ 51 := fun f hf => by
  have := hb.2.2.2.1
  rcases nxt_spec (K := mK a (mO a p)) (u := q (mO a p)) (most := aS a 3) with c | ⟨y, c, c1, c2, c3⟩
  · have : rnx a q p = -1 := c
    omega
  · have : rnx a q p = (y : Int) := c
    by_cases ef : f = mO a p
    · rw [ef, nU_s]; omega
    · rw [nU_n ef]; exact hq f hf
theorem rpM_lt {a : mA} {q : Nat → Nat} (hb : aB a) {p x : Nat} (hp : p < an a) (e : rnx a q p = (x : Int)) : rpM a (nU q (mO a p) x) < rpM a q := by
  have ho := mO_lt (a := a) hp
  have h3 := hb.2.2.2.1
  have hx : q (mO a p) < x ∧ x ≤ 51 := by
    rcases nxt_spec (K := mK a (mO a p)) (u := q (mO a p)) (most := aS a 3) with c | ⟨y, c, c1, c2, c3⟩
    · have : rnx a q p = -1 := c
      omega
    · have : rnx a q p = (y : Int) := c
      omega
  have up := fb_sm_upd (fun f => 51 - q f) (51 - x) ho
  have e2 : fb_sm (fun f => 51 - nU q (mO a p) x f) (an a) = fb_sm (fun k => if k = mO a p then 51 - x else 51 - q k) (an a) := fb_sm_cong (fun k _ => by
    by_cases c : k = mO a p
    · rw [if_pos c, c, nU_s]
    · rw [if_neg c, nU_n c])
  unfold rpM
  rw [e2]
  have : (fun f => 51 - q f) (mO a p) = 51 - q (mO a p) := rfl
  omega
theorem mLs_b {a : mA} (hb : aB a) {f u : Nat} (hf : f < an a) (hu : u ≤ 51) : mLs a f u ≤ 19267584 := mLo_le (hb.2.2.2.2.2.2.2.2.1 _ (mSc_lt (cut := mCt a) hb.n60 hf)).2 (mTy_lt _ _ _ _ _) (by omega)
theorem mCs_b {a : mA} (hb : aB a) {f u x : Nat} (hf : f < an a) (hu : u ≤ 51) (hx : x ≤ 51) : -20000000000 ≤ mCs a f u x ∧ mCs a f u x ≤ 20000000000 := by
  have h1 := mLs_b hb hf hu
  have h2 := mLs_b hb hf hx
  unfold mCs
  have hh : ((1000 * ((mLs a f x : Int) - mLs a f u)).tdiv ((mBi (mK a f) u : Int) - mBi (mK a f) x)).natAbs ≤ (1000 * ((mLs a f x : Int) - mLs a f u)).natAbs := by
    rw [Int.natAbs_tdiv]
    exact Nat.div_le_self _ _
  generalize (1000 * ((mLs a f x : Int) - mLs a f u)).tdiv ((mBi (mK a f) u : Int) - mBi (mK a f) x) = z at hh ⊢
  omega
/-- frames but for longs -/
def zFi (L : List Nat) (σ τ : zS) : Prop := ∀ a, a ∉ L → τ.1 a = σ.1 a
theorem zFr.fi {L : List Nat} {σ τ : zS} (h : zFr L σ τ) : zFi L σ τ := h.1
theorem zFi.tr {L M : List Nat} {σ τ υ : zS} (h : zFi L σ τ) (h2 : zFi M τ υ) (hM : ∀ a, a ∈ M → a ∈ L) : zFi L σ υ := fun a ha => (h2 a (fun z => ha (hM a z))).trans (h a ha)
theorem zFi.wd {L M : List Nat} {σ τ : zS} (h : zFi M σ τ) (hM : ∀ a, a ∈ M → a ∈ L) : zFi L σ τ := fun a ha => h a (fun z => ha (hM a z))
theorem CI.fi {L : List Nat} {σ τ : zS} {v : mV} (h : CI σ v) (f : zFi L σ τ) (hL : ∀ r, r ∈ CS → r ∉ L) : CI τ v := h.of (fun r hr => f r (hL r hr))
theorem zFi.lw {L : List Nat} {σ τ : zS} (f : zFi L σ τ) (hL : ∀ r, r ∈ L → r < 63) : zLw σ τ := fun r hr => f r (fun z => by have := hL r z; omega)
theorem nx_loop {d f u : Nat} {v : mV} {σ : zS} {post : zPo} {X : zX} (hX : zClosed none (zCall (d + 2)) post nX5_nextOf X) (hv : vB v) (hC : CI σ v) (hf : f < an (va v)) (hu : u ≤ 51) : ∀ (m x : Nat), m = aS (va v) 3 + 1 - x → x ≤ 52 → post (some (.int (iI (mFs (fun x => decide (mBi (mK (va v) f) x < mBi (mK (va v) f) u)) m x)))) σ → X 15 [some (.ref 34), some (.int (iI f)), none, some (.int (iI (mBi (mK (va v) f) u))), some (.int (iI x))] [] σ
  | 0, x, hm, hx, h => by
    have b3 := hv.1.2.2.2.1.2
    refine zq_X5_nextOf_15 hX _ _ _ σ (zIf_f ?_ h)
    rw [hC.1.2.2.2.1 3 (by decide), iI_le (by omega) (by omega) (by omega) (by omega)]; omega
  | m + 1, x, hm, hx, h => by
    have b3 := hv.1.2.2.2.1.2
    have bx := (mBi_le (w := mK (va v) f) (q := x) (mWk_le hv.1.1 hf) (by omega)).2
    have bu := (mBi_le (w := mK (va v) f) (q := u) (mWk_le hv.1.1 hf) (by omega)).2
    refine zq_X5_nextOf_15 hX _ _ _ σ (zIf_t ?_ ?_)
    · rw [hC.1.2.2.2.1 3 (by decide), iI_le (by omega) (by omega) (by omega) (by omega)]; omega
    · rw [kBi hv hC hf (by omega), iI_lt (by omega) (by omega) (by omega) (by omega), iI_s]
      unfold mFs at h
      refine ⟨fun z => ?_, fun z => ?_⟩
      · rw [if_pos (decide_eq_true (by omega))] at h; exact h
      · rw [if_neg (fun y => z (by have := of_decide_eq_true y; omega))] at h
        exact nx_loop hX hv hC hf hu m (x + 1) (by omega) (by omega) h
theorem sp_nextOf {d f u : Nat} {v : mV} {σ : zS} {k : Int32 → zS → Prop} (hv : vB v) (hC : CI σ v) (hf : f < an (va v)) (hu : u ≤ 51) (h : k (iI (nxt (mK (va v) f) u (aS (va v) 3))) σ) : zCall (d + 3) nX5_nextOf [.ref 34, .int (iI f), .int (iI u)] σ (zPI k) := by
  refine ze_X5_nextOf _ _ σ (fun X hX => zq_X5_nextOf_0 hX _ _ σ ?_)
  rw [kBi hv hC hf hu, iI_s]
  exact nx_loop hX hv hC hf hu (aS (va v) 3 - u) (u + 1) (by omega) (by omega) ⟨_, rfl, h⟩
theorem sp_weighRaise {d p : Nat} {v : mV} {q : Nat → Nat} {σ : zS} {k : zS → Prop} (hv : vB v) (hC : CI σ v) (hp : p < an (va v)) (hq : ∀ f, f < 60 → q f ≤ 51) (h35 : σ.1 35 (mO (va v) p) = iI (q (mO (va v) p))) (h : ∀ τ, zFi [36] σ τ → τ.1 36 = upd (σ.1 36) p (iI (rnx (va v) q p)) → (rnx (va v) q p ≠ -1 → τ.2 37 p = lI (rcs (va v) q p)) → (∀ j, j ≠ p → τ.2 37 j = σ.2 37 j) → k τ) : zCall (d + 4) nX5_weighRaise [.ref 34, .int (iI p)] σ (zPV k) := by
  have h60 := hv.1.n60
  have b3 := hv.1.2.2.2.1.2
  have ho := mO_lt (a := va v) hp
  have hu := hq (mO (va v) p) (by omega)
  have e23 : zAt σ 23 (iI p) = iI (mO (va v) p) := by rw [zAt_k (show p < zN 23 by show p < 60; omega)]; exact hC.2.2.1.2.2.2.2.2.2.2.2.2 p hp
  have e35 : zAt σ 35 (iI (mO (va v) p)) = iI (q (mO (va v) p)) := by rw [zAt_k (show mO (va v) p < zN 35 by show mO (va v) p < 60; omega)]; exact h35
  refine ze_X5_weighRaise _ σ (fun X hX => zq_X5_weighRaise_0 hX _ σ ?_)
  rw [e23, e35]
  refine sp_nextOf (d := d) hv hC ho hu ?_
  rw [zPt_k (show p < zN 36 by show p < 60; omega), zPtJ_k (show p < zN 37 by show p < 60; omega)]
  have en : nxt (mK (va v) (mO (va v) p)) (q (mO (va v) p)) (aS (va v) 3) = rnx (va v) q p := rfl
  rw [en]
  rcases nxt_spec (K := mK (va v) (mO (va v) p)) (u := q (mO (va v) p)) (most := aS (va v) 3) with c | ⟨x, c, c1, c2, c3⟩
  · rw [en] at c
    rw [c] at h ⊢
    refine zIf_t (by decide) ⟨rfl, h _ (fun r hr => zSI_1 (fun z => hr (List.mem_singleton.mpr z))) zSI_s (fun z => absurd rfl z) (fun j hj => rfl)⟩
  · rw [en] at c
    have xb : x ≤ 51 := by omega
    have lx := mLs_b hv.1 ho xb
    have lu := mLs_b hv.1 ho hu
    have bx := (mBi_le (w := mK (va v) (mO (va v) p)) (q := x) (mWk_le hv.1.1 ho) (by omega)).2
    have bu := (mBi_le (w := mK (va v) (mO (va v) p)) (q := q (mO (va v) p)) (mWk_le hv.1.1 ho) (by omega)).2
    refine zIf_f ?_ ⟨rfl, h _ (fun r hr => zSI_1 (fun z => hr (List.mem_singleton.mpr z))) (by rw [zSJ_i]; exact zSI_s) (fun _ => ?_) (fun j hj => ?_)⟩
    · rw [c, show (-1 : Int32) = iI (-1) from by decide, iI_eq (by omega) (by omega) (by omega) (by omega)]; omega
    · rw [zSJ_at, if_pos ⟨rfl, rfl⟩, c, kBi hv hC ho xb, kBi hv hC ho hu, kLo hv hC ho xb, kLo hv hC ho hu]
      have e1 : iI (mLo (aw (va v) (mSc (mCt (va v)) (mO (va v) p))) (mT (va v) (mO (va v) p)) x : Nat) - iI (mLo (aw (va v) (mSc (mCt (va v)) (mO (va v) p))) (mT (va v) (mO (va v) p)) (q (mO (va v) p)) : Nat) = iI ((mLs (va v) (mO (va v) p) x : Int) - mLs (va v) (mO (va v) p) (q (mO (va v) p))) := iI_sub _ _
      rw [e1, iI_sub, iI_l (by omega) (by omega), iI_l (by omega) (by omega), show (1000 : Int64) = lI 1000 from rfl, lI_mul, zRat_lI (by omega) (by omega) (by omega) (by omega)]
      refine congrArg lI ?_
      unfold rcs
      rw [c]
      rfl
    · rw [zSJ_at, if_neg (fun z => hj z.2)]; rfl
theorem ch_lp {d z : Nat} {v : mV} {q : Nat → Nat} {σ : zS} {post : zPo} {X : zX} (hX : zClosed none (zCall (d + 1)) post nX5_cheapestRaise X) (hv : vB v) (hq : ∀ f, f < 60 → q f ≤ 51) (h36 : ∀ p, p < an (va v) → σ.1 36 p = iI (rnx (va v) q p)) (h37 : ∀ p, p < an (va v) → rnx (va v) q p ≠ -1 → σ.2 37 p = lI (rcs (va v) q p)) (hz : z < an (va v)) : ∀ (m p : Nat) (b : Int), p + m = z + 1 → chI (va v) q b → post (some (.int (iI (chp (va v) q m p b)))) σ → X 5 [some (.ref 34), none, some (.int (iI z)), some (.int (iI b)), some (.int (iI p)), none] [] σ
  | 0, p, b, hm, hi, h => by
    have h60 := hv.1.n60
    refine zq_X5_cheapestRaise_5 hX _ _ _ σ (zIf_f ?_ h)
    rw [iI_le (by omega) (by omega) (by omega) (by omega)]; omega
  | m + 1, p, b, hm, hi, h => by
    have h60 := hv.1.n60
    have b3 := hv.1.2.2.2.1.2
    have hp : p < an (va v) := by omega
    have go := ch_lp hX hv hq h36 h37 hz m (p + 1) (chN (va v) q p b) (by omega) (chN_I hp hi) h
    have cb : ∀ j, j < an (va v) → rnx (va v) q j ≠ -1 → -20000000000 ≤ rcs (va v) q j ∧ rcs (va v) q j ≤ 20000000000 := fun j hj hn => by
      have ho := mO_lt (a := va v) hj
      rcases nxt_spec (K := mK (va v) (mO (va v) j)) (u := q (mO (va v) j)) (most := aS (va v) 3) with c | ⟨x, c, c1, c2, c3⟩
      · exact absurd c hn
      · have c' : rnx (va v) q j = (x : Int) := c
        unfold rcs
        rw [c']
        exact mCs_b hv.1 ho (hq _ (by omega)) (by show x ≤ 51; omega)
    have e36 : zAt σ 36 (iI p) = iI (rnx (va v) q p) := by rw [zAt_k (show p < zN 36 by show p < 60; omega)]; exact h36 p hp
    have nb : rnx (va v) q p = -1 ∨ (0 ≤ rnx (va v) q p ∧ rnx (va v) q p ≤ 51) := by
      rcases nxt_spec (K := mK (va v) (mO (va v) p)) (u := q (mO (va v) p)) (most := aS (va v) 3) with c | ⟨x, c, c1, c2, c3⟩
      · exact Or.inl c
      · have c' : rnx (va v) q p = (x : Int) := c
        exact Or.inr ⟨by omega, by omega⟩
    have en : iI (rnx (va v) q p) = -1 ↔ rnx (va v) q p = -1 := by
      rw [show (-1 : Int32) = iI (-1) from by decide, iI_eq (by omega) (by omega) (by omega) (by omega)]
    have bb : b = -1 ∨ (0 ≤ b ∧ b < 60) := by
      rcases hi with c | ⟨j, c, c1, _⟩
      · exact Or.inl c
      · exact Or.inr ⟨by omega, by omega⟩
    have eb : iI b < 0 ↔ b < 0 := by
      rw [show (0 : Int32) = iI 0 from rfl, iI_lt (by omega) (by omega) (by omega) (by omega)]
    refine zq_X5_cheapestRaise_5 hX _ _ _ σ (zIf_t ?_ ?_)
    · rw [iI_le (by omega) (by omega) (by omega) (by omega)]; omega
    · rw [e36, iI_s]
      unfold chN at go
      refine ⟨fun y => ?_, fun y => ⟨fun y2 => ?_, fun y2 => ?_⟩⟩
      · rw [if_pos (en.mp y)] at go; exact go
      · rw [if_neg (fun w => y (en.mpr w)), if_pos (eb.mp y2)] at go; exact go
      · have ny : ¬ rnx (va v) q p = -1 := fun w => y (en.mpr w)
        have nb2 : ¬ b < 0 := fun w => y2 (eb.mpr w)
        obtain ⟨j, rfl, hj, hjn⟩ : ∃ j : Nat, b = (j : Int) ∧ j < an (va v) ∧ rnx (va v) q j ≠ -1 := by
          rcases hi with c | c
          · omega
          · exact c
        rw [if_neg ny, if_neg nb2, show ((j : Int)).toNat = j from rfl] at go
        have c1 := cb p hp ny
        have c2 := cb j hj hjn
        rw [zAtJ_k (show p < zN 37 by show p < 60; omega), zAtJ_k (show j < zN 37 by show j < 60; omega), h37 p hp ny, h37 j hj hjn, cmp_lt (by omega) (by omega) (by omega) (by omega)]
        refine ⟨fun w => ?_, fun w => ?_⟩
        · rw [if_pos w] at go; exact go
        · rw [if_neg w] at go; exact go
/-- what the mender holds of q -/
def kMd (v : mV) (q : Nat → Nat) (τ : zS) : Prop := CI τ v ∧ (∀ f, f < an (va v) → τ.1 35 f = iI (q f)) ∧ (∀ p, p < an (va v) → τ.1 27 p = iI (mBp (va v) q p)) ∧ (∀ p, p < an (va v) → τ.1 36 p = iI (rnx (va v) q p)) ∧ ∀ p, p < an (va v) → rnx (va v) q p ≠ -1 → τ.2 37 p = lI (rcs (va v) q p)
theorem sp_raise {d p x : Nat} {v : mV} {q : Nat → Nat} {σ : zS} {k : zS → Prop} (hv : vB v) (hK : kMd v q σ) (hp : p < an (va v)) (hq : ∀ f, f < 60 → q f ≤ 51) (hx : rnx (va v) q p = (x : Int)) (h : ∀ τ, kMd v (nU q (mO (va v) p) x) τ → zFi [27, 35, 36] σ τ → k τ) : zCall (d + 5) nX5_raise [.ref 34, .int (iI p)] σ (zPV k) := by
  have h60 := hv.1.n60
  have b3 := hv.1.2.2.2.1.2
  have ho := mO_lt (a := va v) hp
  obtain ⟨hC, k35, k27, k36, k37⟩ := hK
  have xb : x ≤ 51 := by
    rcases nxt_spec (K := mK (va v) (mO (va v) p)) (u := q (mO (va v) p)) (most := aS (va v) 3) with c | ⟨y, c, c1, c2, c3⟩
    · have : rnx (va v) q p = -1 := c
      omega
    · have : rnx (va v) q p = (y : Int) := c
      omega
  have e23 : zAt σ 23 (iI p) = iI (mO (va v) p) := by rw [zAt_k (show p < zN 23 by show p < 60; omega)]; exact hC.2.2.1.2.2.2.2.2.2.2.2.2 p hp
  have e36 : zAt σ 36 (iI p) = iI (x : Int) := by rw [zAt_k (show p < zN 36 by show p < 60; omega), k36 p hp, hx]
  refine ze_X5_raise _ σ (fun X hX => zq_X5_raise_0 hX _ σ ?_)
  rw [e23, e36, kBi hv hC ho xb, zPt_k (show mO (va v) p < zN 35 by show mO (va v) p < 60; omega), zPt_k (show p < zN 27 by show p < 60; omega)]
  have f1 : zFr [27, 35, 36] σ (zSI (zSI σ 35 (mO (va v) p) (iI (x : Int))) 27 p (iI (mBi (mK (va v) (mO (va v) p)) x))) := ((zFr.rf _ _).si (by decide) _ _).si (by decide) _ _
  have hC1 := hC.fr f1 (by decide)
  have qb := rpQ_b hv.1 hq hp hx
  have s35 : (zSI (zSI σ 35 (mO (va v) p) (iI (x : Int))) 27 p (iI (mBi (mK (va v) (mO (va v) p)) x))).1 35 = upd (σ.1 35) (mO (va v) p) (iI (x : Int)) := by rw [zSI_1 (by decide), zSI_s]
  have s27 : (zSI (zSI σ 35 (mO (va v) p) (iI (x : Int))) 27 p (iI (mBi (mK (va v) (mO (va v) p)) x))).1 27 = upd (σ.1 27) p (iI (mBi (mK (va v) (mO (va v) p)) x)) := by rw [zSI_s, zSI_1 (by decide)]
  have s36 : (zSI (zSI σ 35 (mO (va v) p) (iI (x : Int))) 27 p (iI (mBi (mK (va v) (mO (va v) p)) x))).1 36 = σ.1 36 := (zSI_1 (by decide)).trans (zSI_1 (by decide))
  have same : ∀ j, j < an (va v) → j ≠ p → nU q (mO (va v) p) x (mO (va v) j) = q (mO (va v) j) := fun j hj e => nU_n (by
    rcases Nat.lt_or_ge j p with c | c
    · exact mO_ne c hp
    · exact fun z => mO_ne (a := va v) (show p < j by omega) hj z.symm)
  have rs : ∀ j, j < an (va v) → j ≠ p → rnx (va v) (nU q (mO (va v) p) x) j = rnx (va v) q j := fun j hj e => by
    unfold rnx
    rw [same j hj e]
  have cs : ∀ j, j < an (va v) → j ≠ p → rcs (va v) (nU q (mO (va v) p) x) j = rcs (va v) q j := fun j hj e => by
    unfold rcs
    rw [same j hj e, rs j hj e]
  refine sp_weighRaise (d := d) (q := nU q (mO (va v) p) x) hv hC1 hp qb (by rw [s35, nU_s]; simp [upd]) (fun τ g1 g2 g3 g4 => ⟨rfl, h τ ⟨hC1.fi g1 (by decide), fun f hf => ?_, fun j hj => ?_, fun j hj => ?_, fun j hj hn => ?_⟩ (f1.fi.tr g1 (by decide))⟩)
  · rw [g1 35 (by decide), s35]
    exact upd_n (fun i hi e => k35 i hi) f hf
  · rw [g1 27 (by decide), s27]
    by_cases e : j = p
    · rw [e]
      simp only [upd, if_pos]
      unfold mBp
      rw [nU_s]
    · simp only [upd, if_neg e]
      rw [k27 j hj]
      unfold mBp
      rw [same j hj e]
  · rw [g2, s36]
    by_cases e : j = p
    · rw [e]; simp only [upd, if_pos]
    · simp only [upd, if_neg e]
      rw [k36 j hj, rs j hj e]
  · by_cases e : j = p
    · rw [e] at hn ⊢; exact g3 hn
    · rw [g4 j e, cs j hj e]
      rw [rs j hj e] at hn
      exact k37 j hj hn
