/-! total -/
theorem fb_sm_perm : ∀ (n : Nat) (f : Nat → Nat), (∀ i, i < n → f i < n) → (∀ i j, i < j → j < n → f i ≠ f j) → ∀ g : Nat → Nat, fb_sm (fun k => g (f k)) n = fb_sm g n
  | 0, _, _, _, _ => rfl
  | n + 1, f, h, h2, g => by
    obtain ⟨k, hk, ek⟩ := fb_onto h h2 (show n < n + 1 by omega)
    rw [fb_sm_succ, fb_sm_succ]
    by_cases e : k = n
    · subst e
      rw [ek]
      have := fb_sm_perm k f (fun i hi => by
        have h3 := h i (by omega)
        have h4 := h2 i k hi (by omega)
        rw [ek] at h4
        omega) (fun i j hi hj => h2 i j hi (by omega)) g
      omega
    · have e1 : ∀ i, i < n + 1 → f i = n → i = k := fun i hi ei => by
        rcases Nat.lt_trichotomy i k with c | c | c
        · exact absurd (ei.trans ek.symm) (h2 i k c hk)
        · exact c
        · exact absurd (ek.trans ei.symm) (h2 k i c hi)
      have fn : f n ≠ n := fun z => e (e1 n (by omega) z).symm
      have fn2 := h n (by omega)
      have go := fb_sm_perm n (fun i => if i = k then f n else f i) (fun i hi => by
        by_cases c : i = k
        · simp only [if_pos c]; omega
        · simp only [if_neg c]
          have h3 := h i (by omega)
          have h4 : f i ≠ n := fun z => c (e1 i (by omega) z)
          omega) (fun i j hi hj => by
        by_cases c : i = k
        · by_cases c2 : j = k
          · omega
          · simp only [if_pos c, if_neg c2]
            exact fun z => h2 j n hj (by omega) z.symm
        · by_cases c2 : j = k
          · simp only [if_neg c, if_pos c2]
            exact h2 i n (by omega) (by omega)
          · simp only [if_neg c, if_neg c2]
            exact h2 i j hi (by omega)) g
      have up := fb_sm_upd (fun i => g (f i)) (g (f n)) (show k < n by omega)
      have ee : (fun i => g (if i = k then f n else f i)) = fun i => if i = k then g (f n) else g (f i) := funext fun i => by
        by_cases c : i = k
        · simp only [if_pos c]
        · simp only [if_neg c]
      rw [ee] at go
      rw [go, ek] at up
      omega
theorem fb_ct_sm (p : Nat → Bool) : ∀ n, fb_ct p n = fb_sm (fun k => if p k = true then 1 else 0) n
  | 0 => rfl
  | n + 1 => by rw [fb_ct_succ, fb_sm_succ, fb_ct_sm p n]
def mTc (w : Nat) : Nat := if w = 0 then 1 else if w = 1 then 2 else if w = 2 then 5 else if w = 3 then 6 else 0
def mCh (a : mA) (q : Nat → Nat) (p : Nat) : Nat := if p = 0 then 0 else ((q (mO a p) : Int) - q (mO a (p - 1))).natAbs
def mTp (a : mA) (q : Nat → Nat) (w p : Nat) : Nat := if w = 4 then (if 0 < aLk a q p then 1 else 0) else if w = 6 then mCh a q p else mPn a q (mO a p) (mTc w)
def mTo (a : mA) (q : Nat → Nat) (w : Nat) : Nat := fb_sm (mTp a q w) (an a)
theorem aLk_b {a : mA} (hb : aB a) {q : Nat → Nat} (hq : ∀ i, i < an a → q i ≤ 51) {p : Nat} (hp : p < an a) : aLk a q p ≤ 320040 := by
  have := (mBp_le hb hq hp).2
  unfold aLk bLa
  omega
theorem aBe_b {a : mA} (hb : aB a) (q : Nat → Nat) (p : Nat) : aBe a q p ≤ 1000000 := Nat.le_trans (bBe_le _ _ _ _ _) hb.2.2.2.2.1.2
theorem aSp_b {a : mA} (hb : aB a) (q : Nat → Nat) (p : Nat) : aSp a q p ≤ 1100000 := by
  have h1 := bFi_le (sz := aS a 4) (rt := aS a 6) (mBp a q) hb.2.2.2.2.2.1 p
  have h2 := hb.2.2.2.2.1.2
  have h3 := hb.2.2.2.2.2.2.1
  unfold aSp bSu
  omega
theorem mPn_b {a : mA} (hb : aB a) {q : Nat → Nat} (hq : ∀ i, i < an a → q i ≤ 51) {f : Nat} (hf : f < an a) (w : Nat) : mPn a q f w ≤ 20000000 := by
  have h1 := hq f hf
  have h2 := (mBi_le (w := mK a f) (q := q f) (mWk_le hb.1 hf) (by omega)).2
  have h3 := mLo_le (w := aw a (mSc (mCt a) f)) (t := mT a f) (q := q f) (hb.2.2.2.2.2.2.2.2.1 _ (mSc_lt hb.n60 hf)).2 (mTy_lt _ _ _ _ _) (by omega)
  have hp := mP_lt (a := a) hf
  have h4 := aLk_b hb hq hp
  have h5 := aBe_b hb q (mP a f)
  have h6 := aSp_b hb q (mP a f)
  have h7 : aAf a q (mP a f) ≤ aBe a q (mP a f) := Nat.sub_le _ _
  have h2' : mBi (mK a f) (q f) ≤ 320040 := h2
  unfold mPn
  repeat' split
  all_goals omega
theorem lI_sm {s x : Nat} (hx : x < 2147483648) : lI (s : Int) + (iI (x : Int)).toInt64 = lI ((s + x : Nat) : Int) := by
  rw [iI_l (by omega) (by omega), lI_add]
  rfl
theorem mTo_c {a : mA} {q : Nat → Nat} {w : Nat} (h4 : w ≠ 4) (h6 : w ≠ 6) : fb_sm (fun f => mPn a q f (mTc w)) (an a) = mTo a q w := by
  have e := fb_sm_perm (an a) (mO a) (fun i hi => mO_lt hi) (fun i j hi hj z => by
    have := mOr_inj (ty := mT a) (n := an a) (fun z => mTy_last z) (by omega) hj z
    omega) (fun f => mPn a q f (mTc w))
  rw [← e]
  exact fb_sm_cong (fun p hp => by unfold mTp; rw [if_neg h4, if_neg h6])
theorem mTo_4 {a : mA} {q : Nat → Nat} : aUn a q = mTo a q 4 := by
  unfold aUn bU
  rw [fb_ct_sm]
  refine fb_sm_cong (fun p hp => ?_)
  show (if bUp _ _ _ _ p = true then 1 else 0) = (if 0 < aLk a q p then 1 else 0)
  have e : bUp (aS a 4) (aS a 5) (aS a 6) (mBp a q) p = true ↔ 0 < aLk a q p := bLa_up
  by_cases c : 0 < aLk a q p
  · rw [if_pos c, if_pos (e.mpr c)]
  · rw [if_neg c, if_neg (fun z => c (e.mp z))]
theorem ft_loop {d w : Nat} {v : mV} {τ : zS} {post : zPo} {X : zX} (hX : zClosed none (zCall (d + 4)) post nX11_followedTotal X) (hv : vB v) (hC : CI τ v) (hm : amd (va v) = true) (hF : kCo (va v) (aq (va v)) τ) (hw : w = 0 ∨ w = 1 ∨ w = 2 ∨ w = 3 ∨ w = 5) (h : post (some (.long (lI (mTo (va v) (aq (va v)) w)))) τ) : ∀ (m i : Nat), i + m = an (va v) → X 30 [some (.ref 0), some (.int (iI w)), some (.long (lI (fb_sm (fun f => mPn (va v) (aq (va v)) f (mTc w)) i))), none, some (.int (iI i))] [] τ
  | 0, i, hm2 => by
    have e : i = an (va v) := by omega
    subst e
    refine zq_X11_followedTotal_30 hX _ _ _ τ (zIf_f ?_ ?_)
    · rw [hC.1.1]; exact Int32.lt_irrefl
    · rw [mTo_c (by omega) (by omega)]
      exact h
  | m + 1, i, hm2 => by
    have h60 := hv.1.n60
    have hin : i < an (va v) := by omega
    have go := ft_loop hX hv hC hm hF hw h m (i + 1) (by omega)
    have qb : ∀ i, i < an (va v) → aq (va v) i ≤ 51 := fun i hi => hv.1.q (by omega)
    have st : lI (fb_sm (fun f => mPn (va v) (aq (va v)) f (mTc w)) i : Nat) + (iI (mPn (va v) (aq (va v)) i (mTc w) : Nat)).toInt64 = lI (fb_sm (fun f => mPn (va v) (aq (va v)) f (mTc w)) (i + 1) : Nat) := by
      rw [lI_sm (Nat.lt_of_le_of_lt (mPn_b hv.1 qb hin _) (by decide))]
      rfl
    rw [← st, ← iI_s] at go
    refine zq_X11_followedTotal_30 hX _ _ _ τ (zIf_t ?_ ?_)
    · rw [hC.1.1, iI_lt (by omega) (by omega) (by omega) (by omega)]; omega
    · rcases hw with rfl | rfl | rfl | rfl | rfl
      · exact zIf_t (by decide) (sp_kFf (d := d) (w := 1) hv hC hm hF hin (by decide) go)
      · exact zIf_f (by decide) (zIf_t (by decide) (sp_kFf (d := d) (w := 2) hv hC hm hF hin (by decide) go))
      · exact zIf_f (by decide) (zIf_f (by decide) (zIf_t (by decide) (sp_kFf (d := d) (w := 5) hv hC hm hF hin (by decide) go)))
      · exact zIf_f (by decide) (zIf_f (by decide) (zIf_f (by decide) (zIf_t (by decide) (sp_kFf (d := d) (w := 6) hv hC hm hF hin (by decide) go))))
      · exact zIf_f (by decide) (zIf_f (by decide) (zIf_f (by decide) (zIf_f (by decide) (sp_kFf (d := d) (w := 0) hv hC hm hF hin (by decide) go))))
theorem ch_iI {x y : Nat} (hx : x ≤ 51) (hy : y ≤ 51) : (if (0 : Int32) ≤ iI (x : Int) - iI (y : Int) then iI (x : Int) - iI (y : Int) else 0 - (iI (x : Int) - iI (y : Int))) = iI (((x : Int) - y).natAbs : Nat) := by
  have l : (0 : Int32) ≤ iI ((x : Int) - y) ↔ (0 : Int) ≤ (x : Int) - y := iI_le (a := 0) (b := (x : Int) - y) (by omega) (by omega) (by omega) (by omega)
  rw [iI_sub]
  by_cases c : (0 : Int) ≤ (x : Int) - y
  · rw [if_pos (l.mpr c)]; exact congrArg iI (by omega)
  · rw [if_neg (fun z => c (l.mp z)), show (0 : Int32) = iI 0 from rfl, iI_sub]; exact congrArg iI (by omega)
theorem ch_loop {d : Nat} {v : mV} {τ : zS} {post : zPo} {X : zX} (hX : zClosed none (zCall (d + 1)) post nX11_changesOfPlan X) (hv : vB v) (hC : CI τ v) (hm : amd (va v) = true) (h : post (some (.long (lI (mTo (va v) (aq (va v)) 6)))) τ) : ∀ (m i : Nat), i + m = an (va v) → 0 < i → X 4 [some (.ref 0), some (.long (lI (fb_sm (mTp (va v) (aq (va v)) 6) i))), none, some (.int (iI i)), none] [] τ
  | 0, i, hm2, _ => by
    have e : i = an (va v) := by omega
    subst e
    refine zq_X11_changesOfPlan_4 hX _ _ τ (zIf_f ?_ h)
    rw [hC.1.1]; exact Int32.lt_irrefl
  | m + 1, i, hm2, h0 => by
    have h60 := hv.1.n60
    have hin : i < an (va v) := by omega
    have go := ch_loop hX hv hC hm h m (i + 1) (by omega) (by omega)
    have o1 := mO_lt (a := va v) hin
    have o2 := mO_lt (a := va v) (show i - 1 < an (va v) by omega)
    have q1 := hv.1.q (show mO (va v) i < 60 by omega)
    have q2 := hv.1.q (show mO (va v) (i - 1) < 60 by omega)
    have e1 : zAt τ 23 (iI i) = iI (mO (va v) i) := by rw [zAt_k (show i < zN 23 by show i < 60; omega)]; exact hC.2.2.1.2.2.2.2.2.2.2.2.2 i hin
    have e2 : zAt τ 23 (iI (i - 1 : Nat)) = iI (mO (va v) (i - 1)) := by rw [zAt_k (show i - 1 < zN 23 by show i - 1 < 60; omega)]; exact hC.2.2.1.2.2.2.2.2.2.2.2.2 (i - 1) (by omega)
    have e3 : iI (i : Int) - 1 = iI ((i - 1 : Nat) : Int) := by rw [iI_m]; exact congrArg iI (by omega)
    have e4 : zAt τ 10 (iI (mO (va v) i)) = iI (aq (va v) (mO (va v) i)) := by rw [zAt_k (show mO (va v) i < zN 10 by show mO (va v) i < 60; omega)]; exact hC.2.1.2 hm _ o1
    have e5 : zAt τ 10 (iI (mO (va v) (i - 1))) = iI (aq (va v) (mO (va v) (i - 1))) := by rw [zAt_k (show mO (va v) (i - 1) < zN 10 by show mO (va v) (i - 1) < 60; omega)]; exact hC.2.1.2 hm _ o2
    refine zq_X11_changesOfPlan_4 hX _ _ τ (zIf_t ?_ ?_)
    · rw [hC.1.1, iI_lt (by omega) (by omega) (by omega) (by omega)]; omega
    · rw [e3, e1, e2, e4, e5, ch_iI q1 q2, lI_sm (by omega), iI_s]
      have e6 : fb_sm (mTp (va v) (aq (va v)) 6) i + ((aq (va v) (mO (va v) i) : Int) - aq (va v) (mO (va v) (i - 1))).natAbs = fb_sm (mTp (va v) (aq (va v)) 6) (i + 1) := by
        rw [fb_sm_succ]
        show _ = _ + mCh (va v) (aq (va v)) i
        unfold mCh
        rw [if_neg (by omega)]
      rw [e6]
      exact go
theorem sp_kFt {d w : Nat} {v : mV} {τ : zS} {k : Int64 → zS → Prop} (hv : vB v) (hC : CI τ v) (hm : amd (va v) = true) (hF : kCo (va v) (aq (va v)) τ) (hU : τ.1 26 0 = iI (aUn (va v) (aq (va v)))) (hw : w ≤ 6) (h : k (lI (mTo (va v) (aq (va v)) w)) τ) : zCall (d + 5) nX11_followedTotal [.ref 0, .int (iI w)] τ (zPJ k) := by
  have h60 := hv.1.n60
  have hn := hv.1.2.2.2.2.2.2.2.2.2.2.2 hm
  refine ze_X11_followedTotal _ τ (fun X hX => zq_X11_followedTotal_0 hX _ τ ?_)
  have c : (w = 0 ∨ w = 1 ∨ w = 2 ∨ w = 3 ∨ w = 5) ∨ w = 4 ∨ w = 6 := by omega
  rcases c with c | rfl | rfl
  · refine zIf_f ?_ (zIf_f ?_ (ft_loop hX hv hC hm hF c ⟨_, rfl, h⟩ (an (va v)) 0 (by omega)))
    · rw [show (4 : Int32) = iI 4 from rfl, iI_eq (by omega) (by omega) (by omega) (by omega)]; omega
    · rw [show (6 : Int32) = iI 6 from rfl, iI_eq (by omega) (by omega) (by omega) (by omega)]; omega
  · refine zIf_t (by decide) ⟨_, rfl, ?_⟩
    have u := aUn_le (va v) (aq (va v))
    rw [hU, iI_l (by omega) (by omega), mTo_4]
    exact h
  · refine zIf_f (by decide) (zIf_t (by decide) ?_)
    refine ze_X11_changesOfPlan (d := d + 3) τ (fun Y hY => zq_X11_changesOfPlan_0 (d := d + 2) hY τ ?_)
    exact ch_loop (d := d + 2) hY hv hC hm ⟨_, rfl, _, rfl, h⟩ (an (va v) - 1) 1 (by omega) (by decide)
-- the reference
theorem sp_change {d p : Nat} {v : mV} {τ : zS} {k : Int32 → zS → Prop} (hv : vB v) (hR : RI τ v) (l : rLa τ (va v)) (hp : p < an (va v)) (h : k (iI (mCh (va v) (aq (va v)) p)) τ) : zCall (d + 1) nX12_change [.ref 63, .int (iI p)] τ (zPI k) := by
  have h60 := hv.1.n60
  refine ze_X12_change _ τ (fun X hX => zq_X12_change_0 hX _ τ ?_)
  unfold mCh at h
  by_cases c : p = 0
  · rw [if_pos c] at h
    exact zIf_t (by rw [c]; rfl) ⟨_, rfl, h⟩
  · rw [if_neg c] at h
    have o1 := mO_lt (a := va v) hp
    have o2 := mO_lt (a := va v) (show p - 1 < an (va v) by omega)
    have q1 := hv.1.q (show mO (va v) p < 60 by omega)
    have q2 := hv.1.q (show mO (va v) (p - 1) < 60 by omega)
    have e3 : iI (p : Int) - 1 = iI ((p - 1 : Nat) : Int) := by rw [iI_m]; exact congrArg iI (by omega)
    have e1 : τ.1 71 p = iI (mO (va v) p) := l.2.2.2.2.2.2 p hp
    have e2 : τ.1 71 (p - 1) = iI (mO (va v) (p - 1)) := l.2.2.2.2.2.2 (p - 1) (by omega)
    refine zIf_f (by rw [show (0 : Int32) = iI 0 from rfl, iI_eq (by omega) (by omega) (by omega) (by omega)]; omega) ?_
    rw [e3, iI_k (by omega), iI_k (by omega), e1, e2, iI_208p, iI_208p, iI_k (by omega), iI_k (by omega), hR.1.ps hv.1 o1, hR.1.ps hv.1 o2]
    refine ⟨vin_k (by show p < 60; omega) (by decide), vin_k (by show 208 + mO (va v) p < 268; omega) (by decide), vin_k (by show p - 1 < 60; omega) (by decide), vin_k (by show 208 + mO (va v) (p - 1) < 268; omega) (by decide), ?_⟩
    rw [iI_sub, show (0 : Int32) = iI 0 from rfl, iI_lt (by omega) (by omega) (by omega) (by omega), iI_neg]
    refine ⟨fun z => ⟨_, rfl, ?_⟩, fun z => ⟨_, rfl, ?_⟩⟩
    · rw [show (-((aq (va v) (mO (va v) p) : Int) - aq (va v) (mO (va v) (p - 1)))) = (((aq (va v) (mO (va v) p) : Int) - aq (va v) (mO (va v) (p - 1))).natAbs : Int) by omega]
      exact h
    · rw [show ((aq (va v) (mO (va v) p) : Int) - aq (va v) (mO (va v) (p - 1))) = (((aq (va v) (mO (va v) p) : Int) - aq (va v) (mO (va v) (p - 1))).natAbs : Int) by omega]
      exact h
theorem su_loop {d w : Nat} {v : mV} {τ : zS} {post : zPo} {X : zX} (hX : zClosed none (zCall (d + 2)) post nX12_sumOf X) (hv : vB v) (hR : RI τ v) (l : rLa τ (va v)) (hF : rCoo (va v) τ) (hw : w ≤ 6) (h : post (some (.long (lI (mTo (va v) (aq (va v)) w)))) τ) : ∀ (m i : Nat), i + m = an (va v) → X 5 [some (.ref 63), some (.int (iI w)), some (.long (lI (fb_sm (mTp (va v) (aq (va v)) w) i))), none, some (.int (iI i)), none, none] [] τ
  | 0, i, hm2 => by
    have e : i = an (va v) := by omega
    subst e
    refine zq_X12_sumOf_5 hX _ _ _ τ (zIf_f ?_ h)
    rw [hR.1.1]; exact Int32.lt_irrefl
  | m + 1, i, hm2 => by
    have h60 := hv.1.n60
    have hin : i < an (va v) := by omega
    have go := su_loop hX hv hR l hF hw h m (i + 1) (by omega)
    have ho := mO_lt (a := va v) hin
    have hq := hv.1.q (show mO (va v) i < 60 by omega)
    have qb : ∀ i, i < an (va v) → aq (va v) i ≤ 51 := fun i hi => hv.1.q (by omega)
    have e1 : τ.1 71 i = iI (mO (va v) i) := l.2.2.2.2.2.2 i hin
    obtain ⟨c1, c2, c3, c4⟩ := hF i hin
    have b1 := aLk_b hv.1 qb hin
    have b2 := aSp_b hv.1 (aq (va v)) i
    have st : lI (fb_sm (mTp (va v) (aq (va v)) w) (i + 1) : Nat) = lI (fb_sm (mTp (va v) (aq (va v)) w) i + mTp (va v) (aq (va v)) w i : Nat) := rfl
    rw [st, ← iI_s] at go
    have pb := mPn_b hv.1 qb ho
    refine zq_X12_sumOf_5 hX _ _ _ τ (zIf_t ?_ ?_)
    · rw [hR.1.1, iI_lt (by omega) (by omega) (by omega) (by omega)]; omega
    · rw [iI_k (by omega), e1, iI_208p, iI_k (by omega), hR.1.ps hv.1 ho, c3, c4]
      refine ⟨vin_k (by show i < 60; omega) (by decide), vin_k (by show 208 + mO (va v) i < 268; omega) (by decide), ?_⟩
      have c : w = 0 ∨ w = 1 ∨ w = 2 ∨ w = 3 ∨ w = 4 ∨ w = 5 ∨ w = 6 := by omega
      rcases c with rfl | rfl | rfl | rfl | rfl | rfl | rfl
      · refine zIf_t (by decide) (sp_bits (d := d) hv.1 hR.1 l ho (by omega) ?_)
        have pb1 : mBi (mK (va v) (mO (va v) i)) (aq (va v) (mO (va v) i)) ≤ 20000000 := pb 1
        rw [lI_sm (by omega)]
        exact go
      · refine zIf_f (by decide) (zIf_t (by decide) (sp_loss (d := d) hv.1 hR.1 l ho (by omega) ?_))
        have pb1 : mLo (aw (va v) (mSc (mCt (va v)) (mO (va v) i))) (mT (va v) (mO (va v) i)) (aq (va v) (mO (va v) i)) ≤ 20000000 := pb 2
        rw [lI_sm (by omega)]
        exact go
      · refine zIf_f (by decide) (zIf_f (by decide) (zIf_t (by decide) ⟨vin_k (by show i < 60; omega) (by decide), ?_⟩))
        rw [lI_sm (by omega)]
        have e : mTp (va v) (aq (va v)) 2 i = aLk (va v) (aq (va v)) i := by
          show aLk (va v) (aq (va v)) (mP (va v) (mO (va v) i)) = _
          rw [mP_O hin]
        rw [e] at go
        exact go
      · refine zIf_f (by decide) (zIf_f (by decide) (zIf_f (by decide) (zIf_t (by decide) ⟨vin_k (by show i < 60; omega) (by decide), ?_⟩)))
        rw [lI_sm (by omega)]
        have e : mTp (va v) (aq (va v)) 3 i = aSp (va v) (aq (va v)) i := by
          show aSp (va v) (aq (va v)) (mP (va v) (mO (va v) i)) = _
          rw [mP_O hin]
        rw [e] at go
        exact go
      · refine zIf_f (by decide) (zIf_f (by decide) (zIf_f (by decide) (zIf_f (by decide) (zIf_t (by decide) ⟨vin_k (by show i < 60; omega) (by decide), ?_⟩))))
        have e : mTp (va v) (aq (va v)) 4 i = if 0 < aLk (va v) (aq (va v)) i then 1 else 0 := rfl
        rw [show (0 : Int32) = iI 0 from rfl, iI_le (by omega) (by omega) (by omega) (by omega)]
        refine ⟨fun z => ?_, fun z => ?_⟩
        · rw [e, if_neg (by omega)] at go
          rw [show (0 : Int64) = lI 0 from rfl, lI_add, Int.add_zero]
          exact go
        · rw [e, if_pos (by omega)] at go
          rw [show (1 : Int64) = lI 1 from rfl, lI_add]
          exact go
      · refine zIf_f (by decide) (zIf_f (by decide) (zIf_f (by decide) (zIf_f (by decide) (zIf_f (by decide) (zIf_t (by decide) ?_)))))
        rw [lI_sm (by omega)]
        exact go
      · refine zIf_f (by decide) (zIf_f (by decide) (zIf_f (by decide) (zIf_f (by decide) (zIf_f (by decide) (zIf_f (by decide) (sp_change (d := d + 1) hv hR l hin ?_))))))
        have b : mCh (va v) (aq (va v)) i ≤ 51 := by
          have q2 := hv.1.q (show mO (va v) (i - 1) < 60 by have := mO_lt (a := va v) (show i - 1 < an (va v) by omega); omega)
          unfold mCh
          split
          · omega
          · omega
        rw [lI_sm (by omega)]
        exact go
theorem sp_rTotal {d w : Nat} {v : mV} {σ : zS} {k : Int64 → zS → Prop} (hv : vB v) (hR : RI σ v) (hm : amd (va v) = true) (hw : w ≤ 6) (h : ∀ τ, RI τ v → zQu σ τ → k (lI (mTo (va v) (aq (va v)) w)) τ) : zCall (d + 6) nX12_total [.ref 63, .int (iI w)] σ (zPJ k) := by
  refine ze_X12_total _ σ (fun X hX => zq_X12_total_0 hX _ σ (zIf_t ((w7 (m := 6) (by decide)).mpr ⟨w, rfl, hw⟩) (zIf_f (sl_n (am_if (rAt_0.mp hR.1)) hm) ?_)))
  refine sp_ty (d := d + 2) hv hR (fun τ h1 h2 l => sp_rRun (d := d) hv h1 l (fun υ k1 k2 l2 c => ?_))
  refine ze_X12_sumOf (d := d + 4) _ υ (fun Y hY => zq_X12_sumOf_0 (d := d + 2) hY _ υ ?_)
  exact su_loop (d := d + 2) hY hv k1 l2 c hw ⟨_, rfl, _, rfl, h υ k1 (h2.tr k2)⟩ (an (va v)) 0 (by omega)
theorem pr_total {p : Int32} {σ : zS} (g : G σ) : zPairJ nX11_total nX12_total [.int p] σ := by
  obtain ⟨v, hv, hC, hR⟩ := g
  by_cases c : 0 ≤ p ∧ p ≤ 6
  · cases hm : amd (va v) with
    | false =>
      refine zP_J (v := v) (w := v) (-3) hv hR ?_ (fun τ hT => ?_)
      · exact ze_X11_total (d := 7) _ σ (fun X hX => zq_X11_total_0 (d := 2) hX _ σ (zIf_t c (zIf_t (hC.2.1.m.mpr hm) ⟨_, rfl, rfl, hC, zLw.rf _⟩)))
      · exact ze_X12_total (d := 7) _ τ (fun X hX => zq_X12_total_0 (d := 2) hX _ τ (zIf_t c (zIf_t ((rAt_0.mp hT.1).m.mpr hm) ⟨_, rfl, rfl, hT, zHg.rf _⟩)))
    | true =>
      obtain ⟨w, rfl, hw⟩ := (w7 (m := 6) (by decide)).mp c
      refine zP_J (v := v) (w := v) (lI (mTo (va v) (aq (va v)) w)) hv hR ?_ (fun τ hT => ?_)
      · refine ze_X11_total (d := 7) _ σ (fun X hX => zq_X11_total_0 (d := 2) hX _ σ (zIf_t c (zIf_f (sl_n hC.2.1.1 hm) ?_)))
        exact sp_kFol (d := 2) hv hC hm (fun τ f1 c1 c2 c3 => sp_kFt (d := 2) hv c1 hm c2 c3 hw ⟨_, rfl, rfl, c1, f1.lw (by decide)⟩)
      · exact sp_rTotal (d := 2) hv hT hm hw (fun υ h1 h2 => ⟨rfl, h1, h2.1⟩)
  · refine zP_J (v := v) (w := v) (-2) hv hR ?_ (fun τ hT => ?_)
    · exact ze_X11_total (d := 7) _ σ (fun X hX => zq_X11_total_0 (d := 2) hX _ σ (zIf_f c ⟨_, rfl, rfl, hC, zLw.rf _⟩))
    · exact ze_X12_total (d := 7) _ τ (fun X hX => zq_X12_total_0 (d := 2) hX _ τ (zIf_f c ⟨_, rfl, rfl, hT, zHg.rf _⟩))
