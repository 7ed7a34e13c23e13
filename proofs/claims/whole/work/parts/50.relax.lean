/-! relax: in numbers; the component -/
def ggN (G : Nat → Int) (p : Nat) (b : Int) : Int := if G p = -1 then b else if b < 0 then (p : Int) else if G p ≤ G b.toNat then b else (p : Int)
def gg (G : Nat → Int) : Nat → Nat → Int → Int
  | 0, _, b => b
  | m + 1, p, b => gg G m (p + 1) (ggN G p b)
/-- b is the first of the greatest among the first i, or none is there -/
def ggI (G : Nat → Int) (i : Nat) (b : Int) : Prop := (b = -1 ∧ ∀ p, p < i → G p = -1) ∨ ∃ j : Nat, b = (j : Int) ∧ j < i ∧ 0 ≤ G j ∧ (∀ p, p < i → G p ≤ G j) ∧ ∀ p, p < j → G p < G j
theorem ggN_I {G : Nat → Int} {i : Nat} {b : Int} (hG : -1 ≤ G i) (h : ggI G i b) : ggI G (i + 1) (ggN G i b) := by
  unfold ggN
  rcases h with ⟨h1, h2⟩ | ⟨j, h1, h2, h3, h4, h5⟩
  · by_cases c : G i = -1
    · rw [if_pos c]
      exact Or.inl ⟨h1, fun p hp => by
        by_cases e : p = i
        · rw [e]; exact c
        · exact h2 p (by omega)⟩
    · rw [if_neg c, if_pos (by omega)]
      refine Or.inr ⟨i, rfl, by omega, by omega, fun p hp => ?_, fun p hp => ?_⟩
      · by_cases e : p = i
        · rw [e]; exact Int.le_refl _
        · rw [h2 p (by omega)]; omega
      · rw [h2 p hp]; omega
  · have ej : b.toNat = j := by rw [h1]; rfl
    by_cases c : G i = -1
    · rw [if_pos c]
      refine Or.inr ⟨j, h1, by omega, h3, fun p hp => ?_, h5⟩
      by_cases e : p = i
      · rw [e]; omega
      · exact h4 p (by omega)
    · rw [if_neg c, if_neg (by omega), ej]
      by_cases c2 : G i ≤ G j
      · rw [if_pos c2]
        refine Or.inr ⟨j, h1, by omega, h3, fun p hp => ?_, h5⟩
        by_cases e : p = i
        · rw [e]; exact c2
        · exact h4 p (by omega)
      · rw [if_neg c2]
        refine Or.inr ⟨i, rfl, by omega, by omega, fun p hp => ?_, fun p hp => ?_⟩
        · by_cases e : p = i
          · rw [e]; exact Int.le_refl _
          · have := h4 p (by omega); omega
        · have := h4 p hp; omega
theorem gg_I {G : Nat → Int} {n : Nat} (hG : ∀ p, p < n → -1 ≤ G p) : ∀ (m i : Nat) (b : Int), i + m = n → ggI G i b → ggI G n (gg G m i b)
  | 0, i, b, hm, h => by
    have e : i = n := by omega
    rw [← e]
    exact h
  | m + 1, i, b, hm, h => gg_I hG m (i + 1) _ (by omega) (ggN_I (hG i (by omega)) h)
theorem ggI_u {G : Nat → Int} {n : Nat} {b c : Int} (h1 : ggI G n b) (h2 : ggI G n c) : b = c := by
  rcases h1 with ⟨a1, a2⟩ | ⟨j, a1, a2, a3, a4, a5⟩
  · rcases h2 with ⟨b1, _⟩ | ⟨k, b1, b2, b3, _, _⟩
    · rw [a1, b1]
    · have := a2 k b2; omega
  · rcases h2 with ⟨b1, b2⟩ | ⟨k, b1, b2, b3, b4, b5⟩
    · have := b2 j a2; omega
    · have e : j = k := by
        rcases Nat.lt_trichotomy j k with c | c | c
        · have x1 := b5 j c; have x2 := a4 k b2; omega
        · exact c
        · have x1 := a5 k c; have x2 := b4 j a2; omega
      rw [a1, b1, e]
def rxq (a : mA) (q : Nat → Nat) (p : Nat) : Nat → Nat := nU q (mO a p) (q (mO a p) - 1)
def tot (a : mA) (q : Nat → Nat) : Nat := fb_sm (mBp a q) (an a)
abbrev pos (a : mA) (mb may : Nat) (q : Nat → Nat) (p : Nat) : Prop := tot a (rxq a q p) ≤ mb ∧ aUn a (rxq a q p) ≤ may
noncomputable def rg (a : mA) (q : Nat → Nat) (p : Nat) : Int := if q (mO a p) ≤ aS a 2 then -1 else if (mBi (mK a (mO a p)) (q (mO a p) - 1) : Int) - mBi (mK a (mO a p)) (q (mO a p)) ≤ 0 then 2000000000 else (1000 * ((mLs a (mO a p) (q (mO a p)) : Int) - mLs a (mO a p) (q (mO a p) - 1))).tdiv ((mBi (mK a (mO a p)) (q (mO a p) - 1) : Int) - mBi (mK a (mO a p)) (q (mO a p)))

noncomputable def its (a : mA) (mb may : Nat) (q : Nat → Nat) (p : Nat) : Int := if q (mO a p) ≤ aS a 2 then -1 else if pos a mb may q p then rg a q p else -1
noncomputable def rxB (a : mA) (mb may : Nat) (q : Nat → Nat) : Int := gg (its a mb may q) (an a) 0 (-1)
noncomputable def rx (a : mA) (mb may : Nat) : Nat → (Nat → Nat) → Nat → Nat × (Nat → Nat)
  | 0, q, r => (r, q)
  | m + 1, q, r => if rxB a mb may q = -1 then (r, q) else rx a mb may m (rxq a q (rxB a mb may q).toNat) (r + 1)
theorem rg_b {a : mA} (hb : aB a) {q : Nat → Nat} {p : Nat} (hp : p < an a) (hq : q (mO a p) ≤ 51) : -1 ≤ rg a q p ∧ rg a q p ≤ 20000000000 ∧ (¬ q (mO a p) ≤ aS a 2 → 0 ≤ rg a q p) := by
  have ho := mO_lt (a := a) hp
  have h1 := mLs_b hb ho hq
  have h2 := mLs_b hb ho (show q (mO a p) - 1 ≤ 51 by omega)
  have h3 : mLs a (mO a p) (q (mO a p) - 1) ≤ mLs a (mO a p) (q (mO a p)) := mLo_mono (by omega) (by omega)
  unfold rg
  by_cases c : q (mO a p) ≤ aS a 2
  · rw [if_pos c]
    exact ⟨by omega, by omega, fun z => absurd c z⟩
  · rw [if_neg c]
    by_cases c2 : (mBi (mK a (mO a p)) (q (mO a p) - 1) : Int) - mBi (mK a (mO a p)) (q (mO a p)) ≤ 0
    · rw [if_pos c2]
      omega
    · rw [if_neg c2]
      have hh : ((1000 * ((mLs a (mO a p) (q (mO a p)) : Int) - mLs a (mO a p) (q (mO a p) - 1))).tdiv ((mBi (mK a (mO a p)) (q (mO a p) - 1) : Int) - mBi (mK a (mO a p)) (q (mO a p)))).natAbs ≤ (1000 * ((mLs a (mO a p) (q (mO a p)) : Int) - mLs a (mO a p) (q (mO a p) - 1))).natAbs := by
        rw [Int.natAbs_tdiv]
        exact Nat.div_le_self _ _
      have nn : 0 ≤ (1000 * ((mLs a (mO a p) (q (mO a p)) : Int) - mLs a (mO a p) (q (mO a p) - 1))).tdiv ((mBi (mK a (mO a p)) (q (mO a p) - 1) : Int) - mBi (mK a (mO a p)) (q (mO a p))) := Int.tdiv_nonneg (by omega) (by omega)
      generalize (1000 * ((mLs a (mO a p) (q (mO a p)) : Int) - mLs a (mO a p) (q (mO a p) - 1))).tdiv ((mBi (mK a (mO a p)) (q (mO a p) - 1) : Int) - mBi (mK a (mO a p)) (q (mO a p))) = z at hh nn ⊢
      omega
theorem its_b {a : mA} (hb : aB a) {mb may : Nat} {q : Nat → Nat} {p : Nat} (hp : p < an a) (hq : q (mO a p) ≤ 51) : -1 ≤ its a mb may q p ∧ its a mb may q p ≤ 20000000000 := by
  have := rg_b hb hp hq
  unfold its
  split
  · omega
  · split
    · omega
    · omega
/-- what the component holds for the gains: dead places are impossible -/
noncomputable def rgD (a : mA) (q : Nat → Nat) (D : Nat → Bool) (p : Nat) : Int := if D p = true then -1 else rg a q p
theorem rgD_b {a : mA} (hb : aB a) {q : Nat → Nat} {D : Nat → Bool} {p : Nat} (hp : p < an a) (hq : q (mO a p) ≤ 51) : -1 ≤ rgD a q D p ∧ rgD a q D p ≤ 20000000000 := by
  have := rg_b hb hp hq
  unfold rgD
  split <;> omega
theorem rxB_eq {a : mA} (hb : aB a) {mb may : Nat} {q : Nat → Nat} {D : Nat → Bool} (hq : ∀ f, f < 60 → q f ≤ 51) (hD : ∀ p, p < an a → D p = true → ¬ pos a mb may q p) : (gg (rgD a q D) (an a) 0 (-1) = -1 → rxB a mb may q = -1) ∧ ∀ j : Nat, gg (rgD a q D) (an a) 0 (-1) = (j : Int) → j < an a ∧ D j = false ∧ ¬ q (mO a j) ≤ aS a 2 ∧ (pos a mb may q j → rxB a mb may q = (j : Int)) := by
  have h60 := hb.n60
  have qb : ∀ p, p < an a → q (mO a p) ≤ 51 := fun p hp => hq _ (by have := mO_lt (a := a) hp; omega)
  have s1 := gg_I (G := rgD a q D) (n := an a) (fun p hp => (rgD_b hb hp (qb p hp)).1) (an a) 0 (-1) (by omega) (Or.inl ⟨rfl, fun p hp => absurd hp (Nat.not_lt_zero p)⟩)
  have s2 : ggI (its a mb may q) (an a) (rxB a mb may q) := gg_I (fun p hp => (its_b hb hp (qb p hp)).1) (an a) 0 (-1) (by omega) (Or.inl ⟨rfl, fun p hp => absurd hp (Nat.not_lt_zero p)⟩)
  have le : ∀ p, p < an a → its a mb may q p ≤ rgD a q D p := fun p hp => by
    have b := rg_b hb hp (qb p hp)
    have b2 := rgD_b (D := D) hb hp (qb p hp)
    unfold its
    by_cases c : q (mO a p) ≤ aS a 2
    · rw [if_pos c]; exact b2.1
    · rw [if_neg c]
      by_cases c2 : pos a mb may q p
      · rw [if_pos c2]
        unfold rgD
        rw [if_neg (fun z => hD p hp z c2)]
        exact Int.le_refl _
      · rw [if_neg c2]; exact b2.1
  refine ⟨fun e => ?_, fun j e => ?_⟩
  · rw [e] at s1
    rcases s1 with ⟨_, a2⟩ | ⟨j, a1, _⟩
    · refine ggI_u s2 (Or.inl ⟨rfl, fun p hp => ?_⟩)
      have x1 := le p hp
      have x2 := a2 p hp
      have x3 := (its_b (mb := mb) (may := may) hb hp (qb p hp)).1
      omega
    · omega
  · rw [e] at s1
    rcases s1 with ⟨a1, _⟩ | ⟨k, a1, a2, a3, a4, a5⟩
    · omega
    · have ek : j = k := by omega
      subst ek
      have hd : D j = false := by
        cases h : D j with
        | false => rfl
        | true =>
          unfold rgD at a3
          rw [if_pos h] at a3
          omega
      have hl : ¬ q (mO a j) ≤ aS a 2 := fun z => by
        unfold rgD at a3
        rw [if_neg (by rw [hd]; decide)] at a3
        unfold rg at a3
        rw [if_pos z] at a3
        omega
      refine ⟨a2, hd, hl, fun hpos => ?_⟩
      have ej : its a mb may q j = rgD a q D j := by
        unfold its rgD
        rw [if_neg hl, if_pos hpos, if_neg (by rw [hd]; decide)]
      refine ggI_u s2 (Or.inr ⟨j, rfl, a2, by rw [ej]; exact a3, fun p hp => ?_, fun p hp => ?_⟩)
      · rw [ej]
        exact Int.le_trans (le p hp) (a4 p hp)
      · rw [ej]
        exact Int.lt_of_le_of_lt (le p (by omega)) (a5 p hp)
theorem rxq_b {a : mA} {q : Nat → Nat} (hq : ∀ f, f < 60 → q f ≤ 51) (p : Nat) (hp : mO a p < 60) : ∀ f, f < 60 → rxq a q p f ≤ 51 := fun f hf => by
  unfold rxq
  by_cases e : f = mO a p
  · rw [e, nU_s]; have := hq _ hp; omega
  · rw [nU_n e]; exact hq f hf
theorem mBp_anti {a : mA} {q r : Nat → Nat} (h : ∀ f, f < an a → r f ≤ q f) (hq : ∀ f, f < an a → q f ≤ 51) {p : Nat} (hp : p < an a) : mBp a q p ≤ mBp a r p := by
  have ho := mO_lt (a := a) hp
  exact mBi_mono (by have := hq _ ho; omega) (h _ ho)
theorem pos_mono {a : mA} (hb : aB a) {mb may : Nat} {q r : Nat → Nat} (h : ∀ f, f < an a → r f ≤ q f) (hq : ∀ f, f < an a → q f ≤ 51) {p : Nat} (hp : p < an a) (e : r (mO a p) = q (mO a p)) (hr : pos a mb may r p) : pos a mb may q p := by
  have ho := mO_lt (a := a) hp
  have h2 : ∀ f, f < an a → rxq a r p f ≤ rxq a q p f := fun f hf => by
    unfold rxq
    by_cases ef : f = mO a p
    · rw [ef, nU_s, nU_s, e]; exact Nat.le_refl _
    · rw [nU_n ef, nU_n ef]; exact h f hf
  have h3 : ∀ f, f < an a → rxq a q p f ≤ 51 := fun f hf => by
    unfold rxq
    by_cases ef : f = mO a p
    · rw [ef, nU_s]; have := hq _ ho; omega
    · rw [nU_n ef]; exact hq f hf
  obtain ⟨p1, p2⟩ := hr
  refine ⟨Nat.le_trans (fb_sm_le (fun k hk => mBp_anti h2 h3 hk)) p1, Nat.le_trans ?_ p2⟩
  exact bU_mono (Nat.le_refl _) (Nat.le_refl _) (Nat.le_refl _) (fun k hk => mBp_anti h2 h3 hk)
theorem cmp_eq {a b : Int} (h1 : -9223372036854775808 ≤ a) (h2 : a < 9223372036854775808) (h3 : -9223372036854775808 ≤ b) (h4 : b < 9223372036854775808) : lg_cmp (lI a) (lI b) = 0 ↔ a = b := by
  rw [cmp_c h1 h2 h3 h4]
  by_cases c : b < a
  · rw [if_pos c]; exact ⟨fun z => absurd z (by decide), fun z => by omega⟩
  · rw [if_neg c]
    by_cases c2 : a = b
    · rw [if_pos c2]; exact ⟨fun _ => c2, fun _ => rfl⟩
    · rw [if_neg c2]; exact ⟨fun z => absurd z (by decide), fun z => absurd z c2⟩
/-- v with q for its plan -/
def vq (v : mV) (q : Nat → Nat) : mV := vA v (aPl (va v) (amd (va v)) q)
theorem vq_B {v : mV} (hv : vB v) {q : Nat → Nat} (hq : ∀ f, f < 60 → q f ≤ 51) : vB (vq v q) := hv.a (hv.1.pm hq)
theorem sp_weighL {d p : Nat} {v : mV} {q : Nat → Nat} {σ : zS} {k : zS → Prop} (hv : vB v) (hq : ∀ f, f < 60 → q f ≤ 51) (hm : amd (va v) = true) (hC : CI σ (vq v q)) (hp : p < an (va v)) (h : ∀ τ, τ.1 = σ.1 → τ.2 38 p = lI (rg (va v) q p) → (∀ j, j ≠ p → τ.2 38 j = σ.2 38 j) → k τ) : zCall (d + 4) nX5_weighLowering [.ref 34, .ref 10, .int (iI p)] σ (zPV k) := by
  have h60 := hv.1.n60
  have hv2 := vq_B hv hq
  have ho := mO_lt (a := va v) hp
  have hu := hq (mO (va v) p) (by omega)
  have b2 := hv.1.2.2.2.1
  have e23 : zAt σ 23 (iI p) = iI (mO (va v) p) := by rw [zAt_k (show p < zN 23 by show p < 60; omega)]; exact hC.2.2.1.2.2.2.2.2.2.2.2.2 p hp
  have e10 : zAt σ 10 (iI (mO (va v) p)) = iI (q (mO (va v) p)) := by rw [zAt_k (show mO (va v) p < zN 10 by show mO (va v) p < 60; omega)]; exact hC.2.1.2 hm _ ho
  have s2 : σ.1 4 2 = iI (aS (va v) 2) := hC.1.2.2.2.1 2 (by decide)
  refine ze_X5_weighLowering _ _ σ (fun X hX => zq_X5_weighLowering_0 hX 10 _ rfl σ ?_)
  rw [e23, e10, s2, zPtJ_k (show p < zN 38 by show p < 60; omega), zPtJ_k (show p < zN 38 by show p < 60; omega), zPtJ_k (show p < zN 38 by show p < 60; omega)]
  have fin : ∀ x : Int64, x = lI (rg (va v) q p) → k (zSJ σ 38 p x) := fun x e => h _ rfl (by rw [zSJ_at, if_pos ⟨rfl, rfl⟩, e]) (fun j hj => by rw [zSJ_at, if_neg (fun z => hj z.2)])
  rw [iI_le (by omega) (by omega) (by omega) (by omega)]
  unfold rg at fin
  refine ⟨fun z => ⟨rfl, fin _ ?_⟩, fun z => ?_⟩
  · rw [if_pos (by omega)]; rfl
  · have hl : ¬ q (mO (va v) p) ≤ aS (va v) 2 := by omega
    have e1 : iI (q (mO (va v) p) : Int) - 1 = iI ((q (mO (va v) p) - 1 : Nat) : Int) := by rw [iI_m]; exact congrArg iI (by omega)
    have k1 : cBits σ (iI (mO (va v) p)) (iI (q (mO (va v) p) - 1 : Nat)) = iI (mBi (mK (va v) (mO (va v) p)) (q (mO (va v) p) - 1)) := kBi (v := vq v q) hv2 hC ho (by omega)
    have k2 : cBits σ (iI (mO (va v) p)) (iI (q (mO (va v) p) : Nat)) = iI (mBi (mK (va v) (mO (va v) p)) (q (mO (va v) p))) := kBi (v := vq v q) hv2 hC ho hu
    have k3 : cLoss σ (iI (mO (va v) p)) (iI (q (mO (va v) p) - 1 : Nat)) = iI (mLs (va v) (mO (va v) p) (q (mO (va v) p) - 1)) := kLo (v := vq v q) hv2 hC ho (by omega)
    have k4 : cLoss σ (iI (mO (va v) p)) (iI (q (mO (va v) p) : Nat)) = iI (mLs (va v) (mO (va v) p) (q (mO (va v) p))) := kLo (v := vq v q) hv2 hC ho hu
    have l1 := mLs_b hv.1 ho hu
    have l2 := mLs_b hv.1 ho (show q (mO (va v) p) - 1 ≤ 51 by omega)
    have b1 := (mBi_le (w := mK (va v) (mO (va v) p)) (q := q (mO (va v) p)) (mWk_le hv.1.1 ho) (by omega)).2
    have b3 := (mBi_le (w := mK (va v) (mO (va v) p)) (q := q (mO (va v) p) - 1) (mWk_le hv.1.1 ho) (by omega)).2
    rw [if_neg hl] at fin
    rw [e1, k1, k2, k3, k4, iI_sub, iI_sub, iI_l (by omega) (by omega), iI_l (by omega) (by omega), show (0 : Int64) = lI 0 from rfl, cmp_le (by omega) (by omega) (by omega) (by omega)]
    refine ⟨fun y => ⟨rfl, fin _ ?_⟩, fun y => ⟨rfl, fin _ ?_⟩⟩
    · rw [if_pos y]; rfl
    · rw [if_neg y, show (1000 : Int64) = lI 1000 from rfl, lI_mul, zRat_lI (by omega) (by omega) (by omega) (by omega)]
theorem gr_loop {d : Nat} {v : mV} {G : Nat → Int} {σ : zS} {post : zPo} {X : zX} (hX : zClosed none (zCall (d + 1)) post nX5_greatestGain X) (hn : an (va v) ≤ 60) (h16 : σ.1 16 0 = iI (an (va v))) (hG : ∀ p, p < an (va v) → σ.2 38 p = lI (G p) ∧ -1 ≤ G p ∧ G p ≤ 20000000000) : ∀ (m i : Nat) (b : Int), i + m = an (va v) → (b = -1 ∨ ∃ j : Nat, b = (j : Int) ∧ j < i) → post (some (.int (iI (gg G m i b)))) σ → X 4 [some (.ref 34), some (.int (iI b)), some (.int (iI i)), none] [] σ
  | 0, i, b, hm, hb, h => by
    have e : i = an (va v) := by omega
    subst e
    refine zq_X5_greatestGain_4 hX _ _ σ (zIf_f ?_ h)
    rw [h16]; exact Int32.lt_irrefl
  | m + 1, i, b, hm, hb, h => by
    have hin : i < an (va v) := by omega
    obtain ⟨g1, g2, g3⟩ := hG i hin
    have bb : b = -1 ∨ (0 ≤ b ∧ b < 60) := by
      rcases hb with c | ⟨j, c, c1⟩
      · exact Or.inl c
      · exact Or.inr ⟨by omega, by omega⟩
    have hb2 : ggN G i b = -1 ∨ ∃ j : Nat, ggN G i b = (j : Int) ∧ j < i + 1 := by
      have keep : b = -1 ∨ ∃ j : Nat, b = (j : Int) ∧ j < i + 1 := by
        rcases hb with c | ⟨j, c, c1⟩
        · exact Or.inl c
        · exact Or.inr ⟨j, c, by omega⟩
      unfold ggN
      split
      · exact keep
      · split
        · exact Or.inr ⟨i, rfl, by omega⟩
        · split
          · exact keep
          · exact Or.inr ⟨i, rfl, by omega⟩
    have go := gr_loop hX hn h16 hG m (i + 1) (ggN G i b) (by omega) hb2 h
    have eb : iI b < 0 ↔ b < 0 := by
      rw [show (0 : Int32) = iI 0 from rfl, iI_lt (by omega) (by omega) (by omega) (by omega)]
    refine zq_X5_greatestGain_4 hX _ _ σ (zIf_t ?_ ?_)
    · rw [h16, iI_lt (by omega) (by omega) (by omega) (by omega)]; omega
    · rw [zAtJ_k (show i < zN 38 by show i < 60; omega), g1, show (-1 : Int64) = lI (-1) from by decide, cmp_eq (by omega) (by omega) (by omega) (by omega), iI_s]
      unfold ggN at go
      refine ⟨fun y => ?_, fun y => ⟨fun y2 => ?_, fun y2 => ?_⟩⟩
      · rw [if_pos y] at go; exact go
      · rw [if_neg y, if_pos (eb.mp y2)] at go; exact go
      · have nb2 : ¬ b < 0 := fun w => y2 (eb.mpr w)
        obtain ⟨j, rfl, hj⟩ : ∃ j : Nat, b = (j : Int) ∧ j < i := by
          rcases hb with c | c
          · omega
          · exact c
        obtain ⟨k1, k2, k3⟩ := hG j (by omega)
        rw [if_neg y, if_neg nb2, show ((j : Int)).toNat = j from rfl] at go
        rw [zAtJ_k (show j < zN 38 by show j < 60; omega), k1, cmp_le (by omega) (by omega) (by omega) (by omega)]
        refine ⟨fun w => ?_, fun w => ?_⟩
        · rw [if_pos w] at go; exact go
        · rw [if_neg w] at go; exact go
