/-! the reference's types, order and places -/
def rTy (ty : Nat → Nat) (σ : zS) (i : Nat) (τ : zS) : Prop := zFr [67] σ τ ∧ ∀ k, k < i → τ.1 67 k = iI (ty k)
theorem rty_loop {d n iv br : Nat} {cut : Nat → Bool} {σ : zS} {post : zPo} {X : zX} (hX : zClosed none (zCall (d + 2)) post nX12_findsTypes X) (hn : n ≤ 60) (hbr : br ≤ 3) (hl : σ.1 64 0 = iI n) (hbv : σ.1 64 182 = iI br) (hF : ∀ k, k < n → σ.1 69 k = iI (mF iv cut (k + 1))) (h : ∀ τ, rTy (mTy n iv br cut) σ n τ → X 97 [some (.ref 63), some (.int 0), some (.int 0), some (.int 0), none] [] τ) : ∀ (m i : Nat) (τ : zS), i + m = n → rTy (mTy n iv br cut) σ i τ → X 6 [some (.ref 63), some (.int (iI i)), none, none, none] [] τ
  | 0, i, τ, hm, hk => by
    have e : i = n := by omega
    subst e
    refine zq_X12_findsTypes_6 hX _ τ (zIf_f ?_ (h τ hk))
    rw [hk.1.1 64 (by decide), hl]
    exact Int32.lt_irrefl
  | m + 1, i, τ, hm, hk => by
    obtain ⟨g1, g2⟩ := hk
    have hin : i < n := by omega
    have ek : Int32.toNatClampNeg (iI (i : Int)) = i := iI_k (by omega)
    have e1 : τ.1 69 i = iI (mF iv cut (i + 1)) := by rw [g1.1 69 (by decide)]; exact hF i hin
    have hlt := mF_lt iv cut i
    have hgl := fb_ct_le (fun j => decide (mF iv cut (j + 1) = mF iv cut (i + 1))) n
    have hgl2 : mGl n iv cut (mF iv cut (i + 1)) ≤ 60 := by unfold mGl; omega
    have hgl1 : 1 ≤ mGl n iv cut (mF iv cut (i + 1)) := by
      have := mGl_spec (n := n) (iv := iv) (cut := cut) hin
      obtain ⟨q1, q2, q3, q4⟩ := mEd_spec (n := n) (iv := iv) (cut := cut) (n - 1 - i) (by omega)
      omega
    have v67 : vp_in (iI (i : Int)) (zN 67) := vin_k (by show i < 60; omega) (by decide)
    have go : ∀ t : Nat, mTy n iv br cut i = t → X 6 [some (.ref 63), some (.int (iI i + 1)), none, none, none] [] (zSI τ 67 i (iI t)) := by
      intro t ht
      rw [iI_s]
      refine rty_loop hX hn hbr hl hbv hF h m (i + 1) _ (by omega) ⟨g1.si (by decide) _ _, fun k hk => ?_⟩
      rw [zSI_at]
      by_cases e : k = i
      · subst e; rw [if_pos ⟨rfl, rfl⟩, ht]
      · rw [if_neg (fun z => e z.2)]; exact g2 k (by omega)
    have c1 : iI i - iI (mF iv cut (i + 1)) = iI ((i - mF iv cut (i + 1) : Nat) : Int) := by
      rw [iI_sub]; exact congrArg iI (by omega)
    have c2 : iI (mGl n iv cut (mF iv cut (i + 1))) - 1 = iI ((mGl n iv cut (mF iv cut (i + 1)) - 1 : Nat) : Int) := by
      rw [iI_m]; exact congrArg iI (by omega)
    have c3 : τ.1 64 182 = iI br := by rw [g1.1 64 (by decide)]; exact hbv
    refine zq_X12_findsTypes_6 hX _ τ (zIf_t ?_ ⟨vin_k (by show i < 60; omega) (by decide), ?_⟩)
    · rw [g1.1 64 (by decide), hl, iI_lt (by omega) (by omega) (by omega) (by omega)]; omega
    · rw [ek, e1]
      refine sp_groupSize (d := d + 1) (n := n) (F := fun k => mF iv cut (k + 1)) hn (by rw [g1.1 64 (by decide)]; exact hl) (fun k hk => ⟨by rw [g1.1 69 (by decide)]; exact hF k hk, by have := mF_lt iv cut k; omega⟩) (by omega) ?_
      show zIf (iI i - iI (mF iv cut (i + 1)) = iI (mGl n iv cut (mF iv cut (i + 1))) - 1) _ _
      rw [c1, c2, c3]
      have z0 : ∀ x : Nat, x ≤ 60 → (iI (x : Int) = 0 ↔ x = 0) := fun x hx => by
        rw [show (0 : Int32) = iI 0 from rfl, iI_eq (by omega) (by omega) (by omega) (by omega)]; omega
      have hmod : ((i - mF iv cut (i + 1) : Nat) : Int) % ((br : Int) + 1) = (((i - mF iv cut (i + 1)) % (br + 1) : Nat) : Int) := (Int.natCast_emod _ _).symm
      have hml : (i - mF iv cut (i + 1)) % (br + 1) < br + 1 := Nat.mod_lt _ (by omega)
      refine ⟨fun a => ⟨fun b => ⟨v67, ?_⟩, fun b => ⟨v67, ?_⟩⟩, fun a => ⟨?_, fun c => ⟨fun b => ⟨v67, ?_⟩, fun b => ⟨v67, ?_⟩⟩, fun c => ⟨fun b => ⟨v67, ?_⟩, fun b => ⟨v67, ?_⟩⟩⟩⟩
      · rw [z0 _ (by omega)] at b
        exact go 0 (by unfold mTy; rw [if_pos b])
      · rw [z0 _ (by omega)] at b
        rw [iI_eq (by omega) (by omega) (by omega) (by omega)] at a
        exact go 1 (by unfold mTy; rw [if_neg b, if_pos (Or.inl (by omega))])
      · rw [iI_p, show (0 : Int32) = iI 0 from rfl, iI_eq (by omega) (by omega) (by omega) (by omega)]; omega
      · rw [z0 _ (by omega)] at b
        exact go 0 (by unfold mTy; rw [if_pos b])
      · rw [z0 _ (by omega)] at b
        rw [iI_p, iI_rem (by omega) (by omega) (by omega) (by omega), hmod, show (0 : Int32) = iI 0 from rfl, iI_eq (by omega) (by omega) (by omega) (by omega)] at c
        exact go 1 (by unfold mTy; rw [if_neg b, if_pos (Or.inr (by omega))])
      · rw [z0 _ (by omega)] at b
        exact go 0 (by unfold mTy; rw [if_pos b])
      · rw [z0 _ (by omega)] at b
        rw [iI_eq (by omega) (by omega) (by omega) (by omega)] at a
        refine go 2 (by unfold mTy; rw [if_neg b, if_neg]; rintro (y | y)
                        · exact a (by omega)
                        · refine c ?_
                          rw [iI_p, iI_rem (by omega) (by omega) (by omega) (by omega), hmod, show (0 : Int32) = iI 0 from rfl, iI_eq (by omega) (by omega) (by omega) (by omega)]; omega)
def rOd (ty : Nat → Nat) (σ : zS) (i : Nat) (τ : zS) : Prop := zFr [71] σ τ ∧ ∀ g, g < mW ty i → τ.1 71 (mPl ty g) = iI g
def rOi (ty : Nat → Nat) (σ : zS) (i j : Nat) (τ : zS) : Prop := zFr [71] σ τ ∧ (∀ g, g < mW ty i → τ.1 71 (mPl ty g) = iI g) ∧ τ.1 71 (mW ty i) = iI i ∧ ∀ k, k < j → τ.1 71 (mW ty i + k + 1) = iI ((mW ty i + k : Nat))
theorem rod_inner {d : Nat} {ty : Nat → Nat} {σ : zS} {post : zPo} {X : zX} (hX : zClosed none (zCall (d + 2)) post nX12_findsTypes X) {i : Nat} (hi : i < 60) (h : ∀ τ, rOi ty σ i (i - mW ty i) τ → X 97 [some (.ref 63), some (.int (iI ((i + 1 : Nat) : Int))), some (.int 0), some (.int (iI ((i + 1 : Nat) : Int))), none] [] τ) : ∀ (m j : Nat) (τ : zS), mW ty i + j + m = i → rOi ty σ i j τ → X 136 [some (.ref 63), some (.int (iI ((mW ty i + j + 1 : Nat)))), none, some (.int (iI i)), some (.int (iI m))] [] τ
  | 0, j, τ, hm, hk => by
    have hw := mW_le ty i
    refine zq_X12_findsTypes_136 hX _ _ _ τ (zIf_t ?_ ?_)
    · exact Int32.le_refl _
    · have := h τ (by rw [show i - mW ty i = j by omega]; exact hk)
      rw [iI_s, show mW ty i + j + 1 = i + 1 by omega]
      exact this
  | m + 1, j, τ, hm, hk => by
    have hw := mW_le ty i
    have ek : Int32.toNatClampNeg (iI ((mW ty i + j + 1 : Nat) : Int)) = mW ty i + j + 1 := iI_k (by omega)
    refine zq_X12_findsTypes_136 hX _ _ _ τ (zIf_f ?_ ⟨vin_k (by show mW ty i + j + 1 < 60; omega) (by decide), ?_⟩)
    · rw [show (0 : Int32) = iI 0 from rfl, iI_le (by omega) (by omega) (by omega) (by omega)]; omega
    · rw [ek, iI_s, iI_pm, iI_sub, show ((m + 1 : Nat) : Int) - 1 = (m : Int) by omega, show (i : Int) - ((m + 1 : Nat) : Int) = ((mW ty i + j : Nat) : Int) by omega]
      refine rod_inner hX hi h m (j + 1) _ (by omega) ?_
      obtain ⟨g1, g2, g3, g4⟩ := hk
      refine ⟨g1.si (by decide) _ _, fun g hg => ?_, ?_, fun k hkk => ?_⟩
      · have := mPl_in ty hg
        rw [zSI_at, if_neg (by omega)]
        exact g2 g hg
      · rw [zSI_at, if_neg (by omega)]
        exact g3
      · rw [zSI_at]
        by_cases e : k = j
        · subst e; simp
        · rw [if_neg (by omega)]
          exact g4 k (by omega)
theorem rod_loop {d n : Nat} {ty : Nat → Nat} {σ : zS} {post : zPo} {X : zX} (hX : zClosed none (zCall (d + 2)) post nX12_findsTypes X) (hn : n ≤ 60) (hl : σ.1 64 0 = iI n) (ht2 : ∀ k, k < n → ty k ≤ 2) (hty : ∀ k, k < n → σ.1 67 k = iI (ty k)) (h : ∀ τ, rOd ty σ n τ → X 170 [some (.ref 63), none, none, some (.int 0), none] [] τ) : ∀ (m i : Nat) (τ : zS), i + m = n → rOd ty σ i τ → X 97 [some (.ref 63), some (.int (iI (mW ty i))), some (.int (iI ((i - mW ty i : Nat) : Int))), some (.int (iI i)), none] [] τ
  | 0, i, τ, hm, hk => by
    have e : i = n := by omega
    subst e
    refine zq_X12_findsTypes_97 hX _ _ _ τ (zIf_f ?_ (h τ hk))
    rw [hk.1.1 64 (by decide), hl]
    exact Int32.lt_irrefl
  | m + 1, i, τ, hm, hk => by
    have hw := mW_le ty i
    have hin : i < n := by omega
    have ek : Int32.toNatClampNeg (iI (i : Int)) = i := iI_k (by omega)
    have ew : Int32.toNatClampNeg (iI (mW ty i : Int)) = mW ty i := iI_k (by omega)
    have e1 : τ.1 67 i = iI (ty i) := by rw [hk.1.1 67 (by decide)]; exact hty i hin
    have ht := ht2 i hin
    refine zq_X12_findsTypes_97 hX _ _ _ τ (zIf_t ?_ ⟨vin_k (by show i < 60; omega) (by decide), fun a => ?_, fun a => ⟨vin_k (by show mW ty i < 60; omega) (by decide), ?_⟩⟩)
    · rw [hk.1.1 64 (by decide), hl, iI_lt (by omega) (by omega) (by omega) (by omega)]; omega
    · rw [ek, e1, show (2 : Int32) = iI 2 from rfl, iI_eq (by omega) (by omega) (by omega) (by omega)] at a
      have e2 : mW ty (i + 1) = mW ty i := by simp only [mW]; rw [if_pos (by omega)]
      have := rod_loop hX hn hl ht2 hty h m (i + 1) τ (by omega) ⟨hk.1, by rw [e2]; exact hk.2⟩
      rw [e2] at this
      rw [iI_s, iI_s, show i - mW ty i + 1 = i + 1 - mW ty i by omega]
      exact this
    · rw [ek, e1, show (2 : Int32) = iI 2 from rfl, iI_eq (by omega) (by omega) (by omega) (by omega)] at a
      have ha : ty i ≠ 2 := by omega
      have e2 : mW ty (i + 1) = i + 1 := by simp only [mW]; rw [if_neg ha]
      rw [iI_s, ew]
      refine rod_inner (σ := σ) (ty := ty) hX (i := i) (by omega) (fun υ hu => ?_) (i - mW ty i) 0 _ (by omega) ?_
      · have := rod_loop hX hn hl ht2 hty h m (i + 1) υ (by omega) ⟨hu.1, fun g hg => ?_⟩
        · rw [e2, Nat.sub_self] at this
          exact this
        · rw [e2] at hg
          obtain ⟨g1, g2, g3, g4⟩ := hu
          by_cases z : g < mW ty i
          · exact g2 g z
          · by_cases z2 : g = i
            · subst z2
              have : mPl ty g = mW ty g := by unfold mPl; rw [if_neg ha]
              rw [this]
              exact g3
            · have hb := mW_br ty (i := i) (g := g) (by omega) (by omega)
              have : mPl ty g = g + 1 := by unfold mPl; rw [if_pos hb]
              rw [this]
              have := g4 (g - mW ty i) (by omega)
              rw [show mW ty i + (g - mW ty i) = g by omega] at this
              exact this
      · obtain ⟨g1, g2⟩ := hk
        refine ⟨g1.si (by decide) _ _, fun g hg => ?_, ?_, fun k hkk => by omega⟩
        · have := mPl_in ty hg
          rw [zSI_at, if_neg (by omega)]
          exact g2 g hg
        · simp [zSI_at]
def rPl (or : Nat → Nat) (σ : zS) (i : Nat) (τ : zS) : Prop := zFr [70] σ τ ∧ ∀ q, q < i → τ.1 70 (or q) = iI q
theorem rpl_loop {d n : Nat} {or : Nat → Nat} {σ : zS} {post : zPo} {X : zX} (hX : zClosed none (zCall (d + 2)) post nX12_findsTypes X) (hn : n ≤ 60) (hl : σ.1 64 0 = iI n) (ho : ∀ k, k < n → or k < n ∧ σ.1 71 k = iI (or k)) (hi : ∀ p q, p < n → q < n → or p = or q → p = q) (h : ∀ τ, rPl or σ n τ → post none τ) : ∀ (m i : Nat) (τ : zS), i + m = n → rPl or σ i τ → X 170 [some (.ref 63), none, none, some (.int (iI i)), none] [] τ
  | 0, i, τ, hm, hk => by
    have e : i = n := by omega
    subst e
    refine zq_X12_findsTypes_170 hX _ τ (zIf_f ?_ (h τ hk))
    rw [hk.1.1 64 (by decide), hl]
    exact Int32.lt_irrefl
  | m + 1, i, τ, hm, hk => by
    have hin : i < n := by omega
    have ek : Int32.toNatClampNeg (iI (i : Int)) = i := iI_k (by omega)
    obtain ⟨o1, o2⟩ := ho i hin
    have e1 : τ.1 71 i = iI (or i) := by rw [hk.1.1 71 (by decide)]; exact o2
    have eo : Int32.toNatClampNeg (iI (or i : Int)) = or i := iI_k (by omega)
    refine zq_X12_findsTypes_170 hX _ τ (zIf_t ?_ ⟨vin_k (by show i < 60; omega) (by decide), ?_, ?_⟩)
    · rw [hk.1.1 64 (by decide), hl, iI_lt (by omega) (by omega) (by omega) (by omega)]; omega
    · rw [ek, e1]
      exact vin_k (by show or i < 60; omega) (by decide)
    · rw [ek, e1, eo, iI_s]
      refine rpl_loop hX hn hl ho hi h m (i + 1) _ (by omega) ⟨hk.1.si (by decide) _ _, fun q hq => ?_⟩
      rw [zSI_at]
      by_cases e : q = i
      · subst e; simp
      · rw [if_neg (fun z => e (hi q i (by omega) hin z.2))]
        exact hk.2 q (by omega)
/-- the reference's layout is that of the clip -/
def rL (σ : zS) (n iv br : Nat) (tx mo : Nat → Nat) : Prop :=
  σ.1 63 8 = iI (mS (mCut tx mo) n) ∧ σ.1 63 9 = iI (mG iv (mCut tx mo) n) ∧ (∀ k, k < n → σ.1 67 k = iI (mTy n iv br (mCut tx mo) k)) ∧ (∀ k, k < n → σ.1 68 k = iI (mSc (mCut tx mo) k)) ∧ (∀ k, k < n → σ.1 69 k = iI (mF iv (mCut tx mo) (k + 1))) ∧ (∀ k, k < n → σ.1 70 k = iI (mPl (mTy n iv br (mCut tx mo)) k)) ∧ ∀ k, k < n → σ.1 71 k = iI (mOr (mTy n iv br (mCut tx mo)) n k)
def RR : List Nat := [63, 67, 68, 69, 70, 71]
theorem sp_findsTypes {d n iv br : Nat} {tx mo : Nat → Nat} {σ : zS} {k : zS → Prop} (hb : mB n tx mo) (hc : kR σ n tx mo) (hiv : 1 ≤ iv ∧ iv ≤ 60) (hbr : br ≤ 3) (hs0 : σ.1 64 181 = iI iv) (hs1 : σ.1 64 182 = iI br) (h : ∀ τ, zFr RR σ τ → (∀ j, j ≠ 8 → j ≠ 9 → τ.1 63 j = σ.1 63 j) → rL τ n iv br tx mo → k τ) : zCall (d + 3) nX12_findsTypes [.ref 63] σ (zPV k) := by
  have h60 := hb.1
  refine ze_X12_findsTypes σ (fun X hX => zq_X12_findsTypes_0 hX σ ?_)
  refine sp_findsIntra (d := d) hb hc hiv hs0 (fun σ1 k1 => ?_)
  obtain ⟨g1, g2, g3, g4, g5, g6⟩ := k1
  have l1 : σ1.1 64 0 = iI n := by rw [g1.1 64 (by decide)]; exact hc.1
  refine rty_loop (d := d) (iv := iv) (br := br) (cut := mCut tx mo) (σ := σ1) hX h60 hbr l1 (by rw [g1.1 64 (by decide)]; exact hs1) g6 (fun σ2 k2 => ?_) n 0 σ1 (by omega) ⟨zFr.rf _ _, fun k hk => by omega⟩
  have l2 : σ2.1 64 0 = iI n := by rw [k2.1.1 64 (by decide)]; exact l1
  have hlast : 0 < n → mTy n iv br (mCut tx mo) (n - 1) ≠ 2 := fun z => mTy_last z
  refine rod_loop (d := d) (ty := mTy n iv br (mCut tx mo)) (σ := σ2) hX h60 l2 (fun k _ => mTy_lt n iv br _ k) k2.2 (fun σ3 k3 => ?_) n 0 σ2 (by omega) ⟨zFr.rf _ _, fun g hg => by simp [mW] at hg⟩
  have l3 : σ3.1 64 0 = iI n := by rw [k3.1.1 64 (by decide)]; exact l2
  have o3 : ∀ k, k < n → σ3.1 71 k = iI (mOr (mTy n iv br (mCut tx mo)) n k) := fun k hk => by
    obtain ⟨o1, o2⟩ := mOr_lt (ty := mTy n iv br (mCut tx mo)) hlast hk
    have := k3.2 (mOr (mTy n iv br (mCut tx mo)) n k) (by rw [mW_n]; exact o1)
    rw [o2] at this
    exact this
  refine rpl_loop (d := d) (or := mOr (mTy n iv br (mCut tx mo)) n) (σ := σ3) hX h60 l3 (fun k hk => ⟨(mOr_lt hlast hk).1, o3 k hk⟩) (fun p q hp hq e => mOr_inj hlast hp hq e) (fun σ4 k4 => ⟨rfl, ?_⟩) n 0 σ3 (by omega) ⟨zFr.rf _ _, fun q hq => by omega⟩
  refine h σ4 (((((zFr.rf RR σ).tr g1 (by decide)).tr k2.1 (by decide)).tr k3.1 (by decide)).tr k4.1 (by decide)) (fun j h8 h9 => ?_) ⟨?_, ?_, fun k hk => ?_, fun k hk => ?_, fun k hk => ?_, fun k hk => ?_, fun k hk => ?_⟩
  · rw [k4.1.1 63 (by decide), k3.1.1 63 (by decide), k2.1.1 63 (by decide)]; exact g2 j h8 h9
  · rw [k4.1.1 63 (by decide), k3.1.1 63 (by decide), k2.1.1 63 (by decide)]; exact g3
  · rw [k4.1.1 63 (by decide), k3.1.1 63 (by decide), k2.1.1 63 (by decide)]; exact g4
  · rw [k4.1.1 67 (by decide), k3.1.1 67 (by decide)]; exact k2.2 k hk
  · rw [k4.1.1 68 (by decide), k3.1.1 68 (by decide), k2.1.1 68 (by decide)]; exact g5 k hk
  · rw [k4.1.1 69 (by decide), k3.1.1 69 (by decide), k2.1.1 69 (by decide)]; exact g6 k hk
  · have h1 := mPl_lt hlast hk
    have := k4.2 (mPl (mTy n iv br (mCut tx mo)) k) h1
    rw [mOr_pl hk] at this
    exact this
  · rw [k4.1.1 71 (by decide)]; exact o3 k hk
