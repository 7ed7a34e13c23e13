/-! the component's layout: the coding order, the works, the whole -/
def kPo (ty : Nat → Nat) (σ : zS) (i : Nat) (τ : zS) : Prop := zFr [22, 23] σ τ ∧ ∀ g, g < mW ty i → τ.1 22 g = iI (mPl ty g) ∧ τ.1 23 (mPl ty g) = iI g
def kPi (ty : Nat → Nat) (σ : zS) (i j : Nat) (τ : zS) : Prop := zFr [22, 23] σ τ ∧ (∀ g, g < mW ty i → τ.1 22 g = iI (mPl ty g) ∧ τ.1 23 (mPl ty g) = iI g) ∧ (τ.1 22 i = iI (mW ty i) ∧ τ.1 23 (mW ty i) = iI i) ∧ ∀ k, k < j → τ.1 22 (mW ty i + k) = iI ((mW ty i + k + 1 : Nat)) ∧ τ.1 23 (mW ty i + k + 1) = iI ((mW ty i + k : Nat))
theorem sp_putAt {d p f : Nat} {σ : zS} {k : zS → Prop} (hp : p < 60) (hf : f < 60) (h : k (zSI (zSI σ 23 p (iI f)) 22 f (iI p))) : zCall (d + 2) nX3_putAt [.ref 16, .int (iI p), .int (iI f)] σ (zPV k) := by
  refine ze_X3_putAt _ _ σ (fun X hX => zq_X3_putAt_0 hX _ _ σ ⟨rfl, ?_⟩)
  rw [zPt_k (show f < zN 22 from hf), zPt_k (show p < zN 23 from hp)]
  exact h
theorem po_inner {d n : Nat} {ty : Nat → Nat} {σ : zS} {post : zPo} {X : zX} (hX : zClosed none (zCall (d + 2)) post nX3_putInOrder X) {i : Nat} (hi : i < 60) (h : ∀ τ, kPi ty σ i (i - mW ty i) τ → X 6 [some (.ref 16), some (.int (iI ((i + 1 : Nat) : Int))), some (.int (iI ((i + 1 : Nat) : Int))), some (.int (iI ((i + 1 : Nat) : Int))), none] [] τ) : ∀ (m j : Nat) (τ : zS), mW ty i + j + m = i → kPi ty σ i j τ → X 38 [some (.ref 16), some (.int (iI ((mW ty i + j + 1 : Nat)))), none, some (.int (iI i)), some (.int (iI ((mW ty i + j : Nat))))] [] τ
  | 0, j, τ, hm, hk => by
    have hw := mW_le ty i
    refine zq_X3_putInOrder_38 hX _ _ _ τ (zIf_f ?_ ?_)
    · rw [iI_lt (by omega) (by omega) (by omega) (by omega)]; omega
    · have := h τ (by rw [show i - mW ty i = j by omega]; exact hk)
      rw [iI_s, show mW ty i + j + 1 = i + 1 by omega]
      exact this
  | m + 1, j, τ, hm, hk => by
    have hw := mW_le ty i
    refine zq_X3_putInOrder_38 hX _ _ _ τ (zIf_t ?_ ?_)
    · rw [iI_lt (by omega) (by omega) (by omega) (by omega)]; omega
    · refine sp_putAt (d := d) (by omega) (by omega) ?_
      rw [iI_s, iI_s]
      refine po_inner (n := n) hX hi h m (j + 1) _ (by omega) ?_
      obtain ⟨g1, g2, g3, g4⟩ := hk
      refine ⟨(g1.si (by decide) _ _).si (by decide) _ _, fun g hg => ?_, ⟨?_, ?_⟩, fun k hkk => ?_⟩
      · have := mPl_in ty hg
        obtain ⟨a1, a2⟩ := g2 g hg
        simp only [zSI_at]
        rw [if_neg (by omega), if_neg (by omega), if_neg (by omega), if_neg (by omega)]
        exact ⟨a1, a2⟩
      · simp only [zSI_at]
        rw [if_neg (by omega), if_neg (by omega)]
        exact g3.1
      · simp only [zSI_at]
        rw [if_neg (by omega), if_neg (by omega)]
        exact g3.2
      · simp only [zSI_at]
        by_cases e : k = j
        · subst e
          exact ⟨by simp, by simp⟩
        · obtain ⟨a1, a2⟩ := g4 k (by omega)
          rw [if_neg (by omega), if_neg (by omega), if_neg (by omega), if_neg (by omega)]
          exact ⟨a1, a2⟩
theorem po_loop {d n : Nat} {ty : Nat → Nat} {σ : zS} {post : zPo} {X : zX} (hX : zClosed none (zCall (d + 2)) post nX3_putInOrder X) (hn : n ≤ 60) (hl : σ.1 16 0 = iI n) (ht2 : ∀ k, k < n → ty k ≤ 2) (hty : ∀ k, k < n → σ.1 17 k = iI (ty k)) (h : ∀ τ, kPo ty σ n τ → post none τ) : ∀ (m i : Nat) (τ : zS), i + m = n → kPo ty σ i τ → X 6 [some (.ref 16), some (.int (iI (mW ty i))), some (.int (iI (mW ty i))), some (.int (iI i)), none] [] τ
  | 0, i, τ, hm, hk => by
    have e : i = n := by omega
    subst e
    refine zq_X3_putInOrder_6 hX _ _ _ τ (zIf_f ?_ (h τ hk))
    rw [hk.1.1 16 (by decide), hl]
    exact Int32.lt_irrefl
  | m + 1, i, τ, hm, hk => by
    have hw := mW_le ty i
    have hin : i < n := by omega
    have e1 : zAt τ 17 (iI i) = iI (ty i) := by
      rw [zAt_k (show i < zN 17 from Nat.lt_of_lt_of_le hin hn), hk.1.1 17 (by decide)]
      exact hty i hin
    have ht := ht2 i hin
    refine zq_X3_putInOrder_6 hX _ _ _ τ (zIf_t ?_ ⟨fun a => ?_, fun a => ?_⟩)
    · rw [hk.1.1 16 (by decide), hl, iI_lt (by omega) (by omega) (by omega) (by omega)]; omega
    · rw [e1, show (2 : Int32) = iI 2 from rfl, iI_eq (by omega) (by omega) (by omega) (by omega)] at a
      have e2 : mW ty (i + 1) = mW ty i := by simp only [mW]; rw [if_pos (by omega)]
      rw [iI_s]
      have := po_loop hX hn hl ht2 hty h m (i + 1) τ (by omega) ⟨hk.1, by rw [e2]; exact hk.2⟩
      rw [e2] at this
      exact this
    · rw [e1, show (2 : Int32) = iI 2 from rfl, iI_eq (by omega) (by omega) (by omega) (by omega)] at a
      have ha : ty i ≠ 2 := by omega
      have e2 : mW ty (i + 1) = i + 1 := by simp only [mW]; rw [if_neg ha]
      refine sp_putAt (d := d) (by omega) (by omega) ?_
      rw [iI_s]
      refine po_inner (n := n) (σ := σ) hX (i := i) (by omega) (fun υ hu => ?_) (i - mW ty i) 0 _ (by omega) ?_
      · have := po_loop hX hn hl ht2 hty h m (i + 1) υ (by omega) ⟨hu.1, fun g hg => ?_⟩
        · rw [e2] at this
          exact this
        · rw [e2] at hg
          obtain ⟨g1, g2, g3, g4⟩ := hu
          by_cases z : g < mW ty i
          · exact g2 g z
          · by_cases z2 : g = i
            · subst z2
              have : mPl ty g = mW ty g := by unfold mPl; rw [if_neg ha]
              rw [this]
              exact g3
            · have hb := mW_br ty (i := i) (g := g) (by omega) (by omega)
              have : mPl ty g = g + 1 := by unfold mPl; rw [if_pos hb]
              rw [this]
              have := g4 (g - mW ty i) (by omega)
              rw [show mW ty i + (g - mW ty i) = g by omega] at this
              exact this
      · obtain ⟨g1, g2⟩ := hk
        refine ⟨(g1.si (by decide) _ _).si (by decide) _ _, fun g hg => ?_, ⟨?_, ?_⟩, fun k hkk => by omega⟩
        · have := mPl_in ty hg
          obtain ⟨a1, a2⟩ := g2 g hg
          simp only [zSI_at]
          rw [if_neg (by omega), if_neg (by omega), if_neg (by omega), if_neg (by omega)]
          exact ⟨a1, a2⟩
        · simp [zSI_at]
        · simp [zSI_at]
theorem sp_putInOrder {d n : Nat} {ty : Nat → Nat} {σ : zS} {k : zS → Prop} (hn : n ≤ 60) (hl : σ.1 16 0 = iI n) (ht2 : ∀ k, k < n → ty k ≤ 2) (hty : ∀ k, k < n → σ.1 17 k = iI (ty k)) (h : ∀ τ, kPo ty σ n τ → k τ) : zCall (d + 3) nX3_putInOrder [.ref 16] σ (zPV k) :=
  ze_X3_putInOrder σ (fun X hX => zq_X3_putInOrder_0 hX σ (po_loop hX hn hl ht2 hty (fun τ ht => ⟨rfl, h τ ht⟩) n 0 σ (by omega) ⟨zFr.rf _ _, fun g hg => by simp [mW] at hg⟩))
-- works
def mWk (ty tx mo : Nat → Nat) (k : Nat) : Nat := if ty k = 0 then 4 * tx k else if ty k = 1 then tx k + 2 * mo k else tx k / 2 + mo k
theorem mWk_le {n : Nat} {ty tx mo : Nat → Nat} (hb : mB n tx mo) {k : Nat} (hk : k < n) : mWk ty tx mo k ≤ 16000 := by
  obtain ⟨b1, b2, b3⟩ := hb.2 k hk
  unfold mWk
  repeat' split
  all_goals omega
theorem cWk_iI {t x m : Nat} (ht : t ≤ 2) (hx : x ≤ 4000) (hm : m ≤ 4000) : cWk (iI t) (iI x) (iI m) = iI ((if t = 0 then 4 * x else if t = 1 then x + 2 * m else x / 2 + m : Nat) : Int) := by
  unfold cWk
  rw [show (0 : Int32) = iI 0 from rfl, show (1 : Int32) = iI 1 from rfl, show (4 : Int32) = iI 4 from rfl, show (2 : Int32) = iI 2 from rfl, iI_mul, iI_mul, iI_add, iI_divN (by omega) (by omega) (by omega) (by omega), iI_add]
  by_cases h0 : t = 0
  · rw [if_pos (by rw [h0]; rfl), if_pos h0]
    exact congrArg iI (by omega)
  · rw [if_neg (fun z => h0 (by rw [iI_eq (by omega) (by omega) (by omega) (by omega)] at z; omega)), if_neg h0]
    by_cases h1 : t = 1
    · rw [if_pos (by rw [h1]; rfl), if_pos h1]
      exact congrArg iI (by omega)
    · rw [if_neg (fun z => h1 (by rw [iI_eq (by omega) (by omega) (by omega) (by omega)] at z; omega)), if_neg h1]
      exact congrArg iI (by omega)
def kWw (w : Nat → Nat) (σ : zS) (i : Nat) (τ : zS) : Prop := zFr [21] σ τ ∧ ∀ k, k < i → τ.1 21 k = iI (w k)
theorem ww_loop {d n : Nat} {ty tx mo : Nat → Nat} {σ : zS} {post : zPo} {X : zX} (hX : zClosed none (zCall (d + 1)) post nX3_weighWorks X) (hb : mB n tx mo) (hc : kC σ n tx mo) (hl : σ.1 16 0 = iI n) (ht2 : ∀ k, k < n → ty k ≤ 2) (hty : ∀ k, k < n → σ.1 17 k = iI (ty k)) (h : ∀ τ, kWw (mWk ty tx mo) σ n τ → post none τ) : ∀ (m i : Nat) (τ : zS), i + m = n → kWw (mWk ty tx mo) σ i τ → X 2 [some (.ref 16), some (.ref 1), some (.int (iI i))] [] τ
  | 0, i, τ, hm, hk => by
    have e : i = n := by omega
    subst e
    refine zq_X3_weighWorks_2 hX _ τ (zIf_f ?_ (h τ hk))
    rw [hk.1.1 16 (by decide), hl]
    exact Int32.lt_irrefl
  | m + 1, i, τ, hm, hk => by
    have hin : i < n := by omega
    have h60 := hb.1
    obtain ⟨b1, b2, b3⟩ := hb.2 i hin
    refine zq_X3_weighWorks_2 hX _ τ (zIf_t ?_ ?_)
    · rw [hk.1.1 16 (by decide), hl, iI_lt (by omega) (by omega) (by omega) (by omega)]; omega
    · have hi6 : i < 60 := by omega
      rw [iI_s, zPt_k (show i < zN 21 from hi6), zAt_k (show i < zN 17 from hi6), zAt_k (show i < zN 2 from hi6), zAt_k (show i < zN 3 from hi6), hk.1.1 17 (by decide), hk.1.1 2 (by decide), hk.1.1 3 (by decide), hty i hin, hc.2.1 i hin, hc.2.2 i hin, cWk_iI (ht2 i hin) b2 b3]
      refine ww_loop hX hb hc hl ht2 hty h m (i + 1) _ (by omega) ⟨hk.1.si (by decide) _ _, fun k hkk => ?_⟩
      rw [zSI_at]
      by_cases e : k = i
      · subst e; rw [if_pos ⟨rfl, rfl⟩]; rfl
      · rw [if_neg (fun z => e z.2)]; exact hk.2 k (by omega)
theorem sp_weighWorks {d n : Nat} {ty tx mo : Nat → Nat} {σ : zS} {k : zS → Prop} (hb : mB n tx mo) (hc : kC σ n tx mo) (hl : σ.1 16 0 = iI n) (ht2 : ∀ k, k < n → ty k ≤ 2) (hty : ∀ k, k < n → σ.1 17 k = iI (ty k)) (h : ∀ τ, kWw (mWk ty tx mo) σ n τ → k τ) : zCall (d + 2) nX3_weighWorks [.ref 16, .ref 1] σ (zPV k) :=
  ze_X3_weighWorks σ (fun X hX => zq_X3_weighWorks_0 hX σ (ww_loop hX hb hc hl ht2 hty (fun τ ht => ⟨rfl, h τ ht⟩) n 0 σ (by omega) ⟨zFr.rf _ _, fun g hg => by omega⟩))
/-- the component's layout is that of the clip -/
def mSc (cut : Nat → Bool) (k : Nat) : Nat := mS cut (k + 1) - 1
def kL (σ : zS) (n iv br : Nat) (tx mo : Nat → Nat) : Prop :=
  σ.1 16 0 = iI n ∧ σ.1 16 1 = iI (mS (mCut tx mo) n) ∧ σ.1 16 2 = iI (mG iv (mCut tx mo) n) ∧ (∀ k, k < n → σ.1 17 k = iI (mTy n iv br (mCut tx mo) k)) ∧ (∀ k, k < n → σ.1 18 k = iI (mSc (mCut tx mo) k)) ∧ (∀ k, k < n → σ.1 19 k = iI (mF iv (mCut tx mo) (k + 1))) ∧ (∀ k, k < n → σ.1 20 k = iI (mGl n iv (mCut tx mo) (mF iv (mCut tx mo) (k + 1)))) ∧ (∀ k, k < n → σ.1 21 k = iI (mWk (mTy n iv br (mCut tx mo)) tx mo k)) ∧ (∀ k, k < n → σ.1 22 k = iI (mPl (mTy n iv br (mCut tx mo)) k)) ∧ ∀ k, k < n → σ.1 23 k = iI (mOr (mTy n iv br (mCut tx mo)) n k)
def LR : List Nat := [16, 17, 18, 19, 20, 21, 22, 23]
theorem mW_n {n iv br : Nat} {cut : Nat → Bool} : mW (mTy n iv br cut) n = n := by
  cases n with
  | zero => rfl
  | succ n =>
    simp only [mW]
    rw [if_neg]
    have := mTy_last (n := n + 1) (iv := iv) (br := br) (cut := cut) (by omega)
    exact this
theorem sp_arrange {d n iv br : Nat} {tx mo : Nat → Nat} {σ : zS} {k : zS → Prop} (hb : mB n tx mo) (hc : kC σ n tx mo) (hiv : iv ≤ 60) (hbr : br ≤ 3) (hs0 : σ.1 4 0 = iI iv) (hs1 : σ.1 4 1 = iI br) (h : ∀ τ, zFr LR σ τ → kL τ n iv br tx mo → k τ) : zCall (d + 4) nX3_arrange [.ref 16, .ref 1, .ref 4] σ (zPV k) := by
  have h60 := hb.1
  refine ze_X3_arrange σ (fun X hX => zq_X3_arrange_0 hX σ ?_)
  rw [hs0, hc.1]
  have f0 : zFr LR σ (zSI σ 16 0 (iI n)) := (zFr.rf _ _).si (by decide) _ _
  have c0 : kC (zSI σ 16 0 (iI n)) n tx mo := hc.fr (f0.1 1 (by decide)) (f0.1 2 (by decide)) (f0.1 3 (by decide))
  refine sp_findStarts (d := d) hb c0 (by simp [zSI_at]) hiv (fun σ1 k1 => ?_)
  obtain ⟨g1, g2, g3, g4, g5, g6⟩ := k1
  have f1 := f0.tr g1 (by decide)
  refine sp_measureGroups (d := d + 1) (iv := iv) (cut := mCut tx mo) h60 g2 g6 (fun σ2 k2 => ?_)
  have f2 := f1.tr k2.1 (by decide)
  rw [f2.1 4 (by decide), hs1]
  have l2 : σ2.1 16 0 = iI n := by rw [k2.1.1 16 (by decide)]; exact g2
  have F2 : ∀ k, k < n → σ2.1 19 k = iI (mF iv (mCut tx mo) (k + 1)) := fun k hk => by rw [k2.1.1 19 (by decide)]; exact g6 k hk
  refine sp_chooseTypes (d := d + 1) (iv := iv) (br := br) (cut := mCut tx mo) h60 hbr l2 F2 (fun k hk => k2.2 k (by omega) hk) (fun σ3 k3 => ?_)
  have f3 := f2.tr k3.1 (by decide)
  have l3 : σ3.1 16 0 = iI n := by rw [k3.1.1 16 (by decide)]; exact l2
  refine sp_putInOrder (d := d) (ty := mTy n iv br (mCut tx mo)) h60 l3 (fun k _ => mTy_lt n iv br _ k) k3.2 (fun σ4 k4 => ?_)
  have f4 := f3.tr k4.1 (by decide)
  have l4 : σ4.1 16 0 = iI n := by rw [k4.1.1 16 (by decide)]; exact l3
  have t4 : ∀ k, k < n → σ4.1 17 k = iI (mTy n iv br (mCut tx mo) k) := fun k hk => by rw [k4.1.1 17 (by decide)]; exact k3.2 k hk
  refine sp_weighWorks (d := d + 1) (ty := mTy n iv br (mCut tx mo)) hb (hc.fr (f4.1 1 (by decide)) (f4.1 2 (by decide)) (f4.1 3 (by decide))) l4 (fun k _ => mTy_lt n iv br _ k) t4 (fun σ5 k5 => ?_)
  have f5 := f4.tr k5.1 (by decide)
  refine ⟨rfl, h σ5 f5 ⟨?_, ?_, ?_, fun k hk => ?_, fun k hk => ?_, fun k hk => ?_, fun k hk => ?_, k5.2, fun k hk => ?_, fun k hk => ?_⟩⟩
  · rw [k5.1.1 16 (by decide)]; exact l4
  · rw [k5.1.1 16 (by decide), k4.1.1 16 (by decide), k3.1.1 16 (by decide), k2.1.1 16 (by decide)]; exact g3
  · rw [k5.1.1 16 (by decide), k4.1.1 16 (by decide), k3.1.1 16 (by decide), k2.1.1 16 (by decide)]; exact g4
  · rw [k5.1.1 17 (by decide)]; exact t4 k hk
  · rw [k5.1.1 18 (by decide), k4.1.1 18 (by decide), k3.1.1 18 (by decide), k2.1.1 18 (by decide), g5 k hk]
    have := mS_pos (cut := mCut tx mo) (i := k + 1) (by omega)
    unfold mSc
    congr 1
    omega
  · rw [k5.1.1 19 (by decide), k4.1.1 19 (by decide), k3.1.1 19 (by decide)]; exact F2 k hk
  · rw [k5.1.1 20 (by decide), k4.1.1 20 (by decide), k3.1.1 20 (by decide)]; exact k2.2 k (by omega) hk
  · rw [k5.1.1 22 (by decide)]; exact (k4.2 k (by rw [mW_n]; exact hk)).1
  · rw [k5.1.1 23 (by decide)]
    have hlast : 0 < n → mTy n iv br (mCut tx mo) (n - 1) ≠ 2 := fun z => mTy_last z
    obtain ⟨o1, o2⟩ := mOr_lt (ty := mTy n iv br (mCut tx mo)) hlast hk
    have := (k4.2 (mOr (mTy n iv br (mCut tx mo)) n k) (by rw [mW_n]; exact o1)).2
    rw [o2] at this
    exact this
