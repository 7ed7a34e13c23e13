/-! the buffer: in numbers, and the component's course -/
/-- what is there before place p, not yet cut to the size -/
def bFi (sz st rt : Nat) (B : Nat → Nat) : Nat → Nat
  | 0 => sz * st / 100
  | p + 1 => (min sz (bFi sz st rt B p) - B p) + rt
def bBe (sz st rt : Nat) (B : Nat → Nat) (p : Nat) : Nat := min sz (bFi sz st rt B p)
def bAf (sz st rt : Nat) (B : Nat → Nat) (p : Nat) : Nat := bBe sz st rt B p - B p
def bLa (sz st rt : Nat) (B : Nat → Nat) (p : Nat) : Nat := B p - bBe sz st rt B p
def bSu (sz st rt : Nat) (B : Nat → Nat) (p : Nat) : Nat := bFi sz st rt B p - bBe sz st rt B p
def bUp (sz st rt : Nat) (B : Nat → Nat) (p : Nat) : Bool := decide (bBe sz st rt B p < B p)
def bU (sz st rt : Nat) (B : Nat → Nat) (n : Nat) : Nat := fb_ct (bUp sz st rt B) n
theorem bBe_le (sz st rt : Nat) (B : Nat → Nat) (p : Nat) : bBe sz st rt B p ≤ sz := Nat.min_le_left _ _
theorem bFi_le {sz st rt : Nat} (B : Nat → Nat) (hst : st ≤ 100) : ∀ p, bFi sz st rt B p ≤ sz + rt
  | 0 => by
    simp only [bFi]
    have : sz * st ≤ sz * 100 := Nat.mul_le_mul_left _ hst
    omega
  | p + 1 => by
    simp only [bFi]
    have := Nat.min_le_left sz (bFi sz st rt B p)
    omega
theorem bFi_0 {sz st rt : Nat} (B : Nat → Nat) (hst : st ≤ 100) : bFi sz st rt B 0 ≤ sz := by
  simp only [bFi]
  have : sz * st ≤ sz * 100 := Nat.mul_le_mul_left _ hst
  omega
theorem bFi_s (sz st rt : Nat) (B : Nat → Nat) (p : Nat) : bFi sz st rt B (p + 1) = bAf sz st rt B p + rt := rfl
/-- content as the course keeps it, before place i -/
def bCo (sz st rt : Nat) (B : Nat → Nat) : Nat → Nat
  | 0 => sz * st / 100
  | i + 1 => bAf sz st rt B i
theorem sp_begin {d sz st rt : Nat} {σ : zS} {k : zS → Prop} (h1 : sz ≤ 1000000) (h2 : st ≤ 100) (h : k (zSI (zSI (zSI (zSI σ 26 7 (iI sz)) 26 8 (iI rt)) 26 9 (iI ((sz * st / 100 : Nat) : Int))) 26 0 0)) : zCall (d + 1) nX1_begin [.ref 26, .int (iI sz), .int (iI st), .int (iI rt)] σ (zPV k) := by
  have hm : sz * st ≤ 1000000 * 100 := Nat.mul_le_mul h1 h2
  have e : iI (sz : Int) * iI (st : Int) / 100 = iI ((sz * st / 100 : Nat) : Int) := by
    rw [iI_mul, show (100 : Int32) = iI 100 from rfl, ← Int.natCast_mul, iI_divN (by omega) (by omega) (by omega) (by omega), Int.natCast_ediv]
    rfl
  refine ze_X1_begin _ _ _ σ (fun X hX => zq_X1_begin_0 hX _ _ _ σ ⟨rfl, ?_⟩)
  rw [e]
  exact h
theorem min_iI {a b : Nat} (ha : a < 2147483648) (hb : b < 2147483648) : (if iI (a : Int) < iI (b : Int) then iI (a : Int) else iI (b : Int)) = iI ((min a b : Nat) : Int) := by
  have l := iI_lt (a := (a : Int)) (b := (b : Int)) (by omega) (by omega) (by omega) (by omega)
  by_cases e : (a : Int) < (b : Int)
  · rw [if_pos (l.mpr e)]; exact congrArg iI (by omega)
  · rw [if_neg (fun z => e (l.mp z))]; exact congrArg iI (by omega)
theorem sp_fillBefore {d p fl sz : Nat} {σ : zS} {k : Int32 → zS → Prop} (hp : p < 60) (hf : fl < 2147483648) (hs : sz < 2147483648) (h7 : σ.1 26 7 = iI sz) (h0 : p = 0 → σ.1 26 9 = iI fl) (h1 : p ≠ 0 → σ.1 26 9 + σ.1 26 8 = iI fl) (h : k (iI ((min sz fl : Nat) : Int)) (zSI (zSI (zSI σ 26 9 (iI ((min sz fl : Nat) : Int))) 28 p (iI ((min sz fl : Nat) : Int))) 31 p (iI ((fl - min sz fl : Nat) : Int)))) : zCall (d + 2) nX1_fillBefore [.ref 26, .int (iI p)] σ (zPI k) := by
  have e2 : iI (fl : Int) - iI ((min sz fl : Nat) : Int) = iI ((fl - min sz fl : Nat) : Int) := by
    rw [iI_sub]; exact congrArg iI (by omega)
  refine ze_X1_fillBefore _ σ (fun X hX => zq_X1_fillBefore_0 hX _ σ ⟨fun z => ?_, fun z => ?_⟩)
  · have hp0 : p = 0 := by
      rw [show (0 : Int32) = iI 0 from rfl, iI_eq (by omega) (by omega) (by omega) (by omega)] at z; omega
    rw [h7, h0 hp0, min_iI hs hf, e2, zPt_k (show p < zN 28 from hp), zPt_k (show p < zN 31 from hp)]
    exact ⟨_, rfl, h⟩
  · have hp0 : p ≠ 0 := fun y => z (by rw [y]; rfl)
    rw [h7, h1 hp0, min_iI hs hf, e2, zPt_k (show p < zN 28 from hp), zPt_k (show p < zN 31 from hp)]
    exact ⟨_, rfl, h⟩
theorem sp_takeOut {d p c b u : Nat} {σ : zS} {k : zS → Prop} (hp : p < 60) (hc : c < 1000000000) (hb : b < 1000000000) (h9 : σ.1 26 9 = iI c) (hu : σ.1 26 0 = iI u) (h : ∀ τ, zFr [26, 29, 30] σ τ → (∀ j, j ≠ 0 → j ≠ 9 → τ.1 26 j = σ.1 26 j) → τ.1 26 0 = iI ((u + if c < b then 1 else 0 : Nat) : Int) → τ.1 26 9 = iI ((c - b : Nat) : Int) → τ.1 29 = upd (σ.1 29) p (iI ((c - b : Nat) : Int)) → τ.1 30 = upd (σ.1 30) p (iI ((b - c : Nat) : Int)) → k τ) : zCall (d + 2) nX1_takeOut [.ref 26, .int (iI p), .int (iI b)] σ (zPV k) := by
  have m1 : ∀ x y : Nat, x < 1000000000 → y < 1000000000 → (if (0 : Int32) < iI (x : Int) - iI (y : Int) then iI (x : Int) - iI (y : Int) else 0) = iI ((x - y : Nat) : Int) := by
    intro x y hx hy
    rw [iI_sub]
    have l : (0 : Int32) < iI ((x : Int) - (y : Int)) ↔ (0 : Int) < (x : Int) - (y : Int) := iI_lt (a := 0) (b := (x : Int) - (y : Int)) (by omega) (by omega) (by omega) (by omega)
    by_cases e : (0 : Int) < (x : Int) - (y : Int)
    · rw [if_pos (l.mpr e)]; exact congrArg iI (by omega)
    · rw [if_neg (fun z => e (l.mp z))]; exact congrArg (fun t : Int => iI t) (show (0 : Int) = _ by omega)
  refine ze_X1_takeOut _ _ σ (fun X hX => zq_X1_takeOut_0 hX _ _ σ ?_)
  rw [h9, hu, m1 b c hb hc, m1 c b hc hb, zPt_k (show p < zN 30 from hp), zPt_k (show p < zN 30 from hp), zPt_k (show p < zN 29 from hp), zPt_k (show p < zN 29 from hp), show (0 : Int32) = iI 0 from rfl, iI_le (by omega) (by omega) (by omega) (by omega)]
  refine ⟨fun z => ⟨rfl, h _ ((((zFr.rf _ _).si (by decide) _ _).si (by decide) _ _).si (by decide) _ _) (fun j h0 h9 => by simp [zSI_at, h0, h9]) ?_ (by simp [zSI_at]) ?_ ?_⟩, fun z => ⟨rfl, h _ (((((zFr.rf _ _).si (by decide) _ _).si (by decide) _ _).si (by decide) _ _).si (by decide) _ _) (fun j h0 h9 => by simp [zSI_at, h0, h9]) ?_ (by simp [zSI_at]) ?_ ?_⟩⟩
  · simp [zSI_at]
    rw [hu]
    exact congrArg iI (by split <;> omega)
  · rw [zSI_s, zSI_1 (by decide), zSI_1 (by decide)]
  · rw [zSI_1 (by decide), zSI_s, zSI_1 (by decide)]
  · simp [zSI_at]
    rw [iI_p]
    exact congrArg iI (by split <;> omega)
  · rw [zSI_s, zSI_1 (by decide), zSI_1 (by decide), zSI_1 (by decide)]
  · rw [zSI_1 (by decide), zSI_s, zSI_1 (by decide), zSI_1 (by decide)]
def CR : List Nat := [26, 28, 29, 30, 31]
def kPs (sz st rt : Nat) (B : Nat → Nat) (σ : zS) (i : Nat) (τ : zS) : Prop := zFr CR σ τ ∧ τ.1 26 7 = iI sz ∧ τ.1 26 8 = iI rt ∧ τ.1 26 9 = iI (bCo sz st rt B i) ∧ τ.1 26 0 = iI (bU sz st rt B i) ∧ ∀ p, p < i → τ.1 28 p = iI (bBe sz st rt B p) ∧ τ.1 29 p = iI (bAf sz st rt B p) ∧ τ.1 30 p = iI (bLa sz st rt B p) ∧ τ.1 31 p = iI (bSu sz st rt B p)
theorem ps_loop {d n sz st rt : Nat} {B : Nat → Nat} {σ : zS} {post : zPo} {X : zX} (hX : zClosed none (zCall (d + 2)) post nX1_pass X) (hn : n ≤ 60) (hsz : sz ≤ 1000000) (hst : st ≤ 100) (hrt : rt ≤ 100000) (hl : σ.1 16 0 = iI n) (hB : ∀ p, p < n → σ.1 27 p = iI (B p) ∧ B p ≤ 320040) (h : ∀ τ, kPs sz st rt B σ n τ → post none τ) : ∀ (m i : Nat) (τ : zS), i + m = n → kPs sz st rt B σ i τ → X 10 [some (.ref 26), none, none, none, some (.int (iI i))] [] τ
  | 0, i, τ, hm, hk => by
    have e : i = n := by omega
    subst e
    refine zq_X1_pass_10 hX _ τ (zIf_f ?_ (h τ hk))
    rw [hk.1.1 16 (by decide), hl]
    exact Int32.lt_irrefl
  | m + 1, i, τ, hm, hk => by
    have hin : i < n := by omega
    obtain ⟨g1, g2, g3, g4, g5, g6⟩ := hk
    obtain ⟨b1, b2⟩ := hB i hin
    have hfi := bFi_le (sz := sz) (rt := rt) B hst i
    refine zq_X1_pass_10 hX _ τ (zIf_t ?_ ?_)
    · rw [g1.1 16 (by decide), hl, iI_lt (by omega) (by omega) (by omega) (by omega)]; omega
    · refine sp_fillBefore (d := d) (fl := bFi sz st rt B i) (sz := sz) (by omega) (by omega) (by omega) g2 (fun z => ?_) (fun z => ?_) ?_
      · rw [g4, z]; rfl
      · rw [g4, g3, iI_add]
        cases i with
        | zero => exact absurd rfl z
        | succ j => exact congrArg iI (by rw [bFi_s]; simp [bCo])
      · have e27 : zAt (zSI (zSI (zSI τ 26 9 (iI ((min sz (bFi sz st rt B i) : Nat) : Int))) 28 i (iI ((min sz (bFi sz st rt B i) : Nat) : Int))) 31 i (iI ((bFi sz st rt B i - min sz (bFi sz st rt B i) : Nat) : Int))) 27 (iI i) = iI (B i) := by
          rw [zAt_k (show i < zN 27 by show i < 60; omega), zSI_1 (by decide), zSI_1 (by decide), zSI_1 (by decide), g1.1 27 (by decide)]
          exact b1
        rw [e27]
        have hmin := Nat.min_le_left sz (bFi sz st rt B i)
        refine sp_takeOut (d := d) (c := min sz (bFi sz st rt B i)) (u := bU sz st rt B i) (by omega) (by omega) (by omega) (by simp [zSI_at]) (by simp [zSI_at]; exact g5) (fun υ f1 f2 f3 f4 f5 f6 => ?_)
        rw [iI_s]
        refine ps_loop hX hn hsz hst hrt hl hB h m (i + 1) υ (by omega) ⟨((((g1.si (by decide) _ _).si (by decide) _ _).si (by decide) _ _).tr f1 (by decide)), ?_, ?_, f4, ?_, fun p hp => ?_⟩
        · rw [f2 7 (by decide) (by decide)]; simp [zSI_at]; exact g2
        · rw [f2 8 (by decide) (by decide)]; simp [zSI_at]; exact g3
        · rw [f3]
          refine congrArg iI (congrArg Int.ofNat ?_)
          have eb : bUp sz st rt B i = decide (min sz (bFi sz st rt B i) < B i) := rfl
          show _ = fb_ct (bUp sz st rt B) (i + 1)
          rw [fb_ct_succ, eb]
          simp only [decide_eq_true_eq]
          rfl
        · rw [f5, f6, f1.1 28 (by decide), f1.1 31 (by decide)]
          simp only [zSI_at, upd]
          by_cases e : p = i
          · subst e
            simp
            exact ⟨rfl, rfl, rfl, rfl⟩
          · simp [e]
            have := g6 p (by omega)
            exact this
theorem sp_pass {d n sz st rt : Nat} {B : Nat → Nat} {σ : zS} {k : zS → Prop} (hn : n ≤ 60) (hsz : sz ≤ 1000000) (hst : st ≤ 100) (hrt : rt ≤ 100000) (hl : σ.1 16 0 = iI n) (hB : ∀ p, p < n → σ.1 27 p = iI (B p) ∧ B p ≤ 320040) (h : ∀ τ, kPs sz st rt B σ n τ → k τ) : zCall (d + 3) nX1_pass [.ref 26, .int (iI sz), .int (iI st), .int (iI rt)] σ (zPV k) := by
  refine ze_X1_pass _ _ _ σ (fun X hX => zq_X1_pass_0 hX _ _ _ σ ?_)
  refine sp_begin (d := d + 1) hsz hst ?_
  refine ps_loop (d := d) (sz := sz) (st := st) (rt := rt) (B := B) (σ := σ) hX hn hsz hst hrt hl hB (fun τ ht => ⟨rfl, h τ ht⟩) n 0 _ (by omega) ⟨((((zFr.rf CR σ).si (by decide) _ _).si (by decide) _ _).si (by decide) _ _).si (by decide) _ _, by simp [zSI_at], by simp [zSI_at], by simp [zSI_at]; rfl, by simp [zSI_at]; rfl, fun p hp => by omega⟩
-- bits of a row of quantizers
def mBp (a : mA) (q : Nat → Nat) (p : Nat) : Nat := mBi (mK a (mO a p)) (q (mO a p))
theorem mBp_le {a : mA} (hb : aB a) {q : Nat → Nat} (hq : ∀ i, i < an a → q i ≤ 51) {p : Nat} (hp : p < an a) : 40 ≤ mBp a q p ∧ mBp a q p ≤ 320040 := by
  have hlast : 0 < an a → mT a (an a - 1) ≠ 2 := fun z => mTy_last z
  have := mOr_lt hlast hp
  have h2 := hq _ this.1
  exact mBi_le (mWk_le hb.1 this.1) (by unfold mO; omega)
def kTb (a : mA) (q : Nat → Nat) (σ : zS) (i : Nat) (τ : zS) : Prop := zFr [27] σ τ ∧ ∀ p, p < i → τ.1 27 p = iI (mBp a q p)
theorem tb_loop {d r : Nat} {a : mA} {q : Nat → Nat} {σ : zS} {post : zPo} {X : zX} (hX : zClosed none (zCall (d + 2)) post nX1_takeBits X) (hr : zIsI r = true) (hr27 : r ≠ 27) (hr60 : zN r = 60) (hb : aB a) (hl : kLa σ a) (hst : kSt σ) (hq : ∀ i, i < an a → σ.1 r i = iI (q i) ∧ q i ≤ 51) (h : ∀ τ, kTb a q σ (an a) τ → post none τ) : ∀ (m i : Nat) (τ : zS), i + m = an a → kTb a q σ i τ → X 2 [some (.ref 26), some (.ref r), some (.int (iI i)), none] [] τ
  | 0, i, τ, hm, hk => by
    have e : i = an a := by omega
    subst e
    refine zq_X1_takeBits_2 hX r _ hr τ (zIf_f ?_ (h τ hk))
    rw [hk.1.1 16 (by decide), hl.1]
    exact Int32.lt_irrefl
  | m + 1, i, τ, hm, hk => by
    have h60 := hb.n60
    have hin : i < an a := by omega
    have hlast : 0 < an a → mT a (an a - 1) ≠ 2 := fun z => mTy_last z
    have ho := (mOr_lt hlast hin).1
    have e1 : zAt τ 23 (iI i) = iI (mO a i) := by
      rw [zAt_k (show i < zN 23 by show i < 60; omega), hk.1.1 23 (by decide)]
      exact hl.2.2.2.2.2.2.2.2.2 i hin
    have e2 : zAt τ r (iI (mO a i)) = iI (q (mO a i)) := by
      rw [zAt_k (show mO a i < zN r by rw [hr60]; unfold mO; omega), hk.1.1 r (by simpa using hr27)]
      exact (hq _ ho).1
    have e3 : cBits τ (iI (mO a i)) (iI (q (mO a i))) = iI (mBp a q i) :=
      cBits_iI (w := mK a (mO a i)) (by unfold mO; omega) (by have := (hq _ ho).2; unfold mO; omega) (mWk_le hb.1 ho) (by rw [hk.1.1 21 (by decide)]; exact hl.2.2.2.2.2.2.2.1 _ ho) (fun q hq => by rw [hk.1.1 25 (by decide)]; exact hst q hq)
    refine zq_X1_takeBits_2 hX r _ hr τ (zIf_t ?_ ?_)
    · rw [hk.1.1 16 (by decide), hl.1, iI_lt (by omega) (by omega) (by omega) (by omega)]; omega
    · rw [e1, e2, e3, iI_s, zPt_k (show i < zN 27 by show i < 60; omega)]
      refine tb_loop hX hr hr27 hr60 hb hl hst hq h m (i + 1) _ (by omega) ⟨hk.1.si (by decide) _ _, fun p hp => ?_⟩
      rw [zSI_at]
      by_cases e : p = i
      · subst e; rw [if_pos ⟨rfl, rfl⟩]
      · rw [if_neg (fun z => e z.2)]; exact hk.2 p (by omega)
theorem sp_takeBits {d r : Nat} {a : mA} {q : Nat → Nat} {σ : zS} {k : zS → Prop} (hr : zIsI r = true) (hr27 : r ≠ 27) (hr60 : zN r = 60) (hb : aB a) (hl : kLa σ a) (hst : kSt σ) (hq : ∀ i, i < an a → σ.1 r i = iI (q i) ∧ q i ≤ 51) (h : ∀ τ, kTb a q σ (an a) τ → k τ) : zCall (d + 3) nX1_takeBits [.ref 26, .ref r] σ (zPV k) :=
  ze_X1_takeBits r σ (fun X hX => zq_X1_takeBits_0 hX r hr σ (tb_loop hX hr hr27 hr60 hb hl hst hq (fun τ ht => ⟨rfl, h τ ht⟩) (an a) 0 σ (by omega) ⟨zFr.rf _ _, fun p hp => by omega⟩))
