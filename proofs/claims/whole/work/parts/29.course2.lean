/-! the component's course behind a plan; first and last places -/
theorem sp_passAsSet {d : Nat} {a : mA} {B : Nat → Nat} {σ : zS} {k : zS → Prop} (hb : aB a) (hs : ∀ j, j < 8 → σ.1 4 j = iI (aS a j)) (hl : σ.1 16 0 = iI (an a)) (hB : ∀ p, p < an a → σ.1 27 p = iI (B p) ∧ B p ≤ 320040) (h : ∀ τ, kPs (aS a 4) (aS a 5) (aS a 6) B σ (an a) τ → k τ) : zCall (d + 4) nX1_passAsSet [.ref 26] σ (zPV k) := by
  refine ze_X1_passAsSet σ (fun X hX => zq_X1_passAsSet_0 hX σ ?_)
  rw [hs 4 (by decide), hs 5 (by decide), hs 6 (by decide)]
  exact sp_pass (d := d) hb.n60 hb.2.2.2.2.1.2 hb.2.2.2.2.2.1 hb.2.2.2.2.2.2.1 hl hB (fun τ ht => ⟨rfl, h τ ht⟩)
def FO : List Nat := [26, 27, 28, 29, 30, 31]
def aBe (a : mA) (q : Nat → Nat) : Nat → Nat := bBe (aS a 4) (aS a 5) (aS a 6) (mBp a q)
def aAf (a : mA) (q : Nat → Nat) : Nat → Nat := bAf (aS a 4) (aS a 5) (aS a 6) (mBp a q)
def aLk (a : mA) (q : Nat → Nat) : Nat → Nat := bLa (aS a 4) (aS a 5) (aS a 6) (mBp a q)
def aSp (a : mA) (q : Nat → Nat) : Nat → Nat := bSu (aS a 4) (aS a 5) (aS a 6) (mBp a q)
def aUp (a : mA) (q : Nat → Nat) : Nat → Bool := bUp (aS a 4) (aS a 5) (aS a 6) (mBp a q)
def aUn (a : mA) (q : Nat → Nat) : Nat := bU (aS a 4) (aS a 5) (aS a 6) (mBp a q) (an a)
/-- the course has followed q -/
def kFo (a : mA) (q : Nat → Nat) (σ τ : zS) : Prop := zFr FO σ τ ∧ τ.1 26 0 = iI (aUn a q) ∧ τ.1 26 7 = iI (aS a 4) ∧ ∀ p, p < an a → τ.1 27 p = iI (mBp a q p) ∧ τ.1 28 p = iI (aBe a q p) ∧ τ.1 29 p = iI (aAf a q p) ∧ τ.1 30 p = iI (aLk a q p) ∧ τ.1 31 p = iI (aSp a q p)
theorem sp_follow {d r : Nat} {a : mA} {q : Nat → Nat} {σ : zS} {k : zS → Prop} (hr : zIsI r = true) (hr27 : r ≠ 27) (hr60 : zN r = 60) (hb : aB a) (hc : kAt σ 1 4 9 a) (hl : kLa σ a) (hst : kSt σ) (hq : ∀ i, i < an a → σ.1 r i = iI (q i) ∧ q i ≤ 51) (h : ∀ τ, kFo a q σ τ → k τ) : zCall (d + 5) nX1_follow [.ref 26, .ref r] σ (zPV k) := by
  refine ze_X1_follow r σ (fun X hX => zq_X1_follow_0 hX r hr σ ?_)
  refine sp_takeBits (d := d + 1) hr hr27 hr60 hb hl hst hq (fun τ ht => ?_)
  have hqq : ∀ i, i < an a → q i ≤ 51 := fun i hi => (hq i hi).2
  refine sp_passAsSet (d := d) (a := a) (B := mBp a q) hb (fun j hj => by rw [ht.1.1 4 (by decide)]; exact hc.2.2.2.1 j hj) (by rw [ht.1.1 16 (by decide)]; exact hl.1) (fun p hp => ⟨ht.2 p hp, (mBp_le hb hqq hp).2⟩) (fun υ hu => ⟨rfl, h υ ⟨?_, hu.2.2.2.2.1, hu.2.1, fun p hp => ⟨?_, hu.2.2.2.2.2 p hp⟩⟩⟩)
  · exact (ht.1.wd (by decide)).tr hu.1 (by decide)
  · rw [hu.1.1 27 (by decide)]; exact ht.2 p hp
/-- the first place from i on, among m -/
def mFs (P : Nat → Bool) : Nat → Nat → Int
  | 0, _ => -1
  | m + 1, i => if P i = true then (i : Int) else mFs P m (i + 1)
theorem mFs_spec {P : Nat → Bool} : ∀ (m i : Nat), (mFs P m i = -1 ∧ ∀ j, i ≤ j → j < i + m → P j = false) ∨ ∃ j : Nat, mFs P m i = (j : Int) ∧ i ≤ j ∧ j < i + m ∧ P j = true ∧ ∀ j', i ≤ j' → j' < j → P j' = false
  | 0, i => Or.inl ⟨rfl, fun j h1 h2 => by omega⟩
  | m + 1, i => by
    cases hp : P i with
    | true => exact Or.inr ⟨i, by simp [mFs, hp], by omega, by omega, hp, fun j h1 h2 => by omega⟩
    | false =>
      have e : mFs P (m + 1) i = mFs P m (i + 1) := by simp [mFs, hp]
      rw [e]
      rcases mFs_spec (P := P) m (i + 1) with ⟨h1, h2⟩ | ⟨j, h1, h2, h3, h4, h5⟩
      · refine Or.inl ⟨h1, fun j g1 g2 => ?_⟩
        by_cases e : j = i
        · rw [e]; exact hp
        · exact h2 j (by omega) (by omega)
      · refine Or.inr ⟨j, h1, by omega, by omega, h4, fun j' g1 g2 => ?_⟩
        by_cases e : j' = i
        · rw [e]; exact hp
        · exact h5 j' (by omega) g2
/-- the last place not behind w, with P, or 0 -/
def mLf (P : Nat → Bool) : Nat → Nat
  | 0 => 0
  | w + 1 => if P (w + 1) = true then w + 1 else mLf P w
theorem mLf_le (P : Nat → Bool) : ∀ w, mLf P w ≤ w
  | 0 => Nat.le_refl 0
  | w + 1 => by
    have := mLf_le P w
    unfold mLf
    split <;> omega
theorem fu_loop {d n : Nat} {P : Nat → Bool} {L : Nat → Nat} {σ : zS} {post : zPo} {X : zX} (hX : zClosed none (zCall (d + 1)) post nX1_firstUnderflow X) (hn : n ≤ 60) (hl : σ.1 16 0 = iI n) (hL : ∀ p, p < n → σ.1 30 p = iI (L p) ∧ L p < 2147483648 ∧ (P p = true ↔ 0 < L p)) : ∀ (m i : Nat), i + m = n → post (some (.int (iI (mFs P m i)))) σ → X 2 [some (.ref 26), some (.int (iI i))] [] σ
  | 0, i, hm, h => by
    refine zq_X1_firstUnderflow_2 hX _ σ (zIf_f ?_ h)
    rw [hl, iI_lt (by omega) (by omega) (by omega) (by omega)]; omega
  | m + 1, i, hm, h => by
    have hin : i < n := by omega
    obtain ⟨l1, l2, l3⟩ := hL i hin
    refine zq_X1_firstUnderflow_2 hX _ σ (zIf_t ?_ ?_)
    · rw [hl, iI_lt (by omega) (by omega) (by omega) (by omega)]; omega
    · rw [zAt_k (show i < zN 30 by show i < 60; omega), l1, show (0 : Int32) = iI 0 from rfl, iI_le (by omega) (by omega) (by omega) (by omega), iI_s]
      refine ⟨fun z => ?_, fun z => ?_⟩
      · refine fu_loop hX hn hl hL m (i + 1) (by omega) ?_
        unfold mFs at h
        rw [if_neg (fun y => by have := l3.mp y; omega)] at h
        exact h
      · unfold mFs at h
        rw [if_pos (l3.mpr (by omega))] at h
        exact h
theorem sp_firstUnderflow {d n : Nat} {P : Nat → Bool} {L : Nat → Nat} {σ : zS} {k : Int32 → zS → Prop} (hn : n ≤ 60) (hl : σ.1 16 0 = iI n) (hL : ∀ p, p < n → σ.1 30 p = iI (L p) ∧ L p < 2147483648 ∧ (P p = true ↔ 0 < L p)) (h : k (iI (mFs P n 0)) σ) : zCall (d + 2) nX1_firstUnderflow [.ref 26] σ (zPI k) :=
  ze_X1_firstUnderflow σ (fun X hX => zq_X1_firstUnderflow_0 hX σ (fu_loop hX hn hl hL n 0 (by omega) ⟨_, rfl, h⟩))
theorem lf_loop {d n sz : Nat} {P : Nat → Bool} {L : Nat → Nat} {σ : zS} {post : zPo} {X : zX} (hX : zClosed none (zCall (d + 1)) post nX1_lastFullNotBehind X) (hn : n ≤ 60) (hsz : sz < 2147483648) (hs : σ.1 26 7 = iI sz) (hL : ∀ p, p < n → σ.1 28 p = iI (L p) ∧ L p < 2147483648 ∧ (P p = true ↔ L p = sz)) : ∀ (w : Nat), (w < n ∨ w = 0) → post (some (.int (iI (mLf P w)))) σ → X 2 [some (.ref 26), none, some (.int (iI w))] [] σ
  | 0, _, h => zq_X1_lastFullNotBehind_2 hX _ σ (zIf_t (by decide) h)
  | w + 1, hw, h => by
    have hin : w + 1 < n := by omega
    obtain ⟨l1, l2, l3⟩ := hL (w + 1) hin
    have e : iI ((w + 1 : Nat) : Int) + (-1) = iI (w : Int) := by rw [iI_pm]; exact congrArg iI (by omega)
    refine zq_X1_lastFullNotBehind_2 hX _ σ (zIf_f ?_ ?_)
    · rw [show (0 : Int32) = iI 0 from rfl, iI_le (by omega) (by omega) (by omega) (by omega)]; omega
    · rw [zAt_k (show w + 1 < zN 28 by show w + 1 < 60; omega), l1, hs, iI_eq (by omega) (by omega) (by omega) (by omega), e]
      unfold mLf at h
      refine ⟨fun z => ?_, fun z => ?_⟩
      · rw [if_pos (l3.mpr (by omega))] at h
        exact h
      · rw [if_neg (fun y => z (by have := l3.mp y; omega))] at h
        exact lf_loop hX hn hsz hs hL w (by omega) h
theorem sp_lastFull {d n sz w : Nat} {P : Nat → Bool} {L : Nat → Nat} {σ : zS} {k : Int32 → zS → Prop} (hn : n ≤ 60) (hsz : sz < 2147483648) (hs : σ.1 26 7 = iI sz) (hL : ∀ p, p < n → σ.1 28 p = iI (L p) ∧ L p < 2147483648 ∧ (P p = true ↔ L p = sz)) (hw : w < n) (h : k (iI (mLf P w)) σ) : zCall (d + 2) nX1_lastFullNotBehind [.ref 26, .int (iI w)] σ (zPI k) :=
  ze_X1_lastFullNotBehind _ σ (fun X hX => zq_X1_lastFullNotBehind_0 hX _ σ (lf_loop hX hn hsz hs hL w (Or.inl hw) ⟨_, rfl, h⟩))
theorem sb_loop {d n : Nat} {B : Nat → Nat} {σ : zS} {post : zPo} {X : zX} (hX : zClosed none (zCall (d + 1)) post nX1_sumOfBits X) (hn : n ≤ 60) (hl : σ.1 16 0 = iI n) (hB : ∀ p, p < n → σ.1 27 p = iI (B p)) (h : post (some (.int (iI (fb_sm B n)))) σ) : ∀ (m i : Nat), i + m = n → X 4 [some (.ref 26), some (.int (iI (fb_sm B i))), some (.int (iI i))] [] σ
  | 0, i, hm => by
    have e : i = n := by omega
    subst e
    refine zq_X1_sumOfBits_4 hX _ _ σ (zIf_f ?_ h)
    rw [hl]
    exact Int32.lt_irrefl
  | m + 1, i, hm => by
    have hin : i < n := by omega
    refine zq_X1_sumOfBits_4 hX _ _ σ (zIf_t ?_ ?_)
    · rw [hl, iI_lt (by omega) (by omega) (by omega) (by omega)]; omega
    · rw [zAt_k (show i < zN 27 by show i < 60; omega), hB i hin, iI_s, iI_kk, ← fb_sm_succ]
      exact sb_loop hX hn hl hB h m (i + 1) (by omega)
theorem sp_sumOfBits {d n : Nat} {B : Nat → Nat} {σ : zS} {k : Int32 → zS → Prop} (hn : n ≤ 60) (hl : σ.1 16 0 = iI n) (hB : ∀ p, p < n → σ.1 27 p = iI (B p)) (h : k (iI (fb_sm B n)) σ) : zCall (d + 2) nX1_sumOfBits [.ref 26] σ (zPI k) :=
  ze_X1_sumOfBits σ (fun X hX => zq_X1_sumOfBits_0 hX σ (sb_loop hX hn hl hB ⟨_, rfl, h⟩ n 0 (by omega)))
