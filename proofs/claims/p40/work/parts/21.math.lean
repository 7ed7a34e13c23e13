/-! what follows from a clip: scenes, groups, types, the coding order, in plain numbers -/
def mOp (cut : Nat → Bool) (i : Nat) : Bool := decide (i = 0) || cut i
/-- the first frame of the group that is open when frame i comes -/
def mF (iv : Nat) (cut : Nat → Bool) : Nat → Nat
  | 0 => 0
  | i + 1 => if mOp cut i = true ∨ iv ≤ i - mF iv cut i then i else mF iv cut i
def mIt (iv : Nat) (cut : Nat → Bool) (i : Nat) : Bool := mOp cut i || decide (iv ≤ i - mF iv cut i)
/-- scenes, groups among the frames before i -/
def mS (cut : Nat → Bool) (i : Nat) : Nat := fb_ct (mOp cut) i
def mG (iv : Nat) (cut : Nat → Bool) (i : Nat) : Nat := fb_ct (mIt iv cut) i
theorem mF_succ (iv : Nat) (cut : Nat → Bool) (i : Nat) : mF iv cut (i + 1) = if mIt iv cut i = true then i else mF iv cut i := by
  show (if mOp cut i = true ∨ iv ≤ i - mF iv cut i then i else mF iv cut i) = _
  by_cases h : mOp cut i = true ∨ iv ≤ i - mF iv cut i
  · rw [if_pos h, if_pos (by simpa [mIt] using h)]
  · rw [if_neg h, if_neg (by simpa [mIt] using h)]
theorem mF_le (iv : Nat) (cut : Nat → Bool) : ∀ i, mF iv cut i ≤ i
  | 0 => Nat.le_refl 0
  | i + 1 => by
    rw [mF_succ]
    have := mF_le iv cut i
    by_cases h : mIt iv cut i = true
    · rw [if_pos h]; omega
    · rw [if_neg h]; omega
theorem mF_lt (iv : Nat) (cut : Nat → Bool) (i : Nat) : mF iv cut (i + 1) < i + 1 := by
  rw [mF_succ]
  have := mF_le iv cut i
  by_cases h : mIt iv cut i = true
  · rw [if_pos h]; omega
  · rw [if_neg h]; omega
theorem mIt_0 (iv : Nat) (cut : Nat → Bool) : mIt iv cut 0 = true := by simp [mIt, mOp]
/-- no group is longer than the interval -/
theorem mF_near {iv : Nat} (h1 : 1 ≤ iv) (cut : Nat → Bool) : ∀ i, i - mF iv cut i ≤ iv
  | 0 => by omega
  | i + 1 => by
    rw [mF_succ]
    have := mF_near h1 cut i
    by_cases h : mIt iv cut i = true
    · rw [if_pos h]; omega
    · rw [if_neg h]
      have h2 : ¬ iv ≤ i - mF iv cut i := fun z => h (by simp [mIt, z])
      omega
theorem mS_pos {cut : Nat → Bool} {i : Nat} (h : 0 < i) : 1 ≤ mS cut i := by
  have : mS cut 1 ≤ mS cut i := fb_ct_mono _ h
  have h2 : mS cut 1 = 1 := by simp [mS, fb_ct, mOp]
  omega
theorem mS_le (cut : Nat → Bool) (i : Nat) : mS cut i ≤ i := fb_ct_le _ i
/-- the frame is the first of its group exactly if it opens one -/
theorem mF_it {iv : Nat} {cut : Nat → Bool} {i : Nat} : mF iv cut (i + 1) = i ↔ mIt iv cut i = true := by
  rw [mF_succ]
  by_cases h : mIt iv cut i = true
  · simp [h]
  · rw [if_neg h]
    have := mF_le iv cut i
    refine ⟨fun e => ?_, fun z => absurd z h⟩
    cases i with
    | zero => exact absurd (mIt_0 iv cut) h
    | succ j =>
      have := mF_lt iv cut j
      omega
theorem mF_mono (iv : Nat) (cut : Nat → Bool) {i : Nat} : ∀ {j : Nat}, i ≤ j → mF iv cut (i + 1) ≤ mF iv cut (j + 1)
  | 0, h => by
    have : i = 0 := by omega
    subst this; exact Nat.le_refl _
  | j + 1, h => by
    by_cases e : i = j + 1
    · subst e; exact Nat.le_refl _
    · have h2 := mF_mono iv cut (i := i) (j := j) (by omega)
      rw [mF_succ iv cut (j + 1)]
      have := mF_lt iv cut j
      by_cases h3 : mIt iv cut (j + 1) = true
      · rw [if_pos h3]; omega
      · rw [if_neg h3]; exact h2
theorem mF_first {iv : Nat} {cut : Nat → Bool} : ∀ i, mIt iv cut (mF iv cut (i + 1)) = true
  | 0 => by
    rw [mF_succ, if_pos (mIt_0 iv cut)]
    exact mIt_0 iv cut
  | i + 1 => by
    rw [mF_succ]
    by_cases h : mIt iv cut (i + 1) = true
    · rw [if_pos h]; exact h
    · rw [if_neg h]; exact mF_first i
/-- how many frames a group has -/
def mGl (n iv : Nat) (cut : Nat → Bool) (f : Nat) : Nat := fb_ct (fun j => decide (mF iv cut (j + 1) = f)) n
/-- the end of the group that is open, read from the far end: behind d frames -/
def mEd (n iv : Nat) (cut : Nat → Bool) : Nat → Nat
  | 0 => n
  | d + 1 => if mIt iv cut (n - 1 - d) = true then n - 1 - d else mEd n iv cut d
theorem mEd_spec {n iv : Nat} {cut : Nat → Bool} : ∀ d, d < n → n - d ≤ mEd n iv cut d ∧ mEd n iv cut d ≤ n ∧ (∀ j, n - d ≤ j → j < mEd n iv cut d → mIt iv cut j = false) ∧ (mEd n iv cut d < n → mIt iv cut (mEd n iv cut d) = true)
  | 0, h => by
    simp only [mEd]
    exact ⟨by omega, Nat.le_refl n, fun j h1 h2 => by omega, fun h => absurd h (Nat.lt_irrefl n)⟩
  | d + 1, h => by
    obtain ⟨h1, h2, h3, h4⟩ := mEd_spec (n := n) (iv := iv) (cut := cut) d (by omega)
    simp only [mEd]
    by_cases e : mIt iv cut (n - 1 - d) = true
    · rw [if_pos e]
      exact ⟨by omega, by omega, fun j a b => by omega, fun _ => e⟩
    · rw [if_neg e]
      refine ⟨by omega, h2, fun j a b => ?_, h4⟩
      by_cases z : j = n - 1 - d
      · rw [z]; simpa using e
      · exact h3 j (by omega) b
/-- the same first frame from one opening to the next -/
theorem mF_same {iv : Nat} {cut : Nat → Bool} {f : Nat} : ∀ {j : Nat}, f ≤ j → (∀ k, f < k → k ≤ j → mIt iv cut k = false) → mF iv cut (j + 1) = mF iv cut (f + 1)
  | 0, h, _ => by
    have : f = 0 := by omega
    rw [this]
  | j + 1, h, hk => by
    by_cases e : f = j + 1
    · rw [e]
    · rw [mF_succ iv cut (j + 1), if_neg (by rw [hk (j + 1) (by omega) (Nat.le_refl _)]; decide)]
      exact mF_same (by omega) (fun k a b => hk k a (by omega))
theorem mGl_spec {n iv : Nat} {cut : Nat → Bool} {f : Nat} (h : f < n) : mGl n iv cut (mF iv cut (f + 1)) = mEd n iv cut (n - 1 - f) - mF iv cut (f + 1) := by
  have hf := mF_lt iv cut f
  obtain ⟨h1, h2, h3, h4⟩ := mEd_spec (n := n) (iv := iv) (cut := cut) (n - 1 - f) (by omega)
  have key : ∀ j, j < n → (mF iv cut (j + 1) = mF iv cut (f + 1) ↔ mF iv cut (f + 1) ≤ j ∧ j < mEd n iv cut (n - 1 - f)) := by
    intro j hj
    constructor
    · intro e
      refine ⟨by have := mF_lt iv cut j; omega, Classical.byContradiction fun z => ?_⟩
      have h5 := h4 (by omega)
      have h6 := mF_mono iv cut (i := mEd n iv cut (n - 1 - f)) (j := j) (by omega)
      rw [mF_it.mpr h5] at h6
      omega
    · rintro ⟨a, b⟩
      by_cases z : f ≤ j
      · exact mF_same z (fun k x y => h3 k (by omega) (by omega))
      · have e1 : mF iv cut (mF iv cut (f + 1) + 1) = mF iv cut (f + 1) := mF_it.mpr (mF_first f)
        have e2 := mF_mono iv cut a
        have e3 := mF_mono iv cut (show j ≤ f by omega)
        omega
  have gen : ∀ (lo hi n : Nat) (p : Nat → Bool), lo ≤ hi → hi ≤ n → (∀ j, j < n → (p j = true ↔ lo ≤ j ∧ j < hi)) → fb_ct p n = hi - lo := by
    intro lo hi n
    induction n with
    | zero =>
      intro p a b _
      simp only [fb_ct]; omega
    | succ n ih =>
      intro p a b hp
      rw [fb_ct_succ]
      by_cases z : hi = n + 1
      · by_cases z2 : lo = n + 1
        · have : fb_ct p n = 0 := fb_ct_zero.mpr (fun k hk => by
            have := hp k (by omega)
            cases hpk : p k with
            | false => rfl
            | true => have := this.mp hpk; omega)
          have h5 : p n = false := by
            cases hpk : p n with
            | false => rfl
            | true => have := (hp n (by omega)).mp hpk; omega
          rw [this, h5]; simp; omega
        · have e1 : fb_ct p n = n - lo := by
            have := ih p (by omega : lo ≤ hi) 
            have e := ih (fun j => p j) a
            have e5 : ∀ (q : Nat → Bool), lo ≤ n → n ≤ n → (∀ j, j < n → (q j = true ↔ lo ≤ j ∧ j < n)) → fb_ct q n = n - lo := by
              clear ih this e hp
              intro q
              have : ∀ (m : Nat), lo ≤ m → (∀ j, j < m → (q j = true ↔ lo ≤ j)) → fb_ct q m = m - lo := by
                intro m
                induction m with
                | zero => intro a _; simp [fb_ct]
                | succ m ihm =>
                  intro a hq
                  rw [fb_ct_succ]
                  by_cases y : lo = m + 1
                  · have e6 : fb_ct q m = 0 := fb_ct_zero.mpr (fun k hk => by
                      cases hpk : q k with
                      | false => rfl
                      | true => have := (hq k (by omega)).mp hpk; omega)
                    have e7 : q m = false := by
                      cases hpk : q m with
                      | false => rfl
                      | true => have := (hq m (by omega)).mp hpk; omega
                    rw [e6, e7]; simp; omega
                  · rw [ihm (by omega) (fun j hj => hq j (by omega)), (hq m (by omega)).mpr (by omega)]
                    simp; omega
              intro a _ hq
              exact this n a (fun j hj => ⟨fun z => ((hq j hj).mp z).1, fun z => (hq j hj).mpr ⟨z, hj⟩⟩)
            exact e5 p (by omega) (Nat.le_refl n) (fun j hj => ⟨fun y => by have := (hp j (by omega)).mp y; omega, fun y => (hp j (by omega)).mpr (by omega)⟩)
          rw [e1, (hp n (by omega)).mpr (by omega)]
          simp; omega
      · have e1 := ih p a (by omega) (fun j hj => hp j (by omega))
        have h5 : p n = false := by
          cases hpk : p n with
          | false => rfl
          | true => have := (hp n (by omega)).mp hpk; omega
        rw [e1, h5]; simp
  exact gen _ _ n _ (by omega) h2 (fun j hj => by rw [decide_eq_true_eq]; exact key j hj)
/-- types: 0 intra, 1 forward, 2 bridge -/
def mTy (n iv br : Nat) (cut : Nat → Bool) (i : Nat) : Nat :=
  if i - mF iv cut (i + 1) = 0 then 0 else if i - mF iv cut (i + 1) = mGl n iv cut (mF iv cut (i + 1)) - 1 ∨ (i - mF iv cut (i + 1)) % (br + 1) = 0 then 1 else 2
theorem mTy_lt (n iv br : Nat) (cut : Nat → Bool) (i : Nat) : mTy n iv br cut i ≤ 2 := by
  unfold mTy
  repeat' split
  all_goals omega
theorem mTy_last {n iv br : Nat} {cut : Nat → Bool} (h : 0 < n) : mTy n iv br cut (n - 1) ≠ 2 := by
  have e := mGl_spec (n := n) (iv := iv) (cut := cut) (f := n - 1) (by omega)
  rw [show n - 1 - (n - 1) = 0 by omega] at e
  simp only [mEd] at e
  unfold mTy
  rw [e]
  have := mF_lt iv cut (n - 1)
  rw [show n - 1 + 1 = n by omega] at this ⊢
  by_cases z : n - 1 - mF iv cut n = 0
  · rw [if_pos z]; omega
  · rw [if_neg z, if_pos (Or.inl (by omega))]; omega
-- the coding order
def mW (ty : Nat → Nat) : Nat → Nat
  | 0 => 0
  | i + 1 => if ty i = 2 then mW ty i else i + 1
def mPl (ty : Nat → Nat) (g : Nat) : Nat := if ty g = 2 then g + 1 else mW ty g
def mOr (ty : Nat → Nat) : Nat → Nat → Nat
  | 0, _ => 0
  | n + 1, p => if mPl ty n = p then n else mOr ty n p
theorem mW_le (ty : Nat → Nat) : ∀ i, mW ty i ≤ i
  | 0 => Nat.le_refl 0
  | i + 1 => by
    simp only [mW]
    have := mW_le ty i
    split <;> omega
theorem mW_step (ty : Nat → Nat) {i : Nat} : ∀ {j : Nat}, i < j → ty i ≠ 2 → i + 1 ≤ mW ty j
  | 0, h, _ => by omega
  | j + 1, h, ht => by
    simp only [mW]
    by_cases e : i = j
    · subst e; rw [if_neg ht]; omega
    · have := mW_step ty (j := j) (by omega) ht
      split <;> omega
/-- between the frame that waits first and i all are bridges -/
theorem mW_br (ty : Nat → Nat) : ∀ {i g : Nat}, mW ty i ≤ g → g < i → ty g = 2
  | 0, g, _, h => by omega
  | i + 1, g, h1, h2 => by
    simp only [mW] at h1
    by_cases e : ty i = 2
    · rw [if_pos e] at h1
      by_cases z : g = i
      · rw [z]; exact e
      · exact mW_br ty h1 (by omega)
    · rw [if_neg e] at h1; omega
/-- the frame before the one that waits first is no bridge -/
theorem mW_at (ty : Nat → Nat) : ∀ i, mW ty i = 0 ∨ ∃ k, mW ty i = k + 1 ∧ ty k ≠ 2
  | 0 => Or.inl rfl
  | i + 1 => by
    simp only [mW]
    by_cases e : ty i = 2
    · rw [if_pos e]; exact mW_at ty i
    · rw [if_neg e]; exact Or.inr ⟨i, rfl, e⟩
theorem mPl_in (ty : Nat → Nat) {i g : Nat} (h : g < mW ty i) : mPl ty g < mW ty i := by
  unfold mPl
  by_cases e : ty g = 2
  · rw [if_pos e]
    rcases mW_at ty i with z | ⟨k, z, hk⟩
    · omega
    · have : g ≠ k := fun q => hk (q ▸ e)
      omega
  · rw [if_neg e]
    have := mW_le ty g
    omega
theorem mPl_inj (ty : Nat → Nat) {g f : Nat} (h : g < f) : mPl ty g ≠ mPl ty f := by
  unfold mPl
  by_cases e : ty g = 2
  · rw [if_pos e]
    by_cases e2 : ty f = 2
    · rw [if_pos e2]; omega
    · rw [if_neg e2]
      intro z
      rcases mW_at ty f with y | ⟨k, y, hk⟩
      · omega
      · exact hk (by rw [show k = g by omega]; exact e)
  · rw [if_neg e]
    have h1 := mW_le ty g
    by_cases e2 : ty f = 2
    · rw [if_pos e2]; omega
    · rw [if_neg e2]
      have := mW_step ty h e
      omega
theorem mPl_lt {ty : Nat → Nat} {n g : Nat} (hl : 0 < n → ty (n - 1) ≠ 2) (h : g < n) : mPl ty g < n := by
  have e : mW ty n = n := by
    cases n with
    | zero => rfl
    | succ n =>
      simp only [mW]
      rw [if_neg]
      exact hl (by omega)
  have := mPl_in ty (i := n) (g := g) (by rw [e]; exact h)
  omega
theorem mOr_pl {ty : Nat → Nat} : ∀ {n g : Nat}, g < n → mOr ty n (mPl ty g) = g
  | 0, g, h => by omega
  | n + 1, g, h => by
    simp only [mOr]
    by_cases e : g = n
    · rw [e, if_pos rfl]
    · rw [if_neg (fun z => mPl_inj ty (show g < n by omega) z.symm)]
      exact mOr_pl (by omega)
theorem mPl_onto {ty : Nat → Nat} {n p : Nat} (hl : 0 < n → ty (n - 1) ≠ 2) (h : p < n) : ∃ g, g < n ∧ mPl ty g = p :=
  fb_onto (fun _ hi => mPl_lt hl hi) (fun _ _ hij _ => mPl_inj ty hij) h
theorem mOr_lt {ty : Nat → Nat} {n p : Nat} (hl : 0 < n → ty (n - 1) ≠ 2) (h : p < n) : mOr ty n p < n ∧ mPl ty (mOr ty n p) = p := by
  obtain ⟨g, h1, rfl⟩ := mPl_onto hl h
  rw [mOr_pl h1]
  exact ⟨h1, rfl⟩
theorem mOr_inj {ty : Nat → Nat} {n p q : Nat} (hl : 0 < n → ty (n - 1) ≠ 2) (hp : p < n) (hq : q < n) (e : mOr ty n p = mOr ty n q) : p = q := by
  have h1 := (mOr_lt hl hp).2
  have h2 := (mOr_lt hl hq).2
  rw [e] at h1
  exact h1.symm.trans h2
