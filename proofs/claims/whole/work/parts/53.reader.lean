/-! load: the reader in numbers; the component's reader -/
def bY (v : mV) (k : Nat) : Int := if k < vl v then (vt v k : Nat) else -1
def dG (v : mV) (k : Nat) : Bool := decide (48 ≤ bY v k ∧ bY v k ≤ 57)
def sK (v : mV) : Nat → Nat → Nat
  | 0, p => p
  | m + 1, p => if bY v p = 32 then sK v m (p + 1) else p
def skp (v : mV) (p : Nat) : Nat := sK v (vl v - p) p
def nD (v : mV) : Nat → Nat → Nat → Nat × Nat
  | 0, p, x => (p, x)
  | m + 1, p, x => if dG v p = true then nD v m (p + 1) (10 * x + (bY v p).toNat - 48) else (p, x)
def nuM (v : mV) (p : Nat) : Nat × Nat := nD v 4 p 0
/-- (where, the run) or (the fault, none) -/
def rU3 (v : mV) (p x y n : Nat) : Nat × Option (Nat × Nat × Nat) := if (nuM v p).1 = p ∨ ¬ (1 ≤ (nuM v p).2 ∧ (nuM v p).2 ≤ 60 - n) then (p, none) else if dG v (nuM v p).1 = true then ((nuM v p).1, none) else (skp v (nuM v p).1, some (x, y, (nuM v p).2))
def rU2 (v : mV) (p x n : Nat) : Nat × Option (Nat × Nat × Nat) := if (nuM v p).1 = p ∨ ¬ (0 ≤ (nuM v p).2 ∧ (nuM v p).2 ≤ 4000) then (p, none) else if dG v (nuM v p).1 = true then ((nuM v p).1, none) else if bY v (skp v (nuM v p).1) = 42 then rU3 v (skp v (skp v (nuM v p).1 + 1)) x (nuM v p).2 n else (skp v (nuM v p).1, some (x, (nuM v p).2, 1))
def rUn (v : mV) (p n : Nat) : Nat × Option (Nat × Nat × Nat) := if (nuM v p).1 = p ∨ ¬ (1 ≤ (nuM v p).2 ∧ (nuM v p).2 ≤ 4000) then (p, none) else if bY v (skp v (nuM v p).1) = 47 then rU2 v (skp v (skp v (nuM v p).1 + 1)) (nuM v p).2 n else (skp v (nuM v p).1, none)
theorem bY_b {v : mV} (hv : vB v) (k : Nat) : -1 ≤ bY v k ∧ bY v k ≤ 127 := by
  unfold bY
  by_cases c : k < vl v
  · rw [if_pos c]; have := hv.2.2.2.2 k c; omega
  · rw [if_neg c]; omega
theorem bY_in {v : mV} {k : Nat} (h : bY v k ≠ -1) : k < vl v := Decidable.byContradiction fun c => h (if_neg c)
theorem sK_b {v : mV} : ∀ (m p : Nat), p ≤ sK v m p ∧ sK v m p ≤ p + m
  | 0, p => ⟨Nat.le_refl p, Nat.le_refl p⟩
  | m + 1, p => by
    have := sK_b (v := v) m (p + 1)
    unfold sK
    split <;> omega
theorem skp_b (v : mV) (p : Nat) : p ≤ skp v p ∧ skp v p ≤ p + (vl v - p) := sK_b _ _
theorem skp_no {v : mV} {p : Nat} (h : bY v p ≠ 32) : skp v p = p := by
  unfold skp
  cases vl v - p with
  | zero => rfl
  | succ m =>
    unfold sK
    rw [if_neg h]
theorem skp_yes {v : mV} {p : Nat} (h : bY v p = 32) : skp v p = skp v (p + 1) := by
  have hp : p < vl v := bY_in (by omega)
  unfold skp
  rw [show vl v - p = (vl v - (p + 1)) + 1 by omega]
  show (if bY v p = 32 then sK v (vl v - (p + 1)) (p + 1) else p) = _
  rw [if_pos h]
theorem nD_b {v : mV} : ∀ (m p x : Nat), p ≤ (nD v m p x).1 ∧ (nD v m p x).1 ≤ p + m ∧ (p ≤ vl v → (nD v m p x).1 ≤ vl v)
  | 0, p, x => ⟨Nat.le_refl p, Nat.le_refl p, fun h => h⟩
  | m + 1, p, x => by
    have := nD_b (v := v) m (p + 1) (10 * x + (bY v p).toNat - 48)
    unfold nD
    by_cases c : dG v p = true
    · rw [if_pos c]
      have c2 := of_decide_eq_true c
      have hp : p < vl v := bY_in (by omega)
      exact ⟨by omega, by omega, fun _ => this.2.2 (by omega)⟩
    · rw [if_neg c]
      exact ⟨Nat.le_refl p, by omega, fun h => h⟩
theorem nD_v {v : mV} : ∀ (m p x : Nat), (nD v m p x).2 + 1 ≤ (x + 1) * 10 ^ m
  | 0, p, x => by
    show x + 1 ≤ (x + 1) * 1
    omega
  | m + 1, p, x => by
    have h10 : 0 < 10 ^ m := Nat.pow_pos (by decide)
    unfold nD
    by_cases c : dG v p = true
    · rw [if_pos c]
      have c2 := of_decide_eq_true c
      have ih := nD_v (v := v) m (p + 1) (10 * x + (bY v p).toNat - 48)
      have h1 : 10 * x + (bY v p).toNat - 48 + 1 ≤ (x + 1) * 10 := by omega
      have h2 := Nat.mul_le_mul_right (10 ^ m) h1
      rw [Nat.pow_succ, Nat.mul_comm (10 ^ m) 10, ← Nat.mul_assoc]
      exact Nat.le_trans ih h2
    · rw [if_neg c]
      have : (x + 1) * 1 ≤ (x + 1) * 10 ^ (m + 1) := Nat.mul_le_mul_left _ (Nat.pow_pos (by decide))
      omega
theorem nuM_b (v : mV) (p : Nat) : p ≤ (nuM v p).1 ∧ (nuM v p).1 ≤ p + 4 ∧ (p ≤ vl v → (nuM v p).1 ≤ vl v) ∧ (nuM v p).2 < 10000 := by
  have h1 := nD_b (v := v) 4 p 0
  have h2 := nD_v (v := v) 4 p 0
  unfold nuM
  exact ⟨h1.1, h1.2.1, h1.2.2, by omega⟩
theorem dG_no {v : mV} {p : Nat} (h : dG v p = true) : bY v p ≠ 32 ∧ bY v p ≠ 47 ∧ bY v p ≠ 42 ∧ bY v p ≠ 59 ∧ p < vl v := by
  have c2 := of_decide_eq_true h
  exact ⟨by omega, by omega, by omega, by omega, bY_in (by omega)⟩
-- the component
def kTx (v : mV) (τ : zS) : Prop := τ.1 11 0 = iI (vl v) ∧ ∀ i, i < vl v → τ.1 15 i = iI (vt v i)
theorem kTx.of {v : mV} {σ τ : zS} (h : kTx v σ) (e : τ.1 11 0 = σ.1 11 0) (e2 : τ.1 15 = σ.1 15) : kTx v τ := ⟨e.trans h.1, fun i hi => by rw [e2]; exact h.2 i hi⟩
theorem cLt_by {v : mV} {τ : zS} (hv : vB v) (h : kTx v τ) {p : Nat} (hp : p < 1000000) : cLt τ (iI (p : Int)) = iI (bY v p) := by
  have l100 := hv.2.2.2.1
  have e : iI (p : Int) < τ.1 11 0 ↔ p < vl v := by rw [h.1, iI_lt (by omega) (by omega) (by omega) (by omega)]; omega
  unfold cLt bY
  by_cases c : p < vl v
  · rw [if_pos (e.mpr c), if_pos c, zAt_k (show p < zN 15 by show p < 100; omega)]
    exact h.2 p c
  · rw [if_neg (fun z => c (e.mp z)), if_neg c]
    decide
theorem ks_loop {d : Nat} {v : mV} {σ : zS} {post : zPo} {X : zX} (hX : zClosed none (zCall (d + 2)) post nX10_skipBlanks X) (hv : vB v) (hT : kTx v σ) : ∀ (m p : Nat) (τ : zS), m = vl v - p → p < 100000 → zFr [11] σ τ → (∀ j, j ≠ 3 → τ.1 11 j = σ.1 11 j) → τ.1 11 3 = iI p → (∀ υ, zFr [11] σ υ → (∀ j, j ≠ 3 → υ.1 11 j = σ.1 11 j) → υ.1 11 3 = iI (skp v p) → post none υ) → X 0 [some (.ref 11)] [] τ
  | m, p, τ, hm, hp, f, g, h3, h => by
    have l100 := hv.2.2.2.1
    have hTt : kTx v τ := hT.of (g 0 (by decide)) (f.1 15 (by decide))
    have bb := bY_b hv p
    refine zq_X10_skipBlanks_0 hX τ ?_
    rw [h3, cLt_by hv hTt (by omega), hTt.1, iI_lt (by omega) (by omega) (by omega) (by omega), show (32 : Int32) = iI 32 from rfl, iI_eq (by omega) (by omega) (by omega) (by omega), iI_s]
    have stop : bY v p ≠ 32 → post none τ := fun z => h τ f g (by rw [skp_no z]; exact h3)
    refine ⟨fun z => ⟨fun y => ?_, stop⟩, fun z => stop (fun y => z (by have := bY_in (v := v) (k := p) (by omega); omega))⟩
    cases m with
    | zero => omega
    | succ m =>
      rw [skp_yes y] at h
      refine ks_loop hX hv hT m (p + 1) _ (by omega) (by omega) (f.si (by decide) _ _) (fun j hj => ?_) (by simp [zSI_at]) h
      rw [zSI_at, if_neg (fun z => hj z.2)]
      exact g j hj
theorem sp_skip {d p : Nat} {v : mV} {σ : zS} {k : zS → Prop} (hv : vB v) (hT : kTx v σ) (hp : p < 100000) (h3 : σ.1 11 3 = iI p) (h : ∀ τ, zFr [11] σ τ → (∀ j, j ≠ 3 → τ.1 11 j = σ.1 11 j) → τ.1 11 3 = iI (skp v p) → k τ) : zCall (d + 3) nX10_skipBlanks [.ref 11] σ (zPV k) :=
  ze_X10_skipBlanks σ (fun X hX => ks_loop (d := d) hX hv hT (vl v - p) p σ rfl hp (zFr.rf _ _) (fun _ _ => rfl) h3 (fun υ f g e => ⟨rfl, h υ f g e⟩))
theorem sp_sign {d p : Nat} {c : Int} {v : mV} {σ : zS} {k : Int32 → zS → Prop} (hv : vB v) (hT : kTx v σ) (hp : p < 1000) (hc : 0 ≤ c ∧ c ≤ 127) (h3 : σ.1 11 3 = iI p) (h1 : bY v p = c → ∀ τ, zFr [11] σ τ → (∀ j, j ≠ 3 → τ.1 11 j = σ.1 11 j) → τ.1 11 3 = iI (skp v (p + 1)) → k 1 τ) (h0 : bY v p ≠ c → ∀ τ, zFr [11] σ τ → τ.1 11 0 = σ.1 11 0 → τ.1 11 5 = iI p → k 0 τ) : zCall (d + 4) nX10_readSign [.ref 11, .int (iI c)] σ (zPI k) := by
  have l100 := hv.2.2.2.1
  have bb := bY_b hv p
  refine ze_X10_readSign _ σ (fun X hX => zq_X10_readSign_0 hX _ σ ?_)
  rw [h3, cLt_by hv hT (by omega), iI_eq (by omega) (by omega) (by omega) (by omega), iI_s]
  refine ⟨fun z => ?_, fun z => ⟨_, rfl, h0 z _ ((zFr.rf _ _).si (by decide) _ _) (by simp [zSI_at]) (by simp [zSI_at])⟩⟩
  have f0 : zFr [11] σ (zSI σ 11 3 (iI ((p + 1 : Nat) : Int))) := (zFr.rf _ _).si (by decide) _ _
  refine sp_skip (d := d) (p := p + 1) hv (hT.of (by simp [zSI_at]) (f0.1 15 (by decide))) (by omega) (by simp [zSI_at]) (fun τ f g e => ⟨_, rfl, h1 z τ (f0.tr f (by decide)) (fun j hj => ?_) e⟩)
  rw [g j hj, zSI_at, if_neg (fun z => hj z.2)]
theorem kn_loop {d p lo hi : Nat} {v : mV} {σ : zS} {k : Int32 → zS → Prop} {X : zX} (hX : zClosed none (zCall (d + 3)) (zPI k) nX10_readNumber X) (hv : vB v) (hT : kTx v σ) (hp : p < 1000) (hlo : lo ≤ 4000) (hhi : hi ≤ 4000) (h1 : ¬ ((nuM v p).1 = p ∨ ¬ (lo ≤ (nuM v p).2 ∧ (nuM v p).2 ≤ hi)) → ∀ τ, zFr [11] σ τ → τ.1 11 0 = σ.1 11 0 → τ.1 11 3 = iI (skp v (nuM v p).1) → τ.1 11 4 = iI (nuM v p).2 → k 1 τ) (h0 : ((nuM v p).1 = p ∨ ¬ (lo ≤ (nuM v p).2 ∧ (nuM v p).2 ≤ hi)) → ∀ τ, zFr [11] σ τ → τ.1 11 0 = σ.1 11 0 → τ.1 11 5 = iI p → k 0 τ) : ∀ (m i x : Nat) (τ : zS), i + m = 4 → x + 1 ≤ 10 ^ i → nuM v p = nD v m (p + i) x → zFr [11] σ τ → τ.1 11 0 = σ.1 11 0 → τ.1 11 3 = iI ((p + i : Nat) : Int) → τ.1 11 4 = iI x → X 10 [some (.ref 11), some (.int (iI lo)), some (.int (iI hi)), some (.int (iI p))] [] τ
  | m, i, x, τ, hm, hx, e, f, g0, g3, g4 => by
    have l100 := hv.2.2.2.1
    have hTt : kTx v τ := hT.of g0 (f.1 15 (by decide))
    have bb := bY_b hv (p + i)
    have p10 : 10 ^ i ≤ 10 ^ 4 := Nat.pow_le_pow_right (by decide) (by omega)
    have tail : nuM v p = (p + i, x) → zIf ((τ.1 11 3) = iI (p : Int)) (zPI k (some (.int 0)) (zSI τ 11 5 (iI (p : Int)))) (zIf (iI (lo : Int) ≤ (τ.1 11 4) ∧ (τ.1 11 4) ≤ iI (hi : Int)) (zCall (d + 3) nX10_skipBlanks [.ref 11] τ (zPV fun σ1 => zPI k (some (.int 1)) σ1)) (zPI k (some (.int 0)) (zSI τ 11 5 (iI (p : Int))))) := fun en => by
      have bad : ((nuM v p).1 = p ∨ ¬ (lo ≤ (nuM v p).2 ∧ (nuM v p).2 ≤ hi)) → zPI k (some (.int 0)) (zSI τ 11 5 (iI (p : Int))) := fun z => ⟨_, rfl, h0 z _ (f.si (by decide) _ _) (by simp [zSI_at]; exact g0) (by simp [zSI_at])⟩
      rw [en] at h1 bad
      rw [g3, g4, iI_eq (by omega) (by omega) (by omega) (by omega), iI_le (by omega) (by omega) (by omega) (by omega), iI_le (by omega) (by omega) (by omega) (by omega)]
      refine ⟨fun z => bad (Or.inl (by show p + i = p; omega)), fun z => ⟨fun y => ?_, fun y => bad (Or.inr (fun w => y (by have := w.1; have := w.2; simp only at *; omega)))⟩⟩
      refine sp_skip (d := d) (p := p + i) hv hTt (by omega) g3 (fun υ f2 g e3 => ⟨_, rfl, h1 (fun w => ?_) υ (f.tr f2 (by decide)) ((g 0 (by decide)).trans g0) e3 ((g 4 (by decide)).trans g4)⟩)
      rcases w with w | w
      · have w' : p + i = p := w
        omega
      · exact w ⟨by show lo ≤ x; omega, by show x ≤ hi; omega⟩
    refine zq_X10_readNumber_10 hX _ _ _ τ ?_
    have e4 : iI (p : Int) + 4 = iI ((p + 4 : Nat) : Int) := by rw [show (4 : Int32) = iI ((4 : Nat) : Int) from rfl, iI_kk]
    have lt4 : (τ.1 11 3) < iI (p : Int) + 4 ↔ i < 4 := by rw [g3, e4, iI_lt (by omega) (by omega) (by omega) (by omega)]; omega
    have dg : (48 ≤ (cLt τ (τ.1 11 3)) ∧ (cLt τ (τ.1 11 3)) ≤ 57) ↔ dG v (p + i) = true := by
      rw [g3, cLt_by hv hTt (by omega), show (48 : Int32) = iI 48 from rfl, show (57 : Int32) = iI 57 from rfl, iI_le (by omega) (by omega) (by omega) (by omega), iI_le (by omega) (by omega) (by omega) (by omega)]
      unfold dG
      rw [decide_eq_true_eq]
    cases m with
    | zero => exact zIf_f (fun z => by have := lt4.mp z; omega) (tail e)
    | succ m =>
      refine zIf_t (lt4.mpr (by omega)) ⟨fun z => ?_, fun z => ?_⟩
      · have dd := dg.mp z
        have c2 := of_decide_eq_true dd
        have ex : 10 * iI (x : Int) + iI (bY v (p + i)) - 48 = iI ((10 * x + (bY v (p + i)).toNat - 48 : Nat) : Int) := by
          rw [show (10 : Int32) = iI 10 from rfl, show (48 : Int32) = iI 48 from rfl, iI_mul, iI_add, iI_sub]
          exact congrArg iI (by omega)
        rw [g4, g3, cLt_by hv hTt (by omega), ex, iI_s]
        unfold nD at e
        rw [if_pos dd] at e
        refine kn_loop hX hv hT hp hlo hhi h1 h0 m (i + 1) _ _ (by omega) (by rw [Nat.pow_succ]; omega) e ((f.si (by decide) _ _).si (by decide) _ _) ?_ ?_ ?_
        · simp [zSI_at]; exact g0
        · simp [zSI_at]; rfl
        · simp [zSI_at]
      · unfold nD at e
        rw [if_neg (fun y => z (dg.mpr y))] at e
        exact tail e
