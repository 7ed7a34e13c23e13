/-! load: the component's runs and clip -/
theorem sp_number {d p lo hi : Nat} {v : mV} {σ : zS} {k : Int32 → zS → Prop} (hv : vB v) (hT : kTx v σ) (hp : p < 1000) (hlo : lo ≤ 4000) (hhi : hi ≤ 4000) (h3 : σ.1 11 3 = iI p) (h1 : ¬ ((nuM v p).1 = p ∨ ¬ (lo ≤ (nuM v p).2 ∧ (nuM v p).2 ≤ hi)) → ∀ τ, zFr [11] σ τ → τ.1 11 0 = σ.1 11 0 → τ.1 11 3 = iI (skp v (nuM v p).1) → τ.1 11 4 = iI (nuM v p).2 → k 1 τ) (h0 : ((nuM v p).1 = p ∨ ¬ (lo ≤ (nuM v p).2 ∧ (nuM v p).2 ≤ hi)) → ∀ τ, zFr [11] σ τ → τ.1 11 0 = σ.1 11 0 → τ.1 11 5 = iI p → k 0 τ) : zCall (d + 4) nX10_readNumber [.ref 11, .int (iI lo), .int (iI hi)] σ (zPI k) := by
  refine ze_X10_readNumber _ _ σ (fun X hX => zq_X10_readNumber_0 hX _ _ σ ?_)
  rw [h3]
  refine kn_loop (d := d) (σ := σ) hX hv hT hp hlo hhi h1 h0 4 0 0 _ rfl (by decide) rfl ((zFr.rf _ _).si (by decide) _ _) (by simp [zSI_at]) ?_ (by simp [zSI_at]; rfl)
  simp [zSI_at]
  exact h3
theorem sp_cadd12 {d n x y : Nat} {σ : zS} {k : zS → Prop} (hn : n < 60) (h0 : σ.1 12 0 = iI n) (h : k (zSI (zSI (zSI σ 13 n (iI x)) 14 n (iI y)) 12 0 (iI ((n + 1 : Nat) : Int)))) : zCall (d + 2) nX0_add [.ref 12, .int (iI x), .int (iI y)] σ (zPV k) := by
  refine ze_X0_add_12 _ _ σ (fun X hX => zq_X0_add_12_0 hX _ _ σ ⟨rfl, ?_⟩)
  rw [h0, zPt_k (show n < zN 13 from hn), zPt_k (show n < zN 14 from hn), iI_s]
  exact h
/-- from n on, x -/
def nX (f : Nat → Nat) (n x : Nat) : Nat → Nat := fun i => if i < n then f i else x
theorem kadd {d n x y z : Nat} {tx mo : Nat → Nat} {σ : zS} {post : zPo} {X : zX} (hX : zClosed none (zCall (d + 4)) post nX10_readRun X) (hz : n + z ≤ 60) (h : ∀ τ, zFr [12, 13, 14] σ τ → τ.1 12 0 = iI ((n + z : Nat) : Int) → (∀ j, j < n + z → τ.1 13 j = iI (nX tx n x j)) → (∀ j, j < n + z → τ.1 14 j = iI (nX mo n y j)) → post (some (.int 1)) τ) : ∀ (m i : Nat) (τ : zS), i + m = z → zFr [12, 13, 14] σ τ → τ.1 12 0 = iI ((n + i : Nat) : Int) → (∀ j, j < n + i → τ.1 13 j = iI (nX tx n x j)) → (∀ j, j < n + i → τ.1 14 j = iI (nX mo n y j)) → X 97 [some (.ref 11), some (.int (iI x)), some (.int (iI y)), some (.int (iI z)), some (.int (iI i))] [] τ
  | 0, i, τ, hm, f, g0, g1, g2 => by
    have e : i = z := by omega
    subst e
    exact zq_X10_readRun_97 hX _ _ _ _ τ (zIf_f Int32.lt_irrefl (h τ f g0 g1 g2))
  | m + 1, i, τ, hm, f, g0, g1, g2 => by
    refine zq_X10_readRun_97 hX _ _ _ _ τ (zIf_t ?_ ?_)
    · rw [iI_lt (by omega) (by omega) (by omega) (by omega)]; omega
    · refine sp_cadd12 (d := d + 2) (n := n + i) (by omega) g0 ?_
      rw [iI_s]
      refine kadd hX hz h m (i + 1) _ (by omega) (((f.si (by decide) _ _).si (by decide) _ _).si (by decide) _ _) (by simp [zSI_at]; rfl) (fun j hj => ?_) (fun j hj => ?_)
      · rw [zSI_1 (by decide), zSI_1 (by decide), zSI_s]
        by_cases e : j = n + i
        · rw [e]
          simp only [upd, if_pos]
          unfold nX
          rw [if_neg (by omega)]
        · simp only [upd, if_neg e]
          exact g1 j (by omega)
      · rw [zSI_1 (by decide), zSI_s, zSI_1 (by decide)]
        by_cases e : j = n + i
        · rw [e]
          simp only [upd, if_pos]
          unfold nX
          rw [if_neg (by omega)]
        · simp only [upd, if_neg e]
          exact g2 j (by omega)
def RD : List Nat := [11, 12, 13, 14]
theorem sp_run {d p n : Nat} {tx mo : Nat → Nat} {v : mV} {σ : zS} {k : Int32 → zS → Prop} (hv : vB v) (hT : kTx v σ) (hp : p ≤ vl v) (hn : n < 60) (h3 : σ.1 11 3 = iI p) (h12 : σ.1 12 0 = iI n) (h13 : ∀ j, j < n → σ.1 13 j = iI (tx j)) (h14 : ∀ j, j < n → σ.1 14 j = iI (mo j)) (hF0 : ∀ q : Nat, rUn v p n = (q, none) → ∀ τ, zFr RD σ τ → τ.1 11 0 = σ.1 11 0 → τ.1 11 5 = iI q → k 0 τ) (hF1 : ∀ q : Nat, rUn v p n = (q, none) → dG v q = true → ∀ τ, zFr RD σ τ → τ.1 11 0 = σ.1 11 0 → τ.1 11 3 = iI q → k 1 τ) (hO : ∀ s x y z : Nat, rUn v p n = (s, some (x, y, z)) → ∀ τ, zFr RD σ τ → τ.1 11 0 = σ.1 11 0 → τ.1 11 3 = iI s → τ.1 12 0 = iI ((n + z : Nat) : Int) → (∀ j, j < n + z → τ.1 13 j = iI (nX tx n x j)) → (∀ j, j < n + z → τ.1 14 j = iI (nX mo n y j)) → k 1 τ) : zCall (d + 5) nX10_readRun [.ref 11] σ (zPI k) := by
  have l100 := hv.2.2.2.1
  have rows0 : ∀ (x : Nat) (f : Nat → Nat) (r : Nat) (τ : zS), (∀ j, j < n → τ.1 r j = iI (f j)) → ∀ j, j < n + 0 → τ.1 r j = iI (nX f n x j) := fun x f r τ h j hj => by
    unfold nX
    rw [if_pos (by omega)]
    exact h j (by omega)
  refine ze_X10_readRun σ (fun X hX => zq_X10_readRun_0 hX σ ?_)
  refine sp_number (d := d) (lo := 1) (hi := 4000) hv hT (by omega) (by decide) (by decide) h3 (fun c1 τ1 f1 a0 a3 a4 => ?_) (fun c1 τ1 f1 a0 a5 => zIf_t rfl ⟨_, rfl, hF0 p (by unfold rUn; rw [if_pos c1]) τ1 (f1.wd (by decide)) a0 a5⟩)
  have n1 := nuM_b v p
  have s1 := skp_b v (nuM v p).1
  have L1 : skp v (nuM v p).1 ≤ vl v := by have := n1.2.2.1 hp; omega
  have T1 : kTx v τ1 := hT.of a0 (f1.1 15 (by decide))
  refine zIf_f (by decide) ?_
  refine sp_sign (d := d) (c := 47) hv T1 (by omega) (by decide) a3 (fun c2 τ2 f2 g2 a3 => ?_) (fun c2 τ2 f2 b0 b5 => zIf_t rfl ⟨_, rfl, hF0 (skp v (nuM v p).1) (by unfold rUn; rw [if_neg c1, if_neg c2]) τ2 ((f1.wd (by decide)).tr f2 (by decide)) (b0.trans a0) b5⟩)
  have lt1 : skp v (nuM v p).1 < vl v := bY_in (by omega)
  have s2 := skp_b v (skp v (nuM v p).1 + 1)
  have L2 : skp v (skp v (nuM v p).1 + 1) ≤ vl v := by omega
  have T2 : kTx v τ2 := T1.of (g2 0 (by decide)) (f2.1 15 (by decide))
  have eU : rUn v p n = rU2 v (skp v (skp v (nuM v p).1 + 1)) (nuM v p).2 n := by unfold rUn; rw [if_neg c1, if_pos c2]
  have a4' := a4
  generalize skp v (skp v (nuM v p).1 + 1) = p2 at *
  generalize (nuM v p).2 = x at *
  refine zIf_f (by decide) ?_
  refine sp_number (d := d) (lo := 0) (hi := 4000) hv T2 (by omega) (by decide) (by decide) a3 (fun c3 τ3 f3 b0 b3 b4 => ?_) (fun c3 τ3 f3 b0 b5 => zIf_t rfl ⟨_, rfl, hF0 p2 (by rw [eU]; unfold rU2; rw [if_pos c3]) τ3 (((f1.wd (by decide)).tr f2 (by decide)).tr f3 (by decide)) (b0.trans ((g2 0 (by decide)).trans a0)) b5⟩)
  have n2 := nuM_b v p2
  have s3 := skp_b v (nuM v p2).1
  have L3 : skp v (nuM v p2).1 ≤ vl v := by have := n2.2.2.1 L2; omega
  have T3 : kTx v τ3 := T2.of b0 (f3.1 15 (by decide))
  have f123 : zFr RD σ τ3 := (((f1.wd (by decide)).tr f2 (by decide)).tr f3 (by decide))
  have z0 : τ3.1 11 0 = σ.1 11 0 := b0.trans ((g2 0 (by decide)).trans a0)
  have f12 : zFr [11] σ τ3 := (f1.tr f2 (by decide)).tr f3 (by decide)
  have bb := bY_b hv (skp v (nuM v p2).1)
  refine zIf_f (by decide) ?_
  rw [b3, cLt_by hv T3 (by omega), show (42 : Int32) = iI 42 from rfl, iI_eq (by omega) (by omega) (by omega) (by omega), a4, b4]
  have one : bY v (skp v (nuM v p2).1) ≠ 42 → X 97 [some (.ref 11), some (.int (iI x)), some (.int (iI (nuM v p2).2)), some (.int 1), some (.int 0)] [] τ3 := fun c4 => by
    refine kadd (d := d) (n := n) (z := 1) (tx := tx) (mo := mo) (σ := τ3) hX (by omega) (fun τ4 f4 e0 e1 e2 => ⟨_, rfl, ?_⟩) 1 0 τ3 rfl (zFr.rf _ _) (by rw [f12.1 12 (by decide)]; exact h12) (rows0 _ _ _ _ (fun j hj => by rw [f12.1 13 (by decide)]; exact h13 j hj)) (rows0 _ _ _ _ (fun j hj => by rw [f12.1 14 (by decide)]; exact h14 j hj))
    have f5 : zFr RD σ τ4 := f123.tr f4 (by decide)
    have y0 : τ4.1 11 0 = σ.1 11 0 := by rw [f4.1 11 (by decide)]; exact z0
    by_cases c5 : dG v (nuM v p2).1 = true
    · have e5 : skp v (nuM v p2).1 = (nuM v p2).1 := skp_no (dG_no c5).1
      exact hF1 (nuM v p2).1 (by rw [eU]; unfold rU2; rw [if_neg c3, if_pos c5]) c5 τ4 f5 y0 (by rw [f4.1 11 (by decide), b3, e5])
    · exact hO (skp v (nuM v p2).1) x (nuM v p2).2 1 (by rw [eU]; unfold rU2; rw [if_neg c3, if_neg c5, if_neg c4]) τ4 f5 y0 (by rw [f4.1 11 (by decide)]; exact b3) e0 e1 e2
  refine ⟨fun c4 => ?_, one⟩
  have nd : ¬ dG v (nuM v p2).1 = true := fun y => by
    have e5 : skp v (nuM v p2).1 = (nuM v p2).1 := skp_no (dG_no y).1
    rw [e5] at c4
    exact (dG_no y).2.2.1 c4
  have lt3 : skp v (nuM v p2).1 < vl v := bY_in (by omega)
  refine sp_sign (d := d) (c := 42) hv T3 (by omega) (by decide) b3 (fun _ τ4 f4 g4 d3 => ?_) (fun y => absurd c4 y)
  have s4 := skp_b v (skp v (nuM v p2).1 + 1)
  have T4 : kTx v τ4 := T3.of (g4 0 (by decide)) (f4.1 15 (by decide))
  have eU2 : rUn v p n = rU3 v (skp v (skp v (nuM v p2).1 + 1)) x (nuM v p2).2 n := by rw [eU]; unfold rU2; rw [if_neg c3, if_neg nd, if_pos c4]
  have L4 : skp v (skp v (nuM v p2).1 + 1) ≤ vl v := by omega
  have f14 : zFr [11] σ τ4 := f12.tr f4 (by decide)
  have f1234 : zFr RD σ τ4 := f123.tr f4 (by decide)
  have w0 : τ4.1 11 0 = σ.1 11 0 := (g4 0 (by decide)).trans z0
  generalize skp v (skp v (nuM v p2).1 + 1) = p4 at *
  generalize (nuM v p2).2 = y at *
  refine zIf_f (by decide) ?_
  have e60 : (60 : Int32) - τ4.1 12 0 = iI ((60 - n : Nat) : Int) := by
    rw [f14.1 12 (by decide), h12, show (60 : Int32) = iI 60 from rfl, iI_sub]; exact congrArg iI (by omega)
  rw [e60]
  refine sp_number (d := d) (lo := 1) (hi := 60 - n) hv T4 (by omega) (by decide) (by omega) d3 (fun c6 τ5 f5 e0 e3 e4 => ?_) (fun c6 τ5 f5 e0 e5 => zIf_t rfl ⟨_, rfl, hF0 p4 (by rw [eU2]; unfold rU3; rw [if_pos c6]) τ5 (f1234.tr f5 (by decide)) (e0.trans w0) e5⟩)
  have f15 : zFr [11] σ τ5 := f14.tr f5 (by decide)
  have zb : 1 ≤ (nuM v p4).2 ∧ (nuM v p4).2 ≤ 60 - n := Decidable.byContradiction fun w => c6 (Or.inr w)
  refine zIf_f (by decide) ?_
  rw [e4]
  refine kadd (d := d) (n := n) (z := (nuM v p4).2) (tx := tx) (mo := mo) (σ := τ5) hX (by omega) (fun τ6 f6 o0 o1 o2 => ⟨_, rfl, ?_⟩) (nuM v p4).2 0 τ5 (by omega) (zFr.rf _ _) (by rw [f15.1 12 (by decide)]; exact h12) (rows0 _ _ _ _ (fun j hj => by rw [f15.1 13 (by decide)]; exact h13 j hj)) (rows0 _ _ _ _ (fun j hj => by rw [f15.1 14 (by decide)]; exact h14 j hj))
  have f7 : zFr RD σ τ6 := (f1234.tr f5 (by decide)).tr f6 (by decide)
  have y0 : τ6.1 11 0 = σ.1 11 0 := by rw [f6.1 11 (by decide)]; exact e0.trans w0
  by_cases c7 : dG v (nuM v p4).1 = true
  · have e5 : skp v (nuM v p4).1 = (nuM v p4).1 := skp_no (dG_no c7).1
    exact hF1 (nuM v p4).1 (by rw [eU2]; unfold rU3; rw [if_neg c6, if_pos c7]) c7 τ6 f7 y0 (by rw [f6.1 11 (by decide), e3, e5])
  · exact hO (skp v (nuM v p4).1) x y (nuM v p4).2 (by rw [eU2]; unfold rU3; rw [if_neg c6, if_neg c7]) τ6 f7 y0 (by rw [f6.1 11 (by decide)]; exact e3) o0 o1 o2
-- the whole text
def pS (v : mV) : Nat → Nat → Nat → (Nat → Nat) → (Nat → Nat) → Int × Nat × (Nat → Nat) × (Nat → Nat)
  | 0, p, n, tx, mo => ((p : Int), n, tx, mo)
  | m + 1, p, n, tx, mo => if 60 ≤ n then ((p : Int), n, tx, mo) else match rUn v p n with
    | (q, none) => ((q : Int), n, tx, mo)
    | (s, some (x, y, z)) => if bY v s = 59 then pS v m (skp v (s + 1)) (n + z) (nX tx n x) (nX mo n y) else if s < vl v then ((s : Int), n, tx, mo) else (-1, n + z, nX tx n x, nX mo n y)
def pA (v : mV) : Int × Nat × (Nat → Nat) × (Nat → Nat) := if skp v 0 < vl v then pS v 61 (skp v 0) 0 (fun _ => 0) (fun _ => 0) else (-1, 0, (fun _ => 0), fun _ => 0)
theorem pS_n {v : mV} {m p n : Nat} {tx mo : Nat → Nat} (hn : ¬ 60 ≤ n) {q : Nat} (e : rUn v p n = (q, none)) : pS v (m + 1) p n tx mo = ((q : Int), n, tx, mo) := by
  show (if 60 ≤ n then _ else _) = _
  rw [if_neg hn, e]
theorem pS_s {v : mV} {m p n : Nat} {tx mo : Nat → Nat} (hn : ¬ 60 ≤ n) {s x y z : Nat} (e : rUn v p n = (s, some (x, y, z))) : pS v (m + 1) p n tx mo = if bY v s = 59 then pS v m (skp v (s + 1)) (n + z) (nX tx n x) (nX mo n y) else if s < vl v then ((s : Int), n, tx, mo) else (-1, n + z, nX tx n x, nX mo n y) := by
  show (if 60 ≤ n then _ else _) = _
  rw [if_neg hn, e]
theorem rU3_s {v : mV} {p x y n s x' y' z : Nat} (hp : p ≤ vl v) (hn : n < 60) (e : rU3 v p x y n = (s, some (x', y', z))) : s ≤ vl v ∧ x' = x ∧ y' = y ∧ 1 ≤ z ∧ n + z ≤ 60 := by
  have n1 := nuM_b v p
  have s1 := skp_b v (nuM v p).1
  unfold rU3 at e
  by_cases c1 : (nuM v p).1 = p ∨ ¬ (1 ≤ (nuM v p).2 ∧ (nuM v p).2 ≤ 60 - n)
  · rw [if_pos c1] at e; simp at e
  · rw [if_neg c1] at e
    by_cases c2 : dG v (nuM v p).1 = true
    · rw [if_pos c2] at e; simp at e
    · rw [if_neg c2] at e
      simp at e
      have := n1.2.2.1 hp
      omega
theorem rU2_s {v : mV} {p x n s x' y' z : Nat} (hp : p ≤ vl v) (hn : n < 60) (e : rU2 v p x n = (s, some (x', y', z))) : s ≤ vl v ∧ x' = x ∧ y' ≤ 4000 ∧ 1 ≤ z ∧ n + z ≤ 60 := by
  have n1 := nuM_b v p
  have s1 := skp_b v (nuM v p).1
  have n2 := n1.2.2.1 hp
  unfold rU2 at e
  by_cases c1 : (nuM v p).1 = p ∨ ¬ (0 ≤ (nuM v p).2 ∧ (nuM v p).2 ≤ 4000)
  · rw [if_pos c1] at e; simp at e
  · rw [if_neg c1] at e
    by_cases c2 : dG v (nuM v p).1 = true
    · rw [if_pos c2] at e; simp at e
    · rw [if_neg c2] at e
      by_cases c3 : bY v (skp v (nuM v p).1) = 42
      · rw [if_pos c3] at e
        have l1 : skp v (nuM v p).1 < vl v := bY_in (by omega)
        have s2 := skp_b v (skp v (nuM v p).1 + 1)
        have := rU3_s (by omega) hn e
        omega
      · rw [if_neg c3] at e
        simp at e
        omega
theorem rUn_s {v : mV} {p n s x y z : Nat} (hp : p ≤ vl v) (hn : n < 60) (e : rUn v p n = (s, some (x, y, z))) : s ≤ vl v ∧ (1 ≤ x ∧ x ≤ 4000) ∧ y ≤ 4000 ∧ 1 ≤ z ∧ n + z ≤ 60 := by
  have n1 := nuM_b v p
  have s1 := skp_b v (nuM v p).1
  have n2 := n1.2.2.1 hp
  unfold rUn at e
  by_cases c1 : (nuM v p).1 = p ∨ ¬ (1 ≤ (nuM v p).2 ∧ (nuM v p).2 ≤ 4000)
  · rw [if_pos c1] at e; simp at e
  · rw [if_neg c1] at e
    by_cases c3 : bY v (skp v (nuM v p).1) = 47
    · rw [if_pos c3] at e
      have l1 : skp v (nuM v p).1 < vl v := bY_in (by omega)
      have s2 := skp_b v (skp v (nuM v p).1 + 1)
      have := rU2_s (by omega) hn e
      omega
    · rw [if_neg c3] at e
      simp at e
theorem rUn_f {v : mV} {p n q : Nat} (hp : p ≤ vl v) (e : rUn v p n = (q, none)) : q ≤ vl v := by
  have n1 := nuM_b v p
  have s1 := skp_b v (nuM v p).1
  have n2 := n1.2.2.1 hp
  unfold rUn at e
  by_cases c1 : (nuM v p).1 = p ∨ ¬ (1 ≤ (nuM v p).2 ∧ (nuM v p).2 ≤ 4000)
  · rw [if_pos c1] at e; simp at e; omega
  · rw [if_neg c1] at e
    by_cases c3 : bY v (skp v (nuM v p).1) = 47
    · rw [if_pos c3] at e
      have l1 : skp v (nuM v p).1 < vl v := bY_in (by omega)
      have s2 := skp_b v (skp v (nuM v p).1 + 1)
      have l2 : skp v (skp v (nuM v p).1 + 1) ≤ vl v := by omega
      generalize skp v (skp v (nuM v p).1 + 1) = p2 at *
      have m1 := nuM_b v p2
      have m2 := m1.2.2.1 l2
      have t1 := skp_b v (nuM v p2).1
      unfold rU2 at e
      by_cases d1 : (nuM v p2).1 = p2 ∨ ¬ (0 ≤ (nuM v p2).2 ∧ (nuM v p2).2 ≤ 4000)
      · rw [if_pos d1] at e; simp at e; omega
      · rw [if_neg d1] at e
        by_cases d2 : dG v (nuM v p2).1 = true
        · rw [if_pos d2] at e; simp at e; omega
        · rw [if_neg d2] at e
          by_cases d3 : bY v (skp v (nuM v p2).1) = 42
          · rw [if_pos d3] at e
            have l3 : skp v (nuM v p2).1 < vl v := bY_in (by omega)
            have t2 := skp_b v (skp v (nuM v p2).1 + 1)
            have l4 : skp v (skp v (nuM v p2).1 + 1) ≤ vl v := by omega
            generalize skp v (skp v (nuM v p2).1 + 1) = p4 at *
            have m3 := nuM_b v p4
            have m4 := m3.2.2.1 l4
            unfold rU3 at e
            by_cases e1 : (nuM v p4).1 = p4 ∨ ¬ (1 ≤ (nuM v p4).2 ∧ (nuM v p4).2 ≤ 60 - n)
            · rw [if_pos e1] at e; simp at e; omega
            · rw [if_neg e1] at e
              by_cases e2 : dG v (nuM v p4).1 = true
              · rw [if_pos e2] at e; simp at e; omega
              · rw [if_neg e2] at e; simp at e
          · rw [if_neg d3] at e; simp at e
    · rw [if_neg c3] at e; simp at e; omega
