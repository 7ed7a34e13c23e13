/-! load: the reference's runs; the pair -/
def RW : List Nat := [63, 77, 78]
theorem nuF_b (v : mV) (p lo hi : Nat) : -1 ≤ nuF v p lo hi ∧ nuF v p lo hi ≤ (p : Int) + 4 := by
  have := nuM_b v p
  unfold nuF
  repeat' split
  all_goals omega
/-- nothing but where it reads, the fault and the number of frames -/
def zRd (σ τ : zS) : Prop := zFr RW σ τ ∧ ∀ j, j ≠ 17 → j ≠ 18 → j ≠ 21 → τ.1 63 j = σ.1 63 j
theorem zRd.tr {σ τ υ : zS} (h : zRd σ τ) (f : zFr [63] τ υ) (g : ∀ j, j ≠ 17 → j ≠ 18 → υ.1 63 j = τ.1 63 j) : zRd σ υ := ⟨h.1.tr f (by decide), fun j h1 h2 h3 => (g j h1 h2).trans (h.2 j h1 h2 h3)⟩
theorem zRd.tx {v : mV} {σ τ : zS} (h : zRd σ τ) (hT : rTx v σ) : rTx v τ := hT.of (h.2 16 (by decide) (by decide) (by decide)) (h.1.1 76 (by decide))
theorem failX {d : Nat} {x y z : Int32} {fa : Int} {τ : zS} {post : zPo} {X : zX} (hX : zClosed none (zCall (d + 3)) post nX12_readsRun X) (h18 : τ.1 63 18 = iI fa) (hb : 0 ≤ fa ∧ fa < 100000) (h : post none τ) : X 144 [some (.ref 63), some (.int x), some (.int y), some (.int z), some (.int 0)] [] τ :=
  zq_X12_readsRun_144 hX _ _ _ _ τ ⟨fun _ => zIf_f (by rw [h18, show (-1 : Int32) = iI (-1) from by decide, iI_eq (by omega) (by omega) (by omega) (by omega)]; omega) h, fun _ => h⟩
theorem radd {d n x y z : Nat} {tx mo : Nat → Nat} {σ : zS} {post : zPo} {X : zX} (hX : zClosed none (zCall (d + 3)) post nX12_readsRun X) (hz : n + z ≤ 60) (h18 : σ.1 63 18 = iI (-1)) (h : ∀ τ, zFr RW σ τ → (∀ j, j ≠ 21 → τ.1 63 j = σ.1 63 j) → τ.1 63 21 = iI ((n + z : Nat) : Int) → (∀ j, j < n + z → τ.1 77 j = iI (nX tx n x j)) → (∀ j, j < n + z → τ.1 78 j = iI (nX mo n y j)) → post none τ) : ∀ (m i : Nat) (τ : zS), i + m = z → zFr RW σ τ → (∀ j, j ≠ 21 → τ.1 63 j = σ.1 63 j) → τ.1 63 21 = iI ((n + i : Nat) : Int) → (∀ j, j < n + i → τ.1 77 j = iI (nX tx n x j)) → (∀ j, j < n + i → τ.1 78 j = iI (nX mo n y j)) → X 144 [some (.ref 63), some (.int (iI x)), some (.int (iI y)), some (.int (iI z)), some (.int (iI i))] [] τ
  | 0, i, τ, hm, f, g, g0, g1, g2 => by
    have e : i = z := by omega
    subst e
    exact zq_X12_readsRun_144 hX _ _ _ _ τ (zIf_f Int32.lt_irrefl (h τ f g g0 g1 g2))
  | m + 1, i, τ, hm, f, g, g0, g1, g2 => by
    refine zq_X12_readsRun_144 hX _ _ _ _ τ (zIf_t ?_ (zIf_t ?_ ?_))
    · rw [iI_lt (by omega) (by omega) (by omega) (by omega)]; omega
    · rw [g 18 (by decide), h18]; decide
    · rw [g0, iI_k (by omega), iI_s, iI_s]
      refine ⟨vin_k (by show n + i < 60; omega) (by decide), vin_k (by show n + i < 60; omega) (by decide), ?_⟩
      refine radd hX hz h18 h m (i + 1) _ (by omega) (((f.si (by decide) _ _).si (by decide) _ _).si (by decide) _ _) (fun j hj => ?_) (by simp [zSI_at]; rfl) (fun j hj => ?_) (fun j hj => ?_)
      · rw [zSI_at, if_neg (fun z => hj z.2), zSI_1 (by decide), zSI_1 (by decide)]; exact g j hj
      · rw [zSI_1 (by decide), zSI_1 (by decide), zSI_s]
        by_cases e : j = n + i
        · rw [e]
          simp only [upd, if_pos]
          unfold nX
          rw [if_neg (by omega)]
        · simp only [upd, if_neg e]
          exact g1 j (by omega)
      · rw [zSI_1 (by decide), zSI_s, zSI_1 (by decide)]
        by_cases e : j = n + i
        · rw [e]
          simp only [upd, if_pos]
          unfold nX
          rw [if_neg (by omega)]
        · simp only [upd, if_neg e]
          exact g2 j (by omega)
theorem sp_rRunX {d p n : Nat} {tx mo : Nat → Nat} {v : mV} {σ : zS} {k : zS → Prop} (hv : vB v) (hT : rTx v σ) (hp : p ≤ vl v) (hn : n < 60) (h17 : σ.1 63 17 = iI p) (h18 : σ.1 63 18 = iI (-1)) (h21 : σ.1 63 21 = iI n) (h77 : ∀ j, j < n → σ.1 77 j = iI (tx j)) (h78 : ∀ j, j < n → σ.1 78 j = iI (mo j)) (hF : ∀ q : Nat, rUn v p n = (q, none) → ∀ (τ : zS) (p' : Nat), zRd σ τ → τ.1 63 18 = iI (q : Nat) → τ.1 63 17 = iI p' → p' < 10000 → k τ) (hO : ∀ s x y z : Nat, rUn v p n = (s, some (x, y, z)) → ∀ τ, zRd σ τ → τ.1 63 18 = iI (-1) → τ.1 63 17 = iI s → τ.1 63 21 = iI ((n + z : Nat) : Int) → (∀ j, j < n + z → τ.1 77 j = iI (nX tx n x j)) → (∀ j, j < n + z → τ.1 78 j = iI (nX mo n y j)) → k τ) : zCall (d + 4) nX12_readsRun [.ref 63] σ (zPV k) := by
  have l100 := hv.2.2.2.1
  have neg1 : ∀ (fa : Int), 0 ≤ fa → fa < 100000 → ¬ iI fa = -1 := fun fa h1 h2 => by
    rw [show (-1 : Int32) = iI (-1) from by decide, iI_eq (by omega) (by omega) (by omega) (by omega)]; omega
  have neg2 : iI (-1) = (-1 : Int32) := by decide
  refine ze_X12_readsRun σ (fun X hX => zq_X12_readsRun_0 hX σ (zIf_f ?_ ?_))
  · rw [h21, show (60 : Int32) = iI 60 from rfl, iI_eq (by omega) (by omega) (by omega) (by omega)]; omega
  refine sp_reads1 (d := d) (lo := 1) (hi := 4000) hv hT (by omega) (by decide) (by decide) h17 h18 (fun τ1 f1 g1 a17 a18 => ?_)
  have n1 := nuM_b v p
  have s1 := skp_b v (nuM v p).1
  have L1 : skp v (nuM v p).1 ≤ vl v := by have := n1.2.2.1 hp; omega
  have z1 : zRd σ τ1 := ⟨f1.wd (by decide), fun j h1 h2 _ => g1 j h1 h2⟩
  have T1 := z1.tx hT
  have fb := nuF_b v p 1 4000
  have r1_21 : τ1.1 63 21 = iI n := (g1 21 (by decide) (by decide)).trans h21
  -- a fault is set and what follows changes nothing of it
  have third : ∀ (fa : Nat), nuF v p 1 4000 = (fa : Int) → rUn v p n = (fa, none) → zCall (d + 3) nX12_skips [.ref 63] (zSI τ1 63 17 ((τ1.1 63 17) + 1)) (zPV fun σ23 => zIf ((σ23.1 63 18) = (-1)) (zCall (d + 3) nX12_reads1 [.ref 63, .int 0, .int 4000] σ23 (zPI fun x25 σ24 => zIf ((σ24.1 63 18) = (-1)) (zCall (d + 3) nX12_byteAt [.ref 63, .int (σ24.1 63 17)] σ24 (zPI fun x27 σ26 => zIf ((x27) = 42) (zCall (d + 3) nX12_skips [.ref 63] (zSI σ26 63 17 ((σ26.1 63 17) + 1)) (zPV fun σ28 => zCall (d + 3) nX12_reads1 [.ref 63, .int 1, .int (60 - (σ28.1 63 21))] σ28 (zPI fun x30 σ29 => X 144 [some (.ref 63), some (.int (iI (nuM v p).2)), some (.int x25), some (.int x30), some (.int 0)] [] σ29))) (X 144 [some (.ref 63), some (.int (iI (nuM v p).2)), some (.int x25), some (.int 1), some (.int 0)] [] σ26))) (X 144 [some (.ref 63), some (.int (iI (nuM v p).2)), some (.int x25), some (.int 1), some (.int 0)] [] σ24))) (X 144 [some (.ref 63), some (.int (iI (nuM v p).2)), some (.int 0), some (.int 1), some (.int 0)] [] σ23)) := by
    intro fa ef er
    have b := rUn_f hp er
    rw [a17, iI_s]
    have f0 : zFr [63] τ1 (zSI τ1 63 17 (iI ((skp v (nuM v p).1 + 1 : Nat) : Int))) := (zFr.rf _ _).si (by decide) _ _
    refine sp_rskip (d := d + 1) (p := skp v (nuM v p).1 + 1) hv (T1.of (by simp [zSI_at]) (zSI_1 (by decide))) (by omega) (by simp [zSI_at]) (fun τ2 f2 g2 b17 => ?_)
    have s2 := skp_b v (skp v (nuM v p).1 + 1)
    have e18 : τ2.1 63 18 = iI (fa : Int) := by rw [g2 18 (by decide), ← ef, ← a18]; simp [zSI_at]
    have z2 : zRd σ τ2 := z1.tr (f0.tr f2 (by decide)) (fun j h1 h2 => by rw [g2 j h1, zSI_at, if_neg (fun z => h1 z.2)])
    refine zIf_f (by rw [e18]; exact neg1 _ (by omega) (by omega)) ?_
    exact failX (d := d) hX e18 (by omega) ⟨rfl, hF fa er τ2 _ z2 e18 b17 (by omega)⟩
  by_cases c1 : (nuM v p).1 = p ∨ ¬ (1 ≤ (nuM v p).2 ∧ (nuM v p).2 ≤ 4000)
  · have ef : nuF v p 1 4000 = (p : Int) := by unfold nuF; rw [if_pos c1]
    have er : rUn v p n = (p, none) := by unfold rUn; rw [if_pos c1]
    exact zIf_f (by rw [a18, ef]; exact neg1 _ (by omega) (by omega)) (third p ef er)
  · by_cases c2 : dG v (nuM v p).1 = true
    · have ef : nuF v p 1 4000 = ((nuM v p).1 : Int) := by unfold nuF; rw [if_neg c1, if_pos c2]
      have es : skp v (nuM v p).1 = (nuM v p).1 := skp_no (dG_no c2).1
      have er : rUn v p n = ((nuM v p).1, none) := by unfold rUn; rw [if_neg c1, es, if_neg (dG_no c2).2.1]
      exact zIf_f (by rw [a18, ef]; exact neg1 _ (by omega) (by omega)) (third _ ef er)
    · have ef : nuF v p 1 4000 = -1 := by unfold nuF; rw [if_neg c1, if_neg c2]
      rw [ef] at a18
      clear third
      have bb := bY_b hv (skp v (nuM v p).1)
      refine zIf_t (by rw [a18]; exact neg2) ?_
      rw [a17]
      refine sp_byteAt (d := d + 2) hv T1 (by omega) ?_
      rw [show (47 : Int32) = iI 47 from rfl, iI_eq (by omega) (by omega) (by omega) (by omega), a17, iI_s]
      refine ⟨fun c3 => ?_, fun c3 => ?_⟩
      · have lt1 : skp v (nuM v p).1 < vl v := bY_in (by omega)
        have f0 : zFr [63] τ1 (zSI τ1 63 17 (iI ((skp v (nuM v p).1 + 1 : Nat) : Int))) := (zFr.rf _ _).si (by decide) _ _
        refine sp_rskip (d := d + 1) (p := skp v (nuM v p).1 + 1) hv (T1.of (by simp [zSI_at]) (zSI_1 (by decide))) (by omega) (by simp [zSI_at]) (fun τ2 f2 g2 b17 => ?_)
        have s2 := skp_b v (skp v (nuM v p).1 + 1)
        have L2 : skp v (skp v (nuM v p).1 + 1) ≤ vl v := by omega
        have e18 : τ2.1 63 18 = iI (-1) := by rw [g2 18 (by decide), ← a18]; simp [zSI_at]
        have z2 : zRd σ τ2 := z1.tr (f0.tr f2 (by decide)) (fun j h1 h2 => by rw [g2 j h1, zSI_at, if_neg (fun z => h1 z.2)])
        have T2 := z2.tx hT
        have eU : rUn v p n = rU2 v (skp v (skp v (nuM v p).1 + 1)) (nuM v p).2 n := by unfold rUn; rw [if_neg c1, if_pos c3]
        have r2_21 : τ2.1 63 21 = iI n := by rw [g2 21 (by decide)]; simp [zSI_at]; exact r1_21
        have r2_77 : ∀ j, j < n → τ2.1 77 j = iI (tx j) := fun j hj => by rw [f2.1 77 (by decide), f0.1 77 (by decide), f1.1 77 (by decide)]; exact h77 j hj
        have r2_78 : ∀ j, j < n → τ2.1 78 j = iI (mo j) := fun j hj => by rw [f2.1 78 (by decide), f0.1 78 (by decide), f1.1 78 (by decide)]; exact h78 j hj
        generalize skp v (skp v (nuM v p).1 + 1) = p2 at *
        generalize (nuM v p).2 = x at *
        refine zIf_t (by rw [e18]; exact neg2) ?_
        refine sp_reads1 (d := d) (lo := 0) (hi := 4000) hv T2 (by omega) (by decide) (by decide) b17 e18 (fun τ3 f3 g3 d17 d18 => ?_)
        have n2 := nuM_b v p2
        have s3 := skp_b v (nuM v p2).1
        have L3 : skp v (nuM v p2).1 ≤ vl v := by have := n2.2.2.1 L2; omega
        have z3 : zRd σ τ3 := z2.tr f3 g3
        have T3 := z3.tx hT
        have bb2 := bY_b hv (skp v (nuM v p2).1)
        by_cases c4 : (nuM v p2).1 = p2 ∨ ¬ (0 ≤ (nuM v p2).2 ∧ (nuM v p2).2 ≤ 4000)
        · have ef2 : nuF v p2 0 4000 = (p2 : Int) := by unfold nuF; rw [if_pos c4]
          rw [ef2] at d18
          refine zIf_f (by rw [d18]; exact neg1 _ (by omega) (by omega)) (failX (d := d) hX d18 (by omega) ⟨rfl, hF p2 (by rw [eU]; unfold rU2; rw [if_pos c4]) τ3 _ z3 d18 d17 (by omega)⟩)
        · by_cases c5 : dG v (nuM v p2).1 = true
          · have ef2 : nuF v p2 0 4000 = ((nuM v p2).1 : Int) := by unfold nuF; rw [if_neg c4, if_pos c5]
            rw [ef2] at d18
            refine zIf_f (by rw [d18]; exact neg1 _ (by omega) (by omega)) (failX (d := d) hX d18 (by omega) ⟨rfl, hF (nuM v p2).1 (by rw [eU]; unfold rU2; rw [if_neg c4, if_pos c5]) τ3 _ z3 d18 d17 (by omega)⟩)
          · have ef2 : nuF v p2 0 4000 = -1 := by unfold nuF; rw [if_neg c4, if_neg c5]
            rw [ef2] at d18
            have r3_21 : τ3.1 63 21 = iI n := (g3 21 (by decide) (by decide)).trans r2_21
            have r3_77 : ∀ j, j < n + 0 → τ3.1 77 j = iI (nX tx n x j) := fun j hj => by
              unfold nX
              rw [if_pos (by omega), f3.1 77 (by decide)]; exact r2_77 j (by omega)
            have r3_78 : ∀ j, j < n + 0 → τ3.1 78 j = iI (nX mo n (nuM v p2).2 j) := fun j hj => by
              unfold nX
              rw [if_pos (by omega), f3.1 78 (by decide)]; exact r2_78 j (by omega)
            refine zIf_t (by rw [d18]; exact neg2) ?_
            rw [d17]
            refine sp_byteAt (d := d + 2) hv T3 (by omega) ?_
            rw [show (42 : Int32) = iI 42 from rfl, iI_eq (by omega) (by omega) (by omega) (by omega), d17, iI_s]
            refine ⟨fun c6 => ?_, fun c6 => ?_⟩
            · have lt3 : skp v (nuM v p2).1 < vl v := bY_in (by omega)
              have f4 : zFr [63] τ3 (zSI τ3 63 17 (iI ((skp v (nuM v p2).1 + 1 : Nat) : Int))) := (zFr.rf _ _).si (by decide) _ _
              refine sp_rskip (d := d + 1) (p := skp v (nuM v p2).1 + 1) hv (T3.of (by simp [zSI_at]) (zSI_1 (by decide))) (by omega) (by simp [zSI_at]) (fun τ4 f5 g5 h17' => ?_)
              have s4 := skp_b v (skp v (nuM v p2).1 + 1)
              have L4 : skp v (skp v (nuM v p2).1 + 1) ≤ vl v := by omega
              have h18' : τ4.1 63 18 = iI (-1) := by rw [g5 18 (by decide), ← d18]; simp [zSI_at]
              have z4 : zRd σ τ4 := z3.tr (f4.tr f5 (by decide)) (fun j h1 h2 => by rw [g5 j h1, zSI_at, if_neg (fun z => h1 z.2)])
              have T4 := z4.tx hT
              have eU2 : rUn v p n = rU3 v (skp v (skp v (nuM v p2).1 + 1)) x (nuM v p2).2 n := by rw [eU]; unfold rU2; rw [if_neg c4, if_neg c5, if_pos c6]
              have r4_21 : τ4.1 63 21 = iI n := by rw [g5 21 (by decide)]; simp [zSI_at]; exact r3_21
              have r4_77 : ∀ j, j < n + 0 → τ4.1 77 j = iI (nX tx n x j) := fun j hj => by rw [f5.1 77 (by decide), f4.1 77 (by decide)]; exact r3_77 j hj
              have r4_78 : ∀ j, j < n + 0 → τ4.1 78 j = iI (nX mo n (nuM v p2).2 j) := fun j hj => by rw [f5.1 78 (by decide), f4.1 78 (by decide)]; exact r3_78 j hj
              generalize skp v (skp v (nuM v p2).1 + 1) = p4 at *
              generalize (nuM v p2).2 = y at *
              have e60 : (60 : Int32) - τ4.1 63 21 = iI ((60 - n : Nat) : Int) := by
                rw [r4_21, show (60 : Int32) = iI 60 from rfl, iI_sub]; exact congrArg iI (by omega)
              rw [e60]
              refine sp_reads1 (d := d) (lo := 1) (hi := 60 - n) hv T4 (by omega) (by decide) (by omega) h17' h18' (fun τ5 f6 g6 k17 k18 => ?_)
              have n3 := nuM_b v p4
              have s5 := skp_b v (nuM v p4).1
              have z5 : zRd σ τ5 := z4.tr f6 g6
              have n3L := n3.2.2.1 L4
              by_cases c7 : (nuM v p4).1 = p4 ∨ ¬ (1 ≤ (nuM v p4).2 ∧ (nuM v p4).2 ≤ 60 - n)
              · have ef3 : nuF v p4 1 (60 - n) = (p4 : Int) := by unfold nuF; rw [if_pos c7]
                rw [ef3] at k18
                exact failX (d := d) hX k18 (by omega) ⟨rfl, hF p4 (by rw [eU2]; unfold rU3; rw [if_pos c7]) τ5 _ z5 k18 k17 (by omega)⟩
              · by_cases c8 : dG v (nuM v p4).1 = true
                · have ef3 : nuF v p4 1 (60 - n) = ((nuM v p4).1 : Int) := by unfold nuF; rw [if_neg c7, if_pos c8]
                  rw [ef3] at k18
                  exact failX (d := d) hX k18 (by omega) ⟨rfl, hF (nuM v p4).1 (by rw [eU2]; unfold rU3; rw [if_neg c7, if_pos c8]) τ5 _ z5 k18 k17 (by omega)⟩
                · have ef3 : nuF v p4 1 (60 - n) = -1 := by unfold nuF; rw [if_neg c7, if_neg c8]
                  rw [ef3] at k18
                  have zb : 1 ≤ (nuM v p4).2 ∧ (nuM v p4).2 ≤ 60 - n := Decidable.byContradiction fun w => c7 (Or.inr w)
                  refine radd (d := d) (n := n) (z := (nuM v p4).2) (tx := tx) (mo := mo) (σ := τ5) hX (by omega) k18 (fun τ6 f7 g7 o0 o1 o2 => ⟨rfl, ?_⟩) (nuM v p4).2 0 τ5 (by omega) (zFr.rf _ _) (fun _ _ => rfl) (by rw [g6 21 (by decide) (by decide)]; exact r4_21) (fun j hj => by rw [f6.1 77 (by decide)]; exact r4_77 j hj) (fun j hj => by rw [f6.1 78 (by decide)]; exact r4_78 j hj)
                  refine hO (skp v (nuM v p4).1) x y (nuM v p4).2 (by rw [eU2]; unfold rU3; rw [if_neg c7, if_neg c8]) τ6 ⟨z5.1.tr f7 (by decide), fun j h1 h2 h3 => (g7 j h3).trans (z5.2 j h1 h2 h3)⟩ ((g7 18 (by decide)).trans k18) ((g7 17 (by decide)).trans k17) o0 o1 o2
            · refine radd (d := d) (n := n) (z := 1) (tx := tx) (mo := mo) (σ := τ3) hX (by omega) d18 (fun τ6 f7 g7 o0 o1 o2 => ⟨rfl, ?_⟩) 1 0 τ3 rfl (zFr.rf _ _) (fun _ _ => rfl) r3_21 r3_77 r3_78
              refine hO (skp v (nuM v p2).1) x (nuM v p2).2 1 (by rw [eU]; unfold rU2; rw [if_neg c4, if_neg c5, if_neg c6]) τ6 ⟨z3.1.tr f7 (by decide), fun j h1 h2 h3 => (g7 j h3).trans (z3.2 j h1 h2 h3)⟩ ((g7 18 (by decide)).trans d18) ((g7 17 (by decide)).trans d17) o0 o1 o2
      · have er : rUn v p n = (skp v (nuM v p).1, none) := by unfold rUn; rw [if_neg c1, if_neg c3]
        refine sp_fails (d := d + 2) (fa := -1) a18 (by omega) ?_
        rw [if_pos rfl]
        have f0 : zFr [63] τ1 (zSI (zSI τ1 63 18 (iI ((skp v (nuM v p).1 : Nat) : Int))) 63 17 (iI ((skp v (nuM v p).1 + 1 : Nat) : Int))) := ((zFr.rf _ _).si (by decide) _ _).si (by decide) _ _
        have e17 : (zSI τ1 63 18 (iI ((skp v (nuM v p).1 : Nat) : Int))).1 63 17 = iI (skp v (nuM v p).1) := by simp [zSI_at]; exact a17
        rw [e17, iI_s]
        refine sp_rskip (d := d + 1) (p := skp v (nuM v p).1 + 1) hv (T1.of (by simp [zSI_at]) ((zSI_1 (by decide)).trans (zSI_1 (by decide)))) (by omega) (by simp [zSI_at]) (fun τ2 f2 g2 b17 => ?_)
        have s2 := skp_b v (skp v (nuM v p).1 + 1)
        have e18 : τ2.1 63 18 = iI ((skp v (nuM v p).1 : Nat) : Int) := by rw [g2 18 (by decide)]; simp [zSI_at]
        have z2 : zRd σ τ2 := z1.tr (f0.tr f2 (by decide)) (fun j h1 h2 => by rw [g2 j h1, zSI_at, if_neg (fun z => h1 z.2), zSI_at, if_neg (fun z => h2 z.2)])
        refine zIf_f (by rw [e18]; exact neg1 _ (by omega) (by omega)) ?_
        exact failX (d := d) hX e18 (by omega) ⟨rfl, hF _ er τ2 _ z2 e18 b17 (by omega)⟩
