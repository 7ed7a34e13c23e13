/-! load: the component's clip; the reference's reader -/
theorem rc_loop {d : Nat} {v : mV} {σ : zS} {T : Int × Nat × (Nat → Nat) × (Nat → Nat)} {post : zPo} {X : zX} (hX : zClosed none (zCall (d + 5)) post nX10_readClip X) (hv : vB v) (hT0 : kTx v σ) (fin : ∀ f n tx mo τ, T = (f, n, tx, mo) → zFr RD σ τ → τ.1 11 0 = σ.1 11 0 → (f = -1 → τ.1 12 0 = iI (n : Nat) ∧ (∀ j, j < n → τ.1 13 j = iI (tx j)) ∧ ∀ j, j < n → τ.1 14 j = iI (mo j)) → post (some (.int (iI f))) τ) : ∀ (m r p n : Nat) (tx mo : Nat → Nat) (τ : zS), r + m = 61 → 61 ≤ n + m → n ≤ 60 → p ≤ vl v → T = pS v m p n tx mo → zFr RD σ τ → τ.1 11 0 = σ.1 11 0 → τ.1 11 3 = iI p → τ.1 12 0 = iI n → (∀ j, j < n → τ.1 13 j = iI (tx j)) → (∀ j, j < n → τ.1 14 j = iI (mo j)) → X 32 [some (.ref 11), some (.int (iI r))] [] τ
  | 0, r, p, n, tx, mo, τ, hm, hnm, hn, hp, e, f, g0, g3, g12, g13, g14 => by omega
  | m + 1, r, p, n, tx, mo, τ, hm, hnm, hn, hp, e, f, g0, g3, g12, g13, g14 => by
    have l100 := hv.2.2.2.1
    have hT : kTx v τ := hT0.of g0 (f.1 15 (by decide))
    refine zq_X10_readClip_32 hX _ τ (zIf_t ?_ ?_)
    · rw [show (60 : Int32) = iI 60 from rfl, iI_le (by omega) (by omega) (by omega) (by omega)]; omega
    · have e60 : (τ.1 12 0) < 60 ↔ n < 60 := by rw [g12, show (60 : Int32) = iI 60 from rfl, iI_lt (by omega) (by omega) (by omega) (by omega)]; omega
      refine ⟨fun z => ?_, fun z => ?_⟩
      · have n60 := e60.mp z
        refine sp_run (d := d) (tx := tx) (mo := mo) hv hT hp n60 g3 g12 g13 g14 (fun q er τ1 f1 a0 a5 => ?_) (fun q er dq τ1 f1 a0 a3 => ?_) (fun s x y z er τ1 f1 a0 a3 a12 a13 a14 => ?_)
        · rw [pS_n (by omega) er] at e
          have qb := rUn_f hp er
          refine zIf_t rfl ?_
          rw [a5]
          exact fin q n tx mo τ1 e (f.tr f1 (by decide)) (a0.trans g0) (fun w => by omega)
        · rw [pS_n (by omega) er] at e
          have qb := rUn_f hp er
          obtain ⟨_, _, _, d59, dl⟩ := dG_no dq
          have hT1 : kTx v τ1 := hT.of a0 (f1.1 15 (by decide))
          refine zIf_f (by decide) (zIf_t ?_ ?_)
          · rw [a3, hT1.1, iI_lt (by omega) (by omega) (by omega) (by omega)]; omega
          · refine sp_sign (d := d + 1) (c := 59) hv hT1 (by omega) (by decide) a3 (fun c _ _ _ _ => absurd c d59) (fun _ τ2 f2 b0 b5 => zIf_t rfl ?_)
            rw [b5]
            exact fin q n tx mo τ2 e ((f.tr f1 (by decide)).tr f2 (by decide)) (b0.trans (a0.trans g0)) (fun w => by omega)
        · rw [pS_s (by omega) er] at e
          obtain ⟨sl, x1, y1, z1, z2⟩ := rUn_s hp n60 er
          have hT1 : kTx v τ1 := hT.of a0 (f1.1 15 (by decide))
          refine zIf_f (by decide) ⟨fun w => ?_, fun w => ?_⟩
          · have sL : s < vl v := by rw [a3, hT1.1, iI_lt (by omega) (by omega) (by omega) (by omega)] at w; omega
            refine sp_sign (d := d + 1) (c := 59) hv hT1 (by omega) (by decide) a3 (fun c τ2 f2 b0 b3 => zIf_f (by decide) ?_) (fun c τ2 f2 b0 b5 => zIf_t rfl ?_)
            · rw [if_pos c] at e
              have sb := skp_b v (s + 1)
              rw [iI_s]
              exact rc_loop hX hv hT0 fin m (r + 1) (skp v (s + 1)) (n + z) (nX tx n x) (nX mo n y) τ2 (by omega) (by omega) (by omega) (by omega) e ((f.tr f1 (by decide)).tr f2 (by decide)) ((b0 0 (by decide)).trans (a0.trans g0)) b3 (by rw [f2.1 12 (by decide)]; exact a12) (fun j hj => by rw [f2.1 13 (by decide)]; exact a13 j hj) (fun j hj => by rw [f2.1 14 (by decide)]; exact a14 j hj)
            · rw [if_neg c, if_pos sL] at e
              rw [b5]
              exact fin s n tx mo τ2 e ((f.tr f1 (by decide)).tr f2 (by decide)) (b0.trans (a0.trans g0)) (fun w => by omega)
          · have sL : ¬ s < vl v := fun y => w (by rw [a3, hT1.1, iI_lt (by omega) (by omega) (by omega) (by omega)]; omega)
            have nb : ¬ bY v s = 59 := fun y => sL (bY_in (by omega))
            rw [if_neg nb, if_neg sL] at e
            exact fin (-1) (n + z) _ _ τ1 e (f.tr f1 (by decide)) (a0.trans g0) (fun _ => ⟨a12, a13, a14⟩)
      · have n60 : ¬ n < 60 := fun y => z (e60.mpr y)
        have e2 : pS v (m + 1) p n tx mo = ((p : Int), n, tx, mo) := by
          show (if 60 ≤ n then _ else _) = _
          rw [if_pos (by omega)]
        rw [e2] at e
        rw [g3]
        exact fin p n tx mo τ e f g0 (fun w => by omega)
theorem sp_clip {d : Nat} {v : mV} {σ : zS} {k : Int32 → zS → Prop} (hv : vB v) (hT0 : kTx v σ) (fin : ∀ f n tx mo τ, pA v = (f, n, tx, mo) → zFr RD σ τ → τ.1 11 0 = σ.1 11 0 → (f = -1 → τ.1 12 0 = iI (n : Nat) ∧ (∀ j, j < n → τ.1 13 j = iI (tx j)) ∧ ∀ j, j < n → τ.1 14 j = iI (mo j)) → k (iI f) τ) : zCall (d + 6) nX10_readClip [.ref 11] σ (zPI k) := by
  have l100 := hv.2.2.2.1
  have s0 := skp_b v 0
  have f0 : zFr RD σ (zSI (zSI σ 12 0 0) 11 3 0) := ((zFr.rf _ _).si (by decide) _ _).si (by decide) _ _
  have hT : kTx v (zSI (zSI σ 12 0 0) 11 3 0) := hT0.of (by simp [zSI_at]) (f0.1 15 (by decide))
  refine ze_X10_readClip σ (fun X hX => zq_X10_readClip_0 hX σ ?_)
  refine sp_skip (d := d + 2) (p := 0) hv hT (by decide) (by simp [zSI_at]; rfl) (fun τ f g e3 => ?_)
  have g0 : τ.1 11 0 = σ.1 11 0 := (g 0 (by decide)).trans (by simp [zSI_at])
  have g12 : τ.1 12 0 = iI ((0 : Nat) : Int) := by rw [f.1 12 (by decide)]; simp [zSI_at]; rfl
  have hpA : pA v = if skp v 0 < vl v then pS v 61 (skp v 0) 0 (fun _ => 0) (fun _ => 0) else (-1, 0, (fun _ => 0), fun _ => 0) := rfl
  rw [e3, g0, hT0.1, iI_lt (by omega) (by omega) (by omega) (by omega)]
  refine ⟨fun z => ?_, fun z => ?_⟩
  · rw [if_pos (by omega)] at hpA
    exact rc_loop (d := d) (σ := σ) (T := pA v) hX hv hT0 (fun f n tx mo τ e f2 a0 a1 => ⟨_, rfl, fin f n tx mo τ e f2 a0 a1⟩) 61 0 (skp v 0) 0 _ _ τ rfl (by decide) (by decide) (by omega) hpA (f0.tr f (by decide)) g0 e3 g12 (fun j hj => absurd hj (Nat.not_lt_zero j)) (fun j hj => absurd hj (Nat.not_lt_zero j))
  · rw [if_neg (by omega)] at hpA
    exact ⟨_, rfl, fin (-1) 0 _ _ τ hpA (f0.tr f (by decide)) g0 (fun _ => ⟨g12, fun j hj => absurd hj (Nat.not_lt_zero j), fun j hj => absurd hj (Nat.not_lt_zero j)⟩)⟩
-- the reference
def rTx (v : mV) (τ : zS) : Prop := τ.1 63 16 = iI (vl v) ∧ ∀ i, i < vl v → τ.1 76 i = iI (vt v i)
theorem rTx.of {v : mV} {σ τ : zS} (h : rTx v σ) (e : τ.1 63 16 = σ.1 63 16) (e2 : τ.1 76 = σ.1 76) : rTx v τ := ⟨e.trans h.1, fun i hi => by rw [e2]; exact h.2 i hi⟩
theorem sp_byteAt {d p : Nat} {v : mV} {σ : zS} {k : Int32 → zS → Prop} (hv : vB v) (hT : rTx v σ) (hp : p < 1000000) (h : k (iI (bY v p)) σ) : zCall (d + 1) nX12_byteAt [.ref 63, .int (iI p)] σ (zPI k) := by
  have l100 := hv.2.2.2.1
  refine ze_X12_byteAt _ σ (fun X hX => zq_X12_byteAt_0 hX _ σ ?_)
  unfold bY at h
  rw [hT.1, iI_lt (by omega) (by omega) (by omega) (by omega)]
  refine ⟨fun z => ?_, fun z => ?_⟩
  · rw [if_pos (by omega)] at h
    rw [iI_k (by omega), hT.2 p (by omega)]
    exact ⟨vin_k (by show p < 100; omega) (by decide), _, rfl, h⟩
  · rw [if_neg (by omega)] at h
    exact ⟨_, rfl, h⟩
theorem rks_loop {d : Nat} {v : mV} {σ : zS} {post : zPo} {X : zX} (hX : zClosed none (zCall (d + 1)) post nX12_skips X) (hv : vB v) (hT : rTx v σ) : ∀ (m p : Nat) (τ : zS), m = vl v - p → p < 100000 → zFr [63] σ τ → (∀ j, j ≠ 17 → τ.1 63 j = σ.1 63 j) → τ.1 63 17 = iI p → (∀ υ, zFr [63] σ υ → (∀ j, j ≠ 17 → υ.1 63 j = σ.1 63 j) → υ.1 63 17 = iI (skp v p) → post none υ) → X 0 [some (.ref 63)] [] τ
  | m, p, τ, hm, hp, f, g, h3, h => by
    have l100 := hv.2.2.2.1
    have hTt : rTx v τ := hT.of (g 16 (by decide)) (f.1 76 (by decide))
    have bb := bY_b hv p
    refine zq_X12_skips_0 hX τ ?_
    rw [h3]
    refine sp_byteAt (d := d) hv hTt (by omega) ?_
    rw [show (32 : Int32) = iI 32 from rfl, iI_eq (by omega) (by omega) (by omega) (by omega), h3, iI_s]
    refine ⟨fun y => ?_, fun y => h τ f g (by rw [skp_no y]; exact h3)⟩
    have pl : p < vl v := bY_in (by omega)
    cases m with
    | zero => omega
    | succ m =>
      rw [skp_yes y] at h
      refine rks_loop hX hv hT m (p + 1) _ (by omega) (by omega) (f.si (by decide) _ _) (fun j hj => ?_) (by simp [zSI_at]) h
      rw [zSI_at, if_neg (fun z => hj z.2)]
      exact g j hj
theorem sp_rskip {d p : Nat} {v : mV} {σ : zS} {k : zS → Prop} (hv : vB v) (hT : rTx v σ) (hp : p < 100000) (h3 : σ.1 63 17 = iI p) (h : ∀ τ, zFr [63] σ τ → (∀ j, j ≠ 17 → τ.1 63 j = σ.1 63 j) → τ.1 63 17 = iI (skp v p) → k τ) : zCall (d + 2) nX12_skips [.ref 63] σ (zPV k) :=
  ze_X12_skips σ (fun X hX => rks_loop (d := d) hX hv hT (vl v - p) p σ rfl hp (zFr.rf _ _) (fun _ _ => rfl) h3 (fun υ f g e => ⟨rfl, h υ f g e⟩))
theorem sp_fails {d w : Nat} {fa : Int} {σ : zS} {k : zS → Prop} (hf : σ.1 63 18 = iI fa) (hb : -1 ≤ fa ∧ fa < 100000) (h : k (zSI σ 63 18 (iI (if fa = -1 then (w : Int) else fa)))) : zCall (d + 1) nX12_fails [.ref 63, .int (iI w)] σ (zPV k) := by
  refine ze_X12_fails _ σ (fun X hX => zq_X12_fails_0 hX _ σ ?_)
  rw [hf, show (-1 : Int32) = iI (-1) from by decide, iI_eq (by omega) (by omega) (by omega) (by omega)]
  refine ⟨fun z => ?_, fun z => ?_⟩
  · rw [if_pos z] at h; exact ⟨rfl, h⟩
  · rw [if_neg z] at h; exact ⟨rfl, h⟩
/-- the fault behind a number -/
def nuF (v : mV) (p lo hi : Nat) : Int := if (nuM v p).1 = p ∨ ¬ (lo ≤ (nuM v p).2 ∧ (nuM v p).2 ≤ hi) then (p : Int) else if dG v (nuM v p).1 = true then ((nuM v p).1 : Int) else -1
theorem r1_loop {d p lo hi : Nat} {v : mV} {σ : zS} {k : Int32 → zS → Prop} {X : zX} (hX : zClosed none (zCall (d + 2)) (zPI k) nX12_reads1 X) (hv : vB v) (hT : rTx v σ) (hp : p < 1000) (hlo : lo ≤ 4000) (hhi : hi ≤ 4000) (h18 : σ.1 63 18 = iI (-1)) (h : ∀ τ, zFr [63] σ τ → (∀ j, j ≠ 17 → j ≠ 18 → τ.1 63 j = σ.1 63 j) → τ.1 63 17 = iI (skp v (nuM v p).1) → τ.1 63 18 = iI (nuF v p lo hi) → k (iI (nuM v p).2) τ) : ∀ (m i x : Nat) (τ : zS), i + m = 4 → x + 1 ≤ 10 ^ i → nuM v p = nD v m (p + i) x → zFr [63] σ τ → (∀ j, j ≠ 17 → τ.1 63 j = σ.1 63 j) → τ.1 63 17 = iI ((p + i : Nat) : Int) → X 8 [some (.ref 63), some (.int (iI lo)), some (.int (iI hi)), some (.int (iI p)), some (.int (iI x))] [] τ
  | m, i, x, τ, hm, hx, e, f, g, g17 => by
    have l100 := hv.2.2.2.1
    have hTt : rTx v τ := hT.of (g 16 (by decide)) (f.1 76 (by decide))
    have bb := bY_b hv (p + i)
    have p10 : 10 ^ i ≤ 10 ^ 4 := Nat.pow_le_pow_right (by decide) (by omega)
    have t18 : τ.1 63 18 = iI (-1) := (g 18 (by decide)).trans h18
    have dg : ∀ y : Int32, y = iI (bY v (p + i)) → ((48 ≤ y ∧ y ≤ 57) ↔ dG v (p + i) = true) := fun y ey => by
      rw [ey, show (48 : Int32) = iI 48 from rfl, show (57 : Int32) = iI 57 from rfl, iI_le (by omega) (by omega) (by omega) (by omega), iI_le (by omega) (by omega) (by omega) (by omega)]
      unfold dG
      rw [decide_eq_true_eq]
    -- byteAt; is it a digit still; skips
    have f2 : nuM v p = (p + i, x) → ∀ (υ : zS) (fa : Int), zFr [63] σ υ → (∀ j, j ≠ 17 → j ≠ 18 → υ.1 63 j = σ.1 63 j) → υ.1 63 17 = iI ((p + i : Nat) : Int) → υ.1 63 18 = iI fa → (-1 ≤ fa ∧ fa < 100000) → nuF v p lo hi = (if fa = -1 then (if dG v (p + i) = true then ((p + i : Nat) : Int) else -1) else fa) → zCall (d + 2) nX12_byteAt [.ref 63, .int (υ.1 63 17)] υ (zPI fun x7 σ6 => zIf (48 ≤ x7 ∧ x7 ≤ 57) (zCall (d + 2) nX12_fails [.ref 63, .int (σ6.1 63 17)] σ6 (zPV fun σ8 => zCall (d + 2) nX12_skips [.ref 63] σ8 (zPV fun σ9 => zPI k (some (.int (iI x))) σ9))) (zCall (d + 2) nX12_skips [.ref 63] σ6 (zPV fun σ10 => zPI k (some (.int (iI x))) σ10))) := by
      intro en υ fa fυ gυ u17 u18 ub nf
      have hTu : rTx v υ := hT.of (gυ 16 (by decide) (by decide)) (fυ.1 76 (by decide))
      rw [en] at h
      rw [u17]
      refine sp_byteAt (d := d + 1) hv hTu (by omega) ⟨fun z => ?_, fun z => ?_⟩
      · have dd := (dg _ rfl).mp z
        rw [u17]
        refine sp_fails (d := d + 1) u18 ub ?_
        have f8 : zFr [63] σ (zSI υ 63 18 (iI (if fa = -1 then ((p + i : Nat) : Int) else fa))) := fυ.si (by decide) _ _
        refine sp_rskip (d := d) (p := p + i) hv (hTu.of (by simp [zSI_at]) (zSI_1 (by decide))) (by omega) (by simp [zSI_at]; exact u17) (fun ω fω gω e17 => ⟨_, rfl, h ω (f8.tr fω (by decide)) (fun j h1 h2 => ?_) e17 ?_⟩)
        · rw [gω j h1, zSI_at, if_neg (fun z => h2 z.2)]; exact gυ j h1 h2
        · rw [gω 18 (by decide), nf, if_pos dd]; simp [zSI_at]
      · have dd : ¬ dG v (p + i) = true := fun y => z ((dg _ rfl).mpr y)
        refine sp_rskip (d := d) (p := p + i) hv hTu (by omega) u17 (fun ω fω gω e17 => ⟨_, rfl, h ω (fυ.tr fω (by decide)) (fun j h1 h2 => (gω j h1).trans (gυ j h1 h2)) e17 ?_⟩)
        rw [gω 18 (by decide), u18, nf, if_neg dd]
        refine congrArg iI ?_
        split
        · assumption
        · rfl
    have tail : nuM v p = (p + i, x) → zIf ((τ.1 63 17) = iI (p : Int)) (zCall (d + 2) nX12_fails [.ref 63, .int (iI (p : Int))] τ (zPV fun σ5 => zCall (d + 2) nX12_byteAt [.ref 63, .int (σ5.1 63 17)] σ5 (zPI fun x7 σ6 => zIf (48 ≤ x7 ∧ x7 ≤ 57) (zCall (d + 2) nX12_fails [.ref 63, .int (σ6.1 63 17)] σ6 (zPV fun σ8 => zCall (d + 2) nX12_skips [.ref 63] σ8 (zPV fun σ9 => zPI k (some (.int (iI x))) σ9))) (zCall (d + 2) nX12_skips [.ref 63] σ6 (zPV fun σ10 => zPI k (some (.int (iI x))) σ10))))) (zIf (iI (lo : Int) ≤ iI (x : Int) ∧ iI (x : Int) ≤ iI (hi : Int)) (zCall (d + 2) nX12_byteAt [.ref 63, .int (τ.1 63 17)] τ (zPI fun x7 σ6 => zIf (48 ≤ x7 ∧ x7 ≤ 57) (zCall (d + 2) nX12_fails [.ref 63, .int (σ6.1 63 17)] σ6 (zPV fun σ8 => zCall (d + 2) nX12_skips [.ref 63] σ8 (zPV fun σ9 => zPI k (some (.int (iI x))) σ9))) (zCall (d + 2) nX12_skips [.ref 63] σ6 (zPV fun σ10 => zPI k (some (.int (iI x))) σ10)))) (zCall (d + 2) nX12_fails [.ref 63, .int (iI (p : Int))] τ (zPV fun σ5 => zCall (d + 2) nX12_byteAt [.ref 63, .int (σ5.1 63 17)] σ5 (zPI fun x7 σ6 => zIf (48 ≤ x7 ∧ x7 ≤ 57) (zCall (d + 2) nX12_fails [.ref 63, .int (σ6.1 63 17)] σ6 (zPV fun σ8 => zCall (d + 2) nX12_skips [.ref 63] σ8 (zPV fun σ9 => zPI k (some (.int (iI x))) σ9))) (zCall (d + 2) nX12_skips [.ref 63] σ6 (zPV fun σ10 => zPI k (some (.int (iI x))) σ10)))))) := by
      intro en
      have bad : ((nuM v p).1 = p ∨ ¬ (lo ≤ (nuM v p).2 ∧ (nuM v p).2 ≤ hi)) → zCall (d + 2) nX12_fails [.ref 63, .int (iI (p : Int))] τ (zPV fun σ5 => zCall (d + 2) nX12_byteAt [.ref 63, .int (σ5.1 63 17)] σ5 (zPI fun x7 σ6 => zIf (48 ≤ x7 ∧ x7 ≤ 57) (zCall (d + 2) nX12_fails [.ref 63, .int (σ6.1 63 17)] σ6 (zPV fun σ8 => zCall (d + 2) nX12_skips [.ref 63] σ8 (zPV fun σ9 => zPI k (some (.int (iI x))) σ9))) (zCall (d + 2) nX12_skips [.ref 63] σ6 (zPV fun σ10 => zPI k (some (.int (iI x))) σ10)))) := fun w => by
        refine sp_fails (d := d + 1) (fa := -1) t18 (by omega) ?_
        rw [if_pos rfl]
        refine f2 en _ (p : Int) (f.si (by decide) _ _) (fun j h1 h2 => ?_) (by simp [zSI_at]; exact g17) (by simp [zSI_at]) (by omega) ?_
        · rw [zSI_at, if_neg (fun z => h2 z.2)]; exact g j h1
        · unfold nuF
          rw [if_pos w, if_neg (by omega)]
      have e1 : (nuM v p).1 = p + i := by rw [en]
      have e2 : (nuM v p).2 = x := by rw [en]
      rw [e1, e2] at bad
      rw [g17, iI_eq (by omega) (by omega) (by omega) (by omega), iI_le (by omega) (by omega) (by omega) (by omega), iI_le (by omega) (by omega) (by omega) (by omega)]
      refine ⟨fun z => bad (Or.inl (by omega)), fun z => ⟨fun y => ?_, fun y => bad (Or.inr (fun w => y (by omega)))⟩⟩
      have go := f2 en τ (-1) f (fun j h1 _ => g j h1) g17 t18 (by omega) (by
        unfold nuF
        rw [e1, e2, if_neg (by omega), if_pos rfl])
      rw [g17] at go
      exact go
    have e4 : iI (p : Int) + 4 = iI ((p + 4 : Nat) : Int) := by rw [show (4 : Int32) = iI ((4 : Nat) : Int) from rfl, iI_kk]
    have lt4 : (τ.1 63 17) < iI (p : Int) + 4 ↔ i < 4 := by rw [g17, e4, iI_lt (by omega) (by omega) (by omega) (by omega)]; omega
    refine zq_X12_reads1_8 hX _ _ _ _ τ ?_
    have g17' := g17
    rw [g17]
    refine sp_byteAt (d := d + 1) hv hTt (by omega) ?_
    cases m with
    | zero => exact ⟨fun _ => zIf_f (fun z => by have := lt4.mp z; omega) (tail e), fun _ => tail e⟩
    | succ m =>
      refine ⟨fun z => zIf_t (lt4.mpr (by omega)) ?_, fun z => ?_⟩
      · have dd := (dg _ rfl).mp z
        have c2 := of_decide_eq_true dd
        rw [g17]
        refine sp_byteAt (d := d + 1) hv hTt (by omega) ?_
        have ex : 10 * iI (x : Int) + iI (bY v (p + i)) - 48 = iI ((10 * x + (bY v (p + i)).toNat - 48 : Nat) : Int) := by
          rw [show (10 : Int32) = iI 10 from rfl, show (48 : Int32) = iI 48 from rfl, iI_mul, iI_add, iI_sub]
          exact congrArg iI (by omega)
        rw [ex, g17, iI_s]
        unfold nD at e
        rw [if_pos dd] at e
        refine r1_loop hX hv hT hp hlo hhi h18 h m (i + 1) _ _ (by omega) (by rw [Nat.pow_succ]; omega) e (f.si (by decide) _ _) (fun j hj => ?_) ?_
        · rw [zSI_at, if_neg (fun z => hj z.2)]; exact g j hj
        · simp [zSI_at]; rfl
      · have nd : ¬ dG v (p + i) = true := fun y => z ((dg _ rfl).mpr y)
        unfold nD at e
        rw [if_neg nd] at e
        exact tail e
theorem sp_reads1 {d p lo hi : Nat} {v : mV} {σ : zS} {k : Int32 → zS → Prop} (hv : vB v) (hT : rTx v σ) (hp : p < 1000) (hlo : lo ≤ 4000) (hhi : hi ≤ 4000) (h17 : σ.1 63 17 = iI p) (h18 : σ.1 63 18 = iI (-1)) (h : ∀ τ, zFr [63] σ τ → (∀ j, j ≠ 17 → j ≠ 18 → τ.1 63 j = σ.1 63 j) → τ.1 63 17 = iI (skp v (nuM v p).1) → τ.1 63 18 = iI (nuF v p lo hi) → k (iI (nuM v p).2) τ) : zCall (d + 3) nX12_reads1 [.ref 63, .int (iI lo), .int (iI hi)] σ (zPI k) := by
  refine ze_X12_reads1 _ _ σ (fun X hX => zq_X12_reads1_0 hX _ _ σ ?_)
  rw [h17]
  exact r1_loop (d := d) (σ := σ) hX hv hT hp hlo hhi h18 h 4 0 0 σ rfl (by decide) rfl (zFr.rf _ _) (fun _ _ => rfl) h17
