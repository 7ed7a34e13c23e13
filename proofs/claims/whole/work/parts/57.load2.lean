/-! load: the reference's clip; the pair -/
theorem iI_m1 : (-1 : Int32) = iI (-1) := by decide
theorem zRd.trr {σ τ υ : zS} (h : zRd σ τ) (g : zRd τ υ) : zRd σ υ := ⟨h.1.tr g.1 (fun _ z => z), fun j h1 h2 h3 => (g.2 j h1 h2 h3).trans (h.2 j h1 h2 h3)⟩
theorem ra_0 {d : Nat} {τ : zS} {post : zPo} {X : zX} (hX : zClosed none (zCall (d + 4)) post nX12_readsAll X) (h : post none τ) : X 36 [some (.ref 63), some (.int 0)] [] τ := zq_X12_readsAll_36 hX 0 τ (zIf_t rfl h)
theorem ra_post {d : Nat} {x : Int32} {fa : Int} {τ : zS} {post : zPo} {X : zX} (hX : zClosed none (zCall (d + 4)) post nX12_readsAll X) (h18 : τ.1 63 18 = iI fa) (hb : 0 ≤ fa ∧ fa < 100000) (h : post none τ) : X 36 [some (.ref 63), some (.int x)] [] τ := by
  refine zq_X12_readsAll_36 hX x τ ⟨fun _ => h, fun _ => zIf_f ?_ h⟩
  rw [h18, iI_m1, iI_eq (by omega) (by omega) (by omega) (by omega)]
  omega
theorem ra_fault {d p' : Nat} {fa : Int} {v : mV} {τ : zS} {post : zPo} {X : zX} (hX : zClosed none (zCall (d + 4)) post nX12_readsAll X) (hv : vB v) (hT : rTx v τ) (h17 : τ.1 63 17 = iI p') (hp : p' < 10000) (h18 : τ.1 63 18 = iI fa) (hb : 0 ≤ fa ∧ fa < 100000) (h : ∀ υ, zFr [63] τ υ → (∀ j, j ≠ 17 → υ.1 63 j = τ.1 63 j) → post none υ) : zCall (d + 4) nX12_byteAt [.ref 63, .int (τ.1 63 17)] τ (zPI fun x3 σ2 => zIf ((x3 : Int32) = 59) (zIf ((σ2.1 63 18 : Int32) = (-1)) (zCall (d + 4) nX12_skips [.ref 63] (zSI σ2 63 17 ((σ2.1 63 17) + 1)) (zPV fun σ4 => X 36 [some (.ref 63), some (.int 1)] [] σ4)) (zCall (d + 4) nX12_skips [.ref 63] (zSI σ2 63 17 ((σ2.1 63 17) + 1)) (zPV fun σ5 => X 36 [some (.ref 63), some (.int 1)] [] σ5))) (zIf ((σ2.1 63 18 : Int32) = (-1)) (zIf ((σ2.1 63 17 : Int32) < (σ2.1 63 16)) (zCall (d + 4) nX12_fails [.ref 63, .int (σ2.1 63 17)] σ2 (zPV fun σ6 => X 36 [some (.ref 63), some (.int 0)] [] σ6)) (X 36 [some (.ref 63), some (.int 0)] [] σ2)) (X 36 [some (.ref 63), some (.int 0)] [] σ2))) := by
  have n18 : ¬ τ.1 63 18 = -1 := by
    rw [h18, iI_m1, iI_eq (by omega) (by omega) (by omega) (by omega)]
    omega
  rw [h17]
  refine sp_byteAt (d := d + 3) hv hT (by omega) ⟨fun _ => zIf_f n18 ?_, fun _ => zIf_f n18 (ra_0 hX (h τ (zFr.rf _ _) (fun _ _ => rfl)))⟩
  rw [h17, iI_s]
  have f0 : zFr [63] τ (zSI τ 63 17 (iI ((p' + 1 : Nat) : Int))) := (zFr.rf _ _).si (by decide) _ _
  refine sp_rskip (d := d + 2) (p := p' + 1) hv (hT.of (by simp [zSI_at]) (zSI_1 (by decide))) (by omega) (by simp [zSI_at]) (fun υ f g e17 => ?_)
  have gg : ∀ j, j ≠ 17 → υ.1 63 j = τ.1 63 j := fun j hj => by rw [g j hj, zSI_at, if_neg (fun z => hj z.2)]
  exact ra_post (fa := fa) hX ((gg 18 (by decide)).trans h18) hb (h υ (f0.tr f (by decide)) gg)
theorem ra_loop {d : Nat} {v : mV} {σ : zS} {T : Int × Nat × (Nat → Nat) × (Nat → Nat)} {post : zPo} {X : zX} (hX : zClosed none (zCall (d + 4)) post nX12_readsAll X) (hv : vB v) (hT0 : rTx v σ) (fin : ∀ f n tx mo τ, T = (f, n, tx, mo) → zRd σ τ → τ.1 63 18 = iI f → (f = -1 → τ.1 63 21 = iI (n : Nat) ∧ (∀ j, j < n → τ.1 77 j = iI (tx j)) ∧ ∀ j, j < n → τ.1 78 j = iI (mo j)) → post none τ) : ∀ (m p n : Nat) (tx mo : Nat → Nat) (τ : zS), 61 ≤ n + m → n ≤ 60 → p ≤ vl v → T = pS v m p n tx mo → zRd σ τ → τ.1 63 18 = iI (-1) → τ.1 63 17 = iI p → τ.1 63 21 = iI n → (∀ j, j < n → τ.1 77 j = iI (tx j)) → (∀ j, j < n → τ.1 78 j = iI (mo j)) → X 36 [some (.ref 63), some (.int 1)] [] τ
  | 0, p, n, tx, mo, τ, hnm, hn, hp, e, f, h18, h17, h21, h77, h78 => by omega
  | m + 1, p, n, tx, mo, τ, hnm, hn, hp, e, f, h18, h17, h21, h77, h78 => by
    have l100 := hv.2.2.2.1
    have hT := f.tx hT0
    refine zq_X12_readsAll_36 hX 1 τ (zIf_f (by decide) (zIf_t (by rw [h18]; decide) ?_))
    by_cases n60 : n < 60
    · refine sp_rRunX (d := d) (tx := tx) (mo := mo) hv hT hp n60 h17 h18 h21 h77 h78 (fun q er τ1 p' z1 a18 a17 pb => ?_) (fun s x y z er τ1 z1 a18 a17 a21 a77 a78 => ?_)
      · rw [pS_n (by omega) er] at e
        have qb := rUn_f hp er
        exact ra_fault hX hv (z1.tx hT) a17 pb a18 (by omega) (fun υ g1 g2 => fin q n tx mo υ e ((f.trr z1).tr g1 (fun j h1 _ => g2 j h1)) ((g2 18 (by decide)).trans a18) (fun w => by omega))
      · rw [pS_s (by omega) er] at e
        obtain ⟨sl, x1, y1, zz1, zz2⟩ := rUn_s hp n60 er
        have hT1 := z1.tx hT
        have bb := bY_b hv s
        have zz := f.trr z1
        rw [a17]
        refine sp_byteAt (d := d + 3) hv hT1 (by omega) ?_
        rw [show (59 : Int32) = iI 59 from rfl, iI_eq (by omega) (by omega) (by omega) (by omega), a17, iI_s]
        refine ⟨fun c => zIf_t (by rw [a18]; decide) ?_, fun c => zIf_t (by rw [a18]; decide) ?_⟩
        · rw [if_pos c] at e
          have sL : s < vl v := bY_in (by omega)
          have f0 : zFr [63] τ1 (zSI τ1 63 17 (iI ((s + 1 : Nat) : Int))) := (zFr.rf _ _).si (by decide) _ _
          refine sp_rskip (d := d + 2) (p := s + 1) hv (hT1.of (by simp [zSI_at]) (zSI_1 (by decide))) (by omega) (by simp [zSI_at]) (fun τ2 f2 g2 b17 => ?_)
          have gg : ∀ j, j ≠ 17 → τ2.1 63 j = τ1.1 63 j := fun j hj => by rw [g2 j hj, zSI_at, if_neg (fun z => hj z.2)]
          have ff : zFr [63] τ1 τ2 := f0.tr f2 (by decide)
          have sb := skp_b v (s + 1)
          exact ra_loop hX hv hT0 fin m (skp v (s + 1)) (n + z) (nX tx n x) (nX mo n y) τ2 (by omega) (by omega) (by omega) e (zz.tr ff (fun j h1 _ => gg j h1)) ((gg 18 (by decide)).trans a18) b17 ((gg 21 (by decide)).trans a21) (fun j hj => by rw [ff.1 77 (by decide)]; exact a77 j hj) (fun j hj => by rw [ff.1 78 (by decide)]; exact a78 j hj)
        · rw [if_neg c] at e
          rw [hT1.1, iI_lt (by omega) (by omega) (by omega) (by omega)]
          refine ⟨fun w => ?_, fun w => ?_⟩
          · rw [if_pos (by omega)] at e
            refine sp_fails (d := d + 3) (fa := -1) a18 (by omega) ?_
            rw [if_pos rfl]
            refine ra_0 hX (fin s n tx mo _ e ⟨zz.1.si (by decide) _ _, fun j h1 h2 h3 => ?_⟩ (by simp [zSI_at]) (fun w => by omega))
            rw [zSI_at, if_neg (fun z => h2 z.2)]
            exact zz.2 j h1 h2 h3
          · rw [if_neg (by omega)] at e
            exact ra_0 hX (fin (-1) (n + z) _ _ τ1 e zz a18 (fun _ => ⟨a21, a77, a78⟩))
    · have e2 : pS v (m + 1) p n tx mo = ((p : Int), n, tx, mo) := by
        show (if 60 ≤ n then _ else _) = _
        rw [if_pos (by omega)]
      rw [e2] at e
      refine ze_X12_readsRun τ (fun Y hY => zq_X12_readsRun_0 (d := d) hY τ (zIf_t ?_ ?_))
      · rw [h21, show n = 60 by omega]; rfl
      · rw [h17]
        refine sp_fails (d := d + 2) (fa := -1) h18 (by omega) ?_
        rw [if_pos rfl]
        refine ⟨rfl, ?_⟩
        have f0 : zFr [63] τ (zSI τ 63 18 (iI (p : Int))) := (zFr.rf _ _).si (by decide) _ _
        have g18 : ∀ j, j ≠ 18 → (zSI τ 63 18 (iI (p : Int))).1 63 j = τ.1 63 j := fun j hj => by rw [zSI_at, if_neg (fun z => hj z.2)]
        have z0 : zRd σ (zSI τ 63 18 (iI (p : Int))) := ⟨f.1.si (by decide) _ _, fun j h1 h2 h3 => (g18 j h2).trans (f.2 j h1 h2 h3)⟩
        exact ra_fault (p' := p) (fa := (p : Int)) hX hv (z0.tx hT0) ((g18 17 (by decide)).trans h17) (by omega) (by simp [zSI_at]) (by omega) (fun υ g1 g2 => fin p n tx mo υ e (z0.tr g1 (fun j h1 _ => g2 j h1)) ((g2 18 (by decide)).trans (by simp [zSI_at])) (fun w => by omega))
theorem sp_rAll {d : Nat} {v : mV} {σ : zS} {k : zS → Prop} (hv : vB v) (hT0 : rTx v σ) (fin : ∀ f n tx mo τ, pA v = (f, n, tx, mo) → zRd σ τ → τ.1 63 18 = iI f → (f = -1 → τ.1 63 21 = iI (n : Nat) ∧ (∀ j, j < n → τ.1 77 j = iI (tx j)) ∧ ∀ j, j < n → τ.1 78 j = iI (mo j)) → k τ) : zCall (d + 5) nX12_readsAll [.ref 63] σ (zPV k) := by
  have l100 := hv.2.2.2.1
  have s0 := skp_b v 0
  have z0 : zRd σ (zSI (zSI (zSI σ 63 17 0) 63 18 (-1)) 63 21 0) := ⟨(((zFr.rf _ σ).si (by decide) _ _).si (by decide) _ _).si (by decide) _ _, fun j h1 h2 h3 => by rw [zSI_at, if_neg (fun z => h3 z.2), zSI_at, if_neg (fun z => h2 z.2), zSI_at, if_neg (fun z => h1 z.2)]⟩
  refine ze_X12_readsAll σ (fun X hX => zq_X12_readsAll_0 hX σ ?_)
  refine sp_rskip (d := d + 2) (p := 0) hv (z0.tx hT0) (by decide) (by simp [zSI_at]; rfl) (fun τ f g e17 => ?_)
  have zz : zRd σ τ := z0.tr f (fun j h1 _ => g j h1)
  have e18 : τ.1 63 18 = iI (-1) := by rw [g 18 (by decide), zSI_at, if_neg (by decide), zSI_at, if_pos (by decide)]; decide
  have e21 : τ.1 63 21 = iI ((0 : Nat) : Int) := by rw [g 21 (by decide), zSI_at, if_pos (by decide)]; rfl
  have hpA : pA v = if skp v 0 < vl v then pS v 61 (skp v 0) 0 (fun _ => 0) (fun _ => 0) else (-1, 0, (fun _ => 0), fun _ => 0) := rfl
  rw [e17, (zz.tx hT0).1, iI_lt (by omega) (by omega) (by omega) (by omega)]
  refine ⟨fun w => ?_, fun w => ?_⟩
  · rw [if_pos (by omega)] at hpA
    exact ra_loop (d := d) (σ := σ) (T := pA v) hX hv hT0 (fun f n tx mo τ e z a b => ⟨rfl, fin f n tx mo τ e z a b⟩) 61 (skp v 0) 0 _ _ τ (by decide) (by decide) (by omega) hpA zz e18 e17 e21 (fun j hj => absurd hj (Nat.not_lt_zero j)) (fun j hj => absurd hj (Nat.not_lt_zero j))
  · rw [if_neg (by omega)] at hpA
    exact ra_0 hX ⟨rfl, fin (-1) 0 _ _ τ hpA zz e18 (fun _ => ⟨e21, fun j hj => absurd hj (Nat.not_lt_zero j), fun j hj => absurd hj (Nat.not_lt_zero j)⟩)⟩
-- bounds of what is read
theorem mB_nX {n z x y : Nat} {tx mo : Nat → Nat} (h : mB n tx mo) (hz : n + z ≤ 60) (hx : 1 ≤ x ∧ x ≤ 4000) (hy : y ≤ 4000) : mB (n + z) (nX tx n x) (nX mo n y) := ⟨hz, fun i hi => by
  unfold nX
  by_cases c : i < n
  · rw [if_pos c, if_pos c]; exact h.2 i c
  · rw [if_neg c, if_neg c]; exact ⟨hx.1, hx.2, hy⟩⟩
theorem pS_mB {v : mV} (hv : vB v) : ∀ (m p n : Nat) (tx mo : Nat → Nat) (f : Int) (n' : Nat) (tx' mo' : Nat → Nat), p ≤ vl v → mB n tx mo → pS v m p n tx mo = (f, n', tx', mo') → (f = -1 ∨ (0 ≤ f ∧ f ≤ 100)) ∧ (f = -1 → mB n' tx' mo')
  | 0, p, n, tx, mo, f, n', tx', mo', hp, hm, e => by
    have l100 := hv.2.2.2.1
    have e1 : (p : Int) = f := congrArg Prod.fst e
    exact ⟨Or.inr (by omega), fun w => by omega⟩
  | m + 1, p, n, tx, mo, f, n', tx', mo', hp, hm, e => by
    have l100 := hv.2.2.2.1
    by_cases hn : 60 ≤ n
    · have e2 : pS v (m + 1) p n tx mo = ((p : Int), n, tx, mo) := by
        show (if 60 ≤ n then _ else _) = _
        rw [if_pos hn]
      rw [e2] at e
      have e1 : (p : Int) = f := congrArg Prod.fst e
      exact ⟨Or.inr (by omega), fun w => by omega⟩
    · cases er : rUn v p n with
      | mk q o =>
        cases o with
        | none =>
          rw [pS_n hn er] at e
          have qb := rUn_f hp er
          have e1 : (q : Int) = f := congrArg Prod.fst e
          exact ⟨Or.inr (by omega), fun w => by omega⟩
        | some t =>
          obtain ⟨x, y, z⟩ := t
          rw [pS_s hn er] at e
          obtain ⟨sl, x1, y1, zz1, zz2⟩ := rUn_s hp (by omega) er
          by_cases c : bY v q = 59
          · rw [if_pos c] at e
            have sb := skp_b v (q + 1)
            have sL : q < vl v := bY_in (by omega)
            exact pS_mB hv m _ _ _ _ f n' tx' mo' (by omega) (mB_nX hm zz2 x1 y1) e
          · rw [if_neg c] at e
            by_cases sL : q < vl v
            · rw [if_pos sL] at e
              have e1 : (q : Int) = f := congrArg Prod.fst e
              exact ⟨Or.inr (by omega), fun w => by omega⟩
            · rw [if_neg sL] at e
              have e1 : (-1 : Int) = f := congrArg Prod.fst e
              obtain ⟨rfl, rfl, rfl⟩ : n + z = n' ∧ nX tx n x = tx' ∧ nX mo n y = mo' := ⟨congrArg (fun q => q.2.1) e, congrArg (fun q => q.2.2.1) e, congrArg (fun q => q.2.2.2) e⟩
              exact ⟨Or.inl e1.symm, fun _ => mB_nX hm zz2 x1 y1⟩
theorem pA_b {v : mV} (hv : vB v) {f : Int} {n : Nat} {tx mo : Nat → Nat} (e : pA v = (f, n, tx, mo)) : (f = -1 ∨ (0 ≤ f ∧ f ≤ 100)) ∧ (f = -1 → mB n tx mo) := by
  have s0 := skp_b v 0
  have m0 : mB 0 (fun _ => 0) (fun _ => 0) := ⟨Nat.zero_le _, fun i hi => absurd hi (Nat.not_lt_zero i)⟩
  unfold pA at e
  by_cases c : skp v 0 < vl v
  · rw [if_pos c] at e
    exact pS_mB hv 61 (skp v 0) 0 _ _ f n tx mo (by omega) m0 e
  · rw [if_neg c] at e
    have e1 : (-1 : Int) = f := congrArg Prod.fst e
    obtain ⟨rfl, rfl, rfl⟩ : 0 = n ∧ (fun _ => 0) = tx ∧ (fun _ => 0) = mo := ⟨congrArg (fun q => q.2.1) e, congrArg (fun q => q.2.2.1) e, congrArg (fun q => q.2.2.2) e⟩
    exact ⟨Or.inl e1.symm, fun _ => m0⟩
theorem rld_loop {d n : Nat} {tx mo : Nat → Nat} {σ : zS} {post : zPo} {X : zX} (hX : zClosed none (zCall (d + 5)) post nX12_load X) (hn : n ≤ 60) (h21 : σ.1 63 21 = iI n) (h77 : ∀ j, j < n → σ.1 77 j = iI (tx j)) (h78 : ∀ j, j < n → σ.1 78 j = iI (mo j)) (h : ∀ τ, zFr [64] σ τ → (∀ j, 121 ≤ j → τ.1 64 j = σ.1 64 j) → (∀ j, j < n → τ.1 64 (1 + j) = iI (tx j)) → (∀ j, j < n → τ.1 64 (61 + j) = iI (mo j)) → post (some (.int (iI n))) (zSI (zSI (zSI τ 64 0 (iI n)) 63 16 0) 64 207 0)) : ∀ (m i : Nat) (τ : zS), i + m = n → zFr [64] σ τ → (∀ j, 121 ≤ j → τ.1 64 j = σ.1 64 j) → (∀ j, j < i → τ.1 64 (1 + j) = iI (tx j)) → (∀ j, j < i → τ.1 64 (61 + j) = iI (mo j)) → X 23 [some (.ref 63), some (.int (iI i))] [] τ
  | 0, i, τ, hm, f, e, r1, r2 => by
    have ei : i = n := by omega
    subst ei
    have t21 : τ.1 63 21 = iI i := by rw [f.1 63 (by decide)]; exact h21
    refine zq_X12_load_23 hX _ τ (zIf_f (by rw [t21]; exact Int32.lt_irrefl) ?_)
    rw [t21]
    refine sp_forgets (d := d + 4) ?_
    have e21 : (zSI (zSI (zSI τ 64 0 (iI i)) 63 16 0) 64 207 0).1 63 21 = iI i := by simp [zSI_at]; exact t21
    rw [e21]
    exact h τ f e r1 r2
  | m + 1, i, τ, hm, f, e, r1, r2 => by
    have t21 : τ.1 63 21 = iI n := by rw [f.1 63 (by decide)]; exact h21
    refine zq_X12_load_23 hX _ τ (zIf_t ?_ ?_)
    · rw [t21, iI_lt (by omega) (by omega) (by omega) (by omega)]; omega
    · rw [iI_1p, iI_61p, iI_k (k := i) (by omega), iI_k (k := 1 + i) (by omega), iI_k (k := 61 + i) (by omega), iI_s, f.1 77 (by decide), f.1 78 (by decide), h77 i (by omega), h78 i (by omega)]
      refine ⟨vin_k (by show i < 60; omega) (by decide), vin_k (by show 1 + i < 268; omega) (by decide), vin_k (by show i < 60; omega) (by decide), vin_k (by show 61 + i < 268; omega) (by decide), rld_loop hX hn h21 h77 h78 h m (i + 1) _ (by omega) ((f.si (by decide) _ _).si (by decide) _ _) (fun j hj => ?_) (fun j hj => ?_) (fun j hj => ?_)⟩
      · rw [zSI_at, if_neg (by omega), zSI_at, if_neg (by omega)]
        exact e j hj
      · rw [zSI_at, if_neg (by omega), zSI_at]
        by_cases ej : j = i
        · rw [if_pos (by omega), ej]
        · rw [if_neg (by omega)]; exact r1 j (by omega)
      · rw [zSI_at]
        by_cases ej : j = i
        · rw [if_pos (by omega), ej]
        · rw [if_neg (by omega), zSI_at, if_neg (by omega)]; exact r2 j (by omega)
theorem kRest.rd {σ τ : zS} {v w : mV} (h : kRest σ v) (e : ∀ r, r ∈ RS → τ.1 r = σ.1 r) (e0 : τ.1 11 0 = iI (vl w)) (w2 : v0 w = v0 v) (w3 : v1 w = v1 v) (e1 : ∀ i, i < vl w → τ.1 15 i = iI (vt w i)) : kRest τ w := by
  obtain ⟨h1, h2, h3, h4, h5, h6, h7⟩ := h
  unfold kRest
  rw [w2, w3, e 41 (by decide), e 52 (by decide)]
  exact ⟨fun q hq => by rw [e 25 (by decide)]; exact h1 q hq, e0, e1, h4, fun z => kAt_of ((h5 z).a0.of (fun r hr => e r (by revert r; decide))) ((h5 z).pl.of (e 50 (by decide)) (e 51 (by decide))), h6, fun z => kAt_of ((h7 z).a0.of (fun r hr => e r (by revert r; decide))) ((h7 z).pl.of (e 61 (by decide)) (e 62 (by decide)))⟩
theorem pA_inj {v : mV} {f f' : Int} {n n' : Nat} {tx tx' mo mo' : Nat → Nat} (e : pA v = (f, n, tx, mo)) (e' : pA v = (f', n', tx', mo')) : f' = f ∧ n' = n ∧ tx' = tx ∧ mo' = mo := by
  have q := e'.symm.trans e
  exact ⟨congrArg (fun q => q.1) q, congrArg (fun q => q.2.1) q, congrArg (fun q => q.2.2.1) q, congrArg (fun q => q.2.2.2) q⟩
theorem pr_load {σ : zS} (g : G σ) : zPair nX11_load nX12_load [] σ := by
  obtain ⟨v, hv, hC, hR⟩ := g
  have l100 := hv.2.2.2.1
  obtain ⟨f, n, tx, mo, e⟩ : ∃ (f : Int) (n : Nat) (tx mo : Nat → Nat), pA v = (f, n, tx, mo) := ⟨_, _, _, _, rfl⟩
  obtain ⟨hb, hm⟩ := pA_b hv e
  have kT : kTx v σ := ⟨hC.2.2.2.2.1, hC.2.2.2.2.2.1⟩
  by_cases cf : f = -1
  · have mb := hm cf
    have ab := hv.1.clip mb
    have n60 := mb.1
    refine zP_I (v := v) (w := vT (vA v (aClip (va v) n tx mo)) 0 (vt v)) (iI n) (hv.a ab).t0 hR ?_ (fun τ hT => ?_)
    · refine ze_X11_load (d := 7) σ (fun X hX => zq_X11_load_0 (d := 1) hX σ ?_)
      refine sp_clip (d := 1) hv kT (fun f' n' tx' mo' σ1 e' f1 a0 a1 => ?_)
      obtain ⟨rfl, rfl, rfl, rfl⟩ := pA_inj e e'
      obtain ⟨b12, b13, b14⟩ := a1 cf
      refine zIf_t (by rw [cf]; decide) ?_
      refine sp_cpC_1_12 (d := 5) (fun τ f2 c0 c1 c2 => ?_)
      have k0 : kA0 (zSI τ 11 0 0) 1 4 (aClip (va v) n' tx' mo') := by
        refine hC.1.clip (fun r hr => ?_) ?_ (fun i hi => ?_) (fun i hi => ?_)
        · rw [zSI_1 (by revert r; decide), f2.1 r (by revert r; decide), f1.1 r (by revert r; decide)]
        · rw [zSI_1 (by decide), c0]; exact b12
        · rw [zSI_1 (by decide), c1 i (by omega)]; exact b13 i hi
        · rw [zSI_1 (by decide), c2 i (by omega)]; exact b14 i hi
      refine sp_arrangeAnew (d := 2) ab k0 rfl (fun υ g1 g2 g3 g4 => ⟨_, rfl, g2.1, ⟨g2, g3, g4, ?_⟩, ?_⟩)
      · refine hC.2.2.2.rd (fun r hr => ?_) ?_ rfl rfl (fun i hi => absurd hi (Nat.not_lt_zero i))
        · rw [g1.1 r (by revert r; decide), zSI_1 (by revert r; decide), f2.1 r (by revert r; decide), f1.1 r (by revert r; decide)]
        · rw [g1.1 11 (by decide)]; simp [zSI_at]; rfl
      · exact (((f1.lw (by decide)).tr (f2.lw (by decide))).si (by decide) _ _).tr (g1.lw (by decide))
    · refine ze_X12_load (d := 7) τ (fun X hX => zq_X12_load_0 (d := 2) hX τ ?_)
      refine sp_rAll (d := 2) hv ⟨hT.2.1, hT.2.2.1⟩ (fun f' n' tx' mo' τ1 e' z1 a18 a1 => ?_)
      obtain ⟨rfl, rfl, rfl, rfl⟩ := pA_inj e e'
      obtain ⟨b21, b77, b78⟩ := a1 cf
      refine zIf_t (by rw [a18, cf]; decide) ?_
      refine rld_loop (d := 2) (n := n') (tx := tx') (mo := mo') (σ := τ1) hX n60 b21 b77 b78 (fun τ2 f2 o1 o2 o3 => ⟨_, rfl, rfl, ⟨rAt_0.mpr ?_, ?_⟩, ?_⟩) n' 0 τ1 (by omega) (zFr.rf _ _) (fun _ _ => rfl) (fun j hj => absurd hj (Nat.not_lt_zero j)) (fun j hj => absurd hj (Nat.not_lt_zero j))
      · refine rF.clip hv.1 (rAt_0.mp (hT.1.of (z1.1.1 64 (by decide)))) (by simp [zSI_at]) (fun i hi => ?_) (fun i hi => ?_) (by simp [zSI_at]) (fun j h1 h2 => ?_)
        · rw [zSI_at, if_neg (by omega), zSI_1 (by decide), zSI_at, if_neg (by omega)]; exact o2 i hi
        · rw [zSI_at, if_neg (by omega), zSI_1 (by decide), zSI_at, if_neg (by omega)]; exact o3 i hi
        · rw [zSI_at, if_neg (by omega), zSI_1 (by decide), zSI_at, if_neg (by omega)]; exact o1 j h1
      · have ee : ∀ r, r ∈ [65, 66] → (zSI (zSI (zSI τ2 64 0 (iI (n' : Int))) 63 16 0) 64 207 0).1 r = τ.1 r := fun r hr => by
          rw [zSI_1 (by revert r; decide), zSI_1 (by revert r; decide), zSI_1 (by revert r; decide), f2.1 r (by revert r; decide), z1.1.1 r (by revert r; decide)]
        obtain ⟨k1, k2, k3, k4, k5, k6⟩ := hT.2
        refine ⟨by simp [zSI_at]; rfl, fun i hi => absurd hi (Nat.not_lt_zero i), ?_, fun z => (k4 z).of (ee 65 (by decide)), ?_, fun z => (k6 z).of (ee 65 (by decide))⟩
        · rw [ee 66 (by decide)]; exact k3
        · rw [ee 66 (by decide)]; exact k5
      · exact ((((z1.1.hg (by decide)).tr (f2.hg (by decide))).si (by decide) _ _).si (by decide) _ _).si (by decide) _ _
  · have fb : 0 ≤ f ∧ f ≤ 100 := by omega
    have ea : (-2000 : Int32) - iI f = iI (-2000 - f) := by rw [show (-2000 : Int32) = iI (-2000) from by decide, iI_sub]
    refine zP_I (v := v) (w := v) (iI (-2000 - f)) hv hR ?_ (fun τ hT => ?_)
    · refine ze_X11_load (d := 7) σ (fun X hX => zq_X11_load_0 (d := 1) hX σ ?_)
      refine sp_clip (d := 1) hv kT (fun f' n' tx' mo' σ1 e' f1 a0 a1 => ?_)
      obtain ⟨rfl, rfl, rfl, rfl⟩ := pA_inj e e'
      refine zIf_f ?_ ⟨_, rfl, ea, hC.cr (fun r hr => f1.1 r (by revert r; decide)) rfl (hC.2.2.2.of (fun r hr => f1.1 r (by revert r; decide)) a0 rfl rfl rfl rfl), f1.lw (by decide)⟩
      rw [show (0 : Int32) = iI 0 from rfl, iI_lt (by omega) (by omega) (by omega) (by omega)]
      omega
    · refine ze_X12_load (d := 7) τ (fun X hX => zq_X12_load_0 (d := 2) hX τ ?_)
      refine sp_rAll (d := 2) hv ⟨hT.2.1, hT.2.2.1⟩ (fun f' n' tx' mo' τ1 e' z1 a18 a1 => ?_)
      obtain ⟨rfl, rfl, rfl, rfl⟩ := pA_inj e e'
      refine zIf_f ?_ ⟨_, rfl, by rw [a18]; exact ea, hT.fr z1.1 (by decide) (z1.2 16 (by decide) (by decide) (by decide)), z1.1.hg (by decide)⟩
      rw [a18, iI_m1, iI_eq (by omega) (by omega) (by omega) (by omega)]
      omega
