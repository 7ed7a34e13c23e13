/-! pairs of calls: what they need -/
def rF (f : Nat → Int32) (a : mA) : Prop :=
  f 0 = iI (an a) ∧ (∀ i, i < an a → f (1 + i) = iI (atx a i)) ∧ (∀ i, i < an a → f (61 + i) = iI (amo a i)) ∧ (∀ j, j < 8 → f (181 + j) = iI (aS a j)) ∧ (∀ j, j < 60 → f (121 + j) = iI (aw a j)) ∧ (∀ j, j < aS a 7 → f (189 + 3 * j) = iI (azf a j)) ∧ (∀ j, j < aS a 7 → f (190 + 3 * j) = iI (azl a j)) ∧ (∀ j, j < aS a 7 → f (191 + 3 * j) = iI (azo a j)) ∧ f 207 = (if amd a = true then 1 else 0) ∧ ∀ i, i < 60 → f (208 + i) = iI (aq a i)
theorem rAt_F {σ : zS} {r o : Nat} {a : mA} : rAt σ r o a ↔ rF (fun j => σ.1 r (o + j)) a := Iff.rfl
theorem rAt_0 {σ : zS} {r : Nat} {a : mA} : rAt σ r 0 a ↔ rF (σ.1 r) a := by
  have e : (fun j => σ.1 r (0 + j)) = σ.1 r := funext fun j => by rw [Nat.zero_add]
  rw [rAt_F, e]
theorem rF.c {f g : Nat → Int32} {a : mA} (h : rF f a) (hn : an a ≤ 60) (e : ∀ j, j ≤ 120 → g j = f j) : g 0 = iI (an a) ∧ (∀ i, i < an a → g (1 + i) = iI (atx a i)) ∧ ∀ i, i < an a → g (61 + i) = iI (amo a i) :=
  ⟨(e _ (by omega)).trans h.1, fun i hi => (e _ (by omega)).trans (h.2.1 i hi), fun i hi => (e _ (by omega)).trans (h.2.2.1 i hi)⟩
theorem rF.s {f g : Nat → Int32} {a : mA} (h : rF f a) (e : ∀ j, 181 ≤ j → j ≤ 188 → g j = f j) : ∀ j, j < 8 → g (181 + j) = iI (aS a j) := fun i hi => (e _ (by omega) (by omega)).trans (h.2.2.2.1 i hi)
theorem rF.w {f g : Nat → Int32} {a : mA} (h : rF f a) (e : ∀ j, 121 ≤ j → j ≤ 180 → g j = f j) : ∀ j, j < 60 → g (121 + j) = iI (aw a j) := fun i hi => (e _ (by omega) (by omega)).trans (h.2.2.2.2.1 i hi)
theorem rF.z {f g : Nat → Int32} {a : mA} (h : rF f a) (hn : aS a 7 ≤ 6) (e : ∀ j, 189 ≤ j → j ≤ 206 → g j = f j) : (∀ j, j < aS a 7 → g (189 + 3 * j) = iI (azf a j)) ∧ (∀ j, j < aS a 7 → g (190 + 3 * j) = iI (azl a j)) ∧ ∀ j, j < aS a 7 → g (191 + 3 * j) = iI (azo a j) :=
  ⟨fun i hi => (e _ (by omega) (by omega)).trans (h.2.2.2.2.2.1 i hi), fun i hi => (e _ (by omega) (by omega)).trans (h.2.2.2.2.2.2.1 i hi), fun i hi => (e _ (by omega) (by omega)).trans (h.2.2.2.2.2.2.2.1 i hi)⟩
theorem rF.p {f g : Nat → Int32} {a : mA} (h : rF f a) (e : ∀ j, 208 ≤ j → j ≤ 267 → g j = f j) : ∀ i, i < 60 → g (208 + i) = iI (aq a i) := fun i hi => (e _ (by omega) (by omega)).trans (h.2.2.2.2.2.2.2.2.2 i hi)
theorem rF.cong {f g : Nat → Int32} {a : mA} (hb : aB a) (h : rF f a) (e : ∀ j, j < 268 → g j = f j) : rF g a := by
  have c := h.c (g := g) hb.1.1 (fun j hj => e j (by omega))
  have s := h.s (g := g) (fun j _ hj => e j (by omega))
  have w := h.w (g := g) (fun j _ hj => e j (by omega))
  have z := h.z (g := g) hb.2.2.2.2.2.2.2.1 (fun j _ hj => e j (by omega))
  have p := h.p (g := g) (fun j _ hj => e j (by omega))
  exact ⟨c.1, c.2.1, c.2.2, s, w, z.1, z.2.1, z.2.2, (e 207 (by omega)).trans h.2.2.2.2.2.2.2.2.1, p⟩
/-- another clip: the plan is forgotten -/
def aClip (a : mA) (n : Nat) (tx mo : Nat → Nat) : mA := (n, tx, mo, aS a, aw a, azf a, azl a, azo a, false, aq a)
def aSet (a : mA) (S : Nat → Nat) (m : Bool) : mA := (an a, atx a, amo a, S, aw a, azf a, azl a, azo a, m, aq a)
def aWt (a : mA) (w : Nat → Nat) : mA := (an a, atx a, amo a, aS a, w, azf a, azl a, azo a, amd a, aq a)
def aZn (a : mA) (S zf zl : Nat → Nat) (zo : Nat → Int) : mA := (an a, atx a, amo a, S, aw a, zf, zl, zo, amd a, aq a)
def aPl (a : mA) (m : Bool) (q : Nat → Nat) : mA := (an a, atx a, amo a, aS a, aw a, azf a, azl a, azo a, m, q)
theorem aB.clip {a : mA} (h : aB a) {n : Nat} {tx mo : Nat → Nat} (hm : mB n tx mo) : aB (aClip a n tx mo) := by
  obtain ⟨b1, b2, b3, b4, b5, b6, b7, b8, b9, b10, b11, b12⟩ := h
  exact ⟨hm, b2, b3, b4, b5, b6, b7, b8, b9, b10, b11, fun z => absurd (show (false : Bool) = true from z) (by decide)⟩
theorem aB.set {a : mA} (h : aB a) {S : Nat → Nat} {m : Bool} (h2 : 1 ≤ S 0 ∧ S 0 ≤ 60) (h3 : S 1 ≤ 3) (h4 : S 2 ≤ S 3 ∧ S 3 ≤ 51) (h5 : 100 ≤ S 4 ∧ S 4 ≤ 1000000) (h6 : S 5 ≤ 100) (h7 : S 6 ≤ 100000) (h8 : S 7 = aS a 7) (hm : m = true → amd a = true) : aB (aSet a S m) := by
  obtain ⟨b1, b2, b3, b4, b5, b6, b7, b8, b9, b10, b11, b12⟩ := h
  exact ⟨b1, h2, h3, h4, h5, h6, h7, (show S 7 ≤ 6 by omega), b9, fun j hj => b10 j (by rw [← h8]; exact hj), b11, fun z => b12 (hm z)⟩
theorem aB.wt {a : mA} (h : aB a) {w : Nat → Nat} (hw : ∀ j, j < 60 → 1 ≤ w j ∧ w j ≤ 8) : aB (aWt a w) := by
  obtain ⟨b1, b2, b3, b4, b5, b6, b7, b8, b9, b10, b11, b12⟩ := h
  exact ⟨b1, b2, b3, b4, b5, b6, b7, b8, hw, b10, b11, b12⟩
theorem aB.zn {a : mA} (h : aB a) {S zf zl : Nat → Nat} {zo : Nat → Int} (hs : ∀ j, j ≠ 7 → S j = aS a j) (h7 : S 7 ≤ 6) (hz : ∀ j, j < S 7 → zf j ≤ zl j ∧ zl j ≤ 59 ∧ -10 ≤ zo j ∧ zo j ≤ 10) : aB (aZn a S zf zl zo) := by
  obtain ⟨b1, b2, b3, b4, b5, b6, b7, b8, b9, b10, b11, b12⟩ := h
  have e0 := hs 0 (by decide)
  have e1 := hs 1 (by decide)
  have e2 := hs 2 (by decide)
  have e3 := hs 3 (by decide)
  have e4 := hs 4 (by decide)
  have e5 := hs 5 (by decide)
  have e6 := hs 6 (by decide)
  exact ⟨b1, (show 1 ≤ S 0 ∧ S 0 ≤ 60 by omega), (show S 1 ≤ 3 by omega), (show S 2 ≤ S 3 ∧ S 3 ≤ 51 by omega), (show 100 ≤ S 4 ∧ S 4 ≤ 1000000 by omega), (show S 5 ≤ 100 by omega), (show S 6 ≤ 100000 by omega), h7, b9, hz, b11, b12⟩
theorem aB.pl {a : mA} (h : aB a) {m : Bool} {q : Nat → Nat} (hq : ∀ i, i < 60 → q i ≤ 51) (hm : m = true → 0 < an a) : aB (aPl a m q) := by
  obtain ⟨b1, b2, b3, b4, b5, b6, b7, b8, b9, b10, b11, b12⟩ := h
  exact ⟨b1, b2, b3, b4, b5, b6, b7, b8, b9, b10, hq, hm⟩
theorem vB.a {v : mV} (h : vB v) {a : mA} (ha : aB a) : vB (vA v a) := ⟨ha, h.2.1, h.2.2.1, h.2.2.2.1, h.2.2.2.2⟩
-- the component's side
theorem kA0.clip {σ τ : zS} {a : mA} {n : Nat} {tx mo : Nat → Nat} (h : kA0 σ 1 4 a) (e : ∀ r, r ∈ [4, 5, 6, 7, 8] → τ.1 r = σ.1 r) (h1 : τ.1 1 0 = iI n) (h2 : ∀ i, i < n → τ.1 2 i = iI (tx i)) (h3 : ∀ i, i < n → τ.1 3 i = iI (mo i)) : kA0 τ 1 4 (aClip a n tx mo) := by
  obtain ⟨a1, a2, a3, a4, a5, a6, a7, a8⟩ := h
  refine ⟨h1, h2, h3, fun j hj => ?_, fun j hj => ?_, fun j hj => ?_, fun j hj => ?_, fun j hj => ?_⟩
  · rw [e 4 (by decide)]; exact a4 j hj
  · rw [e 5 (by decide)]; exact a5 j hj
  · rw [e 6 (by decide)]; exact a6 j hj
  · rw [e 7 (by decide)]; exact a7 j hj
  · rw [e 8 (by decide)]; exact a8 j hj
theorem kA0.set {σ τ : zS} {a : mA} {S : Nat → Nat} {m : Bool} (h : kA0 σ 1 4 a) (e : ∀ r, r ∈ [1, 2, 3, 5, 6, 7, 8] → τ.1 r = σ.1 r) (h4 : ∀ j, j < 8 → τ.1 4 j = iI (S j)) (h7 : S 7 = aS a 7) : kA0 τ 1 4 (aSet a S m) := by
  obtain ⟨a1, a2, a3, a4, a5, a6, a7, a8⟩ := h
  refine ⟨?_, fun j hj => ?_, fun j hj => ?_, h4, fun j hj => ?_, fun j hj => ?_, fun j hj => ?_, fun j hj => ?_⟩
  · rw [e 1 (by decide)]; exact a1
  · rw [e 2 (by decide)]; exact a2 j hj
  · rw [e 3 (by decide)]; exact a3 j hj
  · rw [e 5 (by decide)]; exact a5 j hj
  · rw [e 6 (by decide)]; exact a6 j (by rw [← h7]; exact hj)
  · rw [e 7 (by decide)]; exact a7 j (by rw [← h7]; exact hj)
  · rw [e 8 (by decide)]; exact a8 j (by rw [← h7]; exact hj)
theorem kLa.set {σ : zS} {a : mA} {S : Nat → Nat} {m : Bool} (h : kLa σ a) (h0 : S 0 = aS a 0) (h1 : S 1 = aS a 1) : kLa σ (aSet a S m) := by
  show kL σ (an a) (S 0) (S 1) (atx a) (amo a)
  rw [h0, h1]
  exact h
theorem rF.set {f g : Nat → Int32} {a : mA} {S : Nat → Nat} {m : Bool} (hb : aB a) (h : rF f a) (h7 : S 7 = aS a 7) (hs : ∀ j, j < 8 → g (181 + j) = iI (S j)) (hm : g 207 = if m = true then 1 else 0) (e : ∀ j, ¬ (181 ≤ j ∧ j ≤ 188) → j ≠ 207 → g j = f j) : rF g (aSet a S m) := by
  have c := h.c (g := g) hb.1.1 (fun j hj => e j (by omega) (by omega))
  have w := h.w (g := g) (fun j _ hj => e j (by omega) (by omega))
  have z := h.z (g := g) hb.2.2.2.2.2.2.2.1 (fun j _ hj => e j (by omega) (by omega))
  have p := h.p (g := g) (fun j _ hj => e j (by omega) (by omega))
  rw [← h7] at z
  exact ⟨c.1, c.2.1, c.2.2, hs, w, z.1, z.2.1, z.2.2, hm, p⟩
theorem rF.clip {f g : Nat → Int32} {a : mA} {n : Nat} {tx mo : Nat → Nat} (hb : aB a) (h : rF f a) (h0 : g 0 = iI n) (h1 : ∀ i, i < n → g (1 + i) = iI (tx i)) (h2 : ∀ i, i < n → g (61 + i) = iI (mo i)) (hm : g 207 = 0) (e : ∀ j, 121 ≤ j → j ≠ 207 → g j = f j) : rF g (aClip a n tx mo) := by
  have s := h.s (g := g) (fun j _ hj => e j (by omega) (by omega))
  have w := h.w (g := g) (fun j _ hj => e j (by omega) (by omega))
  have z := h.z (g := g) hb.2.2.2.2.2.2.2.1 (fun j _ hj => e j (by omega) (by omega))
  have p := h.p (g := g) (fun j _ hj => e j (by omega) (by omega))
  exact ⟨h0, h1, h2, s, w, z.1, z.2.1, z.2.2, hm, p⟩
theorem sp_anew {d : Nat} {σ τ : zS} {v : mV} {a : mA} {k : zS → Prop} (hC : CI σ v) (f : zFr [1, 2, 3, 4, 5, 6, 7, 8] σ τ) (hb : aB a) (hm : amd a = false) (hc : kA0 τ 1 4 a) (h : ∀ υ, CI υ (vA v a) → zLw σ υ → zFr (9 :: LR) τ υ → k υ) : zCall (d + 5) nX11_arrangeAnew [.ref 0] τ (zPV k) :=
  sp_arrangeAnew hb hc hm (fun υ hf h1 h2 h3 => h υ ⟨h1, h2, h3, hC.2.2.2.of (fun r hr => (hf.1 r (by revert r; decide)).trans (f.1 r (by revert r; decide))) (by rw [hf.1 11 (by decide), f.1 11 (by decide)]) rfl rfl rfl rfl⟩ ((f.lw (by decide)).tr (hf.lw (by decide))) hf)
theorem CI.pa {σ τ : zS} {v : mV} {a : mA} (hC : CI σ v) (f : zFr [4, 5, 6, 7, 8, 9, 10] σ τ) (h1 : kA0 τ 1 4 a) (h2 : kPl τ 9 a) (h3 : kLa τ a) : CI τ (vA v a) :=
  ⟨h1, h2, h3, hC.2.2.2.of (fun r hr => f.1 r (by revert r; decide)) (by rw [f.1 11 (by decide)]) rfl rfl rfl rfl⟩
theorem kNo {A : Int32} {σ : zS} {v : mV} (h : CI σ v) : (zPI fun x τ => x = A ∧ CI τ v ∧ zLw σ τ) (some (.int A)) σ := ⟨_, rfl, rfl, h, zLw.rf _⟩
theorem rNo {A : Int32} {σ : zS} {v : mV} (h : RI σ v) : (zPI fun x τ => x = A ∧ RI τ v ∧ zHg σ τ) (some (.int A)) σ := ⟨_, rfl, rfl, h, zHg.rf _⟩
theorem RI.fr {L : List Nat} {σ τ : zS} {v : mV} (h : RI σ v) (f : zFr L σ τ) (hL : ∀ r, r ∈ [64, 65, 66, 76] → r ∉ L) (e : τ.1 63 16 = σ.1 63 16) : RI τ v := ⟨h.1.of (f.1 64 (hL 64 (by decide))), h.2.of e (f.1 76 (hL 76 (by decide))) (f.1 66 (hL 66 (by decide))) (f.1 65 (hL 65 (by decide))) rfl rfl rfl rfl⟩
theorem RI.m {σ τ : zS} {v : mV} {a : mA} (h : RI σ v) (hr : rF (τ.1 64) a) (f : ∀ r, r ≠ 64 → τ.1 r = σ.1 r) : RI τ (vA v a) := ⟨rAt_0.mpr hr, h.2.of (by rw [f 63 (by decide)]) (f 76 (by decide)) (f 66 (by decide)) (f 65 (by decide)) rfl rfl rfl rfl⟩
theorem sp_types {d : Nat} {a : mA} {σ : zS} {k : zS → Prop} (hb : aB a) (hc : rAt σ 64 0 a) (h : ∀ τ, zFr RR σ τ → (∀ j, j ≠ 8 → j ≠ 9 → τ.1 63 j = σ.1 63 j) → rLa τ a → k τ) : zCall (d + 3) nX12_findsTypes [.ref 63] σ (zPV k) :=
  sp_findsTypes hb.1 hc.kR hb.2.1 hb.2.2.1 (hc.s (j := 0) (by decide)) (hc.s (j := 1) (by decide)) h
theorem sp_typesR {d : Nat} {v : mV} {σ : zS} {k : zS → Prop} (hv : vB v) (hR : RI σ v) (h : ∀ τ, RI τ v → zHg σ τ → rLa τ (va v) → k τ) : zCall (d + 3) nX12_findsTypes [.ref 63] σ (zPV k) :=
  sp_types hv.1 hR.1 (fun τ f e l => h τ (hR.fr f (by decide) (e 16 (by decide) (by decide))) (f.hg (by decide)) l)
theorem sp_cadd {d n p q : Nat} {σ : zS} {k : zS → Prop} (hn : n < 60) (h0 : σ.1 1 0 = iI n) (h : k (zSI (zSI (zSI σ 2 n (iI p)) 3 n (iI q)) 1 0 (iI ((n + 1 : Nat) : Int)))) : zCall (d + 2) nX0_add [.ref 1, .int (iI p), .int (iI q)] σ (zPV k) := by
  refine ze_X0_add_1 _ _ σ (fun X hX => zq_X0_add_1_0 hX _ _ σ ⟨rfl, ?_⟩)
  rw [h0, zPt_k (show n < zN 2 from hn), zPt_k (show n < zN 3 from hn), iI_s]
  exact h
def nU (f : Nat → Nat) (k x : Nat) : Nat → Nat := fun i => if i = k then x else f i
def iU (f : Nat → Int) (k : Nat) (x : Int) : Nat → Int := fun i => if i = k then x else f i
theorem nU_s (f : Nat → Nat) (k x : Nat) : nU f k x k = x := if_pos rfl
theorem nU_n {f : Nat → Nat} {k x i : Nat} (h : i ≠ k) : nU f k x i = f i := if_neg h
theorem iU_s (f : Nat → Int) (k : Nat) (x : Int) : iU f k x k = x := if_pos rfl
theorem iU_n {f : Nat → Int} {k i : Nat} {x : Int} (h : i ≠ k) : iU f k x i = f i := if_neg h
theorem upd_n {f : Nat → Int32} {g : Nat → Nat} {k x n : Nat} (h : ∀ i, i < n → i ≠ k → f i = iI (g i)) : ∀ i, i < n → upd f k (iI x) i = iI (nU g k x i) := fun i hi => by
  by_cases e : i = k
  · rw [e, nU_s]; simp [upd]
  · rw [nU_n e]; simp only [upd, if_neg e]; exact h i hi e
theorem upd_i {f : Nat → Int32} {g : Nat → Int} {k n : Nat} {x : Int} (h : ∀ i, i < n → i ≠ k → f i = iI (g i)) : ∀ i, i < n → upd f k (iI x) i = iI (iU g k x i) := fun i hi => by
  by_cases e : i = k
  · rw [e, iU_s]; simp [upd]
  · rw [iU_n e]; simp only [upd, if_neg e]; exact h i hi e
theorem iI_1p (k : Nat) : (1 : Int32) + iI (k : Int) = iI ((1 + k : Nat) : Int) := by rw [show (1 : Int32) = iI ((1 : Nat) : Int) from rfl, iI_kk]
theorem iI_61p (k : Nat) : (61 : Int32) + iI (k : Int) = iI ((61 + k : Nat) : Int) := by rw [show (61 : Int32) = iI ((61 : Nat) : Int) from rfl, iI_kk]
theorem iI_208p (k : Nat) : (208 : Int32) + iI (k : Int) = iI ((208 + k : Nat) : Int) := by rw [show (208 : Int32) = iI ((208 : Nat) : Int) from rfl, iI_kk]
theorem iI_121p (k : Nat) : (121 : Int32) + iI (k : Int) = iI ((121 + k : Nat) : Int) := by rw [show (121 : Int32) = iI ((121 : Nat) : Int) from rfl, iI_kk]
theorem pr_append {p q : Int32} {σ : zS} (g : G σ) : zPair nX11_append nX12_append [.int p, .int q] σ := by
  obtain ⟨v, hv, hC, hR⟩ := g
  have n60 := hv.1.n60
  by_cases c : (1 ≤ p ∧ p ≤ 4000) ∧ (0 ≤ q ∧ q ≤ 4000)
  · by_cases cn : an (va v) < 60
    · obtain ⟨t, rfl, t1, t2⟩ := rgN (p := p) 1 4000 (by decide) (by decide) c.1
      obtain ⟨m, rfl, _, m2⟩ := rgN (p := q) 0 4000 (by decide) (by decide) c.2
      have tb : mB (an (va v) + 1) (nU (atx (va v)) (an (va v)) t) (nU (amo (va v)) (an (va v)) m) := ⟨by omega, fun i hi => by
        by_cases e : i = an (va v)
        · rw [e, nU_s, nU_s]; omega
        · rw [nU_n e, nU_n e]; exact hv.1.1.2 i (by omega)⟩
      have ab := hv.1.clip tb
      refine zP_I (v := v) (w := vA v (aClip (va v) (an (va v) + 1) (nU (atx (va v)) (an (va v)) t) (nU (amo (va v)) (an (va v)) m))) (iI (an (va v))) (hv.a ab) hR ?_ (fun τ hT => ?_)
      · refine ze_X11_append (d := 7) _ _ σ (fun X hX => zq_X11_append_0 (d := 2) hX _ _ σ ?_)
        refine sp_isPicture (d := 5) (fun _ => ?_) (fun z => absurd c z)
        refine zIf_f (by decide) (zIf_t ?_ ?_)
        · rw [hC.1.1, show (60 : Int32) = iI 60 from rfl, iI_lt (by omega) (by omega) (by omega) (by omega)]; omega
        · refine sp_cadd (d := 5) (n := an (va v)) (by omega) hC.1.1 ?_
          refine sp_anew (d := 2) (v := v) hC ((((zFr.rf _ σ).si (by decide) _ _).si (by decide) _ _).si (by decide) _ _) ab rfl (hC.1.clip (fun r hr => ?_) (by simp [zSI_at]) ?_ ?_) (fun υ h1 h2 h3 => ⟨_, rfl, ?_, h1, h2⟩)
          · rw [zSI_1 (by revert r; decide), zSI_1 (by revert r; decide), zSI_1 (by revert r; decide)]
          · rw [zSI_1 (by decide), zSI_1 (by decide), zSI_s]
            exact upd_n (fun i hi e => hC.1.2.1 i (by omega))
          · rw [zSI_1 (by decide), zSI_s, zSI_1 (by decide)]
            exact upd_n (fun i hi e => hC.1.2.2.1 i (by omega))
          · rw [h1.1.1, iI_m]; exact congrArg iI (by show (((an (va v) + 1 : Nat) : Int) - 1) = _; omega)
      · have r0 := hT.1.1
        refine ze_X12_append (d := 7) _ _ τ (fun X hX => zq_X12_append_0 (d := 6) hX _ _ τ (zIf_t c.1 (zIf_t c.2 (zIf_f ?_ ?_))))
        · rw [r0, show (60 : Int32) = iI 60 from rfl, iI_eq (by omega) (by omega) (by omega) (by omega)]; omega
        · have e0 : (zSI τ 64 (1 + an (va v)) (iI t)).1 64 0 = iI (an (va v)) := by rw [zSI_at, if_neg (by omega)]; exact r0
          have e00 : (zSI (zSI τ 64 (1 + an (va v)) (iI t)) 64 (61 + an (va v)) (iI m)).1 64 0 = iI (an (va v)) := by rw [zSI_at, if_neg (by omega)]; exact e0
          rw [r0, iI_1p, iI_k (by omega), e0, iI_61p, iI_k (by omega), e00, iI_s]
          refine ⟨vin_k (by show 1 + an (va v) < 268; omega) (by decide), vin_k (by show 61 + an (va v) < 268; omega) (by decide), sp_forgets (d := 6) ⟨_, rfl, ?_, hT.m ?_ (fun r hr => ?_), ?_⟩⟩
          · rw [zSI_at, if_neg (by decide), zSI_at, if_pos (by decide), iI_m]; exact congrArg iI (by omega)
          · refine rF.clip hv.1 (rAt_0.mp hT.1) (by simp [zSI_at]) (fun i hi => ?_) (fun i hi => ?_) (by simp [zSI_at]) (fun j h1 h2 => ?_)
            · rw [zSI_at, if_neg (by omega), zSI_at, if_neg (by omega), zSI_at, if_neg (by omega), zSI_at]
              by_cases e : i = an (va v)
              · rw [if_pos (by omega), e, nU_s]
              · rw [if_neg (by omega), nU_n e]
                exact (rAt_0.mp hT.1).2.1 i (by omega)
            · rw [zSI_at, if_neg (by omega), zSI_at, if_neg (by omega), zSI_at]
              by_cases e : i = an (va v)
              · rw [if_pos (by omega), e, nU_s]
              · rw [if_neg (by omega), zSI_at, if_neg (by omega), nU_n e]
                exact (rAt_0.mp hT.1).2.2.1 i (by omega)
            · rw [zSI_at, if_neg (by omega), zSI_at, if_neg (by omega), zSI_at, if_neg (by omega), zSI_at, if_neg (by omega)]
          · rw [zSI_1 hr, zSI_1 hr, zSI_1 hr, zSI_1 hr]
          · exact ((((zHg.rf τ).si (by decide) _ _).si (by decide) _ _).si (by decide) _ _).si (by decide) _ _
    · have e : an (va v) = 60 := by omega
      refine zP_I (v := v) (w := v) (-4) hv hR ?_ (fun τ hT => ?_)
      · refine ze_X11_append (d := 7) _ _ σ (fun X hX => zq_X11_append_0 (d := 2) hX _ _ σ ?_)
        refine sp_isPicture (d := 5) (fun _ => ?_) (fun z => absurd c z)
        refine zIf_f (by decide) (zIf_f ?_ (kNo hC))
        rw [hC.1.1, e]; decide
      · refine ze_X12_append (d := 7) _ _ τ (fun X hX => zq_X12_append_0 (d := 6) hX _ _ τ (zIf_t c.1 (zIf_t c.2 (zIf_t ?_ (rNo hT)))))
        rw [hT.1.1, e]; rfl
  · refine zP_I (v := v) (w := v) (-2) hv hR ?_ (fun τ hT => ?_)
    · exact ze_X11_append (d := 7) _ _ σ (fun X hX => zq_X11_append_0 (d := 2) hX _ _ σ (sp_isPicture (d := 5) (fun z => absurd z c) (fun _ => zIf_t rfl (kNo hC))))
    · exact ze_X12_append (d := 7) _ _ τ (fun X hX => zq_X12_append_0 (d := 6) hX _ _ τ ⟨fun c1 => ⟨fun c2 => absurd ⟨c1, c2⟩ c, fun _ => rNo hT⟩, fun _ => rNo hT⟩)
theorem pr_drop {σ : zS} (g : G σ) : zPair nX11_drop nX12_drop [] σ := by
  obtain ⟨v, hv, hC, hR⟩ := g
  have n60 := hv.1.n60
  by_cases c : an (va v) = 0
  · refine zP_I (v := v) (w := v) (-3) hv hR ?_ (fun τ hT => ?_)
    · exact ze_X11_drop (d := 7) σ (fun X hX => zq_X11_drop_0 (d := 2) hX σ (zIf_t (by rw [hC.1.1, c]; rfl) (kNo hC)))
    · exact ze_X12_drop (d := 7) τ (fun X hX => zq_X12_drop_0 (d := 6) hX τ (zIf_t (by rw [hT.1.1, c]; rfl) (rNo hT)))
  · have tb : mB (an (va v) - 1) (atx (va v)) (amo (va v)) := ⟨by omega, fun i hi => hv.1.1.2 i (by omega)⟩
    have ab := hv.1.clip tb
    have e0 : iI (an (va v) : Int) - 1 = iI ((an (va v) - 1 : Nat) : Int) := by rw [iI_m]; exact congrArg iI (by omega)
    have ne : ¬ iI (an (va v) : Int) = 0 := by rw [show (0 : Int32) = iI 0 from rfl, iI_eq (by omega) (by omega) (by omega) (by omega)]; omega
    refine zP_I (v := v) (w := vA v (aClip (va v) (an (va v) - 1) (atx (va v)) (amo (va v)))) (iI ((an (va v) - 1 : Nat) : Int)) (hv.a ab) hR ?_ (fun τ hT => ?_)
    · refine ze_X11_drop (d := 7) σ (fun X hX => zq_X11_drop_0 (d := 2) hX σ (zIf_f (by rw [hC.1.1]; exact ne) ?_))
      rw [hC.1.1, e0]
      refine sp_anew (d := 2) (v := v) hC ((zFr.rf _ σ).si (by decide) _ _) ab rfl (hC.1.clip (fun r hr => ?_) (by simp [zSI_at]) ?_ ?_) (fun υ h1 h2 h3 => ⟨_, rfl, h1.1.1, h1, h2⟩)
      · rw [zSI_1 (by revert r; decide)]
      · rw [zSI_1 (by decide)]; exact fun i hi => hC.1.2.1 i (by omega)
      · rw [zSI_1 (by decide)]; exact fun i hi => hC.1.2.2.1 i (by omega)
    · refine ze_X12_drop (d := 7) τ (fun X hX => zq_X12_drop_0 (d := 6) hX τ (zIf_f (by rw [hT.1.1]; exact ne) ?_))
      rw [hT.1.1, e0]
      refine sp_forgets (d := 6) ⟨_, rfl, by simp [zSI_at], hT.m ?_ (fun r hr => ?_), ?_⟩
      · refine rF.clip hv.1 (rAt_0.mp hT.1) (by simp [zSI_at]) (fun i hi => ?_) (fun i hi => ?_) (by simp [zSI_at]) (fun j h1 h2 => ?_)
        · rw [zSI_at, if_neg (by omega), zSI_at, if_neg (by omega)]; exact (rAt_0.mp hT.1).2.1 i (by omega)
        · rw [zSI_at, if_neg (by omega), zSI_at, if_neg (by omega)]; exact (rAt_0.mp hT.1).2.2.1 i (by omega)
        · rw [zSI_at, if_neg (by omega), zSI_at, if_neg (by omega)]
      · rw [zSI_1 hr, zSI_1 hr]
      · exact ((zHg.rf τ).si (by decide) _ _).si (by decide) _ _
