/-! the state of both, abstractly -/
/-- clip and settings at these roles -/
def kA0 (σ : zS) (c s : Nat) (a : mA) : Prop :=
  σ.1 c 0 = iI (an a) ∧ (∀ i, i < an a → σ.1 (c + 1) i = iI (atx a i)) ∧ (∀ i, i < an a → σ.1 (c + 2) i = iI (amo a i)) ∧ (∀ j, j < 8 → σ.1 s j = iI (aS a j)) ∧ (∀ j, j < 60 → σ.1 (s + 1) j = iI (aw a j)) ∧ (∀ j, j < aS a 7 → σ.1 (s + 2) j = iI (azf a j)) ∧ (∀ j, j < aS a 7 → σ.1 (s + 3) j = iI (azl a j)) ∧ (∀ j, j < aS a 7 → σ.1 (s + 4) j = iI (azo a j))
def kPl (σ : zS) (p : Nat) (a : mA) : Prop := σ.1 p 0 = (if amd a = true then 1 else 0) ∧ (amd a = true → ∀ i, i < an a → σ.1 (p + 1) i = iI (aq a i))
theorem kAt_of {σ : zS} {c s p : Nat} {a : mA} (h : kA0 σ c s a) (h2 : kPl σ p a) : kAt σ c s p a := ⟨h.1, h.2.1, h.2.2.1, h.2.2.2.1, h.2.2.2.2.1, h.2.2.2.2.2.1, h.2.2.2.2.2.2.1, h.2.2.2.2.2.2.2, h2.1, h2.2⟩
theorem kAt.a0 {σ : zS} {c s p : Nat} {a : mA} (h : kAt σ c s p a) : kA0 σ c s a := ⟨h.1, h.2.1, h.2.2.1, h.2.2.2.1, h.2.2.2.2.1, h.2.2.2.2.2.1, h.2.2.2.2.2.2.1, h.2.2.2.2.2.2.2.1⟩
theorem kAt.pl {σ : zS} {c s p : Nat} {a : mA} (h : kAt σ c s p a) : kPl σ p a := h.2.2.2.2.2.2.2.2
theorem kA0.of {σ τ : zS} {c s : Nat} {a : mA} (h : kA0 σ c s a) (e : ∀ r, r ∈ [c, c + 1, c + 2, s, s + 1, s + 2, s + 3, s + 4] → τ.1 r = σ.1 r) : kA0 τ c s a := by
  unfold kA0 at h ⊢
  rw [e c (by simp), e (c + 1) (by simp), e (c + 2) (by simp), e s (by simp), e (s + 1) (by simp), e (s + 2) (by simp), e (s + 3) (by simp), e (s + 4) (by simp)]
  exact h
theorem kPl.of {σ τ : zS} {p : Nat} {a : mA} (h : kPl σ p a) (e : τ.1 p = σ.1 p) (e2 : τ.1 (p + 1) = σ.1 (p + 1)) : kPl τ p a := by
  unfold kPl at h ⊢
  rw [e, e2]
  exact h
theorem kLa.of {σ τ : zS} {a : mA} (h : kLa σ a) (e : ∀ r, r ∈ LR → τ.1 r = σ.1 r) : kLa τ a := by
  unfold kLa kL at h ⊢
  rw [e 16 (by decide), e 17 (by decide), e 18 (by decide), e 19 (by decide), e 20 (by decide), e 21 (by decide), e 22 (by decide), e 23 (by decide)]
  exact h
/-- now; two slots; the text -/
abbrev mV : Type := mA × (Bool × mA) × (Bool × mA) × Nat × (Nat → Nat)
def va (v : mV) : mA := v.1
def v0 (v : mV) : Bool × mA := v.2.1
def v1 (v : mV) : Bool × mA := v.2.2.1
def vl (v : mV) : Nat := v.2.2.2.1
def vt (v : mV) : Nat → Nat := v.2.2.2.2
def vA (v : mV) (a : mA) : mV := (a, v0 v, v1 v, vl v, vt v)
def vT (v : mV) (l : Nat) (t : Nat → Nat) : mV := (va v, v0 v, v1 v, l, t)
def vB (v : mV) : Prop := aB (va v) ∧ ((v0 v).1 = true → aB (v0 v).2) ∧ ((v1 v).1 = true → aB (v1 v).2) ∧ vl v ≤ 100 ∧ ∀ i, i < vl v → vt v i ≤ 127
/-- what of the component is neither clip, settings, plan nor layout -/
def kRest (σ : zS) (v : mV) : Prop := kSt σ ∧ σ.1 11 0 = iI (vl v) ∧ (∀ i, i < vl v → σ.1 15 i = iI (vt v i)) ∧ σ.1 41 0 = (if (v0 v).1 = true then 1 else 0) ∧ ((v0 v).1 = true → kAt σ 42 45 50 (v0 v).2) ∧ σ.1 52 0 = (if (v1 v).1 = true then 1 else 0) ∧ ((v1 v).1 = true → kAt σ 53 56 61 (v1 v).2)
def CI (σ : zS) (v : mV) : Prop := kA0 σ 1 4 (va v) ∧ kPl σ 9 (va v) ∧ kLa σ (va v) ∧ kRest σ v
def RS : List Nat := [25, 15, 41, 42, 43, 44, 45, 46, 47, 48, 49, 50, 51, 52, 53, 54, 55, 56, 57, 58, 59, 60, 61, 62]
theorem kRest.of {σ τ : zS} {v w : mV} (h : kRest σ v) (e : ∀ r, r ∈ RS → τ.1 r = σ.1 r) (e11 : τ.1 11 0 = σ.1 11 0) (w2 : v0 w = v0 v) (w3 : v1 w = v1 v) (w4 : vl w = vl v) (w5 : vt w = vt v) : kRest τ w := by
  obtain ⟨h1, h2, h3, h4, h5, h6, h7⟩ := h
  unfold kRest
  rw [w2, w3, w4, w5, e11, e 15 (by decide), e 41 (by decide), e 52 (by decide)]
  refine ⟨fun q hq => by rw [e 25 (by decide)]; exact h1 q hq, h2, h3, h4, fun z => kAt_of ((h5 z).a0.of (fun r hr => e r (by revert r; decide))) ((h5 z).pl.of (e 50 (by decide)) (e 51 (by decide))), h6, fun z => kAt_of ((h7 z).a0.of (fun r hr => e r (by revert r; decide))) ((h7 z).pl.of (e 61 (by decide)) (e 62 (by decide)))⟩
theorem CI.at {σ : zS} {v : mV} (h : CI σ v) : kAt σ 1 4 9 (va v) := kAt_of h.1 h.2.1
/-- rows on which a component's state stands -/
def CS : List Nat := [1, 2, 3, 4, 5, 6, 7, 8, 9, 10, 11, 16, 17, 18, 19, 20, 21, 22, 23] ++ RS
theorem CI.of {σ τ : zS} {v : mV} (h : CI σ v) (e : ∀ r, r ∈ CS → τ.1 r = σ.1 r) : CI τ v :=
  ⟨h.1.of (fun r hr => e r (by revert r; decide)), h.2.1.of (e 9 (by decide)) (e 10 (by decide)), h.2.2.1.of (fun r hr => e r (by revert r; decide)), h.2.2.2.of (fun r hr => e r (by revert r; decide)) (by rw [e 11 (by decide)]) rfl rfl rfl rfl⟩
theorem CI.fr {L : List Nat} {σ τ : zS} {v : mV} (h : CI σ v) (f : zFr L σ τ) (hL : ∀ r, r ∈ CS → r ∉ L) : CI τ v := h.of (fun r hr => f.1 r (hL r hr))
/-- nothing of the reference's has changed -/
def zLw (σ τ : zS) : Prop := ∀ r, 63 ≤ r → τ.1 r = σ.1 r
/-- nothing of the component's has changed -/
def zHg (σ τ : zS) : Prop := ∀ r, r < 63 → τ.1 r = σ.1 r
theorem zLw.rf (σ : zS) : zLw σ σ := fun _ _ => rfl
theorem zHg.rf (σ : zS) : zHg σ σ := fun _ _ => rfl
theorem zLw.tr {σ τ υ : zS} (h : zLw σ τ) (g : zLw τ υ) : zLw σ υ := fun r hr => (g r hr).trans (h r hr)
theorem zHg.tr {σ τ υ : zS} (h : zHg σ τ) (g : zHg τ υ) : zHg σ υ := fun r hr => (g r hr).trans (h r hr)
theorem zFr.lw {L : List Nat} {σ τ : zS} (f : zFr L σ τ) (hL : ∀ r, r ∈ L → r < 63) : zLw σ τ := fun r hr => f.1 r (fun z => by have := hL r z; omega)
theorem zFr.hg {L : List Nat} {σ τ : zS} (f : zFr L σ τ) (hL : ∀ r, r ∈ L → 63 ≤ r) : zHg σ τ := fun r hr => f.1 r (fun z => by have := hL r z; omega)
theorem zLw.si {σ τ : zS} (h : zLw σ τ) {r : Nat} (hr : r < 63) (j : Nat) (x : Int32) : zLw σ (zSI τ r j x) := fun q hq => (zSI_1 (by omega)).trans (h q hq)
theorem zHg.si {σ τ : zS} (h : zHg σ τ) {r : Nat} (hr : 63 ≤ r) (j : Nat) (x : Int32) : zHg σ (zSI τ r j x) := fun q hq => (zSI_1 (by omega)).trans (h q hq)
theorem CI.hg {σ τ : zS} {v : mV} (h : CI σ v) (f : zHg σ τ) : CI τ v := h.of (fun r hr => f r (by revert r; decide))
-- arguments
theorem iI_ti (p : Int32) : iI p.toInt = p := Int32.ofInt_toInt p
theorem rgZ {p : Int32} (lo hi : Int) (h1 : -2147483648 ≤ lo) (h2 : lo < 2147483648) (h3 : -2147483648 ≤ hi) (h4 : hi < 2147483648) (c : iI lo ≤ p ∧ p ≤ iI hi) : ∃ z : Int, p = iI z ∧ lo ≤ z ∧ z ≤ hi := by
  obtain ⟨c1, c2⟩ := c
  rw [Int32.le_iff_toInt_le, iI_toInt h1 h2] at c1
  rw [Int32.le_iff_toInt_le, iI_toInt h3 h4] at c2
  exact ⟨p.toInt, (iI_ti p).symm, c1, c2⟩
theorem rgN {p : Int32} (lo hi : Nat) (h2 : lo < 2147483648) (h4 : hi < 2147483648) (c : iI (lo : Int) ≤ p ∧ p ≤ iI (hi : Int)) : ∃ k : Nat, p = iI k ∧ lo ≤ k ∧ k ≤ hi := by
  obtain ⟨z, e, z1, z2⟩ := rgZ (lo : Int) (hi : Int) (by omega) (by omega) (by omega) (by omega) c
  obtain ⟨k, rfl⟩ := Int.eq_ofNat_of_zero_le (show 0 ≤ z by omega)
  exact ⟨k, e, by omega, by omega⟩
theorem isF {p : Int32} {n : Nat} (hn : n ≤ 60) : (0 ≤ p ∧ p ≤ iI (n : Int) - 1) ↔ ∃ f : Nat, p = iI f ∧ f < n := by
  rw [show (1 : Int32) = iI 1 from rfl, iI_sub]
  constructor
  · intro c
    obtain ⟨z, e, z1, z2⟩ := rgZ 0 ((n : Int) - 1) (by omega) (by omega) (by omega) (by omega) c
    obtain ⟨k, rfl⟩ := Int.eq_ofNat_of_zero_le z1
    exact ⟨k, e, by omega⟩
  · rintro ⟨f, rfl, hf⟩
    rw [show (0 : Int32) = iI 0 from rfl, iI_le (by omega) (by omega) (by omega) (by omega), iI_le (by omega) (by omega) (by omega) (by omega)]
    omega
theorem sp_isPicture {d : Nat} {p q : Int32} {σ : zS} {k : Int32 → zS → Prop} (h1 : (1 ≤ p ∧ p ≤ 4000) ∧ (0 ≤ q ∧ q ≤ 4000) → k 1 σ) (h0 : ¬ ((1 ≤ p ∧ p ≤ 4000) ∧ (0 ≤ q ∧ q ≤ 4000)) → k 0 σ) : zCall (d + 2) nX11_isPicture [.int p, .int q] σ (zPI k) :=
  ze_X11_isPicture _ _ σ (fun X hX => zq_X11_isPicture_0 hX _ _ σ ⟨fun c => ⟨fun c2 => ⟨_, rfl, h1 ⟨c, c2⟩⟩, fun c2 => ⟨_, rfl, h0 (fun z => c2 z.2)⟩⟩, fun c => ⟨_, rfl, h0 (fun z => c z.1)⟩⟩)
theorem sp_arrangeAnew {d : Nat} {a : mA} {σ : zS} {k : zS → Prop} (hb : aB a) (hc : kA0 σ 1 4 a) (hm : amd a = false) (h : ∀ τ, zFr (9 :: LR) σ τ → kA0 τ 1 4 a → kPl τ 9 a → kLa τ a → k τ) : zCall (d + 5) nX11_arrangeAnew [.ref 0] σ (zPV k) := by
  refine ze_X11_arrangeAnew σ (fun X hX => zq_X11_arrangeAnew_0 hX σ ?_)
  have c2 : kA0 (zSI σ 9 0 0) 1 4 a := hc.of (fun r hr => zSI_1 (by revert r; decide))
  refine sp_arrange (d := d) (n := an a) (iv := aS a 0) (br := aS a 1) (tx := atx a) (mo := amo a) hb.1 ⟨c2.1, c2.2.1, c2.2.2.1⟩ hb.2.1.2 hb.2.2.1 (c2.2.2.2.1 0 (by decide)) (c2.2.2.2.1 1 (by decide)) (fun τ hf hl => ⟨rfl, h τ ?_ ?_ ?_ hl⟩)
  · exact ((zFr.rf _ σ).si (by decide) 0 0).tr hf (by decide)
  · exact c2.of (fun r hr => hf.1 r (by revert r; decide))
  · refine ⟨?_, fun z => by rw [hm] at z; exact absurd z (by decide)⟩
    rw [hf.1 9 (by decide), hm]
    simp [zSI_at]
