/-! copies; save, restore, count -/
theorem zCp_1 {σ : zS} {p q r : Nat} (h : r ≠ q) : (zCp σ p q).1 r = σ.1 r := zSR_1 h
theorem zCp_at {σ : zS} {p q k : Nat} (hp : k < zN p) (hq : k < zN q) : (zCp σ p q).1 q k = σ.1 p k := by
  unfold zCp
  rw [zSR_at, if_pos rfl, if_pos ⟨hp, hq⟩]
theorem zFr.cp {L : List Nat} {σ τ : zS} (h : zFr L σ τ) {p q : Nat} (hq : q ∈ L) : zFr L σ (zCp τ p q) := h.sr hq _
theorem sp_cpC_1_12 {d : Nat} {σ : zS} {k : zS → Prop} (h : ∀ τ, zFr [1, 2, 3] σ τ → τ.1 1 0 = σ.1 12 0 → (∀ i, i < 60 → τ.1 2 i = σ.1 13 i) → (∀ i, i < 60 → τ.1 3 i = σ.1 14 i) → k τ) : zCall (d + 2) nX0_copyFrom [.ref 1, .ref 12] σ (zPV k) := by
  refine ze_X0_copyFrom_1_12 σ (fun X hX => zq_X0_copyFrom_1_12_0 hX σ ⟨rfl, h _ ((((zFr.rf _ σ).si (by decide) _ _).cp (by decide)).cp (by decide)) ?_ (fun i hi => ?_) (fun i hi => ?_)⟩)
  · rw [zCp_1 (by decide), zCp_1 (by decide)]; simp [zSI_at]
  · rw [zCp_1 (by decide), zCp_at (show i < zN 13 from hi) (show i < zN 2 from hi), zSI_1 (by decide)]
  · rw [zCp_at (show i < zN 14 from hi) (show i < zN 3 from hi), zCp_1 (by decide), zSI_1 (by decide)]
theorem sp_cpC_1_42 {d : Nat} {σ : zS} {k : zS → Prop} (h : ∀ τ, zFr [1, 2, 3] σ τ → τ.1 1 0 = σ.1 42 0 → (∀ i, i < 60 → τ.1 2 i = σ.1 43 i) → (∀ i, i < 60 → τ.1 3 i = σ.1 44 i) → k τ) : zCall (d + 2) nX0_copyFrom [.ref 1, .ref 42] σ (zPV k) := by
  refine ze_X0_copyFrom_1_42 σ (fun X hX => zq_X0_copyFrom_1_42_0 hX σ ⟨rfl, h _ ((((zFr.rf _ σ).si (by decide) _ _).cp (by decide)).cp (by decide)) ?_ (fun i hi => ?_) (fun i hi => ?_)⟩)
  · rw [zCp_1 (by decide), zCp_1 (by decide)]; simp [zSI_at]
  · rw [zCp_1 (by decide), zCp_at (show i < zN 43 from hi) (show i < zN 2 from hi), zSI_1 (by decide)]
  · rw [zCp_at (show i < zN 44 from hi) (show i < zN 3 from hi), zCp_1 (by decide), zSI_1 (by decide)]
theorem sp_cpC_1_53 {d : Nat} {σ : zS} {k : zS → Prop} (h : ∀ τ, zFr [1, 2, 3] σ τ → τ.1 1 0 = σ.1 53 0 → (∀ i, i < 60 → τ.1 2 i = σ.1 54 i) → (∀ i, i < 60 → τ.1 3 i = σ.1 55 i) → k τ) : zCall (d + 2) nX0_copyFrom [.ref 1, .ref 53] σ (zPV k) := by
  refine ze_X0_copyFrom_1_53 σ (fun X hX => zq_X0_copyFrom_1_53_0 hX σ ⟨rfl, h _ ((((zFr.rf _ σ).si (by decide) _ _).cp (by decide)).cp (by decide)) ?_ (fun i hi => ?_) (fun i hi => ?_)⟩)
  · rw [zCp_1 (by decide), zCp_1 (by decide)]; simp [zSI_at]
  · rw [zCp_1 (by decide), zCp_at (show i < zN 54 from hi) (show i < zN 2 from hi), zSI_1 (by decide)]
  · rw [zCp_at (show i < zN 55 from hi) (show i < zN 3 from hi), zCp_1 (by decide), zSI_1 (by decide)]
theorem sp_cpC_42_1 {d : Nat} {σ : zS} {k : zS → Prop} (h : ∀ τ, zFr [42, 43, 44] σ τ → τ.1 42 0 = σ.1 1 0 → (∀ i, i < 60 → τ.1 43 i = σ.1 2 i) → (∀ i, i < 60 → τ.1 44 i = σ.1 3 i) → k τ) : zCall (d + 2) nX0_copyFrom [.ref 42, .ref 1] σ (zPV k) := by
  refine ze_X0_copyFrom_42_1 σ (fun X hX => zq_X0_copyFrom_42_1_0 hX σ ⟨rfl, h _ ((((zFr.rf _ σ).si (by decide) _ _).cp (by decide)).cp (by decide)) ?_ (fun i hi => ?_) (fun i hi => ?_)⟩)
  · rw [zCp_1 (by decide), zCp_1 (by decide)]; simp [zSI_at]
  · rw [zCp_1 (by decide), zCp_at (show i < zN 2 from hi) (show i < zN 43 from hi), zSI_1 (by decide)]
  · rw [zCp_at (show i < zN 3 from hi) (show i < zN 44 from hi), zCp_1 (by decide), zSI_1 (by decide)]
theorem sp_cpC_53_1 {d : Nat} {σ : zS} {k : zS → Prop} (h : ∀ τ, zFr [53, 54, 55] σ τ → τ.1 53 0 = σ.1 1 0 → (∀ i, i < 60 → τ.1 54 i = σ.1 2 i) → (∀ i, i < 60 → τ.1 55 i = σ.1 3 i) → k τ) : zCall (d + 2) nX0_copyFrom [.ref 53, .ref 1] σ (zPV k) := by
  refine ze_X0_copyFrom_53_1 σ (fun X hX => zq_X0_copyFrom_53_1_0 hX σ ⟨rfl, h _ ((((zFr.rf _ σ).si (by decide) _ _).cp (by decide)).cp (by decide)) ?_ (fun i hi => ?_) (fun i hi => ?_)⟩)
  · rw [zCp_1 (by decide), zCp_1 (by decide)]; simp [zSI_at]
  · rw [zCp_1 (by decide), zCp_at (show i < zN 2 from hi) (show i < zN 54 from hi), zSI_1 (by decide)]
  · rw [zCp_at (show i < zN 3 from hi) (show i < zN 55 from hi), zCp_1 (by decide), zSI_1 (by decide)]
theorem sp_cpS_4_45 {d : Nat} {σ : zS} {k : zS → Prop} (h : ∀ τ, zFr [4, 5, 6, 7, 8] σ τ → (∀ i, i < 8 → τ.1 4 i = σ.1 45 i) → (∀ i, i < 60 → τ.1 5 i = σ.1 46 i) → (∀ i, i < 6 → τ.1 6 i = σ.1 47 i) → (∀ i, i < 6 → τ.1 7 i = σ.1 48 i) → (∀ i, i < 6 → τ.1 8 i = σ.1 49 i) → k τ) : zCall (d + 2) nX8_copyFrom [.ref 4, .ref 45] σ (zPV k) := by
  have s8 : ∀ (τ : zS) (x0 x1 x2 x3 x4 x5 x6 x7 : Int32) (r : Nat), r ≠ 4 → (zSI (zSI (zSI (zSI (zSI (zSI (zSI (zSI τ 4 0 x0) 4 1 x1) 4 2 x2) 4 3 x3) 4 4 x4) 4 5 x5) 4 6 x6) 4 7 x7).1 r = τ.1 r := fun τ x0 x1 x2 x3 x4 x5 x6 x7 r hr => by
    rw [zSI_1 hr, zSI_1 hr, zSI_1 hr, zSI_1 hr, zSI_1 hr, zSI_1 hr, zSI_1 hr, zSI_1 hr]
  refine ze_X8_copyFrom_4_45 σ (fun X hX => zq_X8_copyFrom_4_45_0 hX σ ⟨rfl, h _ ((((((((((((((zFr.rf _ σ).si (by decide) _ _).si (by decide) _ _).si (by decide) _ _).si (by decide) _ _).si (by decide) _ _).si (by decide) _ _).si (by decide) _ _).si (by decide) _ _).cp (by decide)).cp (by decide)).cp (by decide)).cp (by decide))) (fun i hi => ?_) (fun i hi => ?_) (fun i hi => ?_) (fun i hi => ?_) (fun i hi => ?_)⟩)
  · rw [zCp_1 (by decide), zCp_1 (by decide), zCp_1 (by decide), zCp_1 (by decide)]
    have c : i = 0 ∨ i = 1 ∨ i = 2 ∨ i = 3 ∨ i = 4 ∨ i = 5 ∨ i = 6 ∨ i = 7 := by omega
    rcases c with rfl | rfl | rfl | rfl | rfl | rfl | rfl | rfl <;> simp [zSI_at]
  · rw [zCp_1 (by decide), zCp_1 (by decide), zCp_1 (by decide), zCp_at (show i < zN 46 from hi) (show i < zN 5 from hi), s8 _ _ _ _ _ _ _ _ _ 46 (by decide)]
  · rw [zCp_1 (by decide), zCp_1 (by decide), zCp_at (show i < zN 47 from hi) (show i < zN 6 from hi), zCp_1 (by decide), s8 _ _ _ _ _ _ _ _ _ 47 (by decide)]
  · rw [zCp_1 (by decide), zCp_at (show i < zN 48 from hi) (show i < zN 7 from hi), zCp_1 (by decide), zCp_1 (by decide), s8 _ _ _ _ _ _ _ _ _ 48 (by decide)]
  · rw [zCp_at (show i < zN 49 from hi) (show i < zN 8 from hi), zCp_1 (by decide), zCp_1 (by decide), zCp_1 (by decide), s8 _ _ _ _ _ _ _ _ _ 49 (by decide)]
theorem sp_cpS_4_56 {d : Nat} {σ : zS} {k : zS → Prop} (h : ∀ τ, zFr [4, 5, 6, 7, 8] σ τ → (∀ i, i < 8 → τ.1 4 i = σ.1 56 i) → (∀ i, i < 60 → τ.1 5 i = σ.1 57 i) → (∀ i, i < 6 → τ.1 6 i = σ.1 58 i) → (∀ i, i < 6 → τ.1 7 i = σ.1 59 i) → (∀ i, i < 6 → τ.1 8 i = σ.1 60 i) → k τ) : zCall (d + 2) nX8_copyFrom [.ref 4, .ref 56] σ (zPV k) := by
  have s8 : ∀ (τ : zS) (x0 x1 x2 x3 x4 x5 x6 x7 : Int32) (r : Nat), r ≠ 4 → (zSI (zSI (zSI (zSI (zSI (zSI (zSI (zSI τ 4 0 x0) 4 1 x1) 4 2 x2) 4 3 x3) 4 4 x4) 4 5 x5) 4 6 x6) 4 7 x7).1 r = τ.1 r := fun τ x0 x1 x2 x3 x4 x5 x6 x7 r hr => by
    rw [zSI_1 hr, zSI_1 hr, zSI_1 hr, zSI_1 hr, zSI_1 hr, zSI_1 hr, zSI_1 hr, zSI_1 hr]
  refine ze_X8_copyFrom_4_56 σ (fun X hX => zq_X8_copyFrom_4_56_0 hX σ ⟨rfl, h _ ((((((((((((((zFr.rf _ σ).si (by decide) _ _).si (by decide) _ _).si (by decide) _ _).si (by decide) _ _).si (by decide) _ _).si (by decide) _ _).si (by decide) _ _).si (by decide) _ _).cp (by decide)).cp (by decide)).cp (by decide)).cp (by decide))) (fun i hi => ?_) (fun i hi => ?_) (fun i hi => ?_) (fun i hi => ?_) (fun i hi => ?_)⟩)
  · rw [zCp_1 (by decide), zCp_1 (by decide), zCp_1 (by decide), zCp_1 (by decide)]
    have c : i = 0 ∨ i = 1 ∨ i = 2 ∨ i = 3 ∨ i = 4 ∨ i = 5 ∨ i = 6 ∨ i = 7 := by omega
    rcases c with rfl | rfl | rfl | rfl | rfl | rfl | rfl | rfl <;> simp [zSI_at]
  · rw [zCp_1 (by decide), zCp_1 (by decide), zCp_1 (by decide), zCp_at (show i < zN 57 from hi) (show i < zN 5 from hi), s8 _ _ _ _ _ _ _ _ _ 57 (by decide)]
  · rw [zCp_1 (by decide), zCp_1 (by decide), zCp_at (show i < zN 58 from hi) (show i < zN 6 from hi), zCp_1 (by decide), s8 _ _ _ _ _ _ _ _ _ 58 (by decide)]
  · rw [zCp_1 (by decide), zCp_at (show i < zN 59 from hi) (show i < zN 7 from hi), zCp_1 (by decide), zCp_1 (by decide), s8 _ _ _ _ _ _ _ _ _ 59 (by decide)]
  · rw [zCp_at (show i < zN 60 from hi) (show i < zN 8 from hi), zCp_1 (by decide), zCp_1 (by decide), zCp_1 (by decide), s8 _ _ _ _ _ _ _ _ _ 60 (by decide)]
theorem sp_cpS_45_4 {d : Nat} {σ : zS} {k : zS → Prop} (h : ∀ τ, zFr [45, 46, 47, 48, 49] σ τ → (∀ i, i < 8 → τ.1 45 i = σ.1 4 i) → (∀ i, i < 60 → τ.1 46 i = σ.1 5 i) → (∀ i, i < 6 → τ.1 47 i = σ.1 6 i) → (∀ i, i < 6 → τ.1 48 i = σ.1 7 i) → (∀ i, i < 6 → τ.1 49 i = σ.1 8 i) → k τ) : zCall (d + 2) nX8_copyFrom [.ref 45, .ref 4] σ (zPV k) := by
  have s8 : ∀ (τ : zS) (x0 x1 x2 x3 x4 x5 x6 x7 : Int32) (r : Nat), r ≠ 45 → (zSI (zSI (zSI (zSI (zSI (zSI (zSI (zSI τ 45 0 x0) 45 1 x1) 45 2 x2) 45 3 x3) 45 4 x4) 45 5 x5) 45 6 x6) 45 7 x7).1 r = τ.1 r := fun τ x0 x1 x2 x3 x4 x5 x6 x7 r hr => by
    rw [zSI_1 hr, zSI_1 hr, zSI_1 hr, zSI_1 hr, zSI_1 hr, zSI_1 hr, zSI_1 hr, zSI_1 hr]
  refine ze_X8_copyFrom_45_4 σ (fun X hX => zq_X8_copyFrom_45_4_0 hX σ ⟨rfl, h _ ((((((((((((((zFr.rf _ σ).si (by decide) _ _).si (by decide) _ _).si (by decide) _ _).si (by decide) _ _).si (by decide) _ _).si (by decide) _ _).si (by decide) _ _).si (by decide) _ _).cp (by decide)).cp (by decide)).cp (by decide)).cp (by decide))) (fun i hi => ?_) (fun i hi => ?_) (fun i hi => ?_) (fun i hi => ?_) (fun i hi => ?_)⟩)
  · rw [zCp_1 (by decide), zCp_1 (by decide), zCp_1 (by decide), zCp_1 (by decide)]
    have c : i = 0 ∨ i = 1 ∨ i = 2 ∨ i = 3 ∨ i = 4 ∨ i = 5 ∨ i = 6 ∨ i = 7 := by omega
    rcases c with rfl | rfl | rfl | rfl | rfl | rfl | rfl | rfl <;> simp [zSI_at]
  · rw [zCp_1 (by decide), zCp_1 (by decide), zCp_1 (by decide), zCp_at (show i < zN 5 from hi) (show i < zN 46 from hi), s8 _ _ _ _ _ _ _ _ _ 5 (by decide)]
  · rw [zCp_1 (by decide), zCp_1 (by decide), zCp_at (show i < zN 6 from hi) (show i < zN 47 from hi), zCp_1 (by decide), s8 _ _ _ _ _ _ _ _ _ 6 (by decide)]
  · rw [zCp_1 (by decide), zCp_at (show i < zN 7 from hi) (show i < zN 48 from hi), zCp_1 (by decide), zCp_1 (by decide), s8 _ _ _ _ _ _ _ _ _ 7 (by decide)]
  · rw [zCp_at (show i < zN 8 from hi) (show i < zN 49 from hi), zCp_1 (by decide), zCp_1 (by decide), zCp_1 (by decide), s8 _ _ _ _ _ _ _ _ _ 8 (by decide)]
theorem sp_cpS_56_4 {d : Nat} {σ : zS} {k : zS → Prop} (h : ∀ τ, zFr [56, 57, 58, 59, 60] σ τ → (∀ i, i < 8 → τ.1 56 i = σ.1 4 i) → (∀ i, i < 60 → τ.1 57 i = σ.1 5 i) → (∀ i, i < 6 → τ.1 58 i = σ.1 6 i) → (∀ i, i < 6 → τ.1 59 i = σ.1 7 i) → (∀ i, i < 6 → τ.1 60 i = σ.1 8 i) → k τ) : zCall (d + 2) nX8_copyFrom [.ref 56, .ref 4] σ (zPV k) := by
  have s8 : ∀ (τ : zS) (x0 x1 x2 x3 x4 x5 x6 x7 : Int32) (r : Nat), r ≠ 56 → (zSI (zSI (zSI (zSI (zSI (zSI (zSI (zSI τ 56 0 x0) 56 1 x1) 56 2 x2) 56 3 x3) 56 4 x4) 56 5 x5) 56 6 x6) 56 7 x7).1 r = τ.1 r := fun τ x0 x1 x2 x3 x4 x5 x6 x7 r hr => by
    rw [zSI_1 hr, zSI_1 hr, zSI_1 hr, zSI_1 hr, zSI_1 hr, zSI_1 hr, zSI_1 hr, zSI_1 hr]
  refine ze_X8_copyFrom_56_4 σ (fun X hX => zq_X8_copyFrom_56_4_0 hX σ ⟨rfl, h _ ((((((((((((((zFr.rf _ σ).si (by decide) _ _).si (by decide) _ _).si (by decide) _ _).si (by decide) _ _).si (by decide) _ _).si (by decide) _ _).si (by decide) _ _).si (by decide) _ _).cp (by decide)).cp (by decide)).cp (by decide)).cp (by decide))) (fun i hi => ?_) (fun i hi => ?_) (fun i hi => ?_) (fun i hi => ?_) (fun i hi => ?_)⟩)
  · rw [zCp_1 (by decide), zCp_1 (by decide), zCp_1 (by decide), zCp_1 (by decide)]
    have c : i = 0 ∨ i = 1 ∨ i = 2 ∨ i = 3 ∨ i = 4 ∨ i = 5 ∨ i = 6 ∨ i = 7 := by omega
    rcases c with rfl | rfl | rfl | rfl | rfl | rfl | rfl | rfl <;> simp [zSI_at]
  · rw [zCp_1 (by decide), zCp_1 (by decide), zCp_1 (by decide), zCp_at (show i < zN 5 from hi) (show i < zN 57 from hi), s8 _ _ _ _ _ _ _ _ _ 5 (by decide)]
  · rw [zCp_1 (by decide), zCp_1 (by decide), zCp_at (show i < zN 6 from hi) (show i < zN 58 from hi), zCp_1 (by decide), s8 _ _ _ _ _ _ _ _ _ 6 (by decide)]
  · rw [zCp_1 (by decide), zCp_at (show i < zN 7 from hi) (show i < zN 59 from hi), zCp_1 (by decide), zCp_1 (by decide), s8 _ _ _ _ _ _ _ _ _ 7 (by decide)]
  · rw [zCp_at (show i < zN 8 from hi) (show i < zN 60 from hi), zCp_1 (by decide), zCp_1 (by decide), zCp_1 (by decide), s8 _ _ _ _ _ _ _ _ _ 8 (by decide)]
theorem sp_cpP_9_50 {d : Nat} {σ : zS} {k : zS → Prop} (hf : σ.1 50 0 = 0 ∨ σ.1 50 0 = 1) (h : ∀ τ, zFr [9, 10] σ τ → τ.1 9 0 = σ.1 50 0 → (∀ i, i < 60 → τ.1 10 i = σ.1 51 i) → k τ) : zCall (d + 2) nX7_copyFrom [.ref 9, .ref 50] σ (zPV k) := by
  have e : ((σ.1 50 0 == 0 || σ.1 50 0 == 1) : Bool) = true := by
    rcases hf with e | e <;> rw [e] <;> decide
  refine ze_X7_copyFrom_9_50 σ (fun X hX => zq_X7_copyFrom_9_50_0 hX σ ?_)
  rw [e]
  refine ⟨rfl, h _ (((zFr.rf _ σ).si (by decide) _ _).cp (by decide)) ?_ (fun i hi => ?_)⟩
  · rw [zCp_1 (by decide)]; simp [zSI_at]
  · rw [zCp_at (show i < zN 51 from hi) (show i < zN 10 from hi), zSI_1 (by decide)]
theorem sp_cpP_9_61 {d : Nat} {σ : zS} {k : zS → Prop} (hf : σ.1 61 0 = 0 ∨ σ.1 61 0 = 1) (h : ∀ τ, zFr [9, 10] σ τ → τ.1 9 0 = σ.1 61 0 → (∀ i, i < 60 → τ.1 10 i = σ.1 62 i) → k τ) : zCall (d + 2) nX7_copyFrom [.ref 9, .ref 61] σ (zPV k) := by
  have e : ((σ.1 61 0 == 0 || σ.1 61 0 == 1) : Bool) = true := by
    rcases hf with e | e <;> rw [e] <;> decide
  refine ze_X7_copyFrom_9_61 σ (fun X hX => zq_X7_copyFrom_9_61_0 hX σ ?_)
  rw [e]
  refine ⟨rfl, h _ (((zFr.rf _ σ).si (by decide) _ _).cp (by decide)) ?_ (fun i hi => ?_)⟩
  · rw [zCp_1 (by decide)]; simp [zSI_at]
  · rw [zCp_at (show i < zN 62 from hi) (show i < zN 10 from hi), zSI_1 (by decide)]
theorem sp_cpP_50_9 {d : Nat} {σ : zS} {k : zS → Prop} (hf : σ.1 9 0 = 0 ∨ σ.1 9 0 = 1) (h : ∀ τ, zFr [50, 51] σ τ → τ.1 50 0 = σ.1 9 0 → (∀ i, i < 60 → τ.1 51 i = σ.1 10 i) → k τ) : zCall (d + 2) nX7_copyFrom [.ref 50, .ref 9] σ (zPV k) := by
  have e : ((σ.1 9 0 == 0 || σ.1 9 0 == 1) : Bool) = true := by
    rcases hf with e | e <;> rw [e] <;> decide
  refine ze_X7_copyFrom_50_9 σ (fun X hX => zq_X7_copyFrom_50_9_0 hX σ ?_)
  rw [e]
  refine ⟨rfl, h _ (((zFr.rf _ σ).si (by decide) _ _).cp (by decide)) ?_ (fun i hi => ?_)⟩
  · rw [zCp_1 (by decide)]; simp [zSI_at]
  · rw [zCp_at (show i < zN 10 from hi) (show i < zN 51 from hi), zSI_1 (by decide)]
theorem sp_cpP_61_9 {d : Nat} {σ : zS} {k : zS → Prop} (hf : σ.1 9 0 = 0 ∨ σ.1 9 0 = 1) (h : ∀ τ, zFr [61, 62] σ τ → τ.1 61 0 = σ.1 9 0 → (∀ i, i < 60 → τ.1 62 i = σ.1 10 i) → k τ) : zCall (d + 2) nX7_copyFrom [.ref 61, .ref 9] σ (zPV k) := by
  have e : ((σ.1 9 0 == 0 || σ.1 9 0 == 1) : Bool) = true := by
    rcases hf with e | e <;> rw [e] <;> decide
  refine ze_X7_copyFrom_61_9 σ (fun X hX => zq_X7_copyFrom_61_9_0 hX σ ?_)
  rw [e]
  refine ⟨rfl, h _ (((zFr.rf _ σ).si (by decide) _ _).cp (by decide)) ?_ (fun i hi => ?_)⟩
  · rw [zCp_1 (by decide)]; simp [zSI_at]
  · rw [zCp_at (show i < zN 10 from hi) (show i < zN 62 from hi), zSI_1 (by decide)]
theorem kPl.fl {σ : zS} {p : Nat} {a : mA} (h : kPl σ p a) : σ.1 p 0 = 0 ∨ σ.1 p 0 = 1 := by
  rw [h.1]
  cases amd a with
  | true => exact Or.inr rfl
  | false => exact Or.inl rfl
theorem kA0.cp {σ τ : zS} {c s c' s' : Nat} {a : mA} (hb : aB a) (h : kA0 σ c s a) (h1 : τ.1 c' 0 = σ.1 c 0) (h2 : ∀ i, i < 60 → τ.1 (c' + 1) i = σ.1 (c + 1) i) (h3 : ∀ i, i < 60 → τ.1 (c' + 2) i = σ.1 (c + 2) i) (h4 : ∀ i, i < 8 → τ.1 s' i = σ.1 s i) (h5 : ∀ i, i < 60 → τ.1 (s' + 1) i = σ.1 (s + 1) i) (h6 : ∀ i, i < 6 → τ.1 (s' + 2) i = σ.1 (s + 2) i) (h7 : ∀ i, i < 6 → τ.1 (s' + 3) i = σ.1 (s + 3) i) (h8 : ∀ i, i < 6 → τ.1 (s' + 4) i = σ.1 (s + 4) i) : kA0 τ c' s' a := by
  have n60 := hb.n60
  have z6 := hb.2.2.2.2.2.2.2.1
  obtain ⟨a1, a2, a3, a4, a5, a6, a7, a8⟩ := h
  exact ⟨h1.trans a1, fun i hi => (h2 i (by omega)).trans (a2 i hi), fun i hi => (h3 i (by omega)).trans (a3 i hi), fun i hi => (h4 i hi).trans (a4 i hi), fun i hi => (h5 i hi).trans (a5 i hi), fun i hi => (h6 i (by omega)).trans (a6 i hi), fun i hi => (h7 i (by omega)).trans (a7 i hi), fun i hi => (h8 i (by omega)).trans (a8 i hi)⟩
theorem kPl.cp {σ τ : zS} {p p' : Nat} {a : mA} (hb : aB a) (h : kPl σ p a) (h1 : τ.1 p' 0 = σ.1 p 0) (h2 : ∀ i, i < 60 → τ.1 (p' + 1) i = σ.1 (p + 1) i) : kPl τ p' a :=
  ⟨h1.trans h.1, fun z i hi => (h2 i (by have := hb.n60; omega)).trans (h.2 z i hi)⟩
def vS0 (v : mV) : mV := (va v, (true, va v), v1 v, vl v, vt v)
def vS1 (v : mV) : mV := (va v, v0 v, (true, va v), vl v, vt v)
theorem sv_loop {d s : Nat} {σ : zS} {post : zPo} {X : zX} (hX : zClosed none (zCall (d + 1)) post nX12_save X) (hs : s ≤ 1) (h : ∀ τ, zFr [65, 66] σ τ → (∀ j, j < 268 → τ.1 65 (268 * s + j) = σ.1 64 j) → (∀ j, (j < 268 * s ∨ 268 * s + 268 ≤ j) → τ.1 65 j = σ.1 65 j) → τ.1 66 = upd (σ.1 66) s 1 → post (some (.int (σ.1 64 0))) τ) : ∀ (m i : Nat) (τ : zS), i + m = 268 → zFr [65] σ τ → (∀ j, j < i → τ.1 65 (268 * s + j) = σ.1 64 j) → (∀ j, (j < 268 * s ∨ 268 * s + 268 ≤ j) → τ.1 65 j = σ.1 65 j) → X 14 [some (.ref 63), some (.int (iI s)), some (.int (iI i))] [] τ
  | 0, i, τ, hm, f, g1, g2 => by
    have e : i = 268 := by omega
    subst e
    refine zq_X12_save_14 hX _ _ τ (zIf_f (by decide) ⟨vin_k (by show s < 2; omega) (by decide), ?_⟩)
    rw [iI_k (by omega), f.1 64 (by decide)]
    refine h _ ((f.wd (by decide)).si (by decide) _ _) (fun j hj => ?_) (fun j hj => ?_) ?_
    · rw [zSI_1 (by decide)]; exact g1 j hj
    · rw [zSI_1 (by decide)]; exact g2 j hj
    · rw [zSI_s, f.1 66 (by decide)]
  | m + 1, i, τ, hm, f, g1, g2 => by
    have e : (268 : Int32) * iI (s : Int) + iI (i : Int) = iI ((268 * s + i : Nat) : Int) := by
      rw [show (268 : Int32) = iI 268 from rfl, iI_mul, iI_add]; exact congrArg iI (by omega)
    refine zq_X12_save_14 hX _ _ τ (zIf_t ?_ ?_)
    · rw [show (268 : Int32) = iI 268 from rfl, iI_lt (by omega) (by omega) (by omega) (by omega)]; omega
    · rw [e, iI_k (by omega), iI_k (by omega), iI_s]
      refine ⟨vin_k (by show i < 268; omega) (by decide), vin_k (by show 268 * s + i < 536; omega) (by decide), ?_⟩
      refine sv_loop hX hs h m (i + 1) _ (by omega) (f.si (by decide) _ _) (fun j hj => ?_) (fun j hj => ?_)
      · rw [zSI_at]
        by_cases ej : j = i
        · rw [if_pos (by omega), ej, f.1 64 (by decide)]
        · rw [if_neg (by omega)]; exact g1 j (by omega)
      · rw [zSI_at, if_neg (by omega)]; exact g2 j hj
theorem rs_loop {d s : Nat} {σ : zS} {post : zPo} {X : zX} (hX : zClosed none (zCall (d + 1)) post nX12_restore X) (hs : s ≤ 1) (h : ∀ τ, zFr [64] σ τ → (∀ j, j < 268 → τ.1 64 j = σ.1 65 (268 * s + j)) → post (some (.int (τ.1 64 0))) τ) : ∀ (m i : Nat) (τ : zS), i + m = 268 → zFr [64] σ τ → (∀ j, j < i → τ.1 64 j = σ.1 65 (268 * s + j)) → X 26 [some (.ref 63), some (.int (iI s)), some (.int (iI i))] [] τ
  | 0, i, τ, hm, f, g1 => by
    have e : i = 268 := by omega
    subst e
    exact zq_X12_restore_26 hX _ _ τ (zIf_f (by decide) (h _ f g1))
  | m + 1, i, τ, hm, f, g1 => by
    have e : (268 : Int32) * iI (s : Int) + iI (i : Int) = iI ((268 * s + i : Nat) : Int) := by
      rw [show (268 : Int32) = iI 268 from rfl, iI_mul, iI_add]; exact congrArg iI (by omega)
    refine zq_X12_restore_26 hX _ _ τ (zIf_t ?_ ?_)
    · rw [show (268 : Int32) = iI 268 from rfl, iI_lt (by omega) (by omega) (by omega) (by omega)]; omega
    · rw [e, iI_k (by omega), iI_k (by omega), iI_s]
      refine ⟨vin_k (by show 268 * s + i < 536; omega) (by decide), vin_k (by show i < 268; omega) (by decide), ?_⟩
      refine rs_loop hX hs h m (i + 1) _ (by omega) (f.si (by decide) _ _) (fun j hj => ?_)
      rw [zSI_at]
      by_cases ej : j = i
      · rw [if_pos (by omega), ej, f.1 65 (by decide)]
      · rw [if_neg (by omega)]; exact g1 j (by omega)
theorem kRest.sl {σ τ : zS} {v w : mV} (h : kRest σ v) (e : ∀ r, r ∈ [11, 15, 25] → τ.1 r = σ.1 r) (w4 : vl w = vl v) (w5 : vt w = vt v) (h4 : τ.1 41 0 = (if (v0 w).1 = true then 1 else 0)) (h5 : (v0 w).1 = true → kAt τ 42 45 50 (v0 w).2) (h6 : τ.1 52 0 = (if (v1 w).1 = true then 1 else 0)) (h7 : (v1 w).1 = true → kAt τ 53 56 61 (v1 w).2) : kRest τ w := by
  obtain ⟨k1, k2, k3, _⟩ := h
  refine ⟨fun q hq => ?_, ?_, fun i hi => ?_, h4, h5, h6, h7⟩
  · rw [e 25 (by decide)]; exact k1 q hq
  · rw [w4, e 11 (by decide)]; exact k2
  · rw [w5, e 15 (by decide)]; exact k3 i (by rw [← w4]; exact hi)
theorem CI.cr {σ τ : zS} {v w : mV} (h : CI σ v) (e : ∀ r, r ∈ [1, 2, 3, 4, 5, 6, 7, 8, 9, 10, 16, 17, 18, 19, 20, 21, 22, 23] → τ.1 r = σ.1 r) (hw : va w = va v) (hr : kRest τ w) : CI τ w := by
  unfold CI
  rw [hw]
  exact ⟨h.1.of (fun r hr => e r (by revert r; decide)), h.2.1.of (e 9 (by decide)) (e 10 (by decide)), h.2.2.1.of (fun r hr => e r (by revert r; decide)), hr⟩
theorem sv_k0 {σ : zS} {v : mV} {k : zS → Prop} {d : Nat} (hv : vB v) (hC : CI σ v) (h : ∀ τ, CI τ (vS0 v) → zLw σ τ → k τ) : zCall (d + 2) nX0_copyFrom [.ref 42, .ref 1] σ (zPV fun σ1 => zCall (d + 2) nX8_copyFrom [.ref 45, .ref 4] σ1 (zPV fun σ2 => zCall (d + 2) nX7_copyFrom [.ref 50, .ref 9] σ2 (zPV fun σ3 => k (zSI σ3 41 0 1)))) := by
  refine sp_cpC_42_1 (fun σ1 f1 a1 a2 a3 => sp_cpS_45_4 (fun σ2 f2 b1 b2 b3 b4 b5 => ?_))
  have hp : kPl σ2 9 (va v) := hC.2.1.of ((f2.1 9 (by decide)).trans (f1.1 9 (by decide))) ((f2.1 10 (by decide)).trans (f1.1 10 (by decide)))
  refine sp_cpP_50_9 hp.fl (fun σ3 f3 c1 c2 => ?_)
  have f12 : zFr [42, 43, 44, 45, 46, 47, 48, 49, 50, 51, 41] σ (zSI σ3 41 0 1) := (((f1.wd (by decide)).tr f2 (by decide)).tr f3 (by decide)).si (by decide) _ _
  have g3 : ∀ r, r ∉ [50, 51, 41] → (zSI σ3 41 0 1).1 r = σ2.1 r := fun r hr => by
    simp only [List.mem_cons, List.not_mem_nil, not_or, or_false] at hr
    rw [zSI_1 (by omega)]
    exact f3.1 r (by simp only [List.mem_cons, List.not_mem_nil, not_or, or_false]; omega)
  have k4 : kAt (zSI σ3 41 0 1) 42 45 50 (va v) := by
    refine kAt_of (hC.1.cp hv.1 ?_ (fun i hi => ?_) (fun i hi => ?_) (fun i hi => ?_) (fun i hi => ?_) (fun i hi => ?_) (fun i hi => ?_) (fun i hi => ?_)) (hp.cp hv.1 ?_ (fun i hi => ?_))
    · rw [g3 42 (by decide), f2.1 42 (by decide)]; exact a1
    · show (zSI σ3 41 0 1).1 43 i = σ.1 2 i
      rw [g3 43 (by decide), f2.1 43 (by decide)]; exact a2 i hi
    · show (zSI σ3 41 0 1).1 44 i = σ.1 3 i
      rw [g3 44 (by decide), f2.1 44 (by decide)]; exact a3 i hi
    · rw [g3 45 (by decide), b1 i hi, f1.1 4 (by decide)]
    · show (zSI σ3 41 0 1).1 46 i = σ.1 5 i
      rw [g3 46 (by decide), b2 i hi, f1.1 5 (by decide)]
    · show (zSI σ3 41 0 1).1 47 i = σ.1 6 i
      rw [g3 47 (by decide), b3 i hi, f1.1 6 (by decide)]
    · show (zSI σ3 41 0 1).1 48 i = σ.1 7 i
      rw [g3 48 (by decide), b4 i hi, f1.1 7 (by decide)]
    · show (zSI σ3 41 0 1).1 49 i = σ.1 8 i
      rw [g3 49 (by decide), b5 i hi, f1.1 8 (by decide)]
    · rw [zSI_1 (by decide)]; exact c1
    · show (zSI σ3 41 0 1).1 51 i = σ2.1 10 i
      rw [zSI_1 (by decide)]; exact c2 i hi
  obtain ⟨k1, k2, k3, q4, q5, q6, q7⟩ := hC.2.2.2
  have oo : ∀ r, r ∈ [53, 54, 55, 56, 57, 58, 59, 60, 61, 62, 52] → (zSI σ3 41 0 1).1 r = σ.1 r := fun r hr => f12.1 r (by revert r; decide)
  refine h _ (hC.cr (fun r hr => f12.1 r (by revert r; decide)) rfl (hC.2.2.2.sl (fun r hr => f12.1 r (by revert r; decide)) rfl rfl ?_ ?_ ?_ ?_)) (f12.lw (by decide))
  · simp [zSI_at]; rfl
  · exact fun _ => k4
  · rw [oo 52 (by decide)]; exact q6
  · exact fun z => kAt_of ((q7 z).a0.of (fun r hr => oo r (by revert r; decide))) ((q7 z).pl.of (oo 61 (by decide)) (oo 62 (by decide)))
theorem sv_k1 {σ : zS} {v : mV} {k : zS → Prop} {d : Nat} (hv : vB v) (hC : CI σ v) (h : ∀ τ, CI τ (vS1 v) → zLw σ τ → k τ) : zCall (d + 2) nX0_copyFrom [.ref 53, .ref 1] σ (zPV fun σ1 => zCall (d + 2) nX8_copyFrom [.ref 56, .ref 4] σ1 (zPV fun σ2 => zCall (d + 2) nX7_copyFrom [.ref 61, .ref 9] σ2 (zPV fun σ3 => k (zSI σ3 52 0 1)))) := by
  refine sp_cpC_53_1 (fun σ1 f1 a1 a2 a3 => sp_cpS_56_4 (fun σ2 f2 b1 b2 b3 b4 b5 => ?_))
  have hp : kPl σ2 9 (va v) := hC.2.1.of ((f2.1 9 (by decide)).trans (f1.1 9 (by decide))) ((f2.1 10 (by decide)).trans (f1.1 10 (by decide)))
  refine sp_cpP_61_9 hp.fl (fun σ3 f3 c1 c2 => ?_)
  have f12 : zFr [53, 54, 55, 56, 57, 58, 59, 60, 61, 62, 52] σ (zSI σ3 52 0 1) := (((f1.wd (by decide)).tr f2 (by decide)).tr f3 (by decide)).si (by decide) _ _
  have g3 : ∀ r, r ∉ [61, 62, 52] → (zSI σ3 52 0 1).1 r = σ2.1 r := fun r hr => by
    simp only [List.mem_cons, List.not_mem_nil, not_or, or_false] at hr
    rw [zSI_1 (by omega)]
    exact f3.1 r (by simp only [List.mem_cons, List.not_mem_nil, not_or, or_false]; omega)
  have k4 : kAt (zSI σ3 52 0 1) 53 56 61 (va v) := by
    refine kAt_of (hC.1.cp hv.1 ?_ (fun i hi => ?_) (fun i hi => ?_) (fun i hi => ?_) (fun i hi => ?_) (fun i hi => ?_) (fun i hi => ?_) (fun i hi => ?_)) (hp.cp hv.1 ?_ (fun i hi => ?_))
    · rw [g3 53 (by decide), f2.1 53 (by decide)]; exact a1
    · show (zSI σ3 52 0 1).1 54 i = σ.1 2 i
      rw [g3 54 (by decide), f2.1 54 (by decide)]; exact a2 i hi
    · show (zSI σ3 52 0 1).1 55 i = σ.1 3 i
      rw [g3 55 (by decide), f2.1 55 (by decide)]; exact a3 i hi
    · rw [g3 56 (by decide), b1 i hi, f1.1 4 (by decide)]
    · show (zSI σ3 52 0 1).1 57 i = σ.1 5 i
      rw [g3 57 (by decide), b2 i hi, f1.1 5 (by decide)]
    · show (zSI σ3 52 0 1).1 58 i = σ.1 6 i
      rw [g3 58 (by decide), b3 i hi, f1.1 6 (by decide)]
    · show (zSI σ3 52 0 1).1 59 i = σ.1 7 i
      rw [g3 59 (by decide), b4 i hi, f1.1 7 (by decide)]
    · show (zSI σ3 52 0 1).1 60 i = σ.1 8 i
      rw [g3 60 (by decide), b5 i hi, f1.1 8 (by decide)]
    · rw [zSI_1 (by decide)]; exact c1
    · show (zSI σ3 52 0 1).1 62 i = σ2.1 10 i
      rw [zSI_1 (by decide)]; exact c2 i hi
  obtain ⟨k1, k2, k3, q4, q5, q6, q7⟩ := hC.2.2.2
  have oo : ∀ r, r ∈ [42, 43, 44, 45, 46, 47, 48, 49, 50, 51, 41] → (zSI σ3 52 0 1).1 r = σ.1 r := fun r hr => f12.1 r (by revert r; decide)
  refine h _ (hC.cr (fun r hr => f12.1 r (by revert r; decide)) rfl (hC.2.2.2.sl (fun r hr => f12.1 r (by revert r; decide)) rfl rfl ?_ ?_ ?_ ?_)) (f12.lw (by decide))
  · rw [oo 41 (by decide)]; exact q4
  · exact fun z => kAt_of ((q5 z).a0.of (fun r hr => oo r (by revert r; decide))) ((q5 z).pl.of (oo 50 (by decide)) (oo 51 (by decide)))
  · simp [zSI_at]; rfl
  · exact fun _ => k4
theorem vB.s0 {v : mV} (h : vB v) : vB (vS0 v) := ⟨h.1, fun _ => h.1, h.2.2⟩
theorem vB.s1 {v : mV} (h : vB v) : vB (vS1 v) := ⟨h.1, h.2.1, fun _ => h.1, h.2.2.2⟩
theorem pr_save {p : Int32} {σ : zS} (g : G σ) : zPair nX11_save nX12_save [.int p] σ := by
  obtain ⟨v, hv, hC, hR⟩ := g
  by_cases c : 0 ≤ p ∧ p ≤ 1
  · obtain ⟨s, rfl, hs⟩ := (w7 (m := 1) (by decide)).mp c
    have cs : s = 0 ∨ s = 1 := by omega
    rcases cs with rfl | rfl
    · refine zP_I (v := v) (w := vS0 v) (iI (an (va v))) hv.s0 hR ?_ (fun τ hT => ?_)
      · refine ze_X11_save (d := 7) _ σ (fun X hX => zq_X11_save_0 (d := 5) hX _ σ (zIf_t (by decide) (zIf_t (by decide) ?_)))
        exact sv_k0 (d := 5) (k := fun τ => ∃ x, some (Value.int (τ.1 1 0)) = some (.int x) ∧ x = iI (an (va v)) ∧ CI τ (vS0 v) ∧ zLw σ τ) hv hC (fun τ h1 h2 => ⟨_, rfl, h1.1.1, h1, h2⟩)
      · refine ze_X12_save (d := 7) _ τ (fun X hX => zq_X12_save_0 (d := 6) hX _ τ (zIf_t (by decide) ?_))
        refine sv_loop (d := 6) (s := 0) hX (by decide) (fun υ f g1 g2 g3 => ⟨_, rfl, hT.1.1, ⟨hT.1.of (f.1 64 (by decide)), ?_⟩, f.hg (by decide)⟩) 268 0 τ rfl (zFr.rf _ _) (fun j hj => absurd hj (Nat.not_lt_zero j)) (fun j _ => rfl)
        obtain ⟨k1, k2, k3, k4, k5, k6⟩ := hT.2
        refine ⟨by rw [f.1 63 (by decide)]; exact k1, by rw [f.1 76 (by decide)]; exact k2, by rw [g3]; rfl, fun _ => ?_, by rw [g3]; exact k5, fun z => ?_⟩
        · exact rAt_F.mpr ((rAt_0.mp hT.1).cong hv.1 (fun j hj => g1 j hj))
        · exact rAt_F.mpr ((rAt_F.mp (k6 z)).cong (hv.2.2.1 z) (fun j hj => g2 _ (by omega)))
    · refine zP_I (v := v) (w := vS1 v) (iI (an (va v))) hv.s1 hR ?_ (fun τ hT => ?_)
      · refine ze_X11_save (d := 7) _ σ (fun X hX => zq_X11_save_0 (d := 5) hX _ σ (zIf_t (by decide) (zIf_f (by decide) ?_)))
        exact sv_k1 (d := 5) (k := fun τ => ∃ x, some (Value.int (τ.1 1 0)) = some (.int x) ∧ x = iI (an (va v)) ∧ CI τ (vS1 v) ∧ zLw σ τ) hv hC (fun τ h1 h2 => ⟨_, rfl, h1.1.1, h1, h2⟩)
      · refine ze_X12_save (d := 7) _ τ (fun X hX => zq_X12_save_0 (d := 6) hX _ τ (zIf_t (by decide) ?_))
        refine sv_loop (d := 6) (s := 1) hX (by decide) (fun υ f g1 g2 g3 => ⟨_, rfl, hT.1.1, ⟨hT.1.of (f.1 64 (by decide)), ?_⟩, f.hg (by decide)⟩) 268 0 τ rfl (zFr.rf _ _) (fun j hj => absurd hj (Nat.not_lt_zero j)) (fun j _ => rfl)
        obtain ⟨k1, k2, k3, k4, k5, k6⟩ := hT.2
        refine ⟨by rw [f.1 63 (by decide)]; exact k1, by rw [f.1 76 (by decide)]; exact k2, by rw [g3]; exact k3, fun z => ?_, by rw [g3]; rfl, fun _ => ?_⟩
        · exact rAt_F.mpr ((rAt_F.mp (k4 z)).cong (hv.2.1 z) (fun j hj => g2 _ (by omega)))
        · exact rAt_F.mpr ((rAt_0.mp hT.1).cong hv.1 (fun j hj => g1 j hj))
  · refine zP_I (v := v) (w := v) (-2) hv hR ?_ (fun τ hT => ?_)
    · exact ze_X11_save (d := 7) _ σ (fun X hX => zq_X11_save_0 (d := 5) hX _ σ (zIf_f c (kNo hC)))
    · exact ze_X12_save (d := 7) _ τ (fun X hX => zq_X12_save_0 (d := 6) hX _ τ (zIf_f c (rNo hT)))
theorem rt_k0 {σ : zS} {v : mV} {k : zS → Prop} (hC : CI σ v) (hb : aB (v0 v).2) (hk : kAt σ 42 45 50 (v0 v).2) (h : ∀ τ, CI τ (vA v (v0 v).2) → zLw σ τ → k τ) : zCall 7 nX0_copyFrom [.ref 1, .ref 42] σ (zPV fun σ1 => zCall 7 nX8_copyFrom [.ref 4, .ref 45] σ1 (zPV fun σ2 => zCall 7 nX11_arrangeAnew [.ref 0] σ2 (zPV fun σ3 => zCall 7 nX7_copyFrom [.ref 9, .ref 50] σ3 (zPV fun σ4 => k σ4)))) := by
  refine sp_cpC_1_42 (d := 5) (fun σ1 f1 a1 a2 a3 => sp_cpS_4_45 (d := 5) (fun σ2 f2 b1 b2 b3 b4 b5 => ?_))
  have f12 : zFr [1, 2, 3, 4, 5, 6, 7, 8] σ σ2 := (f1.wd (by decide)).tr f2 (by decide)
  have k0 : kA0 σ2 1 4 (v0 v).2 := by
    refine hk.a0.cp hb ?_ (fun i hi => ?_) (fun i hi => ?_) (fun i hi => ?_) (fun i hi => ?_) (fun i hi => ?_) (fun i hi => ?_) (fun i hi => ?_)
    · rw [f2.1 1 (by decide)]; exact a1
    · show σ2.1 2 i = σ.1 43 i
      rw [f2.1 2 (by decide)]; exact a2 i hi
    · show σ2.1 3 i = σ.1 44 i
      rw [f2.1 3 (by decide)]; exact a3 i hi
    · rw [b1 i hi, f1.1 45 (by decide)]
    · show σ2.1 5 i = σ.1 46 i
      rw [b2 i hi, f1.1 46 (by decide)]
    · show σ2.1 6 i = σ.1 47 i
      rw [b3 i hi, f1.1 47 (by decide)]
    · show σ2.1 7 i = σ.1 48 i
      rw [b4 i hi, f1.1 48 (by decide)]
    · show σ2.1 8 i = σ.1 49 i
      rw [b5 i hi, f1.1 49 (by decide)]
  have hb2 : aB (aPl (v0 v).2 false (aq (v0 v).2)) := hb.pl hb.2.2.2.2.2.2.2.2.2.2.1 (fun z => absurd z (by decide))
  refine sp_anew (d := 2) (v := v) (a := aPl (v0 v).2 false (aq (v0 v).2)) hC f12 hb2 rfl k0 (fun υ h1 h2 h3 => ?_)
  have e : ∀ r, r ∈ [50, 51] → υ.1 r = σ.1 r := fun r hr => (h3.1 r (by revert r; decide)).trans (f12.1 r (by revert r; decide))
  have kp : kPl υ 50 (v0 v).2 := hk.pl.of (e 50 (by decide)) (e 51 (by decide))
  refine sp_cpP_9_50 (d := 5) kp.fl (fun τ f c1 c2 => h τ ?_ (h2.tr (f.lw (by decide))))
  have k1 : kA0 τ 1 4 (v0 v).2 := (show kA0 υ 1 4 (v0 v).2 from h1.1).of (fun r hr => f.1 r (by revert r; decide))
  have l1 : kLa τ (v0 v).2 := (show kLa υ (v0 v).2 from h1.2.2.1).of (fun r hr => f.1 r (by revert r; decide))
  exact ⟨k1, kp.cp hb c1 c2, l1, h1.2.2.2.of (fun r hr => f.1 r (by revert r; decide)) (by rw [f.1 11 (by decide)]) rfl rfl rfl rfl⟩
theorem rt_k1 {σ : zS} {v : mV} {k : zS → Prop} (hC : CI σ v) (hb : aB (v1 v).2) (hk : kAt σ 53 56 61 (v1 v).2) (h : ∀ τ, CI τ (vA v (v1 v).2) → zLw σ τ → k τ) : zCall 7 nX0_copyFrom [.ref 1, .ref 53] σ (zPV fun σ1 => zCall 7 nX8_copyFrom [.ref 4, .ref 56] σ1 (zPV fun σ2 => zCall 7 nX11_arrangeAnew [.ref 0] σ2 (zPV fun σ3 => zCall 7 nX7_copyFrom [.ref 9, .ref 61] σ3 (zPV fun σ4 => k σ4)))) := by
  refine sp_cpC_1_53 (d := 5) (fun σ1 f1 a1 a2 a3 => sp_cpS_4_56 (d := 5) (fun σ2 f2 b1 b2 b3 b4 b5 => ?_))
  have f12 : zFr [1, 2, 3, 4, 5, 6, 7, 8] σ σ2 := (f1.wd (by decide)).tr f2 (by decide)
  have k0 : kA0 σ2 1 4 (v1 v).2 := by
    refine hk.a0.cp hb ?_ (fun i hi => ?_) (fun i hi => ?_) (fun i hi => ?_) (fun i hi => ?_) (fun i hi => ?_) (fun i hi => ?_) (fun i hi => ?_)
    · rw [f2.1 1 (by decide)]; exact a1
    · show σ2.1 2 i = σ.1 54 i
      rw [f2.1 2 (by decide)]; exact a2 i hi
    · show σ2.1 3 i = σ.1 55 i
      rw [f2.1 3 (by decide)]; exact a3 i hi
    · rw [b1 i hi, f1.1 56 (by decide)]
    · show σ2.1 5 i = σ.1 57 i
      rw [b2 i hi, f1.1 57 (by decide)]
    · show σ2.1 6 i = σ.1 58 i
      rw [b3 i hi, f1.1 58 (by decide)]
    · show σ2.1 7 i = σ.1 59 i
      rw [b4 i hi, f1.1 59 (by decide)]
    · show σ2.1 8 i = σ.1 60 i
      rw [b5 i hi, f1.1 60 (by decide)]
  have hb2 : aB (aPl (v1 v).2 false (aq (v1 v).2)) := hb.pl hb.2.2.2.2.2.2.2.2.2.2.1 (fun z => absurd z (by decide))
  refine sp_anew (d := 2) (v := v) (a := aPl (v1 v).2 false (aq (v1 v).2)) hC f12 hb2 rfl k0 (fun υ h1 h2 h3 => ?_)
  have e : ∀ r, r ∈ [61, 62] → υ.1 r = σ.1 r := fun r hr => (h3.1 r (by revert r; decide)).trans (f12.1 r (by revert r; decide))
  have kp : kPl υ 61 (v1 v).2 := hk.pl.of (e 61 (by decide)) (e 62 (by decide))
  refine sp_cpP_9_61 (d := 5) kp.fl (fun τ f c1 c2 => h τ ?_ (h2.tr (f.lw (by decide))))
  have k1 : kA0 τ 1 4 (v1 v).2 := (show kA0 υ 1 4 (v1 v).2 from h1.1).of (fun r hr => f.1 r (by revert r; decide))
  have l1 : kLa τ (v1 v).2 := (show kLa υ (v1 v).2 from h1.2.2.1).of (fun r hr => f.1 r (by revert r; decide))
  exact ⟨k1, kp.cp hb c1 c2, l1, h1.2.2.2.of (fun r hr => f.1 r (by revert r; decide)) (by rw [f.1 11 (by decide)]) rfl rfl rfl rfl⟩
theorem sl_m {x : Int32} {b : Bool} (h : x = if b = true then 1 else 0) : x = 0 ↔ b = false := by
  rw [h]
  cases b with
  | true => exact ⟨fun z => absurd z (by decide), fun z => absurd z (by decide)⟩
  | false => exact ⟨fun _ => rfl, fun _ => rfl⟩
theorem sl_n {x : Int32} {b : Bool} (h : x = if b = true then 1 else 0) (hb : b = true) : ¬ x = 0 := fun e => by
  have := (sl_m h).mp e
  rw [hb] at this
  exact absurd this (by decide)
theorem RI.rs {σ τ : zS} {v : mV} {a : mA} {s : Nat} (hR : RI σ v) (hb : aB a) (h : rAt σ 65 (268 * s) a) (f : zFr [64] σ τ) (g : ∀ j, j < 268 → τ.1 64 j = σ.1 65 (268 * s + j)) : RI τ (vA v a) :=
  hR.m ((rAt_F.mp h).cong hb g) (fun r hr => f.1 r (by simpa using hr))
theorem pr_restore {p : Int32} {σ : zS} (g : G σ) : zPair nX11_restore nX12_restore [.int p] σ := by
  obtain ⟨v, hv, hC, hR⟩ := g
  by_cases c : 0 ≤ p ∧ p ≤ 1
  · obtain ⟨s, rfl, hs⟩ := (w7 (m := 1) (by decide)).mp c
    have cs : s = 0 ∨ s = 1 := by omega
    rcases cs with rfl | rfl
    · cases hu : (v0 v).1 with
      | false =>
        refine zP_I (v := v) (w := v) (-3) hv hR ?_ (fun τ hT => ?_)
        · exact ze_X11_restore (d := 7) _ σ (fun X hX => zq_X11_restore_0 (d := 2) hX _ σ (zIf_t (by decide) (zIf_t (by decide) (zIf_t ((sl_m hC.2.2.2.2.2.2.1).mpr hu) (kNo hC)))))
        · exact ze_X12_restore (d := 7) _ τ (fun X hX => zq_X12_restore_0 (d := 6) hX _ τ (zIf_t (by decide) ⟨vin_k (by decide) (by decide), zIf_t ((sl_m hT.2.2.2.1).mpr hu) (rNo hT)⟩))
      | true =>
        refine zP_I (v := v) (w := vA v (v0 v).2) (iI (an (v0 v).2)) (hv.a (hv.2.1 hu)) hR ?_ (fun τ hT => ?_)
        · exact ze_X11_restore (d := 7) _ σ (fun X hX => zq_X11_restore_0 (d := 2) hX _ σ (zIf_t (by decide) (zIf_t (by decide) (zIf_f (sl_n hC.2.2.2.2.2.2.1 hu) (rt_k0 hC (hv.2.1 hu) (hC.2.2.2.2.2.2.2.1 hu) (fun τ h1 h2 => ⟨_, rfl, h1.1.1, h1, h2⟩))))))
        · exact ze_X12_restore (d := 7) _ τ (fun X hX => zq_X12_restore_0 (d := 6) hX _ τ (zIf_t (by decide) ⟨vin_k (by decide) (by decide), zIf_f (sl_n hT.2.2.2.1 hu) (rs_loop (d := 6) (s := 0) hX (by decide) (fun υ f g1 => ⟨_, rfl, (hT.rs (s := 0) (hv.2.1 hu) (hT.2.2.2.2.1 hu) f g1).1.1, hT.rs (s := 0) (hv.2.1 hu) (hT.2.2.2.2.1 hu) f g1, f.hg (by decide)⟩) 268 0 τ rfl (zFr.rf _ _) (fun j hj => absurd hj (Nat.not_lt_zero j)))⟩))
    · cases hu : (v1 v).1 with
      | false =>
        refine zP_I (v := v) (w := v) (-3) hv hR ?_ (fun τ hT => ?_)
        · exact ze_X11_restore (d := 7) _ σ (fun X hX => zq_X11_restore_0 (d := 2) hX _ σ (zIf_t (by decide) (zIf_f (by decide) (zIf_t ((sl_m hC.2.2.2.2.2.2.2.2.1).mpr hu) (kNo hC)))))
        · exact ze_X12_restore (d := 7) _ τ (fun X hX => zq_X12_restore_0 (d := 6) hX _ τ (zIf_t (by decide) ⟨vin_k (by decide) (by decide), zIf_t ((sl_m hT.2.2.2.2.2.1).mpr hu) (rNo hT)⟩))
      | true =>
        refine zP_I (v := v) (w := vA v (v1 v).2) (iI (an (v1 v).2)) (hv.a (hv.2.2.1 hu)) hR ?_ (fun τ hT => ?_)
        · exact ze_X11_restore (d := 7) _ σ (fun X hX => zq_X11_restore_0 (d := 2) hX _ σ (zIf_t (by decide) (zIf_f (by decide) (zIf_f (sl_n hC.2.2.2.2.2.2.2.2.1 hu) (rt_k1 hC (hv.2.2.1 hu) (hC.2.2.2.2.2.2.2.2.2 hu) (fun τ h1 h2 => ⟨_, rfl, h1.1.1, h1, h2⟩))))))
        · exact ze_X12_restore (d := 7) _ τ (fun X hX => zq_X12_restore_0 (d := 6) hX _ τ (zIf_t (by decide) ⟨vin_k (by decide) (by decide), zIf_f (sl_n hT.2.2.2.2.2.1 hu) (rs_loop (d := 6) (s := 1) hX (by decide) (fun υ f g1 => ⟨_, rfl, (hT.rs (s := 1) (hv.2.2.1 hu) (hT.2.2.2.2.2.2 hu) f g1).1.1, hT.rs (s := 1) (hv.2.2.1 hu) (hT.2.2.2.2.2.2 hu) f g1, f.hg (by decide)⟩) 268 0 τ rfl (zFr.rf _ _) (fun j hj => absurd hj (Nat.not_lt_zero j)))⟩))
  · refine zP_I (v := v) (w := v) (-2) hv hR ?_ (fun τ hT => ?_)
    · exact ze_X11_restore (d := 7) _ σ (fun X hX => zq_X11_restore_0 (d := 2) hX _ σ (zIf_f c (kNo hC)))
    · exact ze_X12_restore (d := 7) _ τ (fun X hX => zq_X12_restore_0 (d := 6) hX _ τ (zIf_f c (rNo hT)))
def mCo (v : mV) (w : Nat) : Nat := if w = 0 then an (va v) else if w = 1 then mS (mCt (va v)) (an (va v)) else if w = 2 then mG (aS (va v) 0) (mCt (va v)) (an (va v)) else if w = 3 then (if amd (va v) = true then 1 else 0) else if w = 4 then aS (va v) 7 else if w = 5 then aS (va v) 0 else if w = 6 then aS (va v) 1 else if w = 7 then aS (va v) 4 else if w = 8 then aS (va v) 5 else if w = 9 then aS (va v) 6 else vl v
theorem bI (b : Bool) : (if b = true then (1 : Int32) else 0) = iI ((if b = true then 1 else 0 : Nat) : Int) := by cases b <;> rfl
theorem sp_kCount {d w : Nat} {v : mV} {σ : zS} {k : Int32 → zS → Prop} (hC : CI σ v) (hw : w ≤ 10) (h : k (iI (mCo v w)) σ) : zCall (d + 1) nX11_count [.ref 0, .int (iI w)] σ (zPI k) := by
  refine ze_X11_count _ σ (fun X hX => zq_X11_count_0 hX _ σ ?_)
  have c : w = 0 ∨ w = 1 ∨ w = 2 ∨ w = 3 ∨ w = 4 ∨ w = 5 ∨ w = 6 ∨ w = 7 ∨ w = 8 ∨ w = 9 ∨ w = 10 := by omega
  rcases c with rfl | rfl | rfl | rfl | rfl | rfl | rfl | rfl | rfl | rfl | rfl
  · exact zIf_t (by decide) ⟨_, rfl, by rw [hC.1.1]; exact h⟩
  · exact zIf_f (by decide) (zIf_t (by decide) ⟨_, rfl, by rw [hC.2.2.1.2.1]; exact h⟩)
  · exact zIf_f (by decide) (zIf_f (by decide) (zIf_t (by decide) ⟨_, rfl, by rw [hC.2.2.1.2.2.1]; exact h⟩))
  · refine zIf_f (by decide) (zIf_f (by decide) (zIf_f (by decide) (zIf_t (by decide) ?_)))
    refine ⟨fun z => ⟨_, rfl, ?_⟩, fun z => ⟨_, rfl, ?_⟩⟩
    · have e : mCo v 3 = 0 := by show (if amd (va v) = true then 1 else 0) = 0; rw [hC.2.1.m.mp z]; rfl
      rw [e] at h; exact h
    · have e : amd (va v) = true := by
        cases hm : amd (va v) with
        | true => rfl
        | false => exact absurd (hC.2.1.m.mpr hm) z
      have e2 : mCo v 3 = 1 := by show (if amd (va v) = true then 1 else 0) = 1; rw [e]; rfl
      rw [e2] at h; exact h
  · exact zIf_f (by decide) (zIf_f (by decide) (zIf_f (by decide) (zIf_f (by decide) (zIf_t (by decide) ⟨_, rfl, by rw [hC.1.2.2.2.1 7 (by decide)]; exact h⟩))))
  · exact zIf_f (by decide) (zIf_f (by decide) (zIf_f (by decide) (zIf_f (by decide) (zIf_f (by decide) (zIf_t (by decide) ⟨_, rfl, by rw [hC.1.2.2.2.1 0 (by decide)]; exact h⟩)))))
  · exact zIf_f (by decide) (zIf_f (by decide) (zIf_f (by decide) (zIf_f (by decide) (zIf_f (by decide) (zIf_f (by decide) (zIf_t (by decide) ⟨_, rfl, by rw [hC.1.2.2.2.1 1 (by decide)]; exact h⟩))))))
  · exact zIf_f (by decide) (zIf_f (by decide) (zIf_f (by decide) (zIf_f (by decide) (zIf_f (by decide) (zIf_f (by decide) (zIf_f (by decide) (zIf_t (by decide) ⟨_, rfl, by rw [hC.1.2.2.2.1 4 (by decide)]; exact h⟩)))))))
  · exact zIf_f (by decide) (zIf_f (by decide) (zIf_f (by decide) (zIf_f (by decide) (zIf_f (by decide) (zIf_f (by decide) (zIf_f (by decide) (zIf_f (by decide) (zIf_t (by decide) ⟨_, rfl, by rw [hC.1.2.2.2.1 5 (by decide)]; exact h⟩))))))))
  · exact zIf_f (by decide) (zIf_f (by decide) (zIf_f (by decide) (zIf_f (by decide) (zIf_f (by decide) (zIf_f (by decide) (zIf_f (by decide) (zIf_f (by decide) (zIf_f (by decide) (zIf_t (by decide) ⟨_, rfl, by rw [hC.1.2.2.2.1 6 (by decide)]; exact h⟩)))))))))
  · exact zIf_f (by decide) (zIf_f (by decide) (zIf_f (by decide) (zIf_f (by decide) (zIf_f (by decide) (zIf_f (by decide) (zIf_f (by decide) (zIf_f (by decide) (zIf_f (by decide) (zIf_f (by decide) (zIf_t (by decide) ⟨_, rfl, by rw [hC.2.2.2.2.1]; exact h⟩))))))))))
theorem sp_counted {d w : Nat} {v : mV} {σ : zS} {k : Int32 → zS → Prop} (hv : vB v) (hR : RI σ v) (hw : w = 1 ∨ w = 2) (h : ∀ τ, RI τ v → zQu σ τ → rLa τ (va v) → k (iI (mCo v w)) τ) : zCall (d + 4) nX12_counted [.ref 63, .int (iI w)] σ (zPI k) := by
  refine ze_X12_counted _ σ (fun X hX => zq_X12_counted_0 hX _ σ (sp_ty hv hR (fun τ h1 h2 l => ?_)))
  rcases hw with rfl | rfl
  · exact zIf_t (by decide) ⟨_, rfl, by rw [l.1]; exact h τ h1 h2 l⟩
  · exact zIf_f (by decide) ⟨_, rfl, by rw [l.2.1]; exact h τ h1 h2 l⟩
theorem sp_rCount {d w : Nat} {v : mV} {σ : zS} {k : Int32 → zS → Prop} (hv : vB v) (hR : RI σ v) (hw : w ≤ 10) (h : ∀ τ, RI τ v → zQu σ τ → k (iI (mCo v w)) τ) : zCall (d + 5) nX12_count [.ref 63, .int (iI w)] σ (zPI k) := by
  have r := rAt_0.mp hR.1
  have h0 := h σ hR (zQu.rf σ)
  refine ze_X12_count _ σ (fun X hX => zq_X12_count_0 hX _ σ ?_)
  have c : w = 0 ∨ w = 1 ∨ w = 2 ∨ w = 3 ∨ w = 4 ∨ w = 5 ∨ w = 6 ∨ w = 7 ∨ w = 8 ∨ w = 9 ∨ w = 10 := by omega
  rcases c with rfl | rfl | rfl | rfl | rfl | rfl | rfl | rfl | rfl | rfl | rfl
  · exact zIf_t (by decide) ⟨_, rfl, by rw [hR.1.1]; exact h0⟩
  · exact zIf_f (by decide) (zIf_t (by decide) (sp_counted (w := 1) hv hR (by decide) (fun τ h1 h2 _ => ⟨_, rfl, h τ h1 h2⟩)))
  · exact zIf_f (by decide) (zIf_f (by decide) (zIf_t (by decide) (sp_counted (w := 2) hv hR (by decide) (fun τ h1 h2 _ => ⟨_, rfl, h τ h1 h2⟩))))
  · exact zIf_f (by decide) (zIf_f (by decide) (zIf_f (by decide) (zIf_t (by decide) ⟨_, rfl, by rw [am_if r, bI]; exact h0⟩)))
  · exact zIf_f (by decide) (zIf_f (by decide) (zIf_f (by decide) (zIf_f (by decide) (zIf_t (by decide) ⟨_, rfl, by rw [show σ.1 64 188 = _ from r.2.2.2.1 7 (by decide)]; exact h0⟩))))
  · exact zIf_f (by decide) (zIf_f (by decide) (zIf_f (by decide) (zIf_f (by decide) (zIf_f (by decide) (zIf_t (by decide) ⟨_, rfl, by rw [show σ.1 64 181 = _ from r.2.2.2.1 0 (by decide)]; exact h0⟩)))))
  · exact zIf_f (by decide) (zIf_f (by decide) (zIf_f (by decide) (zIf_f (by decide) (zIf_f (by decide) (zIf_f (by decide) (zIf_t (by decide) ⟨_, rfl, by rw [show σ.1 64 182 = _ from r.2.2.2.1 1 (by decide)]; exact h0⟩))))))
  · exact zIf_f (by decide) (zIf_f (by decide) (zIf_f (by decide) (zIf_f (by decide) (zIf_f (by decide) (zIf_f (by decide) (zIf_f (by decide) (zIf_t (by decide) ⟨_, rfl, by rw [show σ.1 64 185 = _ from r.2.2.2.1 4 (by decide)]; exact h0⟩)))))))
  · exact zIf_f (by decide) (zIf_f (by decide) (zIf_f (by decide) (zIf_f (by decide) (zIf_f (by decide) (zIf_f (by decide) (zIf_f (by decide) (zIf_f (by decide) (zIf_t (by decide) ⟨_, rfl, by rw [show σ.1 64 186 = _ from r.2.2.2.1 5 (by decide)]; exact h0⟩))))))))
  · exact zIf_f (by decide) (zIf_f (by decide) (zIf_f (by decide) (zIf_f (by decide) (zIf_f (by decide) (zIf_f (by decide) (zIf_f (by decide) (zIf_f (by decide) (zIf_f (by decide) (zIf_t (by decide) ⟨_, rfl, by rw [show σ.1 64 187 = _ from r.2.2.2.1 6 (by decide)]; exact h0⟩)))))))))
  · exact zIf_f (by decide) (zIf_f (by decide) (zIf_f (by decide) (zIf_f (by decide) (zIf_f (by decide) (zIf_f (by decide) (zIf_f (by decide) (zIf_f (by decide) (zIf_f (by decide) (zIf_f (by decide) (zIf_t (by decide) ⟨_, rfl, by rw [hR.2.1]; exact h0⟩))))))))))
theorem pr_count {p : Int32} {σ : zS} (g : G σ) : zPair nX11_count nX12_count [.int p] σ := by
  obtain ⟨v, hv, hC, hR⟩ := g
  by_cases c : 0 ≤ p ∧ p ≤ 10
  · obtain ⟨w, rfl, hw⟩ := (w7 (m := 10) (by decide)).mp c
    refine zP_I (v := v) (w := v) (iI (mCo v w)) hv hR ?_ (fun τ hT => ?_)
    · exact sp_kCount (d := 7) hC hw ⟨rfl, hC, zLw.rf _⟩
    · exact sp_rCount (d := 3) hv hT hw (fun υ h1 h2 => ⟨rfl, h1, h2.1⟩)
  · have nc : ∀ k : Int32, 0 ≤ k ∧ k ≤ 10 → ¬ p = k := fun k hk e => c (by rw [e]; exact hk)
    refine zP_I (v := v) (w := v) (-2) hv hR ?_ (fun τ hT => ?_)
    · exact ze_X11_count (d := 7) _ σ (fun X hX => zq_X11_count_0 (d := 7) hX _ σ (zIf_f (nc 0 (by decide)) (zIf_f (nc 1 (by decide)) (zIf_f (nc 2 (by decide)) (zIf_f (nc 3 (by decide)) (zIf_f (nc 4 (by decide)) (zIf_f (nc 5 (by decide)) (zIf_f (nc 6 (by decide)) (zIf_f (nc 7 (by decide)) (zIf_f (nc 8 (by decide)) (zIf_f (nc 9 (by decide)) (zIf_f (nc 10 (by decide)) (kNo hC)))))))))))))
    · exact ze_X12_count (d := 7) _ τ (fun X hX => zq_X12_count_0 (d := 3) hX _ τ (zIf_f (nc 0 (by decide)) (zIf_f (nc 1 (by decide)) (zIf_f (nc 2 (by decide)) (zIf_f (nc 3 (by decide)) (zIf_f (nc 4 (by decide)) (zIf_f (nc 5 (by decide)) (zIf_f (nc 6 (by decide)) (zIf_f (nc 7 (by decide)) (zIf_f (nc 8 (by decide)) (zIf_f (nc 9 (by decide)) (zIf_f (nc 10 (by decide)) (rNo hT)))))))))))))
