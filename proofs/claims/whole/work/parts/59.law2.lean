/-! the law's loop: printed by wip/whole/genlaw2.py -/
theorem lw_in {i k L : Nat} (hL : L ≤ 2048) (h : i + k < L) : vp_in (iI (i : Int) + iI (k : Int)) L := by
  rw [iI_kk]
  exact vin_k h (by omega)
theorem lw_in1 {i L : Nat} (hL : L ≤ 2048) (h : i + 4 ≤ L) : vp_in (iI (i : Int) + 1) L := lw_in (k := 1) hL (by omega)
theorem lw_in2 {i L : Nat} (hL : L ≤ 2048) (h : i + 4 ≤ L) : vp_in (iI (i : Int) + 2) L := lw_in (k := 2) hL (by omega)
theorem lw_in3 {i L : Nat} (hL : L ≤ 2048) (h : i + 4 ≤ L) : vp_in (iI (i : Int) + 3) L := lw_in (k := 3) hL (by omega)
theorem lw_cmp {x y : Int64} (h : x = y) : lg_cmp x y = 0 := (lg_cmp_eq x y).mpr h
def lw_po : zPo := fun r _ => r = some (.int 1)
/-- where the law goes on -/
def lw_go (X : zX) (i : Nat) : Prop := ∀ σ, G σ → X 18 [some (.ref 80), some (.ref 0), some (.ref 63), some (.int (iI ((i + 4 : Nat) : Int)))] [] σ
theorem lw_1109 {L : Nat} {xs : Nat → Int32} {X : zX} (hX : zClosed (some (L, xs)) (zCall 8) lw_po nL_law X) {i : Nat} (h : lw_go X i) {σ : zS} (g : G σ) : X 1109 [some (.ref 80), some (.ref 0), some (.ref 63), some (.int (iI (i : Int)))] [] σ := by
  refine zr_L_law_1109 hX _ σ ?_
  have e : iI (i : Int) + 4 = iI ((i + 4 : Nat) : Int) := iI_kk i 4
  rw [e]
  exact h σ g
theorem lw_c196 {L : Nat} {xs : Nat → Int32} {X : zX} (hX : zClosed (some (L, xs)) (zCall 8) lw_po nL_law X) (hL : L ≤ 2048) {i : Nat} (hi : i + 4 ≤ L) (h : lw_go X i) {σ : zS} (g : G σ) : X 196 [some (.ref 80), some (.ref 0), some (.ref 63), some (.int (iI (i : Int)))] [] σ :=
  zr_L_law_196 hX _ σ (⟨lw_in1 hL hi, lw_in2 hL hi, zc_I (fun x σ1 g1 => ⟨lw_in1 hL hi, lw_in2 hL hi, zc_I (fun y σ2 g2 => zIf_t (g2.1) (lw_1109 hX h g2.2)) g1⟩) (pr_append g)⟩)
theorem lw_c229 {L : Nat} {xs : Nat → Int32} {X : zX} (hX : zClosed (some (L, xs)) (zCall 8) lw_po nL_law X) (hL : L ≤ 2048) {i : Nat} (hi : i + 4 ≤ L) (h : lw_go X i) {σ : zS} (g : G σ) : X 229 [some (.ref 80), some (.ref 0), some (.ref 63), some (.int (iI (i : Int)))] [] σ :=
  zr_L_law_229 hX _ σ (⟨lw_in1 hL hi, lw_in2 hL hi, lw_in3 hL hi, zc_I (fun x σ1 g1 => ⟨lw_in1 hL hi, lw_in2 hL hi, lw_in3 hL hi, zc_I (fun y σ2 g2 => zIf_t (g2.1) (lw_1109 hX h g2.2)) g1⟩) (pr_set g)⟩)
theorem lw_c272 {L : Nat} {xs : Nat → Int32} {X : zX} (hX : zClosed (some (L, xs)) (zCall 8) lw_po nL_law X) (hL : L ≤ 2048) {i : Nat} (hi : i + 4 ≤ L) (h : lw_go X i) {σ : zS} (g : G σ) : X 272 [some (.ref 80), some (.ref 0), some (.ref 63), some (.int (iI (i : Int)))] [] σ :=
  zr_L_law_272 hX _ σ (zc_I (fun x σ1 g1 => zc_I (fun y σ2 g2 => zIf_t (g2.1) (lw_1109 hX h g2.2)) g1) (pr_drop g))
theorem lw_c285 {L : Nat} {xs : Nat → Int32} {X : zX} (hX : zClosed (some (L, xs)) (zCall 8) lw_po nL_law X) (hL : L ≤ 2048) {i : Nat} (hi : i + 4 ≤ L) (h : lw_go X i) {σ : zS} (g : G σ) : X 285 [some (.ref 80), some (.ref 0), some (.ref 63), some (.int (iI (i : Int)))] [] σ :=
  zr_L_law_285 hX _ σ (⟨lw_in1 hL hi, zc_I (fun x σ1 g1 => ⟨lw_in1 hL hi, zc_I (fun y σ2 g2 => zIf_t (g2.1) (lw_1109 hX h g2.2)) g1⟩) (pr_type g)⟩)
theorem lw_c308 {L : Nat} {xs : Nat → Int32} {X : zX} (hX : zClosed (some (L, xs)) (zCall 8) lw_po nL_law X) (hL : L ≤ 2048) {i : Nat} (hi : i + 4 ≤ L) (h : lw_go X i) {σ : zS} (g : G σ) : X 308 [some (.ref 80), some (.ref 0), some (.ref 63), some (.int (iI (i : Int)))] [] σ :=
  zr_L_law_308 hX _ σ (zc_I (fun x σ1 g1 => zc_I (fun y σ2 g2 => zIf_t (g2.1) (lw_1109 hX h g2.2)) g1) (pr_clear g))
theorem lw_c321 {L : Nat} {xs : Nat → Int32} {X : zX} (hX : zClosed (some (L, xs)) (zCall 8) lw_po nL_law X) (hL : L ≤ 2048) {i : Nat} (hi : i + 4 ≤ L) (h : lw_go X i) {σ : zS} (g : G σ) : X 321 [some (.ref 80), some (.ref 0), some (.ref 63), some (.int (iI (i : Int)))] [] σ :=
  zr_L_law_321 hX _ σ (zc_I (fun x σ1 g1 => zc_I (fun y σ2 g2 => zIf_t (g2.1) (lw_1109 hX h g2.2)) g1) (pr_load g))
theorem lw_c334 {L : Nat} {xs : Nat → Int32} {X : zX} (hX : zClosed (some (L, xs)) (zCall 8) lw_po nL_law X) (hL : L ≤ 2048) {i : Nat} (hi : i + 4 ≤ L) (h : lw_go X i) {σ : zS} (g : G σ) : X 334 [some (.ref 80), some (.ref 0), some (.ref 63), some (.int (iI (i : Int)))] [] σ :=
  zr_L_law_334 hX _ σ (⟨lw_in1 hL hi, lw_in2 hL hi, zc_I (fun x σ1 g1 => ⟨lw_in1 hL hi, lw_in2 hL hi, zc_I (fun y σ2 g2 => zIf_t (g2.1) (lw_1109 hX h g2.2)) g1⟩) (pr_frame g)⟩)
theorem lw_c367 {L : Nat} {xs : Nat → Int32} {X : zX} (hX : zClosed (some (L, xs)) (zCall 8) lw_po nL_law X) (hL : L ≤ 2048) {i : Nat} (hi : i + 4 ≤ L) (h : lw_go X i) {σ : zS} (g : G σ) : X 367 [some (.ref 80), some (.ref 0), some (.ref 63), some (.int (iI (i : Int)))] [] σ :=
  zr_L_law_367 hX _ σ (⟨lw_in1 hL hi, zc_I (fun x σ1 g1 => ⟨lw_in1 hL hi, zc_I (fun y σ2 g2 => zIf_t (g2.1) (lw_1109 hX h g2.2)) g1⟩) (pr_coded g)⟩)
theorem lw_c390 {L : Nat} {xs : Nat → Int32} {X : zX} (hX : zClosed (some (L, xs)) (zCall 8) lw_po nL_law X) (hL : L ≤ 2048) {i : Nat} (hi : i + 4 ≤ L) (h : lw_go X i) {σ : zS} (g : G σ) : X 390 [some (.ref 80), some (.ref 0), some (.ref 63), some (.int (iI (i : Int)))] [] σ :=
  zr_L_law_390 hX _ σ (⟨lw_in1 hL hi, zc_I (fun x σ1 g1 => ⟨lw_in1 hL hi, zc_I (fun y σ2 g2 => zIf_t (g2.1) (lw_1109 hX h g2.2)) g1⟩) (pr_setInterval g)⟩)
theorem lw_c413 {L : Nat} {xs : Nat → Int32} {X : zX} (hX : zClosed (some (L, xs)) (zCall 8) lw_po nL_law X) (hL : L ≤ 2048) {i : Nat} (hi : i + 4 ≤ L) (h : lw_go X i) {σ : zS} (g : G σ) : X 413 [some (.ref 80), some (.ref 0), some (.ref 63), some (.int (iI (i : Int)))] [] σ :=
  zr_L_law_413 hX _ σ (⟨lw_in1 hL hi, zc_I (fun x σ1 g1 => ⟨lw_in1 hL hi, zc_I (fun y σ2 g2 => zIf_t (g2.1) (lw_1109 hX h g2.2)) g1⟩) (pr_setBridges g)⟩)
theorem lw_c436 {L : Nat} {xs : Nat → Int32} {X : zX} (hX : zClosed (some (L, xs)) (zCall 8) lw_po nL_law X) (hL : L ≤ 2048) {i : Nat} (hi : i + 4 ≤ L) (h : lw_go X i) {σ : zS} (g : G σ) : X 436 [some (.ref 80), some (.ref 0), some (.ref 63), some (.int (iI (i : Int)))] [] σ :=
  zr_L_law_436 hX _ σ (⟨lw_in1 hL hi, lw_in2 hL hi, zc_I (fun x σ1 g1 => ⟨lw_in1 hL hi, lw_in2 hL hi, zc_I (fun y σ2 g2 => zIf_t (g2.1) (lw_1109 hX h g2.2)) g1⟩) (pr_setWeight g)⟩)
theorem lw_c469 {L : Nat} {xs : Nat → Int32} {X : zX} (hX : zClosed (some (L, xs)) (zCall 8) lw_po nL_law X) (hL : L ≤ 2048) {i : Nat} (hi : i + 4 ≤ L) (h : lw_go X i) {σ : zS} (g : G σ) : X 469 [some (.ref 80), some (.ref 0), some (.ref 63), some (.int (iI (i : Int)))] [] σ :=
  zr_L_law_469 hX _ σ (⟨lw_in1 hL hi, lw_in2 hL hi, zc_I (fun x σ1 g1 => ⟨lw_in1 hL hi, lw_in2 hL hi, zc_I (fun y σ2 g2 => zIf_t (g2.1) (lw_1109 hX h g2.2)) g1⟩) (pr_setRange g)⟩)
theorem lw_c502 {L : Nat} {xs : Nat → Int32} {X : zX} (hX : zClosed (some (L, xs)) (zCall 8) lw_po nL_law X) (hL : L ≤ 2048) {i : Nat} (hi : i + 4 ≤ L) (h : lw_go X i) {σ : zS} (g : G σ) : X 502 [some (.ref 80), some (.ref 0), some (.ref 63), some (.int (iI (i : Int)))] [] σ :=
  zr_L_law_502 hX _ σ (⟨lw_in1 hL hi, lw_in2 hL hi, zc_I (fun x σ1 g1 => ⟨lw_in1 hL hi, lw_in2 hL hi, zc_I (fun y σ2 g2 => zIf_t (g2.1) (lw_1109 hX h g2.2)) g1⟩) (pr_setBuffer g)⟩)
theorem lw_c535 {L : Nat} {xs : Nat → Int32} {X : zX} (hX : zClosed (some (L, xs)) (zCall 8) lw_po nL_law X) (hL : L ≤ 2048) {i : Nat} (hi : i + 4 ≤ L) (h : lw_go X i) {σ : zS} (g : G σ) : X 535 [some (.ref 80), some (.ref 0), some (.ref 63), some (.int (iI (i : Int)))] [] σ :=
  zr_L_law_535 hX _ σ (⟨lw_in1 hL hi, zc_I (fun x σ1 g1 => ⟨lw_in1 hL hi, zc_I (fun y σ2 g2 => zIf_t (g2.1) (lw_1109 hX h g2.2)) g1⟩) (pr_setRate g)⟩)
theorem lw_c558 {L : Nat} {xs : Nat → Int32} {X : zX} (hX : zClosed (some (L, xs)) (zCall 8) lw_po nL_law X) (hL : L ≤ 2048) {i : Nat} (hi : i + 4 ≤ L) (h : lw_go X i) {σ : zS} (g : G σ) : X 558 [some (.ref 80), some (.ref 0), some (.ref 63), some (.int (iI (i : Int)))] [] σ :=
  zr_L_law_558 hX _ σ (⟨lw_in1 hL hi, lw_in2 hL hi, lw_in3 hL hi, zc_I (fun x σ1 g1 => ⟨lw_in1 hL hi, lw_in2 hL hi, lw_in3 hL hi, zc_I (fun y σ2 g2 => zIf_t (g2.1) (lw_1109 hX h g2.2)) g1⟩) (pr_addZone g)⟩)
theorem lw_c601 {L : Nat} {xs : Nat → Int32} {X : zX} (hX : zClosed (some (L, xs)) (zCall 8) lw_po nL_law X) (hL : L ≤ 2048) {i : Nat} (hi : i + 4 ≤ L) (h : lw_go X i) {σ : zS} (g : G σ) : X 601 [some (.ref 80), some (.ref 0), some (.ref 63), some (.int (iI (i : Int)))] [] σ :=
  zr_L_law_601 hX _ σ (zc_I (fun x σ1 g1 => zc_I (fun y σ2 g2 => zIf_t (g2.1) (lw_1109 hX h g2.2)) g1) (pr_clearZones g))
theorem lw_c614 {L : Nat} {xs : Nat → Int32} {X : zX} (hX : zClosed (some (L, xs)) (zCall 8) lw_po nL_law X) (hL : L ≤ 2048) {i : Nat} (hi : i + 4 ≤ L) (h : lw_go X i) {σ : zS} (g : G σ) : X 614 [some (.ref 80), some (.ref 0), some (.ref 63), some (.int (iI (i : Int)))] [] σ :=
  zr_L_law_614 hX _ σ (⟨lw_in1 hL hi, lw_in2 hL hi, zc_I (fun x σ1 g1 => ⟨lw_in1 hL hi, lw_in2 hL hi, zc_I (fun y σ2 g2 => zIf_t (g2.1) (lw_1109 hX h g2.2)) g1⟩) (pr_bitsAt g)⟩)
theorem lw_c647 {L : Nat} {xs : Nat → Int32} {X : zX} (hX : zClosed (some (L, xs)) (zCall 8) lw_po nL_law X) (hL : L ≤ 2048) {i : Nat} (hi : i + 4 ≤ L) (h : lw_go X i) {σ : zS} (g : G σ) : X 647 [some (.ref 80), some (.ref 0), some (.ref 63), some (.int (iI (i : Int)))] [] σ :=
  zr_L_law_647 hX _ σ (⟨lw_in1 hL hi, lw_in2 hL hi, zc_I (fun x σ1 g1 => ⟨lw_in1 hL hi, lw_in2 hL hi, zc_I (fun y σ2 g2 => zIf_t (g2.1) (lw_1109 hX h g2.2)) g1⟩) (pr_lossAt g)⟩)
theorem lw_c680 {L : Nat} {xs : Nat → Int32} {X : zX} (hX : zClosed (some (L, xs)) (zCall 8) lw_po nL_law X) (hL : L ≤ 2048) {i : Nat} (hi : i + 4 ≤ L) (h : lw_go X i) {σ : zS} (g : G σ) : X 680 [some (.ref 80), some (.ref 0), some (.ref 63), some (.int (iI (i : Int)))] [] σ :=
  zr_L_law_680 hX _ σ (⟨lw_in1 hL hi, zc_I (fun x σ1 g1 => ⟨lw_in1 hL hi, zc_I (fun y σ2 g2 => zIf_t (g2.1) (lw_1109 hX h g2.2)) g1⟩) (pr_constant g)⟩)
theorem lw_c703 {L : Nat} {xs : Nat → Int32} {X : zX} (hX : zClosed (some (L, xs)) (zCall 8) lw_po nL_law X) (hL : L ≤ 2048) {i : Nat} (hi : i + 4 ≤ L) (h : lw_go X i) {σ : zS} (g : G σ) : X 703 [some (.ref 80), some (.ref 0), some (.ref 63), some (.int (iI (i : Int)))] [] σ :=
  zr_L_law_703 hX _ σ (⟨lw_in1 hL hi, lw_in2 hL hi, zc_I (fun x σ1 g1 => ⟨lw_in1 hL hi, lw_in2 hL hi, zc_I (fun y σ2 g2 => zIf_t (g2.1) (lw_1109 hX h g2.2)) g1⟩) (pr_control g)⟩)
theorem lw_c736 {L : Nat} {xs : Nat → Int32} {X : zX} (hX : zClosed (some (L, xs)) (zCall 8) lw_po nL_law X) (hL : L ≤ 2048) {i : Nat} (hi : i + 4 ≤ L) (h : lw_go X i) {σ : zS} (g : G σ) : X 736 [some (.ref 80), some (.ref 0), some (.ref 63), some (.int (iI (i : Int)))] [] σ :=
  zr_L_law_736 hX _ σ (⟨lw_in1 hL hi, zc_I (fun x σ1 g1 => ⟨lw_in1 hL hi, zc_I (fun y σ2 g2 => zIf_t (g2.1) (lw_1109 hX h g2.2)) g1⟩) (pr_distribute g)⟩)
theorem lw_c759 {L : Nat} {xs : Nat → Int32} {X : zX} (hX : zClosed (some (L, xs)) (zCall 8) lw_po nL_law X) (hL : L ≤ 2048) {i : Nat} (hi : i + 4 ≤ L) (h : lw_go X i) {σ : zS} (g : G σ) : X 759 [some (.ref 80), some (.ref 0), some (.ref 63), some (.int (iI (i : Int)))] [] σ :=
  zr_L_law_759 hX _ σ (⟨lw_in1 hL hi, zc_I (fun x σ1 g1 => ⟨lw_in1 hL hi, zc_I (fun y σ2 g2 => zIf_t (g2.1) (lw_1109 hX h g2.2)) g1⟩) (pr_smooth g)⟩)
theorem lw_c782 {L : Nat} {xs : Nat → Int32} {X : zX} (hX : zClosed (some (L, xs)) (zCall 8) lw_po nL_law X) (hL : L ≤ 2048) {i : Nat} (hi : i + 4 ≤ L) (h : lw_go X i) {σ : zS} (g : G σ) : X 782 [some (.ref 80), some (.ref 0), some (.ref 63), some (.int (iI (i : Int)))] [] σ :=
  zr_L_law_782 hX _ σ (zc_I (fun x σ1 g1 => zc_I (fun y σ2 g2 => zIf_t (g2.1) (lw_1109 hX h g2.2)) g1) (pr_repair g))
theorem lw_c795 {L : Nat} {xs : Nat → Int32} {X : zX} (hX : zClosed (some (L, xs)) (zCall 8) lw_po nL_law X) (hL : L ≤ 2048) {i : Nat} (hi : i + 4 ≤ L) (h : lw_go X i) {σ : zS} (g : G σ) : X 795 [some (.ref 80), some (.ref 0), some (.ref 63), some (.int (iI (i : Int)))] [] σ :=
  zr_L_law_795 hX _ σ (⟨lw_in1 hL hi, zc_I (fun x σ1 g1 => ⟨lw_in1 hL hi, zc_I (fun y σ2 g2 => zIf_t (g2.1) (lw_1109 hX h g2.2)) g1⟩) (pr_relax g)⟩)
theorem lw_c818 {L : Nat} {xs : Nat → Int32} {X : zX} (hX : zClosed (some (L, xs)) (zCall 8) lw_po nL_law X) (hL : L ≤ 2048) {i : Nat} (hi : i + 4 ≤ L) (h : lw_go X i) {σ : zS} (g : G σ) : X 818 [some (.ref 80), some (.ref 0), some (.ref 63), some (.int (iI (i : Int)))] [] σ :=
  zr_L_law_818 hX _ σ (⟨lw_in1 hL hi, lw_in2 hL hi, zc_I (fun x σ1 g1 => ⟨lw_in1 hL hi, lw_in2 hL hi, zc_I (fun y σ2 g2 => zIf_t (g2.1) (lw_1109 hX h g2.2)) g1⟩) (pr_adjust g)⟩)
theorem lw_c851 {L : Nat} {xs : Nat → Int32} {X : zX} (hX : zClosed (some (L, xs)) (zCall 8) lw_po nL_law X) (hL : L ≤ 2048) {i : Nat} (hi : i + 4 ≤ L) (h : lw_go X i) {σ : zS} (g : G σ) : X 851 [some (.ref 80), some (.ref 0), some (.ref 63), some (.int (iI (i : Int)))] [] σ :=
  zr_L_law_851 hX _ σ (⟨lw_in1 hL hi, lw_in2 hL hi, zc_I (fun x σ1 g1 => ⟨lw_in1 hL hi, lw_in2 hL hi, zc_I (fun y σ2 g2 => zIf_t (g2.1) (lw_1109 hX h g2.2)) g1⟩) (pr_planned g)⟩)
theorem lw_c884 {L : Nat} {xs : Nat → Int32} {X : zX} (hX : zClosed (some (L, xs)) (zCall 8) lw_po nL_law X) (hL : L ≤ 2048) {i : Nat} (hi : i + 4 ≤ L) (h : lw_go X i) {σ : zS} (g : G σ) : X 884 [some (.ref 80), some (.ref 0), some (.ref 63), some (.int (iI (i : Int)))] [] σ :=
  zr_L_law_884 hX _ σ (⟨lw_in1 hL hi, zc_J (fun x σ1 g1 => ⟨lw_in1 hL hi, zc_J (fun y σ2 g2 => zIf_t (lw_cmp g2.1) (lw_1109 hX h g2.2)) g1⟩) (pr_total g)⟩)
theorem lw_c908 {L : Nat} {xs : Nat → Int32} {X : zX} (hX : zClosed (some (L, xs)) (zCall 8) lw_po nL_law X) (hL : L ≤ 2048) {i : Nat} (hi : i + 4 ≤ L) (h : lw_go X i) {σ : zS} (g : G σ) : X 908 [some (.ref 80), some (.ref 0), some (.ref 63), some (.int (iI (i : Int)))] [] σ :=
  zr_L_law_908 hX _ σ (⟨lw_in1 hL hi, lw_in2 hL hi, zc_I (fun x σ1 g1 => ⟨lw_in1 hL hi, lw_in2 hL hi, zc_I (fun y σ2 g2 => zIf_t (g2.1) (lw_1109 hX h g2.2)) g1⟩) (pr_scene g)⟩)
theorem lw_c941 {L : Nat} {xs : Nat → Int32} {X : zX} (hX : zClosed (some (L, xs)) (zCall 8) lw_po nL_law X) (hL : L ≤ 2048) {i : Nat} (hi : i + 4 ≤ L) (h : lw_go X i) {σ : zS} (g : G σ) : X 941 [some (.ref 80), some (.ref 0), some (.ref 63), some (.int (iI (i : Int)))] [] σ :=
  zr_L_law_941 hX _ σ (zc_I (fun x σ1 g1 => zc_I (fun y σ2 g2 => zIf_t (g2.1) (lw_1109 hX h g2.2)) g1) (pr_leastSize g))
theorem lw_c954 {L : Nat} {xs : Nat → Int32} {X : zX} (hX : zClosed (some (L, xs)) (zCall 8) lw_po nL_law X) (hL : L ≤ 2048) {i : Nat} (hi : i + 4 ≤ L) (h : lw_go X i) {σ : zS} (g : G σ) : X 954 [some (.ref 80), some (.ref 0), some (.ref 63), some (.int (iI (i : Int)))] [] σ :=
  zr_L_law_954 hX _ σ (zc_I (fun x σ1 g1 => zc_I (fun y σ2 g2 => zIf_t (g2.1) (lw_1109 hX h g2.2)) g1) (pr_leastStart g))
theorem lw_c967 {L : Nat} {xs : Nat → Int32} {X : zX} (hX : zClosed (some (L, xs)) (zCall 8) lw_po nL_law X) (hL : L ≤ 2048) {i : Nat} (hi : i + 4 ≤ L) (h : lw_go X i) {σ : zS} (g : G σ) : X 967 [some (.ref 80), some (.ref 0), some (.ref 63), some (.int (iI (i : Int)))] [] σ :=
  zr_L_law_967 hX _ σ (zc_I (fun x σ1 g1 => zc_I (fun y σ2 g2 => zIf_t (g2.1) (lw_1109 hX h g2.2)) g1) (pr_leastRate g))
theorem lw_c980 {L : Nat} {xs : Nat → Int32} {X : zX} (hX : zClosed (some (L, xs)) (zCall 8) lw_po nL_law X) (hL : L ≤ 2048) {i : Nat} (hi : i + 4 ≤ L) (h : lw_go X i) {σ : zS} (g : G σ) : X 980 [some (.ref 80), some (.ref 0), some (.ref 63), some (.int (iI (i : Int)))] [] σ :=
  zr_L_law_980 hX _ σ (zc_I (fun x σ1 g1 => zc_I (fun y σ2 g2 => zIf_t (g2.1) (lw_1109 hX h g2.2)) g1) (pr_bestConstant g))
theorem lw_c993 {L : Nat} {xs : Nat → Int32} {X : zX} (hX : zClosed (some (L, xs)) (zCall 8) lw_po nL_law X) (hL : L ≤ 2048) {i : Nat} (hi : i + 4 ≤ L) (h : lw_go X i) {σ : zS} (g : G σ) : X 993 [some (.ref 80), some (.ref 0), some (.ref 63), some (.int (iI (i : Int)))] [] σ :=
  zr_L_law_993 hX _ σ (⟨lw_in1 hL hi, lw_in2 hL hi, zc_I (fun x σ1 g1 => ⟨lw_in1 hL hi, lw_in2 hL hi, zc_I (fun y σ2 g2 => zIf_t (g2.1) (lw_1109 hX h g2.2)) g1⟩) (pr_demand g)⟩)
theorem lw_c1026 {L : Nat} {xs : Nat → Int32} {X : zX} (hX : zClosed (some (L, xs)) (zCall 8) lw_po nL_law X) (hL : L ≤ 2048) {i : Nat} (hi : i + 4 ≤ L) (h : lw_go X i) {σ : zS} (g : G σ) : X 1026 [some (.ref 80), some (.ref 0), some (.ref 63), some (.int (iI (i : Int)))] [] σ :=
  zr_L_law_1026 hX _ σ (⟨lw_in1 hL hi, zc_I (fun x σ1 g1 => ⟨lw_in1 hL hi, zc_I (fun y σ2 g2 => zIf_t (g2.1) (lw_1109 hX h g2.2)) g1⟩) (pr_save g)⟩)
theorem lw_c1049 {L : Nat} {xs : Nat → Int32} {X : zX} (hX : zClosed (some (L, xs)) (zCall 8) lw_po nL_law X) (hL : L ≤ 2048) {i : Nat} (hi : i + 4 ≤ L) (h : lw_go X i) {σ : zS} (g : G σ) : X 1049 [some (.ref 80), some (.ref 0), some (.ref 63), some (.int (iI (i : Int)))] [] σ :=
  zr_L_law_1049 hX _ σ (⟨lw_in1 hL hi, zc_I (fun x σ1 g1 => ⟨lw_in1 hL hi, zc_I (fun y σ2 g2 => zIf_t (g2.1) (lw_1109 hX h g2.2)) g1⟩) (pr_restore g)⟩)
theorem lw_c1072 {L : Nat} {xs : Nat → Int32} {X : zX} (hX : zClosed (some (L, xs)) (zCall 8) lw_po nL_law X) (hL : L ≤ 2048) {i : Nat} (hi : i + 4 ≤ L) (h : lw_go X i) {σ : zS} (g : G σ) : X 1072 [some (.ref 80), some (.ref 0), some (.ref 63), some (.int (iI (i : Int)))] [] σ :=
  zr_L_law_1072 hX _ σ (⟨lw_in1 hL hi, zc_I (fun x σ1 g1 => ⟨lw_in1 hL hi, zc_I (fun y σ2 g2 => zIf_t (g2.1) (lw_1109 hX h g2.2)) g1⟩) (pr_count g)⟩)
theorem lw_c1095 {L : Nat} {xs : Nat → Int32} {X : zX} (hX : zClosed (some (L, xs)) (zCall 8) lw_po nL_law X) (hL : L ≤ 2048) {i : Nat} (hi : i + 4 ≤ L) (h : lw_go X i) {σ : zS} (g : G σ) : X 1095 [some (.ref 80), some (.ref 0), some (.ref 63), some (.int (iI (i : Int)))] [] σ :=
  zr_L_law_1095 hX _ σ (zc_J (fun x σ1 g1 => zc_J (fun y σ2 g2 => zIf_t (lw_cmp g2.1) (lw_1109 hX h g2.2)) g1) (pr_digest g))
theorem lw_loop {L : Nat} {xs : Nat → Int32} {X : zX} (hX : zClosed (some (L, xs)) (zCall 8) lw_po nL_law X) (hL : L ≤ 2048) : ∀ (m i : Nat) (σ : zS), L ≤ i + m → i ≤ L + 4 → G σ → X 18 [some (.ref 80), some (.ref 0), some (.ref 63), some (.int (iI (i : Int)))] [] σ
  | m, i, σ, hm, hi4, g => by
    refine zr_L_law_18 hX _ σ ?_
    have e : nI L - 4 = iI ((L : Int) - 4) := by
      rw [iI_n, show (4 : Int32) = iI 4 from rfl, iI_sub]
    rw [e, iI_le (by omega) (by omega) (by omega) (by omega)]
    by_cases c : (i : Int) ≤ (L : Int) - 4
    · refine zIf_t c ?_
      have hi : i + 4 ≤ L := by omega
      have h : lw_go X i := fun τ gt => by
        match m, hm with
        | 0, hm => exact absurd hm (by omega)
        | 1, hm => exact absurd hm (by omega)
        | 2, hm => exact absurd hm (by omega)
        | 3, hm => exact absurd hm (by omega)
        | m + 4, hm => exact lw_loop hX hL m (i + 4) τ (by omega) (by omega) gt
      exact ⟨vin_k (by omega) (by omega), ⟨fun _ => lw_c196 hX hL hi h g, fun _ => ⟨fun _ => lw_c229 hX hL hi h g, fun _ => ⟨fun _ => lw_c272 hX hL hi h g, fun _ => ⟨fun _ => lw_c285 hX hL hi h g, fun _ => ⟨fun _ => lw_c308 hX hL hi h g, fun _ => ⟨fun _ => lw_c321 hX hL hi h g, fun _ => ⟨fun _ => lw_c334 hX hL hi h g, fun _ => ⟨fun _ => lw_c367 hX hL hi h g, fun _ => ⟨fun _ => lw_c390 hX hL hi h g, fun _ => ⟨fun _ => lw_c413 hX hL hi h g, fun _ => ⟨fun _ => lw_c436 hX hL hi h g, fun _ => ⟨fun _ => lw_c469 hX hL hi h g, fun _ => ⟨fun _ => lw_c502 hX hL hi h g, fun _ => ⟨fun _ => lw_c535 hX hL hi h g, fun _ => ⟨fun _ => lw_c558 hX hL hi h g, fun _ => ⟨fun _ => lw_c601 hX hL hi h g, fun _ => ⟨fun _ => lw_c614 hX hL hi h g, fun _ => ⟨fun _ => lw_c647 hX hL hi h g, fun _ => ⟨fun _ => lw_c680 hX hL hi h g, fun _ => ⟨fun _ => lw_c703 hX hL hi h g, fun _ => ⟨fun _ => lw_c736 hX hL hi h g, fun _ => ⟨fun _ => lw_c759 hX hL hi h g, fun _ => ⟨fun _ => lw_c782 hX hL hi h g, fun _ => ⟨fun _ => lw_c795 hX hL hi h g, fun _ => ⟨fun _ => lw_c818 hX hL hi h g, fun _ => ⟨fun _ => lw_c851 hX hL hi h g, fun _ => ⟨fun _ => lw_c884 hX hL hi h g, fun _ => ⟨fun _ => lw_c908 hX hL hi h g, fun _ => ⟨fun _ => lw_c941 hX hL hi h g, fun _ => ⟨fun _ => lw_c954 hX hL hi h g, fun _ => ⟨fun _ => lw_c967 hX hL hi h g, fun _ => ⟨fun _ => lw_c980 hX hL hi h g, fun _ => ⟨fun _ => lw_c993 hX hL hi h g, fun _ => ⟨fun _ => lw_c1026 hX hL hi h g, fun _ => ⟨fun _ => lw_c1049 hX hL hi h g, fun _ => ⟨fun _ => lw_c1072 hX hL hi h g, fun _ => ⟨fun _ => lw_c1095 hX hL hi h g, fun _ => lw_1109 hX h g⟩⟩⟩⟩⟩⟩⟩⟩⟩⟩⟩⟩⟩⟩⟩⟩⟩⟩⟩⟩⟩⟩⟩⟩⟩⟩⟩⟩⟩⟩⟩⟩⟩⟩⟩⟩⟩⟩
    · exact zIf_f c (zr_L_law_1115 hX σ rfl)
