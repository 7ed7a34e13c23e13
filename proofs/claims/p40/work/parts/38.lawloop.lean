/-! the law behind its makings -/
def lw_po : zPo := fun r _ => r = some (.int 1)
/-- component and law hold the same clip -/
def GL (σ : zS) : Prop := ∃ b, KI σ b ∧ LB b ∧ 0 < an b ∧ LA σ b
theorem tN36 : Int32.toNatClampNeg 36 = 36 := by decide +kernel
theorem tN37 : Int32.toNatClampNeg 37 = 37 := by decide +kernel
theorem tN38 : Int32.toNatClampNeg 38 = 38 := by decide +kernel
theorem lw_cmp {x y : Int64} (h : x = y) : lg_cmp x y = 0 := (lg_cmp_eq x y).mpr h
theorem vin36 : vp_in 36 (zN 63) := vin_a (k := 36) (by decide)
theorem vin37 : vp_in 37 (zN 63) := vin_a (k := 37) (by decide)
theorem vin38 : vp_in 38 (zN 63) := vin_a (k := 38) (by decide)
section LW
variable {L : Nat} {xs : Nat → Int32} {X : zX}
theorem lw_411 (hX : zClosed (some (L, xs)) (zCallS (some (L, xs)) 8) lw_po nL_law X) {σ : zS} (g : GL σ) : X 411 [none, some (.ref 0), some (.ref 63), none, none, none, none] [] σ := by
  obtain ⟨b, hK, hB, h0, hL⟩ := g
  refine zr_L_law_411 hX σ (zUp (c_count3 (d := 7) hK (zIf_t rfl (zUp (c_plannedS (d := 2) hK h0 (zIf_t rfl (zUp (c_totalS (d := 2) hK (zIf_t (lw_cmp rfl) ⟨vin36, ?_⟩)))))))))
  rw [tN36, hL.1]
  exact zUp (c_frameB (d := 5) hK (zIf_t rfl (zr_L_law_461 hX _ σ rfl)))
/-- where the law's loop goes on -/
def lw_go (X : zX) (k : Nat) : Prop := ∀ σ, GL σ → X 120 [some (.ref 80), some (.ref 0), some (.ref 63), some (.int (iI ((k + 1 : Nat) : Int))), none, none, none] [] σ
theorem lw_405 (hX : zClosed (some (L, xs)) (zCallS (some (L, xs)) 8) lw_po nL_law X) {k : Nat} (h : lw_go X k) {σ : zS} (g : GL σ) : X 405 [some (.ref 80), some (.ref 0), some (.ref 63), some (.int (iI (k : Int))), none, none, none] [] σ := by
  refine zr_L_law_405 hX _ σ ?_
  rw [iI_s]
  exact h σ g
theorem lw_236 (hX : zClosed (some (L, xs)) (zCallS (some (L, xs)) 8) lw_po nL_law X) {k : Nat} {x : Int32} (h : lw_go X k) {σ : zS} {b : mA} (hK : KI σ b) (hB : LB b) (h0 : 0 < an b) (hL : LA σ b) {i : Nat} (hi : i < an b) : X 236 [some (.ref 80), some (.ref 0), some (.ref 63), some (.int (iI (k : Int))), some (.int x), some (.int (iI i)), none] [] σ := by
  have hn := hB.2
  obtain ⟨g36, g37, g38, gt, gm, gw⟩ := hL
  refine zr_L_law_236 hX _ _ _ σ (zUp (sp_low (d := 7) (m := 500) (by decide) (by decide) (fun r hr => ⟨vin_a (by omega), zUp (sp_low (d := 7) (m := 1000) (by decide) (by decide) (fun r2 hr2 => ?_))⟩)))
  have row : ∀ j, (zSI (zSI σ 63 i (iI ((1 + r : Nat) : Int))) 63 (18 + i) (iI r2)).1 63 j = if j = 18 + i then iI r2 else if j = i then iI ((1 + r : Nat) : Int) else σ.1 63 j := fun j => by
    rw [zSI_at, zSI_at]
    by_cases e1 : j = 18 + i
    · rw [if_pos ⟨rfl, e1⟩, if_pos e1]
    · rw [if_neg (fun z => e1 z.2), if_neg e1]
      by_cases e2 : j = i
      · rw [if_pos ⟨rfl, e2⟩, if_pos e2]
      · rw [if_neg (fun z => e2 z.2), if_neg e2]
  rw [iI_18p, iI_k (by omega), iI_k (by omega), iI_1p, row, row, if_neg (by omega), if_pos rfl, if_pos rfl]
  refine ⟨vin_a (by omega), vin_a (by omega), vin_a (by omega), zUp (c_set (d := 2) (a := b) (t := 1 + r) (m := r2) (hK.hg (((zHg.rf σ).si (by decide) _ _).si (by decide) _ _)) hi (by omega) (by omega) (by omega) (fun τ hT lw => ?_))⟩
  have r63 := lw 63 (by decide)
  have hB2 : LB (aClip b (an b) (nU (atx b) i (1 + r)) (nU (amo b) i r2)) := ⟨hT.b, hn⟩
  have hL2 : LA τ (aClip b (an b) (nU (atx b) i (1 + r)) (nU (amo b) i r2)) := by
    refine ⟨?_, ?_, ?_, fun j hj => ?_, fun j hj => ?_, fun j hj => ?_⟩
    · rw [r63, row, if_neg (by omega), if_neg (by omega)]; exact g36
    · rw [r63, row, if_neg (by omega), if_neg (by omega)]; exact g37
    · rw [r63, row, if_neg (by omega), if_neg (by omega)]; exact g38
    · have hj : j < an b := hj
      show τ.1 63 j = iI (nU (atx b) i (1 + r) j : Nat)
      rw [r63, row, if_neg (by omega)]
      by_cases e : j = i
      · rw [if_pos e, e, nU_s]
      · rw [if_neg e, nU_n e]; exact gt j hj
    · have hj : j < an b := hj
      show τ.1 63 (18 + j) = iI (nU (amo b) i r2 j : Nat)
      rw [r63, row]
      by_cases e : j = i
      · rw [if_pos (by omega), e, nU_s]
      · rw [if_neg (by omega), if_neg (by omega), nU_n e]; exact gm j hj
    · show τ.1 63 (40 + j) = iI (aw b j : Nat)
      rw [r63, row, if_neg (by omega), if_neg (by omega)]
      exact gw j hj
  have g2 : GL τ := ⟨_, hT, hB2, h0, hL2⟩
  refine zUp (sp_lCut (d := 7) hB2 hL2 hi (fun c => zIf_f (by decide) (zr_L_law_302 hX _ _ _ τ (zIf_t ?_ (lw_405 hX h g2)))) (fun c => zIf_t rfl (zr_L_law_302 hX _ _ _ τ (zIf_t ?_ (lw_405 hX h g2)))))
  · exact if_pos c
  · exact if_neg c
theorem lw_307 (hX : zClosed (some (L, xs)) (zCallS (some (L, xs)) 8) lw_po nL_law X) {k : Nat} {x : Int32} (h : lw_go X k) {σ : zS} {b : mA} (hK : KI σ b) (hB : LB b) (h0 : 0 < an b) (hL : LA σ b) : X 307 [some (.ref 80), some (.ref 0), some (.ref 63), some (.int (iI (k : Int))), some (.int x), none, none] [] σ := by
  have hn := hB.2
  obtain ⟨g36, g37, g38, gt, gm, gw⟩ := hL
  refine zr_L_law_307 hX _ _ σ ⟨vin37, zUp (sp_low (d := 7) (m := 12) (by decide) (by decide) (fun r hr => ⟨vin37, vin37, ?_⟩))⟩
  rw [tN37, iI_1p, g37]
  have e : (zSI σ 63 37 (iI ((1 + r : Nat) : Int))).1 63 37 = iI ((1 + r : Nat) : Int) := by rw [zSI_at, if_pos ⟨rfl, rfl⟩]
  rw [e]
  refine zUp (c_setInterval (d := 2) (t := 1 + r) (hK.hg ((zHg.rf σ).si (by decide) _ _)) (by omega) (by omega) (fun τ hT lw => zIf_t rfl (lw_405 hX h ⟨_, hT, ⟨hT.b, hn⟩, h0, ?_⟩)))
  have r63 := lw 63 (by decide)
  refine ⟨?_, ?_, ?_, fun j hj => ?_, fun j hj => ?_, fun j hj => ?_⟩
  · rw [r63, zSI_at, if_neg (by omega)]; exact g36
  · rw [r63, e]; rfl
  · rw [r63, zSI_at, if_neg (by omega)]; exact g38
  · have hj : j < an b := hj
    rw [r63, zSI_at, if_neg (by omega)]; exact gt j hj
  · have hj : j < an b := hj
    rw [r63, zSI_at, if_neg (by omega)]; exact gm j hj
  · rw [r63, zSI_at, if_neg (by omega)]; exact gw j hj
theorem lw_344 (hX : zClosed (some (L, xs)) (zCallS (some (L, xs)) 8) lw_po nL_law X) {k : Nat} {x : Int32} (h : lw_go X k) {σ : zS} {b : mA} (hK : KI σ b) (hB : LB b) (h0 : 0 < an b) (hL : LA σ b) : X 344 [some (.ref 80), some (.ref 0), some (.ref 63), some (.int (iI (k : Int))), some (.int x), none, none] [] σ := by
  have hn := hB.2
  obtain ⟨g36, g37, g38, gt, gm, gw⟩ := hL
  obtain ⟨r, hr, er⟩ := lAnd3 (x >>> ((7 : Int32) &&& 31))
  refine zr_L_law_344 hX _ _ σ ⟨vin38, vin38, vin38, ?_⟩
  rw [tN38, er, g38]
  have e : (zSI σ 63 38 (iI (r : Int))).1 63 38 = iI (r : Int) := by rw [zSI_at, if_pos ⟨rfl, rfl⟩]
  rw [e]
  refine zUp (c_setBridges (d := 2) (t := r) (hK.hg ((zHg.rf σ).si (by decide) _ _)) hr (fun τ hT lw => zIf_t rfl (lw_405 hX h ⟨_, hT, ⟨hT.b, hn⟩, h0, ?_⟩)))
  have r63 := lw 63 (by decide)
  refine ⟨?_, ?_, ?_, fun j hj => ?_, fun j hj => ?_, fun j hj => ?_⟩
  · rw [r63, zSI_at, if_neg (by omega)]; exact g36
  · rw [r63, zSI_at, if_neg (by omega)]; exact g37
  · rw [r63, e]; rfl
  · have hj : j < an b := hj
    rw [r63, zSI_at, if_neg (by omega)]; exact gt j hj
  · have hj : j < an b := hj
    rw [r63, zSI_at, if_neg (by omega)]; exact gm j hj
  · rw [r63, zSI_at, if_neg (by omega)]; exact gw j hj
theorem lw_376 (hX : zClosed (some (L, xs)) (zCallS (some (L, xs)) 8) lw_po nL_law X) {k : Nat} (h : lw_go X k) {σ : zS} {b : mA} (hK : KI σ b) (hB : LB b) (h0 : 0 < an b) (hL : LA σ b) : X 376 [some (.ref 80), some (.ref 0), some (.ref 63), some (.int (iI (k : Int))), none, none, none] [] σ := by
  have hn := hB.2
  have hL0 := hL
  obtain ⟨g36, g37, g38, gt, gm, gw⟩ := hL
  refine zr_L_law_376 hX _ σ ⟨vin36, ?_⟩
  rw [tN36, g36]
  refine ⟨fun _ => lw_405 hX h ⟨b, hK, hB, h0, hL0⟩, fun z => ⟨vin36, vin36, ?_⟩⟩
  rw [show (1 : Int32) = iI 1 from rfl, iI_le (by omega) (by omega) (by omega) (by omega)] at z
  have em : iI (an b : Int) - 1 = iI ((an b - 1 : Nat) : Int) := by rw [iI_m]; exact congrArg iI (by omega)
  rw [em]
  have e : (zSI σ 63 36 (iI ((an b - 1 : Nat) : Int))).1 63 36 = iI ((an b - 1 : Nat) : Int) := by rw [zSI_at, if_pos ⟨rfl, rfl⟩]
  refine zUp (c_drop (d := 2) (a := b) (hK.hg ((zHg.rf σ).si (by decide) _ _)) h0 (fun τ hT lw => ⟨vin36, ?_⟩))
  have r63 := lw 63 (by decide)
  refine zIf_t (by rw [r63, e]) (lw_405 hX h ⟨_, hT, ⟨hT.b, ?_⟩, ?_, ?_, ?_, ?_, fun j hj => ?_, fun j hj => ?_, fun j hj => ?_⟩)
  · show an b - 1 ≤ 12
    omega
  · show 0 < an b - 1
    omega
  · rw [r63, e]; rfl
  · rw [r63, zSI_at, if_neg (by omega)]; exact g37
  · rw [r63, zSI_at, if_neg (by omega)]; exact g38
  · have hj : j < an b - 1 := hj
    rw [r63, zSI_at, if_neg (by omega)]; exact gt j (by omega)
  · have hj : j < an b - 1 := hj
    rw [r63, zSI_at, if_neg (by omega)]; exact gm j (by omega)
  · rw [r63, zSI_at, if_neg (by omega)]; exact gw j hj
theorem lw_138 (hX : zClosed (some (L, xs)) (zCallS (some (L, xs)) 8) lw_po nL_law X) {k : Nat} {x : Int32} (h : lw_go X k) {σ : zS} {b : mA} (hK : KI σ b) (hB : LB b) (h0 : 0 < an b) (hL : LA σ b) : ∀ (m i : Nat), i + m = an b → X 138 [some (.ref 80), some (.ref 0), some (.ref 63), some (.int (iI (k : Int))), some (.int x), some (.int (iI i)), none] [] σ
  | 0, i, hm => by
    have hn := hB.2
    have e : i = an b := by omega
    subst e
    refine zr_L_law_138 hX _ _ _ σ ⟨vin36, ?_⟩
    rw [tN36, hL.1]
    refine zIf_f Int32.lt_irrefl (zUp (sp_scenes (d := 3) hK hB hL h0 (zIf_f (by decide) ⟨vin36, ?_⟩)))
    rw [hL.1]
    refine zUp (sp_low (d := 7) h0 (by omega) (fun i hi => zUp (sp_low (d := 7) (m := 5) (by decide) (by decide) (fun r hr => ⟨fun _ => lw_236 hX h hK hB h0 hL hi, fun _ => ⟨fun _ => lw_236 hX h hK hB h0 hL hi, fun _ => ⟨fun _ => lw_307 hX h hK hB h0 hL, fun _ => ⟨fun _ => lw_344 hX h hK hB h0 hL, fun _ => lw_376 hX h hK hB h0 hL⟩⟩⟩⟩))))
  | m + 1, i, hm => by
    have hn := hB.2
    refine zr_L_law_138 hX _ _ _ σ ⟨vin36, ?_⟩
    rw [tN36, hL.1]
    refine zIf_t ?_ (zUp (sp_low (d := 7) (m := 52) (by decide) (by decide) (fun r hr => zUp (sp_told (d := 2) hK hB hL (show i < an b by omega) (by omega) (zIf_f (by decide) ?_)))))
    · rw [iI_lt (by omega) (by omega) (by omega) (by omega)]; omega
    · rw [iI_s]
      exact lw_138 hX h hK hB h0 hL m (i + 1) (by omega)
theorem lw_120 (hX : zClosed (some (L, xs)) (zCallS (some (L, xs)) 8) lw_po nL_law X) (hL : L ≤ 260) : ∀ (m k : Nat) (σ : zS), k + m = 5 → GL σ → X 120 [some (.ref 80), some (.ref 0), some (.ref 63), some (.int (iI (k : Int))), none, none, none] [] σ
  | 0, k, σ, hm, g => by
    refine zr_L_law_120 hX _ σ (zIf_f ?_ (lw_411 hX g))
    rw [show (5 : Int32) = iI 5 from rfl, iI_lt (by omega) (by omega) (by omega) (by omega)]; omega
  | m + 1, k, σ, hm, g => by
    have hgo : lw_go X k := fun τ gt => lw_120 hX hL m (k + 1) τ (by omega) gt
    obtain ⟨b, hK, hB, h0, hA⟩ := g
    refine zr_L_law_120 hX _ σ (zIf_t ?_ ?_)
    · rw [show (5 : Int32) = iI 5 from rfl, iI_lt (by omega) (by omega) (by omega) (by omega)]; omega
    · rw [show (14 : Int32) = iI ((14 : Nat) : Int) from rfl, iI_kk]
      exact sp_cell (d := 7) hL (by omega) (fun x => lw_138 hX hgo hK hB h0 hA (an b) 0 (by omega))
/-- from the first call on -/
theorem lw_13 (hX : zClosed (some (L, xs)) (zCallS (some (L, xs)) 8) lw_po nL_law X) (hL : L ≤ 260) {σ : zS} {a : mA} (hK : KI σ a) (h0 : an a = 0) (hs0 : aS a 0 = 12) (hs1 : aS a 1 = 2) (hw : ∀ j, j < 60 → aw a j = 4) : X 13 [some (.ref 80), some (.ref 0), some (.ref 63), none, none, none, none] [] σ := by
  have e0 : iI (an a : Int) = 0 := by rw [h0]; rfl
  have e1 : iI (mS (mCt a) (an a) : Nat) = 0 := by rw [h0]; rfl
  have cs : ∀ K : Int32 → zS → Prop, K (-2) σ → zCall 8 nX11_scene [.ref 0, .int 0, .int 0] σ (zPI K) := fun K hk => by
    have := c_sceneB (d := 4) hK hk
    rw [e1] at this
    exact this
  refine zr_L_law_13 hX σ (zUp (c_count0 (d := 7) hK (zIf_t e0 (zUp (c_count1 (d := 7) hK (zIf_t e1 (zUp (c_dropS (d := 2) hK h0 (zIf_t rfl (zUp (cs _ (zIf_t rfl ?_))))))))))))
  refine zUp (c_codedB (d := 5) hK h0 (zIf_t rfl (zUp (c_constantS (d := 1) hK h0 (zIf_t rfl (zUp (c_appendB (d := 2) hK (by decide) (zIf_t rfl (zUp (c_appendB (d := 2) hK (by decide) (zIf_t rfl (zUp (c_setIntervalB (d := 2) hK (zIf_t rfl ?_))))))))))))))
  refine zr_L_law_106 hX σ (sp_grows (d := 1) hL hK h0 hs0 hs1 hw (fun τ b hT hB hb hA => zIf_f (by decide) ?_))
  exact lw_120 hX hL 5 0 τ (by omega) ⟨b, hT, hB, hb, hA⟩
end LW
