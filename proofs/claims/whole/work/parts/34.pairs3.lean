/-! pairs of calls: weights, zones, questions without a plan, adjust -/
theorem rF.wt {f g : Nat → Int32} {a : mA} {w : Nat → Nat} (hb : aB a) (h : rF f a) (hw : ∀ j, j < 60 → g (121 + j) = iI (w j)) (e : ∀ j, ¬ (121 ≤ j ∧ j ≤ 180) → g j = f j) : rF g (aWt a w) := by
  have c := h.c (g := g) hb.1.1 (fun j hj => e j (by omega))
  have s := h.s (g := g) (fun j _ hj => e j (by omega))
  have z := h.z (g := g) hb.2.2.2.2.2.2.2.1 (fun j _ hj => e j (by omega))
  have p := h.p (g := g) (fun j _ hj => e j (by omega))
  exact ⟨c.1, c.2.1, c.2.2, s, hw, z.1, z.2.1, z.2.2, (e 207 (by omega)).trans h.2.2.2.2.2.2.2.2.1, p⟩
theorem rF.pl {f g : Nat → Int32} {a : mA} {m : Bool} {q : Nat → Nat} (hb : aB a) (h : rF f a) (hm : g 207 = if m = true then 1 else 0) (hq : ∀ i, i < 60 → g (208 + i) = iI (q i)) (e : ∀ j, j < 207 → g j = f j) : rF g (aPl a m q) := by
  have c := h.c (g := g) hb.1.1 (fun j hj => e j (by omega))
  have s := h.s (g := g) (fun j _ hj => e j (by omega))
  have w := h.w (g := g) (fun j _ hj => e j (by omega))
  have z := h.z (g := g) hb.2.2.2.2.2.2.2.1 (fun j _ hj => e j (by omega))
  exact ⟨c.1, c.2.1, c.2.2, s, w, z.1, z.2.1, z.2.2, hm, hq⟩
theorem pr_setWeight {p q : Int32} {σ : zS} (g : G σ) : zPair nX11_setWeight nX12_setWeight [.int p, .int q] σ := by
  obtain ⟨v, hv, hC, hR⟩ := g
  by_cases c : (0 ≤ p ∧ p ≤ 59) ∧ 1 ≤ q ∧ q ≤ 8
  · obtain ⟨s, rfl, _, s2⟩ := rgN (p := p) 0 59 (by decide) (by decide) c.1
    obtain ⟨t, rfl, t1, t2⟩ := rgN (p := q) 1 8 (by decide) (by decide) c.2
    have ab : aB (aWt (va v) (nU (aw (va v)) s t)) := hv.1.wt (fun j hj => by
      by_cases e : j = s
      · rw [e, nU_s]; omega
      · rw [nU_n e]; exact hv.1.2.2.2.2.2.2.2.2.1 j hj)
    refine zP_I (v := v) (w := vA v (aWt (va v) (nU (aw (va v)) s t))) (iI (aw (va v) s)) (hv.a ab) hR ?_ (fun τ hT => ?_)
    · refine ze_X11_setWeight (d := 7) _ _ σ (fun X hX => zq_X11_setWeight_0 (d := 6) hX _ _ σ (zIf_t c.1 (zIf_t c.2 ?_)))
      rw [zAt_k (show s < zN 5 by show s < 60; omega), zPt_k (show s < zN 5 by show s < 60; omega)]
      have fr : ∀ r, r ≠ 5 → (zSI σ 5 s (iI t)).1 r = σ.1 r := fun r hr => zSI_1 hr
      refine ⟨_, rfl, hC.1.2.2.2.2.1 s (by omega), hC.pa ((zFr.rf _ σ).si (by decide) _ _) ?_ (hC.2.1.of (fr 9 (by decide)) (fr 10 (by decide))) (hC.2.2.1.of (fun r hr => fr r (by revert r; decide))), (zLw.rf σ).si (by decide) _ _⟩
      obtain ⟨a1, a2, a3, a4, a5, a6, a7, a8⟩ := hC.1
      refine ⟨?_, fun j hj => ?_, fun j hj => ?_, fun j hj => ?_, ?_, fun j hj => ?_, fun j hj => ?_, fun j hj => ?_⟩
      · rw [fr 1 (by decide)]; exact a1
      · rw [fr 2 (by decide)]; exact a2 j hj
      · rw [fr 3 (by decide)]; exact a3 j hj
      · rw [fr 4 (by decide)]; exact a4 j hj
      · rw [zSI_s]; exact upd_n (fun i hi e => a5 i hi)
      · rw [fr 6 (by decide)]; exact a6 j hj
      · rw [fr 7 (by decide)]; exact a7 j hj
      · rw [fr 8 (by decide)]; exact a8 j hj
    · have f := rAt_0.mp hT.1
      refine ze_X12_setWeight (d := 7) _ _ τ (fun X hX => zq_X12_setWeight_0 (d := 6) hX _ _ τ (zIf_t c.1 (zIf_t c.2 ?_)))
      rw [iI_121p]
      refine sp_sets (d := 6) (j := 121 + s) (by omega) ⟨_, rfl, f.2.2.2.2.1 s (by omega), hT.m (rF.wt hv.1 f (fun j hj => ?_) (fun j h1 => ?_)) (fun r hr => zSI_1 hr), (zHg.rf τ).si (by decide) _ _⟩
      · rw [zSI_at]
        by_cases e : j = s
        · rw [if_pos (by omega), e, nU_s]
        · rw [if_neg (by omega), nU_n e]; exact f.2.2.2.2.1 j hj
      · rw [zSI_at, if_neg (by omega)]
  · refine zP_I (v := v) (w := v) (-2) hv hR ?_ (fun τ hT => ?_)
    · exact ze_X11_setWeight (d := 7) _ _ σ (fun X hX => zq_X11_setWeight_0 (d := 6) hX _ _ σ ⟨fun c1 => ⟨fun c2 => absurd ⟨c1, c2⟩ c, fun _ => kNo hC⟩, fun _ => kNo hC⟩)
    · exact ze_X12_setWeight (d := 7) _ _ τ (fun X hX => zq_X12_setWeight_0 (d := 6) hX _ _ τ ⟨fun c1 => ⟨fun c2 => absurd ⟨c1, c2⟩ c, fun _ => rNo hT⟩, fun _ => rNo hT⟩)
theorem pr_clearZones {σ : zS} (g : G σ) : zPair nX11_clearZones nX12_clearZones [] σ := by
  obtain ⟨v, hv, hC, hR⟩ := g
  have ab : aB (aZn (va v) (nU (aS (va v)) 7 0) (azf (va v)) (azl (va v)) (azo (va v))) := hv.1.zn (fun j hj => nU_n hj) (by rw [nU_s]; decide) (fun j hj => by rw [nU_s] at hj; omega)
  refine zP_I (v := v) (w := vA v (aZn (va v) (nU (aS (va v)) 7 0) (azf (va v)) (azl (va v)) (azo (va v)))) (iI (aS (va v) 7)) (hv.a ab) hR ?_ (fun τ hT => ?_)
  · have fr : ∀ r, r ≠ 4 → (zSI σ 4 7 0).1 r = σ.1 r := fun r hr => zSI_1 hr
    refine ze_X11_clearZones (d := 7) σ (fun X hX => zq_X11_clearZones_0 (d := 7) hX σ ⟨_, rfl, hC.1.2.2.2.1 7 (by decide), hC.pa ((zFr.rf _ σ).si (by decide) _ _) ?_ (hC.2.1.of (fr 9 (by decide)) (fr 10 (by decide))) (hC.2.2.1.of (fun r hr => fr r (by revert r; decide))), (zLw.rf σ).si (by decide) _ _⟩)
    obtain ⟨a1, a2, a3, a4, a5, a6, a7, a8⟩ := hC.1
    refine ⟨?_, fun j hj => ?_, fun j hj => ?_, ?_, fun j hj => ?_, fun j hj => absurd hj (Nat.not_lt_zero j), fun j hj => absurd hj (Nat.not_lt_zero j), fun j hj => absurd hj (Nat.not_lt_zero j)⟩
    · rw [fr 1 (by decide)]; exact a1
    · rw [fr 2 (by decide)]; exact a2 j hj
    · rw [fr 3 (by decide)]; exact a3 j hj
    · rw [zSI_s]; exact upd_n (x := 0) (fun i hi e => a4 i hi)
    · rw [fr 5 (by decide)]; exact a5 j hj
  · have f := rAt_0.mp hT.1
    refine ze_X12_clearZones (d := 7) τ (fun X hX => zq_X12_clearZones_0 (d := 6) hX τ (sp_sets (d := 6) (j := 188) (by decide) ⟨_, rfl, f.2.2.2.1 7 (by decide), hT.m ?_ (fun r hr => zSI_1 hr), (zHg.rf τ).si (by decide) _ _⟩))
    have e : ∀ j, j ≠ 188 → (zSI τ 64 188 0).1 64 j = τ.1 64 j := fun j hj => by rw [zSI_at, if_neg (by omega)]
    have c := f.c (g := (zSI τ 64 188 0).1 64) hv.1.1.1 (fun j hj => e j (by omega))
    have w := f.w (g := (zSI τ 64 188 0).1 64) (fun j _ hj => e j (by omega))
    have p := f.p (g := (zSI τ 64 188 0).1 64) (fun j _ hj => e j (by omega))
    refine ⟨c.1, c.2.1, c.2.2, fun j hj => ?_, w, fun j hj => absurd hj (Nat.not_lt_zero j), fun j hj => absurd hj (Nat.not_lt_zero j), fun j hj => absurd hj (Nat.not_lt_zero j), (e 207 (by decide)).trans (am_if (a := va v) f), p⟩
    rw [zSI_at]
    by_cases ej : j = 7
    · rw [if_pos (by omega), ej]; rfl
    · rw [if_neg (by omega)]
      exact (f.2.2.2.1 j hj).trans (congrArg (fun t : Nat => iI (t : Int)) (nU_n ej).symm)
theorem pr_addZone {p q r : Int32} {σ : zS} (g : G σ) : zPair nX11_addZone nX12_addZone [.int p, .int q, .int r] σ := by
  obtain ⟨v, hv, hC, hR⟩ := g
  have z6 : aS (va v) 7 ≤ 6 := hv.1.2.2.2.2.2.2.2.1
  by_cases c : (0 ≤ p ∧ p ≤ 59) ∧ (p ≤ q ∧ q ≤ 59) ∧ -10 ≤ r ∧ r ≤ 10
  · by_cases cz : aS (va v) 7 < 6
    · obtain ⟨s, rfl, _, s2⟩ := rgN (p := p) 0 59 (by decide) (by decide) c.1
      obtain ⟨t, rfl, t1, t2⟩ := rgN (p := q) s 59 (by omega) (by decide) c.2.1
      obtain ⟨o, rfl, o1, o2⟩ := rgZ (p := r) (-10) 10 (by decide) (by decide) (by decide) (by decide) (by rw [← show (-10 : Int32) = iI (-10) from by decide]; exact c.2.2)
      have ab : aB (aZn (va v) (nU (aS (va v)) 7 (aS (va v) 7 + 1)) (nU (azf (va v)) (aS (va v) 7) s) (nU (azl (va v)) (aS (va v) 7) t) (iU (azo (va v)) (aS (va v) 7) o)) := hv.1.zn (fun j hj => nU_n hj) (by rw [nU_s]; omega) (fun j hj => by
        rw [nU_s] at hj
        by_cases e : j = aS (va v) 7
        · rw [e, nU_s, nU_s, iU_s]; omega
        · rw [nU_n e, nU_n e, iU_n e]; exact hv.1.2.2.2.2.2.2.2.2.2.1 j (by omega))
      refine zP_I (v := v) (w := vA v (aZn (va v) (nU (aS (va v)) 7 (aS (va v) 7 + 1)) (nU (azf (va v)) (aS (va v) 7) s) (nU (azl (va v)) (aS (va v) 7) t) (iU (azo (va v)) (aS (va v) 7) o))) (iI ((aS (va v) 7 + 1 : Nat) : Int)) (hv.a ab) hR ?_ (fun τ hT => ?_)
      · have hz := hC.1.2.2.2.1 7 (by decide)
        refine ze_X11_addZone (d := 7) _ _ _ σ (fun X hX => zq_X11_addZone_0 (d := 5) hX _ _ _ σ (zIf_t c.1 (zIf_t c.2.1 (zIf_t c.2.2 (zIf_t ?_ ?_)))))
        · rw [hz, show (6 : Int32) = iI 6 from rfl, iI_lt (by omega) (by omega) (by omega) (by omega)]; omega
        · refine ze_X8_putZone (d := 6) _ _ _ σ (fun X hX => zq_X8_putZone_0 (d := 5) hX _ _ _ σ ⟨rfl, ?_⟩)
          rw [hz, zPt_k (show aS (va v) 7 < zN 6 from cz), zPt_k (show aS (va v) 7 < zN 7 from cz), zPt_k (show aS (va v) 7 < zN 8 from cz), iI_s]
          have fr : ∀ r, r ∉ [4, 6, 7, 8] → (zSI (zSI (zSI (zSI σ 6 (aS (va v) 7) (iI s)) 7 (aS (va v) 7) (iI t)) 8 (aS (va v) 7) (iI o)) 4 7 (iI ((aS (va v) 7 + 1 : Nat) : Int))).1 r = σ.1 r := fun r hr => by
            simp only [List.mem_cons, List.not_mem_nil, not_or, or_false] at hr
            rw [zSI_1 (by omega), zSI_1 (by omega), zSI_1 (by omega), zSI_1 (by omega)]
          refine ⟨_, rfl, by simp [zSI_at], hC.pa ((((((zFr.rf _ σ).si (by decide) _ _).si (by decide) _ _).si (by decide) _ _).si (by decide) _ _)) ?_ (hC.2.1.of (fr 9 (by decide)) (fr 10 (by decide))) (hC.2.2.1.of (fun r hr => fr r (by revert r; decide))), ((((zLw.rf σ).si (by decide) _ _).si (by decide) _ _).si (by decide) _ _).si (by decide) _ _⟩
          obtain ⟨a1, a2, a3, a4, a5, a6, a7, a8⟩ := hC.1
          refine ⟨?_, fun j hj => ?_, fun j hj => ?_, ?_, fun j hj => ?_, fun j hj => ?_, fun j hj => ?_, fun j hj => ?_⟩
          · rw [fr 1 (by decide)]; exact a1
          · rw [fr 2 (by decide)]; exact a2 j hj
          · rw [fr 3 (by decide)]; exact a3 j hj
          · rw [zSI_s, zSI_1 (by decide), zSI_1 (by decide), zSI_1 (by decide)]; exact upd_n (fun i hi e => a4 i hi)
          · rw [fr 5 (by decide)]; exact a5 j hj
          · rw [zSI_1 (by decide), zSI_1 (by decide), zSI_1 (by decide), zSI_s]; exact upd_n (n := aS (va v) 7 + 1) (fun i hi e => a6 i (by omega)) j hj
          · rw [zSI_1 (by decide), zSI_1 (by decide), zSI_s, zSI_1 (by decide)]; exact upd_n (n := aS (va v) 7 + 1) (fun i hi e => a7 i (by omega)) j hj
          · rw [zSI_1 (by decide), zSI_s, zSI_1 (by decide), zSI_1 (by decide)]; exact upd_i (n := aS (va v) 7 + 1) (fun i hi e => a8 i (by omega)) j hj
      · have f := rAt_0.mp hT.1
        have hz : τ.1 64 188 = iI (aS (va v) 7) := f.2.2.2.1 7 (by decide)
        have e0 : (189 : Int32) + 3 * iI (aS (va v) 7 : Int) = iI ((189 + 3 * aS (va v) 7 : Nat) : Int) := by
          rw [show (3 : Int32) = iI 3 from rfl, show (189 : Int32) = iI 189 from rfl, iI_mul, iI_add]
          exact congrArg iI (by omega)
        have e2 : iI ((189 + 3 * aS (va v) 7 : Nat) : Int) + 2 = iI ((189 + 3 * aS (va v) 7 + 2 : Nat) : Int) := by
          rw [show (2 : Int32) = iI 2 from rfl, iI_add]; exact congrArg iI (by omega)
        refine ze_X12_addZone (d := 7) _ _ _ τ (fun X hX => zq_X12_addZone_0 (d := 6) hX _ _ _ τ (zIf_t c.1 (zIf_t c.2.1 (zIf_t c.2.2 (zIf_f ?_ ?_)))))
        · rw [hz, show (6 : Int32) = iI 6 from rfl, iI_eq (by omega) (by omega) (by omega) (by omega)]; omega
        · rw [hz, e0, iI_s, e2, iI_k (by omega), iI_k (by omega), iI_k (by omega)]
          have e188 : (zSI (zSI (zSI τ 64 (189 + 3 * aS (va v) 7) (iI s)) 64 (189 + 3 * aS (va v) 7 + 1) (iI t)) 64 (189 + 3 * aS (va v) 7 + 2) (iI o)).1 64 188 = iI (aS (va v) 7) := by
            rw [zSI_at, if_neg (by omega), zSI_at, if_neg (by omega), zSI_at, if_neg (by omega)]; exact hz
          rw [e188, iI_s]
          refine ⟨vin_k (by show 189 + 3 * aS (va v) 7 < 268; omega) (by decide), vin_k (by show 189 + 3 * aS (va v) 7 + 1 < 268; omega) (by decide), vin_k (by show 189 + 3 * aS (va v) 7 + 2 < 268; omega) (by decide), _, rfl, rfl, hT.m ?_ (fun r hr => ?_), ?_⟩
          · have e : ∀ j, j < 188 ∨ 206 < j → (zSI (zSI (zSI (zSI τ 64 (189 + 3 * aS (va v) 7) (iI s)) 64 (189 + 3 * aS (va v) 7 + 1) (iI t)) 64 (189 + 3 * aS (va v) 7 + 2) (iI o)) 64 188 (iI ((aS (va v) 7 + 1 : Nat) : Int))).1 64 j = τ.1 64 j := fun j hj => by
              rw [zSI_at, if_neg (by omega), zSI_at, if_neg (by omega), zSI_at, if_neg (by omega), zSI_at, if_neg (by omega)]
            have c := f.c (g := (zSI (zSI (zSI (zSI τ 64 (189 + 3 * aS (va v) 7) (iI s)) 64 (189 + 3 * aS (va v) 7 + 1) (iI t)) 64 (189 + 3 * aS (va v) 7 + 2) (iI o)) 64 188 (iI ((aS (va v) 7 + 1 : Nat) : Int))).1 64) hv.1.1.1 (fun j hj => e j (by omega))
            refine ⟨c.1, c.2.1, c.2.2, fun j hj => ?_, fun j hj => ?_, fun j hj => ?_, fun j hj => ?_, fun j hj => ?_, (e 207 (by omega)).trans (am_if (a := va v) f), fun j hj => (e _ (by omega)).trans (f.2.2.2.2.2.2.2.2.2 j hj)⟩
            · by_cases ej : j = 7
              · rw [zSI_at, if_pos (by omega), ej]; show iI _ = iI (nU (aS (va v)) 7 (aS (va v) 7 + 1) 7 : Nat); rw [nU_s]
              · exact ((e _ (by omega)).trans (f.2.2.2.1 j hj)).trans (congrArg (fun t : Nat => iI (t : Int)) (nU_n ej).symm)
            · exact (e _ (by omega)).trans (f.2.2.2.2.1 j hj)
            · have hj2 : j < aS (va v) 7 + 1 := hj
              rw [zSI_at, if_neg (by omega), zSI_at, if_neg (by omega), zSI_at, if_neg (by omega), zSI_at]
              by_cases ej : j = aS (va v) 7
              · rw [if_pos (by omega), ej]; exact congrArg (fun t : Nat => iI (t : Int)) (nU_s _ _ _).symm
              · rw [if_neg (by omega)]; exact (f.2.2.2.2.2.1 j (by omega)).trans (congrArg (fun t : Nat => iI (t : Int)) (nU_n ej).symm)
            · have hj2 : j < aS (va v) 7 + 1 := hj
              rw [zSI_at, if_neg (by omega), zSI_at, if_neg (by omega), zSI_at]
              by_cases ej : j = aS (va v) 7
              · rw [if_pos (by omega), ej]; exact congrArg (fun t : Nat => iI (t : Int)) (nU_s _ _ _).symm
              · rw [if_neg (by omega), zSI_at, if_neg (by omega)]; exact (f.2.2.2.2.2.2.1 j (by omega)).trans (congrArg (fun t : Nat => iI (t : Int)) (nU_n ej).symm)
            · have hj2 : j < aS (va v) 7 + 1 := hj
              rw [zSI_at, if_neg (by omega), zSI_at]
              by_cases ej : j = aS (va v) 7
              · rw [if_pos (by omega), ej]; exact congrArg iI (iU_s _ _ _).symm
              · rw [if_neg (by omega), zSI_at, if_neg (by omega), zSI_at, if_neg (by omega)]; exact (f.2.2.2.2.2.2.2.1 j (by omega)).trans (congrArg iI (iU_n ej).symm)
          · rw [zSI_1 hr, zSI_1 hr, zSI_1 hr, zSI_1 hr]
          · exact ((((zHg.rf τ).si (by decide) _ _).si (by decide) _ _).si (by decide) _ _).si (by decide) _ _
    · have e : aS (va v) 7 = 6 := by omega
      refine zP_I (v := v) (w := v) (-4) hv hR ?_ (fun τ hT => ?_)
      · exact ze_X11_addZone (d := 7) _ _ _ σ (fun X hX => zq_X11_addZone_0 (d := 5) hX _ _ _ σ (zIf_t c.1 (zIf_t c.2.1 (zIf_t c.2.2 (zIf_f (by rw [hC.1.2.2.2.1 7 (by decide), e]; decide) (kNo hC))))))
      · exact ze_X12_addZone (d := 7) _ _ _ τ (fun X hX => zq_X12_addZone_0 (d := 6) hX _ _ _ τ (zIf_t c.1 (zIf_t c.2.1 (zIf_t c.2.2 (zIf_t (by have := (rAt_0.mp hT.1).2.2.2.1 7 (by decide); rw [e] at this; exact this) (rNo hT))))))
  · refine zP_I (v := v) (w := v) (-2) hv hR ?_ (fun τ hT => ?_)
    · exact ze_X11_addZone (d := 7) _ _ _ σ (fun X hX => zq_X11_addZone_0 (d := 5) hX _ _ _ σ ⟨fun c1 => ⟨fun c2 => ⟨fun c3 => absurd ⟨c1, c2, c3⟩ c, fun _ => kNo hC⟩, fun _ => kNo hC⟩, fun _ => kNo hC⟩)
    · exact ze_X12_addZone (d := 7) _ _ _ τ (fun X hX => zq_X12_addZone_0 (d := 6) hX _ _ _ τ ⟨fun c1 => ⟨fun c2 => ⟨fun c3 => absurd ⟨c1, c2, c3⟩ c, fun _ => rNo hT⟩, fun _ => rNo hT⟩, fun _ => rNo hT⟩)
