/-! the law makes its clip, and tells it to the component -/
theorem iI_1p (k : Nat) : (1 : Int32) + iI (k : Int) = iI ((1 + k : Nat) : Int) := by rw [show (1 : Int32) = iI ((1 : Nat) : Int) from rfl, iI_kk]
theorem sp_cell {d j L : Nat} {xs : Nat → Int32} {σ : zS} {k : Int32 → zS → Prop} (hL : L ≤ 260) (hj : j < 1000) (hk : ∀ x, k x σ) : zCallS (some (L, xs)) (d + 1) nL_cell [.ref 80, .int (iI j)] σ (zPI k) := by
  refine ze_L_cell _ σ (fun X hX => zq_L_cell_0 (d := d) hX _ σ ⟨fun z => ⟨?_, _, rfl, hk _⟩, fun z => ⟨_, rfl, hk _⟩⟩)
  rw [iI_n, iI_lt (by omega) (by omega) (by omega) (by omega)] at z
  exact vin_k (by omega) (by omega)
theorem sp_low {d m : Nat} {x : Int32} {σ : zS} {k : Int32 → zS → Prop} (h0 : 0 < m) (hm : m < 2147483648) (hk : ∀ r : Nat, r < m → k (iI r) σ) : zCall (d + 1) nL_low [.int x, .int (iI m)] σ (zPI k) := by
  obtain ⟨y, hy, e⟩ := lAnd31 x
  refine ze_L_low _ _ σ (fun X hX => zq_L_low_0 (d := d) hX _ _ σ ⟨?_, _, rfl, ?_⟩)
  · rw [show (0 : Int32) = iI 0 from rfl, iI_eq (by omega) (by omega) (by omega) (by omega)]; omega
  · rw [e, iI_rem (by omega) (by omega) (by omega) (by omega), ← Int.natCast_emod]
    exact hk _ (Nat.mod_lt _ h0)
/-- the law's numbers beside the component's: the clip has n frames in the end -/
def GP (σ : zS) (b : mA) (n : Nat) : Prop := KI σ b ∧ σ.1 63 36 = iI n ∧ σ.1 63 37 = iI (aS b 0) ∧ σ.1 63 38 = iI (aS b 1)
def GA (σ : zS) (b : mA) (n : Nat) : Prop := GP σ b n ∧ (∀ i, i < an b → σ.1 63 i = iI (atx b i)) ∧ (∀ i, i < an b → σ.1 63 (18 + i) = iI (amo b i)) ∧ ∀ j, j < 18 → σ.1 63 (40 + j) = iI (aw b j)
theorem GA.L {σ : zS} {b : mA} {n : Nat} (h : GA σ b n) (e : an b = n) : LA σ b := ⟨by rw [e]; exact h.1.2.1, h.1.2.2.1, h.1.2.2.2, h.2.1, h.2.2.1, h.2.2.2⟩
section GW
variable {d L n : Nat} {xs : Nat → Int32} {x : Int32} {post : zPo} {X : zX}
theorem gw_254 (hX : zClosed (some (L, xs)) (zCallS (some (L, xs)) (d + 6)) post nL_grows X) (hn : n ≤ 12) {b : mA} {i t m : Nat} {σ : zS} (hi : i < n) (hb : an b = i) (hG : GA σ b n) (t1 : 1 ≤ t) (t2 : t ≤ 4000) (m2 : m ≤ 4000) {c : Nat}
    (h : ∀ τ, GA τ (aClip b (i + 1) (nU (atx b) i t) (nU (amo b) i m)) n → X 105 [some (.ref 0), some (.ref 63), some (.ref 80), some (.int 0), some (.int x), some (.int 1), some (.int (iI ((i + 1 : Nat) : Int))), none] [] τ) :
    X 254 [some (.ref 0), some (.ref 63), some (.ref 80), some (.int 0), some (.int x), some (.int 1), some (.int (iI i)), none] [.int (iI m), .int (18 + iI i), .ref 63] (zSI (zSI σ 63 i (iI t)) 63 (18 + i) (iI c)) := by
  obtain ⟨⟨gK, g36, g37, g38⟩, gt, gm, gw⟩ := hG
  have row : ∀ j, (zSI (zSI (zSI σ 63 i (iI t)) 63 (18 + i) (iI c)) 63 (18 + i) (iI m)).1 63 j = if j = 18 + i then iI m else if j = i then iI t else σ.1 63 j := fun j => by
    rw [zSI_at, zSI_at, zSI_at]
    by_cases e1 : j = 18 + i
    · rw [if_pos ⟨rfl, e1⟩, if_pos e1]
    · rw [if_neg (fun z => e1 z.2), if_neg (fun z => e1 z.2), if_neg e1]
      by_cases e2 : j = i
      · rw [if_pos ⟨rfl, e2⟩, if_pos e2]
      · rw [if_neg (fun z => e2 z.2), if_neg e2]
  refine zq_L_grows_254 hX _ _ _ _ _ _ _ ?_
  rw [iI_18p, iI_k (by omega), iI_k (by omega), row, row, if_neg (by omega), if_pos rfl, if_pos rfl]
  refine ⟨vin_a (by omega), zIf_f (by decide) ⟨vin_a (by omega), vin_a (by omega), zUp ?_⟩⟩
  refine c_append (d := d) (a := b) (gK.hg ((((zHg.rf σ).si (by decide) _ _).si (by decide) _ _).si (by decide) _ _)) (by omega) t1 t2 m2 (fun τ hT hw => ?_)
  rw [hb] at hT ⊢
  have r63 := hw 63 (by decide)
  refine zIf_t rfl (zq_L_grows_285 hX _ _ _ _ _ ?_)
  rw [iI_s]
  refine h τ ⟨⟨hT, ?_, ?_, ?_⟩, fun j hj => ?_, fun j hj => ?_, fun j hj => ?_⟩
  · rw [r63, row, if_neg (by omega), if_neg (by omega)]; exact g36
  · rw [r63, row, if_neg (by omega), if_neg (by omega)]; exact g37
  · rw [r63, row, if_neg (by omega), if_neg (by omega)]; exact g38
  · have hj : j < i + 1 := hj
    show τ.1 63 j = iI (nU (atx b) i t j : Nat)
    rw [r63, row, if_neg (by omega)]
    by_cases e : j = i
    · rw [if_pos e, e, nU_s]
    · rw [if_neg e, nU_n e]; exact gt j (by omega)
  · have hj : j < i + 1 := hj
    show τ.1 63 (18 + j) = iI (nU (amo b) i m j : Nat)
    rw [r63, row]
    by_cases e : j = i
    · rw [if_pos (by omega), e, nU_s]
    · rw [if_neg (by omega), if_neg (by omega), nU_n e]; exact gm j (by omega)
  · show τ.1 63 (40 + j) = iI (aw b j : Nat)
    rw [r63, row, if_neg (by omega), if_neg (by omega)]
    exact gw j hj
theorem gw_221 (hX : zClosed (some (L, xs)) (zCallS (some (L, xs)) (d + 6)) post nL_grows X) (hn : n ≤ 12) {b : mA} {i t c : Nat} {σ : zS} (hi : i < n) (hb : an b = i) (hG : GA σ b n) (t1 : 1 ≤ t) (t2 : t ≤ 4000) (c2 : c ≤ 10000)
    (h : ∀ m τ, m ≤ 4000 → GA τ (aClip b (i + 1) (nU (atx b) i t) (nU (amo b) i m)) n → X 105 [some (.ref 0), some (.ref 63), some (.ref 80), some (.int 0), some (.int x), some (.int 1), some (.int (iI ((i + 1 : Nat) : Int))), none] [] τ) :
    X 221 [some (.ref 0), some (.ref 63), some (.ref 80), some (.int 0), some (.int x), some (.int 1), some (.int (iI i)), none] [.int (iI c), .int (18 + iI i), .ref 63] (zSI σ 63 i (iI t)) := by
  refine zq_L_grows_221 hX _ _ _ _ _ _ _ ?_
  have e : (zSI (zSI σ 63 i (iI t)) 63 (18 + i) (iI c)).1 63 (18 + i) = iI c := by rw [zSI_at, if_pos ⟨rfl, rfl⟩]
  have e18 := iI_18p i
  have go : ∀ m : Nat, m ≤ 4000 → X 254 [some (.ref 0), some (.ref 63), some (.ref 80), some (.int 0), some (.int x), some (.int 1), some (.int (iI i)), none] [.int (iI m), .int (18 + iI i), .ref 63] (zSI (zSI σ 63 i (iI t)) 63 (18 + i) (iI c)) := fun m hm => gw_254 (d := d) hX hn hi hb hG t1 t2 hm (fun τ hT => h m τ hm hT)
  have en : Int32.toNatClampNeg (18 + iI (i : Int)) = 18 + i := by rw [e18, iI_k (by omega)]
  have ev : vp_in (18 + iI (i : Int)) (zN 63) := by rw [e18]; exact vin_a (by omega)
  rw [en, e]
  refine ⟨ev, ev, fun z => go c ?_, fun z => go 4000 (by decide)⟩
  rw [show (4000 : Int32) = iI 4000 from rfl, iI_le (by omega) (by omega) (by omega) (by omega)] at z
  omega
theorem gw_153 (hX : zClosed (some (L, xs)) (zCallS (some (L, xs)) (d + 6)) post nL_grows X) (hn : n ≤ 12) {b : mA} {i c : Nat} {y : Int32} {σ : zS} (hi : i < n) (hb : an b = i) (hG : GA σ b n) (c1 : 1 ≤ c) (c2 : c ≤ 4000)
    (h : ∀ t m τ, 1 ≤ t → t ≤ 4000 → m ≤ 4000 → GA τ (aClip b (i + 1) (nU (atx b) i t) (nU (amo b) i m)) n → X 105 [some (.ref 0), some (.ref 63), some (.ref 80), some (.int 0), some (.int x), some (.int 1), some (.int (iI ((i + 1 : Nat) : Int))), none] [] τ) :
    X 153 [some (.ref 0), some (.ref 63), some (.ref 80), some (.int 0), some (.int x), some (.int 1), some (.int (iI i)), some (.int y)] [.int (iI c), .int y, .int 1, .int (iI i), .ref 63] σ := by
  refine zq_L_grows_153 hX _ _ _ _ _ _ _ _ _ σ (zUp (sp_low (d := d + 5) c1 (by omega) (fun r hr => ⟨vin_a (by omega), ?_⟩)))
  rw [iI_k (by omega), iI_1p]
  have e : (zSI σ 63 i (iI ((1 + r : Nat) : Int))).1 63 i = iI ((1 + r : Nat) : Int) := by rw [zSI_at, if_pos ⟨rfl, rfl⟩]
  have go : ∀ c' : Nat, c' ≤ 10000 → X 221 [some (.ref 0), some (.ref 63), some (.ref 80), some (.int 0), some (.int x), some (.int 1), some (.int (iI i)), none] [.int (iI c'), .int (18 + iI i), .ref 63] (zSI σ 63 i (iI ((1 + r : Nat) : Int))) := fun c' hc => gw_221 (d := d) (t := 1 + r) hX hn hi hb hG (by omega) (by omega) hc (fun m τ hm hT => h (1 + r) m τ (by omega) (by omega) hm hT)
  refine zUp (sp_low (d := d + 5) (m := 5) (by decide) (by decide) (fun r2 hr2 => ?_))
  rw [e, show (2 : Int32) = iI 2 from rfl, iI_mul, show (3 : Int32) = iI 3 from rfl, iI_mul, iI_divN (by omega) (by omega) (by omega) (by omega), show (1 : Int32) = iI 1 from rfl, iI_add]
  refine ⟨fun z => ⟨vin_a (by omega), fun z2 => ?_, fun z2 => go 4000 (by decide)⟩, fun z => ⟨vin_a (by omega), zUp ?_⟩⟩
  · have := go (2 * (1 + r)) (by omega)
    rw [show (((2 * (1 + r) : Nat)) : Int) = 2 * ((1 + r : Nat) : Int) by omega] at this
    exact this
  · rw [show (3 * ((1 + r : Nat) : Int) / 2 + 1) = ((3 * (1 + r) / 2 + 1 : Nat) : Int) by omega]
    exact sp_low (d := d + 5) (by omega) (by omega) (fun r3 hr3 => go r3 (by omega))
theorem gw_loop (hX : zClosed (some (L, xs)) (zCallS (some (L, xs)) (d + 6)) post nL_grows X) (hL : L ≤ 260) (hn : n ≤ 12) (h : ∀ τ b, GA τ b n → an b = n → (∀ j, j < 60 → aw b j = 4) → X 293 [some (.ref 0), some (.ref 63), none, none, some (.int x), some (.int 1), none, none] [] τ) : ∀ (m i : Nat) (σ : zS) (b : mA), i + m = n → an b = i → GA σ b n → (∀ j, j < 60 → aw b j = 4) → X 105 [some (.ref 0), some (.ref 63), some (.ref 80), some (.int 0), some (.int x), some (.int 1), some (.int (iI i)), none] [] σ
  | 0, i, σ, b, hm, hb, hG, hw => by
    refine zq_L_grows_105 hX _ _ _ _ σ (zIf_f ?_ (h σ b hG (by omega) hw))
    rw [hG.1.2.1, iI_lt (by omega) (by omega) (by omega) (by omega)]; omega
  | m + 1, i, σ, b, hm, hb, hG, hw => by
    have go : ∀ (c : Nat) (y : Int32), 1 ≤ c → c ≤ 4000 → X 153 [some (.ref 0), some (.ref 63), some (.ref 80), some (.int 0), some (.int x), some (.int 1), some (.int (iI i)), some (.int y)] [.int (iI c), .int y, .int 1, .int (iI i), .ref 63] σ := fun c y c1 c2 =>
      gw_153 (d := d) hX hn (show i < n by omega) hb hG c1 c2 (fun t u τ _ _ _ hT => gw_loop hX hL hn h m (i + 1) τ _ (by omega) rfl hT hw)
    refine zq_L_grows_105 hX _ _ _ _ σ (zIf_t ?_ ?_)
    · rw [hG.1.2.1, iI_lt (by omega) (by omega) (by omega) (by omega)]; omega
    · have e : (0 : Int32) + 1 + iI (i : Int) = iI ((1 + i : Nat) : Int) := iI_1p i
      rw [e]
      exact sp_cell (d := d + 5) hL (by omega) (fun y => zUp (sp_low (d := d + 5) (m := 4) (by decide) (by decide) (fun r hr => ⟨fun _ => go 4000 y (by decide) (by decide), fun _ => go 400 y (by decide) (by decide)⟩)))
theorem w4_loop (hX : zClosed (some (L, xs)) (zCallS (some (L, xs)) (d + 6)) post nL_grows X) {b : mA} (h : ∀ τ, GP τ b n → (∀ j, j < 18 → τ.1 63 (40 + j) = 4) → X 105 [some (.ref 0), some (.ref 63), some (.ref 80), some (.int 0), some (.int x), some (.int 1), some (.int 0), none] [] τ) : ∀ (m j : Nat) (σ : zS), j + m = 18 → GP σ b n → (∀ k, k < j → σ.1 63 (40 + k) = 4) → X 81 [some (.ref 0), some (.ref 63), some (.ref 80), some (.int 0), some (.int x), some (.int 1), some (.int (iI j)), none] [] σ
  | 0, j, σ, hm, hG, hw => by
    refine zq_L_grows_81 hX _ _ _ _ σ (zIf_f ?_ (h σ hG (fun k hk => hw k (by omega))))
    rw [show (18 : Int32) = iI 18 from rfl, iI_lt (by omega) (by omega) (by omega) (by omega)]; omega
  | m + 1, j, σ, hm, hG, hw => by
    refine zq_L_grows_81 hX _ _ _ _ σ (zIf_t ?_ ?_)
    · rw [show (18 : Int32) = iI 18 from rfl, iI_lt (by omega) (by omega) (by omega) (by omega)]; omega
    · rw [iI_40p, iI_k (by omega), iI_s]
      refine ⟨vin_a (by omega), w4_loop hX h m (j + 1) _ (by omega) ⟨hG.1.hg ((zHg.rf σ).si (by decide) _ _), ?_, ?_, ?_⟩ (fun k hk => ?_)⟩
      · rw [zSI_at, if_neg (by omega)]; exact hG.2.1
      · rw [zSI_at, if_neg (by omega)]; exact hG.2.2.1
      · rw [zSI_at, if_neg (by omega)]; exact hG.2.2.2
      · rw [zSI_at]
        by_cases e : k = j
        · rw [if_pos ⟨rfl, by omega⟩]
        · rw [if_neg (by omega)]; exact hw k (by omega)
end GW
theorem sp_grows {d L : Nat} {xs : Nat → Int32} {a : mA} {σ : zS} {k : Int32 → zS → Prop} (hL : L ≤ 260) (hK : KI σ a) (h0 : an a = 0) (hs0 : aS a 0 = 12) (hs1 : aS a 1 = 2) (hw : ∀ j, j < 60 → aw a j = 4) (hk : ∀ τ b, KI τ b → LB b → 0 < an b → LA τ b → k 1 τ) : zCallS (some (L, xs)) (d + 7) nL_grows [.ref 0, .ref 63, .ref 80, .int 0] σ (zPI k) := by
  refine ze_L_grows (d := d + 6) _ σ (fun X hX => zq_L_grows_0 (d := d) hX _ σ (sp_cell (d := d + 5) (j := 0) hL (by decide) (fun x => ?_)))
  refine zUp (sp_low (d := d + 5) (m := 12) (by decide) (by decide) (fun r hr => ?_))
  refine zUp (sp_low (d := d + 5) (m := 9) (by decide) (by decide) (fun r2 hr2 => ?_))
  obtain ⟨br, hbr, ebr⟩ := lAnd3 (x >>> ((8 : Int32) &&& 31))
  rw [ebr, iI_1p, iI_1p]
  have hK2 : KI (zSI (zSI (zSI σ 63 36 (iI ((1 + r : Nat) : Int))) 63 37 (iI ((1 + r2 : Nat) : Int))) 63 38 (iI (br : Int))) a := hK.hg ((((zHg.rf σ).si (by decide) _ _).si (by decide) _ _).si (by decide) _ _)
  refine zUp (c_setInterval (d := d) (t := 1 + r2) hK2 (by omega) (by omega) (fun τ hT lw => zIf_t (by rw [hs0]; rfl) ?_))
  have e38 : τ.1 63 38 = iI (br : Int) := by rw [lw 63 (by decide), zSI_at, if_pos ⟨rfl, rfl⟩]
  rw [e38]
  refine zUp (c_setBridges (d := d) (t := br) hT hbr (fun υ hU lw2 => zIf_t ?_ ?_))
  · show iI (nU (aS a) 0 (1 + r2) 1 : Nat) = 2
    rw [nU_n (by decide), hs1]; rfl
  · have r63 : υ.1 63 = _ := (lw2 63 (by decide)).trans (lw 63 (by decide))
    refine zq_L_grows_76 hX _ _ _ υ (w4_loop (d := d) (n := 1 + r) hX (fun ω hG hw4 => ?_) 18 0 υ (by decide) ⟨hU, ?_, ?_, ?_⟩ (fun j hj => absurd hj (Nat.not_lt_zero j)))
    · have hb0 : an (aSet (aSet a (nU (aS a) 0 (1 + r2)) false) (nU (aS (aSet a (nU (aS a) 0 (1 + r2)) false)) 1 br) false) = 0 := h0
      refine gw_loop (d := d) (n := 1 + r) hX hL (by omega) (fun ψ b hG2 hb hw2 => ?_) (1 + r) 0 ω (aSet (aSet a (nU (aS a) 0 (1 + r2)) false) (nU (aS (aSet a (nU (aS a) 0 (1 + r2)) false)) 1 br) false) (by omega) hb0 ⟨hG, fun i hi => absurd hi (by rw [hb0]; exact Nat.not_lt_zero i), fun i hi => absurd hi (by rw [hb0]; exact Nat.not_lt_zero i), fun j hj => ?_⟩ hw
      · refine zq_L_grows_293 hX _ _ ψ (zUp (sp_low (d := d + 5) (m := 6) (by decide) (by decide) (fun s hs => zUp (sp_low (d := d + 5) (m := 8) (by decide) (by decide) (fun t ht => ?_)))))
        rw [iI_40p, iI_k (by omega), iI_1p]
        have ee : (zSI ψ 63 (40 + s) (iI ((1 + t : Nat) : Int))).1 63 (40 + s) = iI ((1 + t : Nat) : Int) := by rw [zSI_at, if_pos ⟨rfl, rfl⟩]
        rw [ee]
        refine ⟨vin_a (by omega), zIf_f (by decide) (zUp (c_setWeight (d := d + 4) (a := b) (hG2.1.1.hg ((zHg.rf ψ).si (by decide) _ _)) (by omega) (by omega) (by omega) (fun ω2 hK3 lw3 => zIf_t (by rw [hw2 s (by omega)]; rfl) (zq_L_grows_351 hX _ _ ⟨_, rfl, hk ω2 _ hK3 ⟨hK3.b, ?_⟩ ?_ ⟨?_, ?_, ?_, fun i hi => ?_, fun i hi => ?_, fun j hj => ?_⟩⟩))))⟩
        · show an b ≤ 12
          omega
        · show 0 < an b
          omega
        · rw [lw3 63 (by decide), zSI_at, if_neg (by omega)]
          show ψ.1 63 36 = iI (an b : Nat)
          rw [hb]; exact hG2.1.2.1
        · rw [lw3 63 (by decide), zSI_at, if_neg (by omega)]; exact hG2.1.2.2.1
        · rw [lw3 63 (by decide), zSI_at, if_neg (by omega)]; exact hG2.1.2.2.2
        · have hi : i < an b := hi
          rw [lw3 63 (by decide), zSI_at, if_neg (by omega)]; exact hG2.2.1 i hi
        · have hi : i < an b := hi
          rw [lw3 63 (by decide), zSI_at, if_neg (by omega)]; exact hG2.2.2.1 i hi
        · rw [lw3 63 (by decide), zSI_at]
          show _ = iI (nU (aw b) s (1 + t) j : Nat)
          by_cases e : j = s
          · rw [if_pos ⟨rfl, by omega⟩, e, nU_s]
          · rw [if_neg (by omega), nU_n e]; exact hG2.2.2.2 j hj
      · rw [hw4 j hj]
        show (4 : Int32) = iI (aw a j : Nat)
        rw [hw j (by omega)]; rfl
    · rw [r63, zSI_at, if_neg (by omega), zSI_at, if_neg (by omega), zSI_at, if_pos ⟨rfl, rfl⟩]
    · rw [r63, zSI_at, if_neg (by omega), zSI_at, if_pos ⟨rfl, rfl⟩]; rfl
    · rw [r63, zSI_at, if_pos ⟨rfl, rfl⟩]; rfl
