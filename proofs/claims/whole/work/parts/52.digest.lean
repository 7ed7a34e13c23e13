/-! digest -/
def hF (F : Nat → Int64) : Nat → Int64 → Int64
  | 0, h => h
  | n + 1, h => 31 * hF F n h + F n
def hA (F : Nat → Int64 → Int64) : Nat → Int64 → Int64
  | 0, h => h
  | n + 1, h => F n (hA F n h)
def hfP (v : mV) (f : Nat) (h : Int64) : Int64 := if amd (va v) = true then hF (fun w => (iI (mPn (va v) (aq (va v)) f w)).toInt64) 7 h else h
def hfr (v : mV) (f : Nat) (h : Int64) : Int64 := hfP v f (hF (fun w => (iI (mFr (va v) f w)).toInt64) 8 h)
def hsc (v : mV) (s : Nat) (h : Int64) : Int64 := hF (fun w => (iI (msV (va v) s w)).toInt64) 3 h
def htt (v : mV) (h : Int64) : Int64 := if amd (va v) = true then hF (fun w => lI (mTo (va v) (aq (va v)) w)) 7 h else h
def hD (v : mV) : Int64 := hF (fun i => (iI (vt v i)).toInt64) (vl v) (htt v (hA (hsc v) (mS (mCt (va v)) (an (va v))) (hA (hfr v) (an (va v)) (hF (fun w => (iI (mCo v w)).toInt64) 11 367))))
-- the component
theorem kd168 {d : Nat} {v : mV} {h0 : Int64} {τ : zS} {post : zPo} {X : zX} (hX : zClosed none (zCall (d + 5)) post nX11_digest X) (hv : vB v) (hC : CI τ v) (h : post (some (.long (hF (fun i => (iI (vt v i)).toInt64) (vl v) h0))) τ) : ∀ (m i : Nat), i + m = vl v → X 168 [some (.ref 0), some (.long (hF (fun i => (iI (vt v i)).toInt64) i h0)), none, some (.int (iI i)), none] [] τ
  | 0, i, hm => by
    have e : i = vl v := by omega
    subst e
    refine zq_X11_digest_168 hX _ _ τ (zIf_f ?_ h)
    rw [hC.2.2.2.2.1]; exact Int32.lt_irrefl
  | m + 1, i, hm => by
    have l100 := hv.2.2.2.1
    have lt : iI (i : Int) < τ.1 11 0 := by rw [hC.2.2.2.2.1, iI_lt (by omega) (by omega) (by omega) (by omega)]; omega
    have e : cLt τ (iI i) = iI (vt v i) := by
      unfold cLt
      rw [if_pos lt, zAt_k (show i < zN 15 by show i < 100; omega)]
      exact hC.2.2.2.2.2.1 i (by omega)
    refine zq_X11_digest_168 hX _ _ τ (zIf_t lt ?_)
    rw [e, iI_s]
    exact kd168 hX hv hC h m (i + 1) (by omega)
theorem kd142 {d : Nat} {v : mV} {h0 : Int64} {τ : zS} {post : zPo} {X : zX} (hX : zClosed none (zCall (d + 5)) post nX11_digest X) (hv : vB v) (hC : CI τ v) (hm : amd (va v) = true) (hF' : kCo (va v) (aq (va v)) τ) (hU : τ.1 26 0 = iI (aUn (va v) (aq (va v)))) (h : X 168 [some (.ref 0), some (.long (hF (fun w => lI (mTo (va v) (aq (va v)) w)) 7 h0)), none, some (.int 0), none] [] τ) : ∀ (m i : Nat), i + m = 7 → X 142 [some (.ref 0), some (.long (hF (fun w => lI (mTo (va v) (aq (va v)) w)) i h0)), none, some (.int (iI i)), none] [] τ
  | 0, i, hm2 => by
    have e : i = 7 := by omega
    subst e
    exact zq_X11_digest_142 hX _ _ τ (zIf_f (by decide) h)
  | m + 1, i, hm2 => by
    refine zq_X11_digest_142 hX _ _ τ (zIf_t ?_ ?_)
    · rw [show (7 : Int32) = iI 7 from rfl, iI_lt (by omega) (by omega) (by omega) (by omega)]; omega
    · refine sp_kFt (d := d) hv hC hm hF' hU (by omega) ?_
      rw [iI_s]
      exact kd142 hX hv hC hm hF' hU h m (i + 1) (by omega)
theorem kd97 {d s : Nat} {v : mV} {h0 : Int64} {τ : zS} {post : zPo} {X : zX} (hX : zClosed none (zCall (d + 5)) post nX11_digest X) (hv : vB v) (hC : CI τ v) (hs : s < mS (mCt (va v)) (an (va v))) (h : X 83 [some (.ref 0), some (.long (hsc v s h0)), none, some (.int (iI ((s + 1 : Nat) : Int))), none] [] τ) : ∀ (m i : Nat), i + m = 3 → X 97 [some (.ref 0), some (.long (hF (fun w => (iI (msV (va v) s w)).toInt64) i h0)), none, some (.int (iI s)), some (.int (iI i))] [] τ
  | 0, i, hm2 => by
    have e : i = 3 := by omega
    subst e
    refine zq_X11_digest_97 hX _ _ _ τ (zIf_f (by decide) ?_)
    rw [iI_s]
    exact h
  | m + 1, i, hm2 => by
    refine zq_X11_digest_97 hX _ _ _ τ (zIf_t ?_ ?_)
    · rw [show (3 : Int32) = iI 3 from rfl, iI_lt (by omega) (by omega) (by omega) (by omega)]; omega
    · refine sp_kScene (d := d + 1) hv hC hs (by omega) (fun z => by omega) ?_
      rw [iI_s]
      exact kd97 hX hv hC hs h m (i + 1) (by omega)
theorem kd83 {d : Nat} {v : mV} {h0 : Int64} {τ : zS} {post : zPo} {X : zX} (hX : zClosed none (zCall (d + 5)) post nX11_digest X) (hv : vB v) (hC : CI τ v) (hK : amd (va v) = true → kCo (va v) (aq (va v)) τ ∧ τ.1 26 0 = iI (aUn (va v) (aq (va v)))) (h : X 168 [some (.ref 0), some (.long (htt v (hA (hsc v) (mS (mCt (va v)) (an (va v))) h0))), none, some (.int 0), none] [] τ) : ∀ (m i : Nat), i + m = mS (mCt (va v)) (an (va v)) → X 83 [some (.ref 0), some (.long (hA (hsc v) i h0)), none, some (.int (iI i)), none] [] τ
  | 0, i, hm2 => by
    have e : i = mS (mCt (va v)) (an (va v)) := by omega
    subst e
    refine zq_X11_digest_83 hX _ _ τ (zIf_f ?_ ?_)
    · rw [hC.2.2.1.2.1]; exact Int32.lt_irrefl
    · unfold htt at h
      cases hm : amd (va v) with
      | false =>
        rw [if_neg (by rw [hm]; decide)] at h
        exact zIf_t (hC.2.1.m.mpr hm) h
      | true =>
        rw [if_pos hm] at h
        obtain ⟨k1, k2⟩ := hK hm
        exact zIf_f (sl_n hC.2.1.1 hm) (kd142 hX hv hC hm k1 k2 h 7 0 rfl)
  | m + 1, i, hm2 => by
    have h60 := hv.1.n60
    have hs60 : mS (mCt (va v)) (an (va v)) ≤ an (va v) := mS_le _ _
    refine zq_X11_digest_83 hX _ _ τ (zIf_t ?_ ?_)
    · rw [hC.2.2.1.2.1]; show iI _ < iI (mS (mCt (va v)) (an (va v)) : Nat); rw [iI_lt (by omega) (by omega) (by omega) (by omega)]; omega
    · exact kd97 hX hv hC (by omega) (kd83 hX hv hC hK h m (i + 1) (by omega)) 3 0 rfl
theorem kh49 {d f : Nat} {v : mV} {h0 : Int64} {τ : zS} {post : zPo} {X : zX} (hX : zClosed none (zCall (d + 4)) post nX11_hashFrame X) (hv : vB v) (hC : CI τ v) (hm : amd (va v) = true) (hF' : kCo (va v) (aq (va v)) τ) (hf : f < an (va v)) (h : post (some (.long (hF (fun w => (iI (mPn (va v) (aq (va v)) f w)).toInt64) 7 h0))) τ) : ∀ (m i : Nat), i + m = 7 → X 49 [some (.ref 0), none, none, some (.int (iI f)), some (.long (hF (fun w => (iI (mPn (va v) (aq (va v)) f w)).toInt64) i h0)), none, some (.int (iI i))] [] τ
  | 0, i, hm2 => by
    have e : i = 7 := by omega
    subst e
    exact zq_X11_hashFrame_49 hX _ _ _ τ (zIf_f (by decide) h)
  | m + 1, i, hm2 => by
    refine zq_X11_hashFrame_49 hX _ _ _ τ (zIf_t ?_ ?_)
    · rw [show (7 : Int32) = iI 7 from rfl, iI_lt (by omega) (by omega) (by omega) (by omega)]; omega
    · refine sp_kFf (d := d) hv hC hm hF' hf (by omega) ?_
      rw [iI_s]
      exact kh49 hX hv hC hm hF' hf h m (i + 1) (by omega)
theorem kh6 {d f : Nat} {v : mV} {h0 : Int64} {τ : zS} {post : zPo} {X : zX} (hX : zClosed none (zCall (d + 4)) post nX11_hashFrame X) (hv : vB v) (hC : CI τ v) (hK : amd (va v) = true → kCo (va v) (aq (va v)) τ) (hf : f < an (va v)) (h : post (some (.long (hfr v f h0))) τ) : ∀ (m i : Nat), i + m = 8 → X 6 [some (.ref 0), none, none, some (.int (iI f)), some (.long (hF (fun w => (iI (mFr (va v) f w)).toInt64) i h0)), none, some (.int (iI i))] [] τ
  | 0, i, hm2 => by
    have e : i = 8 := by omega
    subst e
    refine zq_X11_hashFrame_6 hX _ _ _ τ (zIf_f (by decide) ?_)
    unfold hfr hfP at h
    cases hm : amd (va v) with
    | false =>
      rw [if_neg (by rw [hm]; decide)] at h
      exact zIf_t (hC.2.1.m.mpr hm) h
    | true =>
      rw [if_pos hm] at h
      exact zIf_f (sl_n hC.2.1.1 hm) (kh49 hX hv hC hm (hK hm) hf h 7 0 rfl)
  | m + 1, i, hm2 => by
    refine zq_X11_hashFrame_6 hX _ _ _ τ (zIf_t ?_ ?_)
    · rw [show (8 : Int32) = iI 8 from rfl, iI_lt (by omega) (by omega) (by omega) (by omega)]; omega
    · refine sp_kFrame (d := d + 1) hv.1 hC.1 hC.2.2.1 hf (by omega) ?_
      rw [iI_s]
      exact kh6 hX hv hC hK hf h m (i + 1) (by omega)
theorem kd57 {d : Nat} {v : mV} {h0 : Int64} {τ : zS} {post : zPo} {X : zX} (hX : zClosed none (zCall (d + 5)) post nX11_digest X) (hv : vB v) (hC : CI τ v) (hK : amd (va v) = true → kCo (va v) (aq (va v)) τ) (h : X 83 [some (.ref 0), some (.long (hA (hfr v) (an (va v)) h0)), none, some (.int 0), none] [] τ) : ∀ (m i : Nat), i + m = an (va v) → X 57 [some (.ref 0), some (.long (hA (hfr v) i h0)), none, some (.int (iI i)), none] [] τ
  | 0, i, hm2 => by
    have e : i = an (va v) := by omega
    subst e
    refine zq_X11_digest_57 hX _ _ τ (zIf_f ?_ h)
    rw [hC.1.1]; exact Int32.lt_irrefl
  | m + 1, i, hm2 => by
    have h60 := hv.1.n60
    refine zq_X11_digest_57 hX _ _ τ (zIf_t ?_ ?_)
    · rw [hC.1.1, iI_lt (by omega) (by omega) (by omega) (by omega)]; omega
    · refine ze_X11_hashFrame (d := d + 4) _ _ τ (fun Y hY => zq_X11_hashFrame_0 (d := d) hY _ _ τ ?_)
      refine kh6 (d := d) (f := i) (h0 := hA (hfr v) i h0) hY hv hC hK (by omega) ⟨_, rfl, ?_⟩ 8 0 rfl
      show X 57 [some (.ref 0), some (.long (hA (hfr v) (i + 1) h0)), none, some (.int (iI i + 1)), none] [] τ
      rw [iI_s]
      exact kd57 hX hv hC hK h m (i + 1) (by omega)
theorem kd6 {d : Nat} {v : mV} {h0 : Int64} {τ : zS} {post : zPo} {X : zX} (hX : zClosed none (zCall (d + 5)) post nX11_digest X) (hC : CI τ v) (h : zIf ((τ.1 9 0) = 0) (X 57 [some (.ref 0), some (.long (hF (fun w => (iI (mCo v w)).toInt64) 11 h0)), none, some (.int 0), none] [] τ) (zCall (d + 5) nX1_follow [.ref 26, .ref 10] τ (zPV fun σ3 => X 57 [some (.ref 0), some (.long (hF (fun w => (iI (mCo v w)).toInt64) 11 h0)), none, some (.int 0), none] [] σ3))) : ∀ (m i : Nat), i + m = 11 → X 6 [some (.ref 0), some (.long (hF (fun w => (iI (mCo v w)).toInt64) i h0)), none, some (.int (iI i)), none] [] τ
  | 0, i, hm2 => by
    have e : i = 11 := by omega
    subst e
    exact zq_X11_digest_6 hX _ _ τ (zIf_f (by decide) h)
  | m + 1, i, hm2 => by
    refine zq_X11_digest_6 hX _ _ τ (zIf_t ?_ ?_)
    · rw [show (11 : Int32) = iI 11 from rfl, iI_lt (by omega) (by omega) (by omega) (by omega)]; omega
    · refine sp_kCount (d := d + 4) hC (show i ≤ 10 by omega) ?_
      rw [iI_s]
      exact kd6 hX hC h m (i + 1) (by omega)
theorem sp_kDigest {d : Nat} {v : mV} {σ : zS} {k : Int64 → zS → Prop} (hv : vB v) (hC : CI σ v) (h : ∀ τ, CI τ v → zLw σ τ → k (hD v) τ) : zCall (d + 6) nX11_digest [.ref 0] σ (zPJ k) := by
  refine ze_X11_digest σ (fun X hX => zq_X11_digest_0 hX σ (kd6 (h0 := 367) hX hC ?_ 11 0 rfl))
  have fin : ∀ τ, CI τ v → zLw σ τ → (amd (va v) = true → kCo (va v) (aq (va v)) τ ∧ τ.1 26 0 = iI (aUn (va v) (aq (va v)))) → X 57 [some (.ref 0), some (.long (hF (fun w => (iI (mCo v w)).toInt64) 11 367)), none, some (.int 0), none] [] τ := fun τ c lw hK =>
    kd57 hX hv c (fun z => (hK z).1) (kd83 hX hv c hK (kd168 hX hv c ⟨_, rfl, h τ c lw⟩ (vl v) 0 (by omega)) (mS (mCt (va v)) (an (va v))) 0 (by omega)) (an (va v)) 0 (by omega)
  cases hm : amd (va v) with
  | false => exact zIf_t (hC.2.1.m.mpr hm) (fin σ hC (zLw.rf σ) (fun z => by rw [hm] at z; exact absurd z (by decide)))
  | true => exact zIf_f (sl_n hC.2.1.1 hm) (sp_kFol (d := d) hv hC hm (fun τ f c1 c2 c3 => fin τ c1 (f.lw (by decide)) (fun _ => ⟨c2, c3⟩)))
-- the reference
def rH (v : mV) (σ : zS) (h : Int64) (τ : zS) : Prop := RI τ v ∧ zHg σ τ ∧ τ.2 63 23 = h
theorem sp_mix {d : Nat} {v : mV} {σ τ : zS} {h x : Int64} {k : zS → Prop} (g : rH v σ h τ) (hk : ∀ υ, rH v σ (31 * h + x) υ → k υ) : zCall (d + 1) nX12_mixes [.ref 63, .long x] τ (zPV k) := by
  refine ze_X12_mixes _ τ (fun X hX => zq_X12_mixes_0 hX _ τ ⟨rfl, hk _ ⟨g.1, g.2.1, ?_⟩⟩)
  rw [zSJ_at, if_pos ⟨rfl, rfl⟩, g.2.2]
theorem rH.q {v : mV} {σ τ υ : zS} {h : Int64} (g : rH v σ h τ) (r : RI υ v) (q : zQu τ υ) : rH v σ h υ := ⟨r, g.2.1.tr q.1, by rw [q.2]; exact g.2.2⟩
theorem rd191 {d : Nat} {v : mV} {h0 : Int64} {σ : zS} {post : zPo} {X : zX} (hX : zClosed none (zCall (d + 6)) post nX12_digest X) (hv : vB v) (h : ∀ τ, RI τ v → zHg σ τ → post (some (.long (hF (fun i => (iI (vt v i)).toInt64) (vl v) h0))) τ) : ∀ (m i : Nat) (τ : zS), i + m = vl v → rH v σ (hF (fun i => (iI (vt v i)).toInt64) i h0) τ → X 191 [some (.ref 63), none, some (.int (iI i)), none] [] τ
  | 0, i, τ, hm, g => by
    have e : i = vl v := by omega
    subst e
    refine zq_X12_digest_191 hX _ τ (zIf_f ?_ ?_)
    · rw [g.1.2.1]; exact Int32.lt_irrefl
    · rw [g.2.2]; exact h τ g.1 g.2.1
  | m + 1, i, τ, hm, g => by
    have l100 := hv.2.2.2.1
    have e76 : τ.1 76 i = iI (vt v i) := g.1.2.2.1 i (by omega)
    refine zq_X12_digest_191 hX _ τ (zIf_t ?_ ⟨vin_k (by show i < 100; omega) (by decide), ?_⟩)
    · rw [g.1.2.1, iI_lt (by omega) (by omega) (by omega) (by omega)]; omega
    · rw [iI_k (by omega), e76, iI_s]
      exact sp_mix (d := d + 5) g (fun υ g2 => rd191 hX hv h m (i + 1) υ (by omega) g2)
theorem rd156 {d : Nat} {v : mV} {h0 : Int64} {σ : zS} {post : zPo} {X : zX} (hX : zClosed none (zCall (d + 6)) post nX12_digest X) (hv : vB v) (hm : amd (va v) = true) (h : ∀ τ, rH v σ (hF (fun w => lI (mTo (va v) (aq (va v)) w)) 7 h0) τ → X 191 [some (.ref 63), none, some (.int 0), none] [] τ) : ∀ (m i : Nat) (τ : zS), i + m = 7 → rH v σ (hF (fun w => lI (mTo (va v) (aq (va v)) w)) i h0) τ → X 156 [some (.ref 63), none, some (.int (iI i)), none] [] τ
  | 0, i, τ, hm2, g => by
    have e : i = 7 := by omega
    subst e
    exact zq_X12_digest_156 hX _ τ (zIf_f (by decide) (h τ g))
  | m + 1, i, τ, hm2, g => by
    have e1 : τ.1 64 207 = 1 := by rw [am_if (rAt_0.mp g.1.1), hm]; rfl
    refine zq_X12_digest_156 hX _ τ (zIf_t ?_ (zIf_t e1 ?_))
    · rw [show (7 : Int32) = iI 7 from rfl, iI_lt (by omega) (by omega) (by omega) (by omega)]; omega
    · refine sp_rTotal (d := d) hv g.1 hm (by omega) (fun υ r q => ?_)
      rw [iI_s]
      exact sp_mix (d := d + 5) (g.q r q) (fun ω g2 => rd156 hX hv hm h m (i + 1) ω (by omega) g2)
theorem rd126 {d s : Nat} {v : mV} {h0 : Int64} {σ : zS} {post : zPo} {X : zX} (hX : zClosed none (zCall (d + 6)) post nX12_digest X) (hv : vB v) (hs : s < mS (mCt (va v)) (an (va v))) (h : ∀ τ, rH v σ (hsc v s h0) τ → X 119 [some (.ref 63), some (.int (iI (mS (mCt (va v)) (an (va v))))), some (.int (iI ((s + 1 : Nat) : Int))), none] [] τ) : ∀ (m i : Nat) (τ : zS), i + m = 3 → rH v σ (hF (fun w => (iI (msV (va v) s w)).toInt64) i h0) τ → X 126 [some (.ref 63), some (.int (iI (mS (mCt (va v)) (an (va v))))), some (.int (iI s)), some (.int (iI i))] [] τ
  | 0, i, τ, hm2, g => by
    have e : i = 3 := by omega
    subst e
    refine zq_X12_digest_126 hX _ _ _ τ (zIf_f (by decide) ?_)
    rw [iI_s]
    exact h τ g
  | m + 1, i, τ, hm2, g => by
    refine zq_X12_digest_126 hX _ _ _ τ (zIf_t ?_ ?_)
    · rw [show (3 : Int32) = iI 3 from rfl, iI_lt (by omega) (by omega) (by omega) (by omega)]; omega
    · refine sp_rScene (d := d + 2) hv g.1 hs (by omega) (fun z => by omega) (fun υ r q => ?_)
      rw [iI_s]
      exact sp_mix (d := d + 5) (g.q r q) (fun ω g2 => rd126 hX hv hs h m (i + 1) ω (by omega) g2)
theorem rd119 {d : Nat} {v : mV} {h0 : Int64} {σ : zS} {post : zPo} {X : zX} (hX : zClosed none (zCall (d + 6)) post nX12_digest X) (hv : vB v) (h : ∀ τ, rH v σ (htt v (hA (hsc v) (mS (mCt (va v)) (an (va v))) h0)) τ → X 191 [some (.ref 63), none, some (.int 0), none] [] τ) : ∀ (m i : Nat) (τ : zS), i + m = mS (mCt (va v)) (an (va v)) → rH v σ (hA (hsc v) i h0) τ → X 119 [some (.ref 63), some (.int (iI (mS (mCt (va v)) (an (va v))))), some (.int (iI i)), none] [] τ
  | 0, i, τ, hm2, g => by
    have e : i = mS (mCt (va v)) (an (va v)) := by omega
    subst e
    refine zq_X12_digest_119 hX _ _ τ (zIf_f Int32.lt_irrefl ?_)
    unfold htt at h
    cases hm : amd (va v) with
    | false =>
      rw [if_neg (by rw [hm]; decide)] at h
      have e1 : ¬ τ.1 64 207 = 1 := by rw [am_if (rAt_0.mp g.1.1), hm]; decide
      exact zq_X12_digest_156 hX _ τ (zIf_t (by decide) (zIf_f e1 (h τ g)))
    | true =>
      rw [if_pos hm] at h
      exact rd156 hX hv hm h 7 0 τ rfl g
  | m + 1, i, τ, hm2, g => by
    have h60 := hv.1.n60
    have hs60 : mS (mCt (va v)) (an (va v)) ≤ an (va v) := mS_le _ _
    refine zq_X12_digest_119 hX _ _ τ (zIf_t ?_ ?_)
    · rw [iI_lt (by omega) (by omega) (by omega) (by omega)]; omega
    · exact rd126 hX hv (by omega) (fun υ g2 => rd119 hX hv h m (i + 1) υ (by omega) g2) 3 0 τ rfl g
theorem rd70 {d f : Nat} {v : mV} {h0 : Int64} {σ : zS} {post : zPo} {X : zX} (hX : zClosed none (zCall (d + 6)) post nX12_digest X) (hv : vB v) (hm : amd (va v) = true) (hf : f < an (va v)) (h : ∀ τ, rH v σ (hF (fun w => (iI (mPn (va v) (aq (va v)) f w)).toInt64) 7 h0) τ → X 33 [some (.ref 63), some (.int (iI ((f + 1 : Nat) : Int))), none, none] [] τ) : ∀ (m i : Nat) (τ : zS), i + m = 7 → rH v σ (hF (fun w => (iI (mPn (va v) (aq (va v)) f w)).toInt64) i h0) τ → X 70 [some (.ref 63), some (.int (iI f)), some (.int (iI i)), none] [] τ
  | 0, i, τ, hm2, g => by
    have e : i = 7 := by omega
    subst e
    refine zq_X12_digest_70 hX _ _ τ (zIf_f (by decide) ?_)
    rw [iI_s]
    exact h τ g
  | m + 1, i, τ, hm2, g => by
    have e1 : τ.1 64 207 = 1 := by rw [am_if (rAt_0.mp g.1.1), hm]; rfl
    refine zq_X12_digest_70 hX _ _ τ (zIf_t ?_ (zIf_t e1 ?_))
    · rw [show (7 : Int32) = iI 7 from rfl, iI_lt (by omega) (by omega) (by omega) (by omega)]; omega
    · refine sp_rPlanned (d := d) hv g.1 hm hf (by omega) (fun υ r q => ?_)
      rw [iI_s]
      exact sp_mix (d := d + 5) (g.q r q) (fun ω g2 => rd70 hX hv hm hf h m (i + 1) ω (by omega) g2)
theorem rd45 {d f : Nat} {v : mV} {h0 : Int64} {σ : zS} {post : zPo} {X : zX} (hX : zClosed none (zCall (d + 6)) post nX12_digest X) (hv : vB v) (hf : f < an (va v)) (h : ∀ τ, rH v σ (hfr v f h0) τ → X 33 [some (.ref 63), some (.int (iI ((f + 1 : Nat) : Int))), none, none] [] τ) : ∀ (m i : Nat) (τ : zS), i + m = 8 → rH v σ (hF (fun w => (iI (mFr (va v) f w)).toInt64) i h0) τ → X 45 [some (.ref 63), some (.int (iI f)), some (.int (iI i)), none] [] τ
  | 0, i, τ, hm2, g => by
    have e : i = 8 := by omega
    subst e
    refine zq_X12_digest_45 hX _ _ τ (zIf_f (by decide) ?_)
    unfold hfr hfP at h
    cases hm : amd (va v) with
    | false =>
      rw [if_neg (by rw [hm]; decide)] at h
      have e1 : ¬ τ.1 64 207 = 1 := by rw [am_if (rAt_0.mp g.1.1), hm]; decide
      refine zq_X12_digest_70 hX _ _ τ (zIf_t (by decide) (zIf_f e1 ?_))
      rw [iI_s]
      exact h τ g
    | true =>
      rw [if_pos hm] at h
      exact rd70 hX hv hm hf h 7 0 τ rfl g
  | m + 1, i, τ, hm2, g => by
    refine zq_X12_digest_45 hX _ _ τ (zIf_t ?_ ?_)
    · rw [show (8 : Int32) = iI 8 from rfl, iI_lt (by omega) (by omega) (by omega) (by omega)]; omega
    · refine sp_rFrame (d := d + 2) hv g.1 hf (by omega) (fun υ r q => ?_)
      rw [iI_s]
      exact sp_mix (d := d + 5) (g.q r q) (fun ω g2 => rd45 hX hv hf h m (i + 1) ω (by omega) g2)
theorem rd33 {d : Nat} {v : mV} {h0 : Int64} {σ : zS} {post : zPo} {X : zX} (hX : zClosed none (zCall (d + 6)) post nX12_digest X) (hv : vB v) (h : ∀ τ, rH v σ (hA (hfr v) (an (va v)) h0) τ → zCall (d + 6) nX12_counted [.ref 63, .int 1] τ (zPI fun x2 σ1 => X 119 [some (.ref 63), some (.int x2), some (.int 0), none] [] σ1)) : ∀ (m i : Nat) (τ : zS), i + m = an (va v) → rH v σ (hA (hfr v) i h0) τ → X 33 [some (.ref 63), some (.int (iI i)), none, none] [] τ
  | 0, i, τ, hm2, g => by
    have e : i = an (va v) := by omega
    subst e
    refine zq_X12_digest_33 hX _ τ (zIf_f ?_ (h τ g))
    rw [g.1.1.1]; exact Int32.lt_irrefl
  | m + 1, i, τ, hm2, g => by
    have h60 := hv.1.n60
    refine zq_X12_digest_33 hX _ τ (zIf_t ?_ ?_)
    · rw [g.1.1.1, iI_lt (by omega) (by omega) (by omega) (by omega)]; omega
    · exact rd45 hX hv (by omega) (fun υ g2 => rd33 hX hv h m (i + 1) υ (by omega) g2) 8 0 τ rfl g
theorem rd9 {d : Nat} {v : mV} {h0 : Int64} {σ : zS} {post : zPo} {X : zX} (hX : zClosed none (zCall (d + 6)) post nX12_digest X) (hv : vB v) (h : ∀ τ, rH v σ (hF (fun w => (iI (mCo v w)).toInt64) 11 h0) τ → X 33 [some (.ref 63), some (.int 0), none, none] [] τ) : ∀ (m i : Nat) (τ : zS), i + m = 11 → rH v σ (hF (fun w => (iI (mCo v w)).toInt64) i h0) τ → X 9 [some (.ref 63), some (.int (iI i)), none, none] [] τ
  | 0, i, τ, hm2, g => by
    have e : i = 11 := by omega
    subst e
    exact zq_X12_digest_9 hX _ τ (zIf_f (by decide) (h τ g))
  | m + 1, i, τ, hm2, g => by
    refine zq_X12_digest_9 hX _ τ (zIf_t ?_ ?_)
    · rw [show (11 : Int32) = iI 11 from rfl, iI_lt (by omega) (by omega) (by omega) (by omega)]; omega
    · refine sp_rCount (d := d + 1) hv g.1 (show i ≤ 10 by omega) (fun υ r q => ?_)
      rw [iI_s]
      exact sp_mix (d := d + 5) (g.q r q) (fun ω g2 => rd9 hX hv h m (i + 1) ω (by omega) g2)
theorem sp_rDigest {d : Nat} {v : mV} {σ : zS} {k : Int64 → zS → Prop} (hv : vB v) (hR : RI σ v) (h : ∀ τ, RI τ v → zHg σ τ → k (hD v) τ) : zCall (d + 7) nX12_digest [.ref 63] σ (zPJ k) := by
  refine ze_X12_digest σ (fun X hX => zq_X12_digest_0 hX σ ?_)
  refine rd9 (d := d) (h0 := 367) (σ := σ) hX hv (fun τ g => ?_) 11 0 _ rfl ⟨hR, zHg.rf σ, by rw [zSJ_at, if_pos ⟨rfl, rfl⟩]; rfl⟩
  refine rd33 (d := d) (σ := σ) hX hv (fun τ g => ?_) (an (va v)) 0 τ (by omega) g
  refine sp_counted (d := d + 2) (w := 1) hv g.1 (Or.inl rfl) (fun υ r q _ => ?_)
  exact rd119 (d := d) (σ := σ) hX hv (fun ω g2 => rd191 (d := d) (σ := σ) hX hv (fun ψ r2 g3 => ⟨_, rfl, h ψ r2 g3⟩) (vl v) 0 ω (by omega) g2) (mS (mCt (va v)) (an (va v))) 0 υ (by omega) (g.q r q)
theorem pr_digest {σ : zS} (g : G σ) : zPairJ nX11_digest nX12_digest [] σ := by
  obtain ⟨v, hv, hC, hR⟩ := g
  refine zP_J (v := v) (w := v) (hD v) hv hR ?_ (fun τ hT => ?_)
  · exact sp_kDigest (d := 2) hv hC (fun τ c lw => ⟨rfl, c, lw⟩)
  · exact sp_rDigest (d := 1) hv hT (fun τ r q => ⟨rfl, r, q⟩)
