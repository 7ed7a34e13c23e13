/-! calls and ends of the small machine; then all of it -/
section ZC
variable {p : Program} {l : Launch} {e : Env} {R : Room} {s : State} {m : MethodId} {args : Array Value} {below : List Frame} {meth : Method} {c : Code} {cells slots : Nat} {Q : State → Prop} {D : va_G} {cI cJ : ClassId} {ad : Nat → Nat} {A : Nat → Prop} {d mi : Nat}
variable {sc : Option (Nat × (Nat → Int32))} {C : zCa} {post : zPo} {Z : zX} {pc n a b k1 e1 g : Nat} {v : Int32} {w : Int64} {tb : List (Int32 × Nat)} {lv : zLo} {st : List Value} {σ : zS}
/-- behind a call -/
theorem z_go {H : Heap} {locs : List Loc} {ls : Array Slot} {st0 r : List Value} {po : zPo} {av : Array Value} (K : zCx p l R s m args meth c cells slots D cI cJ ad A d mi) (hS : va_S A s.heap H locs) (hl : zHas ad ls (zMl mi) lv)
    (hrun : va_Run p l e R s m args below meth c H locs cells slots 0 0 (F0 m pc ls st0) (r.map (zR ad)) (zQ D cI cJ ad H.size po av) (zA0 ad H.size))
    (hk : ∀ (v : Option Value) (σ2 : zS), po v σ2 → v.toList.map (zR ad) = v.toList ∧ zXs p l e R s m args below meth c cells slots Q D cI cJ ad A mi (pc + 3) lv (v.toList ++ r) σ2) : W p l e R s m args below meth c H locs cells slots Q (F0 m pc ls st0) := by
  obtain ⟨hx, hb, hml, hown, hts, hnw, hK, hinj, hAd, hA, hcl, hsl, hfr, hlo⟩ := K
  refine z_callG hrun (fun v st₀ t H1 L h0 ht hQa hL => ?_)
  obtain ⟨⟨r2, σ2, hr, hp, hP1⟩, hF⟩ := hQa
  cases hr
  obtain ⟨g1, g2⟩ := hk v σ2 hp
  have e3 := g2 H1 (locs ++ L) ls (by rw [← ht]; exact hP1) (zS_call hS hAd hA h0 hF ht hL) hl
  rw [List.map_append, g1] at e3
  exact e3
/-- what a call's room and words ask -/
theorem z_room (K : zCx p l R s m args meth c cells slots D cI cJ ad A d mi) {a : Nat} (ha : zMl a ≤ 13) : (zRm d).frames + 1 ≤ R.frames ∧ 8 + (zMl a + 11) + (zRm d).locals ≤ R.locals := by
  obtain ⟨hx, hb, hml, hown, hts, hnw, hK, hinj, hAd, hA, hcl, hsl, hfr, hlo⟩ := K
  refine ⟨hfr, ?_⟩
  show 8 + (zMl a + 11) + 32 * d ≤ R.locals
  omega
theorem z_pre (hsc : ∀ t, sc = some t → va_X (ad 80) t.1 t.2 s s.heap ∧ ad 80 < s.heap.size ∧ ¬ A (ad 80)) (K : zCx p l R s m args meth c cells slots D cI cJ ad A d mi) {H : Heap} {locs : List Loc} (hS : va_S A s.heap H locs) (hP : va_P D vwCl (zW ad cI cJ σ) H) {U : State} (hU : U.heap = H) (hW : s.WarmedH U.vm) : zB sc D cI cJ ad H.size σ U := by
  obtain ⟨hx, hb, hml, hown, hts, hnw, hK, hinj, hAd, hA, hcl, hsl, hfr, hlo⟩ := K
  exact ⟨by rw [hU], by rw [hU]; exact hP, va_K.moved hW.alike hK, fun w hw => zNw_warm hw hW (hnw w hw), fun t ht => ⟨by rw [hU]; exact va_X.moved hW.alike (va_X.kept (hsc t ht).1 (hS.2.1 _ (hsc t ht).2.1 (hsc t ht).2.2)), Nat.lt_of_lt_of_le (hsc t ht).2.1 hS.1, fun k hk e => (hsc t ht).2.2 (by rw [← e]; exact hAd k hk)⟩⟩
theorem z_res {av : List Value} {cc : Nat} {X : zX} {r : List Value} {pc : Nat} {lv : zLo} {hC : zCa} {a : Nat} (h : match cc with
    | 0 => hC a av σ (zPV fun σ => X pc lv r σ)
    | 1 => hC a av σ (zPI fun x σ => X pc lv (.int x :: r) σ)
    | _ => hC a av σ (zPJ fun x σ => X pc lv (.long x :: r) σ)) : ∃ po : zPo, hC a av σ po ∧ ∀ (v : Option Value) (σ2 : zS), po v σ2 → (∀ ad : Nat → Nat, v.toList.map (zR ad) = v.toList) ∧ X pc lv (v.toList ++ r) σ2 := by
  match cc, h with
  | 0, h => exact ⟨_, h, fun v σ2 hp => by obtain ⟨rfl, hp⟩ := hp; exact ⟨fun _ => rfl, hp⟩⟩
  | 1, h => exact ⟨_, h, fun v σ2 hp => by obtain ⟨x, rfl, hp⟩ := hp; exact ⟨fun _ => rfl, hp⟩⟩
  | k + 2, h => exact ⟨_, h, fun v σ2 hp => by obtain ⟨x, rfl, hp⟩ := hp; exact ⟨fun _ => rfl, hp⟩⟩
theorem zo_invokevirtual {idx : Nat} (hsc : ∀ t, sc = some t → va_X (ad 80) t.1 t.2 s s.heap ∧ ad 80 < s.heap.size ∧ ¬ A (ad 80)) (hC : ∀ (a : Nat) (av : List Value) (σ : zS) (po : zPo), a < 85 → a ≠ nL_law → C a av σ po → zCon sc l D cI cJ ad d a av σ po) (K : zCx p l R s m args meth c cells slots D cI cJ ad A d mi) (hZ : zZX p l e R s m args below meth c cells slots Q D cI cJ ad A mi Z) (hk : zOk mi pc (.invokevirtual idx, n, a, b, k1, e1, g, v, w, tb) = true) (h : zEx sc C post Z (.invokevirtual idx, n, a, b, k1, e1, g, v, w, tb) lv st σ) : zXs p l e R s m args below meth c cells slots Q D cI cJ ad A mi pc lv st σ := by
  have K0 := K
  obtain ⟨hx, hb, hml, hown, hts, hnw, hK, hinj, hAd, hA, hcl, hsl, hfr, hlo⟩ := K
  intro H locs ls hP hS hl
  simp only [zOk, Bool.and_eq_true, decide_eq_true_eq] at hk
  simp only [zEx] at h
  obtain ⟨⟨hn, hdg⟩, ⟨⟨⟨⟨⟨⟨⟨⟨h1, h2⟩, h3⟩, h4⟩, h5⟩, h6⟩, h7⟩, h8⟩, h9⟩, h10⟩ := hk
  obtain ⟨rfl, hd2⟩ := zLen hn hdg h1
  have h2 := Nat.le_of_ble_eq_true h2
  have h3 : a ≠ nL_law := by
    intro q
    rw [q] at h3
    simp at h3
  have h4 : zMs a = false := by simpa using h4
  have h5 := Nat.eq_of_beq_eq_true h5
  have h6 : ¬ (zY a).name = "<init>" := by simpa using h6
  have h7 := Nat.le_of_ble_eq_true h7
  obtain ⟨av0, r, hlen, rfl, hq⟩ := zPn_inv b [] st _ h
  rw [List.append_nil] at hq
  obtain ⟨hg, hq2⟩ := zG_inv hq
  simp only [Bool.and_eq_true] at hg
  obtain ⟨hrc, hw8⟩ := hg
  have hw8 := Nat.le_of_ble_eq_true hw8
  obtain ⟨m1, m2, m3, m4, m5, m6, m7⟩ := zMv_spec h2 h3
  obtain ⟨n1, n2, n3, n4⟩ := m7 h4
  have n2 := n2.resolve_left h6
  obtain ⟨po, hca, hpo⟩ := z_res hq2
  have hM := hC a av0.reverse σ po h2 h3 hca H.size
  -- the receiver
  cases hav : av0.reverse with
  | nil => rw [hav] at hrc; exact absurd hrc (by simp [zRc])
  | cons rv as =>
    rw [hav] at hrc hM
    cases rv with
    | ref q =>
      obtain ⟨sl, hq3, -⟩ := zIsO_spec (show zIsO q e1 = true from hrc)
      have hav2 : av0 = as.reverse ++ [.ref q] := by
        have := congrArg List.reverse hav
        simpa using this
      subst h5
      have hn1 : (as.map (zR ad)).length = b - 1 := by
        have : av0.length = as.length + 1 := by rw [hav2]; simp
        rw [List.length_map]; omega
      have hst : (List.map (zR ad) (av0 ++ r)) = (as.map (zR ad)).reverse ++ .ref (ad q) :: r.map (zR ad) := by
        rw [hav2]; simp [zR]
      obtain ⟨hcl2, hcv⟩ := zCl_get n3
      have hrecv := va_recv hK hP hcl2 (zW_get ad cI cJ σ hq3)
      have hpre : PreV s H (zY a).cls (ad q) (va_Pc ((Value.ref q :: as).map (zR ad)) (zB sc D cI cJ ad H.size σ)) (as.map (zR ad)) :=
        ⟨zB_blind sc D cI cJ ad H.size σ _, by rw [← n4]; exact hrecv, fun U hU hW => ⟨rfl, z_pre hsc K0 hS hP hU hW⟩⟩
      have hsum : ((r.map (zR ad)).map fun v => v.category).sum ≤ 8 := by rw [zW8_R]; exact hw8
      rw [hst]
      simp only [Bool.or_eq_true, decide_eq_true_eq] at h10
      rcases h10 with h10 | h10
      · refine z_go K0 hS hl (va_runV (Ts := zTg) (own := (zY mi).cls) (C := (zY a).cls) (index := idx) (n := b - 1) ⟨hx, hb, hml, hown, hts⟩ hM (cwV (b - 1) hts (zTg_GoodIn fun w hw => ?_) rfl rfl rfl ⟨rfl, m3.1, m3.2, h8⟩ (z_room K0 m5)) hpre rfl hn1 hl.1.1 rfl (lv_room hsum) hd2 ⟨hcl, hsl⟩) (fun v σ2 hp => ⟨(hpo v σ2 hp).1 ad, hZ _ _ _ _ (hpo v σ2 hp).2⟩)
        rcases List.mem_append.mp hw with hw | hw
        · simp only [List.mem_cons, List.not_mem_nil, or_false] at hw
          rcases hw with rfl | rfl | rfl | rfl
          · exact zin _ h10 rfl
          · exact n1
          · exact n2
          · exact m2
        · rcases List.mem_cons.mp hw with rfl | hw
          · exact m1
          · exact hw
      · refine z_go K0 hS hl (va_runVN (Ts := zTg) (own := (zY mi).cls) (C := (zY a).cls) (host := "RatePlanner") (index := idx) (n := b - 1) ⟨hx, hb, hml, hown, hts⟩ hM ⟨va_cnB (b - 1) hts (zTg_GoodIn fun w hw => ?_) rfl rfl rfl (hnw _ (zinN _ h10 rfl)) (hts _ m2) ⟨m3.1, m3.2, h8⟩ (z_room K0 m5), hts _ n1, hts _ n2⟩ hpre rfl hn1 hl.1.1 rfl (lv_room hsum) hd2 ⟨hcl, hsl⟩) (fun v σ2 hp => ⟨(hpo v σ2 hp).1 ad, hZ _ _ _ _ (hpo v σ2 hp).2⟩)
        rcases List.mem_cons.mp hw with rfl | hw
        · exact m1
        · exact hw
    | _ => exact absurd hrc (by simp [zRc])
theorem zo_invokestatic {idx : Nat} (hsc : ∀ t, sc = some t → va_X (ad 80) t.1 t.2 s s.heap ∧ ad 80 < s.heap.size ∧ ¬ A (ad 80)) (hC : ∀ (a : Nat) (av : List Value) (σ : zS) (po : zPo), a < 85 → a ≠ nL_law → C a av σ po → zCon sc l D cI cJ ad d a av σ po) (K : zCx p l R s m args meth c cells slots D cI cJ ad A d mi) (hZ : zZX p l e R s m args below meth c cells slots Q D cI cJ ad A mi Z) (hk : zOk mi pc (.invokestatic idx, n, a, b, k1, e1, g, v, w, tb) = true) (h : zEx sc C post Z (.invokestatic idx, n, a, b, k1, e1, g, v, w, tb) lv st σ) : zXs p l e R s m args below meth c cells slots Q D cI cJ ad A mi pc lv st σ := by
  have K0 := K
  obtain ⟨hx, hb, hml, hown, hts, hnw, hK, hinj, hAd, hA, hcl, hsl, hfr, hlo⟩ := K
  intro H locs ls hP hS hl
  simp only [zOk, Bool.and_eq_true, decide_eq_true_eq] at hk
  simp only [zEx] at h
  obtain ⟨⟨hn, hdg⟩, h1, hk⟩ := hk
  obtain ⟨rfl, hd2⟩ := zLen hn hdg h1
  have zmem : ∀ w : Cond, lw_tbl.contains w = true → goodWord w = true → w ∈ zTg := fun w h1 h2 => List.mem_filter.mpr ⟨List.contains_iff_mem.mp h1, h2⟩
  have hmx := zIn_max
  simp only [Bool.and_eq_true] at hmx
  obtain ⟨⟨⟨⟨⟨⟨x1, x2⟩, x3⟩, x4⟩, x5⟩, x6⟩, x7⟩ := hmx
  have hml2 : c.maxLocals = ls.size := by rw [hml]; exact hl.1.1.symm
  match e1, h, hk with
  | 0, h, hk =>
    simp only [Bool.and_eq_true, decide_eq_true_eq] at hk
    obtain ⟨⟨⟨⟨⟨h2, h3⟩, h4⟩, h8⟩, h9⟩, h10⟩ := hk
    have h2 := Nat.le_of_ble_eq_true h2
    have h3 : a ≠ nL_law := by
      intro q
      rw [q] at h3
      simp at h3
    obtain ⟨av0, r, hlen, rfl, hq⟩ := zPn_inv b [] st _ h
    rw [List.append_nil] at hq
    obtain ⟨hw8, hq2⟩ := zG_inv hq
    have hw8 := Nat.le_of_ble_eq_true hw8
    obtain ⟨m1, m2, m3, m4, m5, m6, m7⟩ := zMv_spec h2 h3
    have n1 := m6 h4
    obtain ⟨po, hca, hpo⟩ := z_res hq2
    have hM := hC a av0.reverse σ po h2 h3 hca H.size
    have hn1 : (av0.reverse.map (zR ad)).length = b := by rw [List.length_map, List.length_reverse]; exact hlen
    have hst : (List.map (zR ad) (av0 ++ r)) = (av0.reverse.map (zR ad)).reverse ++ r.map (zR ad) := by simp
    have hpre : PreS s H (va_Pc (av0.reverse.map (zR ad)) (zB sc D cI cJ ad H.size σ)) (av0.reverse.map (zR ad)) :=
      ⟨zB_blind sc D cI cJ ad H.size σ _, fun U hU hW => ⟨rfl, z_pre hsc K0 hS hP hU hW⟩⟩
    have hsum : ((r.map (zR ad)).map fun v => v.category).sum ≤ 8 := by rw [zW8_R]; exact hw8
    rw [hst]
    simp only [Bool.or_eq_true, decide_eq_true_eq] at h10
    rcases h10 with h10 | h10
    · refine z_go K0 hS hl (va_runS (Ts := zTg) (own := (zY mi).cls) (index := idx) (n := b) ⟨hx, hb, hml, hown, hts⟩ hM ⟨callB_of b hts (zTg_GoodIn fun w hw => ?_) rfl rfl rfl (hts _ m2) (hts _ (zin _ h10 rfl)) ⟨m3.1, m3.2, h8⟩ (z_room K0 m5), hts _ n1⟩ hpre rfl hn1 hl.1.1 rfl (lv_room hsum) hd2 ⟨hcl, hsl⟩) (fun v σ2 hp => ⟨(hpo v σ2 hp).1 ad, hZ _ _ _ _ (hpo v σ2 hp).2⟩)
      rcases List.mem_cons.mp hw with rfl | hw
      · exact m1
      · exact hw
    · refine z_go K0 hS hl (va_runSN (Ts := zTg) (own := (zY mi).cls) (host := "RatePlanner") (index := idx) (n := b) ⟨hx, hb, hml, hown, hts⟩ hM ⟨va_cnB b hts (zTg_GoodIn fun w hw => ?_) rfl rfl rfl (hnw _ (zinN _ h10 rfl)) (hts _ m2) ⟨m3.1, m3.2, h8⟩ (z_room K0 m5), hts _ n1, trivial⟩ hpre rfl hn1 hl.1.1 rfl (lv_room hsum) hd2 ⟨hcl, hsl⟩) (fun v σ2 hp => ⟨(hpo v σ2 hp).1 ad, hZ _ _ _ _ (hpo v σ2 hp).2⟩)
      rcases List.mem_cons.mp hw with rfl | hw
      · exact m1
      · exact hw
  | 1, h, hk =>
    obtain ⟨x, y, r, rfl, h0⟩ := zII_inv h
    obtain ⟨hw8, h5⟩ := zG_inv h0
    have hw8 := Nat.le_of_ble_eq_true hw8
    exact va_mmax hx hb hml2 hown (hts _ (zin _ (of_decide_eq_true hk) rfl)) (hts _ (zmem _ x1 rfl)) (hts _ (zmem _ x7 rfl)) (hts _ (zmem _ x2 rfl)) (by omega) (by rw [zW8_R]; omega) hcl hsl hd2 (hZ _ _ _ _ h5 H locs ls hP hS hl)
  | 2, h, hk =>
    obtain ⟨x, y, r, rfl, h0⟩ := zII_inv h
    obtain ⟨hw8, h5⟩ := zG_inv h0
    have hw8 := Nat.le_of_ble_eq_true hw8
    exact va_mmin hx hb hml2 hown (hts _ (zin _ (of_decide_eq_true hk) rfl)) (hts _ (zmem _ x3 rfl)) (hts _ (zmem _ x7 rfl)) (hts _ (zmem _ x4 rfl)) (by omega) (by rw [zW8_R]; omega) hcl hsl hd2 (hZ _ _ _ _ h5 H locs ls hP hS hl)
  | 3, h, hk =>
    obtain ⟨x, r, rfl, h0⟩ := zI_inv h
    obtain ⟨hw8, h5⟩ := zG_inv h0
    have hw8 := Nat.le_of_ble_eq_true hw8
    exact va_mabs hx hb hml2 hown (hts _ (zin _ (of_decide_eq_true hk) rfl)) (hts _ (zmem _ x5 rfl)) (hts _ (zmem _ x7 rfl)) (hts _ (zmem _ x6 rfl)) (by omega) (by rw [zW8_R]; omega) hcl hsl hd2 (hZ _ _ _ _ h5 H locs ls hP hS hl)
  | j + 4, h, hk => exact False.elim h
end ZC
