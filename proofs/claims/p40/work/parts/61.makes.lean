/-! the constructors, a contract each: printed by wip/whole/genmake.py -/
def jWt (i : Nat) : Nat → Int32 := fun j => if j < i then 4 else 0
def jSt (i : Nat) : Nat → Int32 := fun j => if j < i then iI (mStp j : Int) else 0
theorem jWt_0 : jWt 0 = fun _ => 0 := funext fun j => if_neg (Nat.not_lt_zero j)
theorem jSt_0 : jSt 0 = fun _ => 0 := funext fun j => if_neg (Nat.not_lt_zero j)
theorem jWt_s (i : Nat) : upd (jWt i) i 4 = jWt (i + 1) := funext fun j => by
  unfold jWt
  simp only [upd]
  by_cases e : j = i
  · rw [if_pos e, if_pos (by omega)]
  · rw [if_neg e]
    by_cases c : j < i
    · rw [if_pos c, if_pos (by omega)]
    · rw [if_neg c, if_neg (by omega)]
theorem jSt_s (i : Nat) : upd (jSt i) i (iI (mStp i : Int)) = jSt (i + 1) := funext fun j => by
  unfold jSt
  simp only [upd]
  by_cases e : j = i
  · rw [if_pos e, if_pos (by omega), e]
  · rw [if_neg e]
    by_cases c : j < i
    · rw [if_pos c, if_pos (by omega)]
    · rw [if_neg c, if_neg (by omega)]
theorem jSt_v : ∀ i : Nat, i < 52 → jFs (i % 6) <<< (iI ((i / 6 : Nat) : Int) &&& 31) = iI (mStp i : Int) := by decide +kernel
theorem jSt_d : ∀ i : Nat, i < 52 → iI (i : Int) / 6 = iI ((i / 6 : Nat) : Int) := by decide +kernel
theorem jSt_m : ∀ i : Nat, i < 52 → iI (i : Int) - iI (i : Int) / 6 * 6 = iI ((i % 6 : Nat) : Int) := by decide +kernel
theorem j1 (i : Nat) : iI (i : Int) + Int32.ofInt 1 = iI ((i + 1 : Nat) : Int) := by
  rw [show Int32.ofInt 1 = 1 from by decide]
  exact iI_s i
section JL
variable {p : Program} {l : Launch} {e : Env} {R : Room} {s : State} {m : MethodId} {args : Array Value} {below : List Frame} {meth : Method} {c : Code} {cells slots : Nat} {Q : State → Prop} {D : va_G} {cI cJ : ClassId} {t : Nat} {A : Nat → Prop} {d : Nat} {ws L : va_W} {k h0 q1 a1 a2 : Nat} {fs : List Value}
set_option maxHeartbeats 4000000 in
set_option maxRecDepth 100000 in
theorem jl_Settings (K : jmX p l R s m args meth c D cI cJ t A d nX8_init) (hkl : k < ws.length) (hf : fs[8]? = some (.ref q1)) (fin : jmG p l e R s m args below meth c Q D A 2 102 [(0, .ref h0)] [] (jW ws k (h0, .inr (8, fs)) ((q1, .inl (cI, 60, .inl (jWt 60))) :: L)) cells slots) : ∀ (n i : Nat), i + n = 60 → jmG p l e R s m args below meth c Q D A 2 80 [(1, .int (iI (i : Int))), (0, .ref h0)] [] (jW ws k (h0, .inr (8, fs)) ((q1, .inl (cI, 60, .inl (jWt i))) :: L)) cells slots
  | n, i, hi => by
    refine jm_iload (k := 1) K (by decide +kernel) 0 rfl ?_
    refine jm_aload (k := 0) K (by decide +kernel) 1 rfl ?_
    refine jm_get (idx := 34) (a := 8) (b := 8) (g := 86) (q0 := k) K (by decide +kernel) (by decide) (by decide) (by decide +kernel) (jW_get hkl) hf ?_
    refine jm_alen (v := iI 60) (q0 := ws.length + 0) (f := jWt i) (N := 60) K (by decide +kernel) ((jW_new 0).trans rfl) (by decide) ?_
    cases n with
    | zero =>
      have ei : i = 60 := by omega
      subst ei
      refine jm_icmp_ge (off := 16) (tgt := 102) K (by decide +kernel) (by decide) (fun _ => ?_) (fun z => absurd ((iI_le (by omega) (by omega) (by omega) (by omega)).mpr (by omega)) z)
      exact jm_sub [1] rfl fin
    | succ n =>
      refine jm_icmp_ge (off := 16) (tgt := 102) K (by decide +kernel) (by decide) (fun z => ?_) (fun _ => ?_)
      · rw [iI_le (by omega) (by omega) (by omega) (by omega)] at z
        omega
      refine jm_aload (k := 0) K (by decide +kernel) 1 rfl ?_
      refine jm_get (idx := 34) (a := 8) (b := 8) (g := 86) (q0 := k) K (by decide +kernel) (by decide) (by decide) (by decide +kernel) (jW_get hkl) hf ?_
      refine jm_iload (k := 1) K (by decide +kernel) 0 rfl ?_
      refine jm_iconst (n := 4) (v := 4) K (by decide +kernel) (by decide) ?_
      refine jm_iast (k := i) (q0 := ws.length + 0) (f := jWt i) (N := 60) K (by decide +kernel) ((jW_new 0).trans rfl) (vin_k (by omega) (by decide)) (iI_k (by omega)) ?_
      refine jm_w (ws' := jW ws k (h0, .inr (8, fs)) ((q1, .inl (cI, 60, .inl (jWt (i + 1)))) :: L)) (by rw [jW_setn, jWt_s]; rfl) ?_
      refine jm_iinc (k := 0) (i := 1) (n := 1) (lv' := [(1, .int (iI ((i + 1 : Nat) : Int))), (0, .ref h0)]) K (by decide +kernel) rfl (j1 i) (by decide) rfl ?_
      refine jm_goto (off := -19) (tgt := 80) K (by decide +kernel) (by decide) ?_
      exact jl_Settings K hkl hf fin n (i + 1) (by omega)
set_option maxHeartbeats 4000000 in
set_option maxRecDepth 100000 in
theorem jl_Model (K : jmX p l R s m args meth c D cI cJ t A d nX6_init) (hkl : k < ws.length) (hf : fs[2]? = some (.ref q1)) (hc : cells ≤ R.cells) (hs : slots ≤ R.slots) (fin : jmG p l e R s m args below meth c Q D A 4 60 [(0, .ref h0)] [] (jW ws k (h0, .inr (6, fs)) ((q1, .inl (cI, 52, .inl (jSt 52))) :: L)) cells slots) : ∀ (n i : Nat), i + n = 52 → jmG p l e R s m args below meth c Q D A 4 24 [(3, .int (iI (i : Int))), (0, .ref h0)] [] (jW ws k (h0, .inr (6, fs)) ((q1, .inl (cI, 52, .inl (jSt i))) :: L)) cells slots
  | n, i, hi => by
    refine jm_iload (k := 3) K (by decide +kernel) 0 rfl ?_
    refine jm_aload (k := 0) K (by decide +kernel) 1 rfl ?_
    refine jm_get (idx := 9) (a := 6) (b := 2) (g := 229) (q0 := k) K (by decide +kernel) (by decide) (by decide) (by decide +kernel) (jW_get hkl) hf ?_
    refine jm_alen (v := iI 52) (q0 := ws.length + 0) (f := jSt i) (N := 52) K (by decide +kernel) ((jW_new 0).trans rfl) (by decide) ?_
    cases n with
    | zero =>
      have ei : i = 52 := by omega
      subst ei
      refine jm_icmp_ge (off := 30) (tgt := 60) K (by decide +kernel) (by decide) (fun _ => ?_) (fun z => absurd ((iI_le (by omega) (by omega) (by omega) (by omega)).mpr (by omega)) z)
      exact jm_sub [1] rfl fin
    | succ n =>
      refine jm_icmp_ge (off := 30) (tgt := 60) K (by decide +kernel) (by decide) (fun z => ?_) (fun _ => ?_)
      · rw [iI_le (by omega) (by omega) (by omega) (by omega)] at z
        omega
      refine jm_aload (k := 0) K (by decide +kernel) 1 rfl ?_
      refine jm_get (idx := 9) (a := 6) (b := 2) (g := 229) (q0 := k) K (by decide +kernel) (by decide) (by decide) (by decide +kernel) (jW_get hkl) hf ?_
      refine jm_iload (k := 3) K (by decide +kernel) 0 rfl ?_
      refine jm_gets (idx := 23) (g := 214) K (by decide +kernel) (by decide +kernel) ?_
      refine jm_iload (k := 3) K (by decide +kernel) 0 rfl ?_
      refine jm_bipush (n := 6) (v := 6) K (by decide +kernel) (by decide) ?_
      refine jm_irem K (by decide +kernel) (by decide) ?_
      rw [jSt_m i (by omega)]
      refine jm_callAt (k := i % 6) (idx := 26) (g := 216) K rfl (Nat.mod_lt _ (by decide)) (by decide +kernel) (by decide +kernel) (Nat.le_of_ble_eq_true rfl) hc hs ?_
      refine jm_iload (k := 3) K (by decide +kernel) 0 rfl ?_
      refine jm_bipush (n := 6) (v := 6) K (by decide +kernel) (by decide) ?_
      refine jm_idiv K (by decide +kernel) (by decide) ?_
      refine jm_ishl K (by decide +kernel) ?_
      rw [jSt_d i (by omega), jSt_v i (by omega)]
      refine jm_iast (k := i) (q0 := ws.length + 0) (f := jSt i) (N := 52) K (by decide +kernel) ((jW_new 0).trans rfl) (vin_k (by omega) (by decide)) (iI_k (by omega)) ?_
      refine jm_w (ws' := jW ws k (h0, .inr (6, fs)) ((q1, .inl (cI, 52, .inl (jSt (i + 1)))) :: L)) (by rw [jW_setn, jSt_s]; rfl) ?_
      refine jm_iinc (k := 0) (i := 3) (n := 1) (lv' := [(3, .int (iI ((i + 1 : Nat) : Int))), (0, .ref h0)]) K (by decide +kernel) rfl (j1 i) (by decide) rfl ?_
      refine jm_goto (off := -33) (tgt := 24) K (by decide +kernel) (by decide) ?_
      exact jl_Model K hkl hf hc hs fin n (i + 1) (by omega)
end JL
set_option maxHeartbeats 4000000 in
set_option maxRecDepth 100000 in
theorem jc_Clip (d : Nat) (l : Launch) (D : va_G) (cI cJ : ClassId) (t : Nat) {ws : va_W} {k h0 : Nat} (hk : ws[k]? = some (h0, .inr (0, [.int 0, .null, .null]))) : jmC l D cI cJ t (d + 1) 2 120 nX0_init [.ref h0] ws (fun ws2 => ∃ q1 q2 : Nat, ws2 = jW ws k (h0, .inr (0, [.int 0, .ref q1, .ref q2])) [(q1, jI cI 60), (q2, jI cI 60)]) := by
  refine jm_start (by decide) (by decide) (Nat.le_of_ble_eq_true rfl) (by decide +kernel) (by decide +kernel) (fun p e s m below meth c0 K hi hr hlk => ?_)
  have hkl : k < ws.length := (List.getElem?_eq_some_iff.mp hk).1
  refine jm_w (jW_0 hk) ?_
  refine jm_aload (k := 0) K (by decide +kernel) 0 rfl ?_
  refine jm_obj (idx := 3) (g := 42) K rfl (by decide +kernel) (by decide +kernel) ?_
  refine jm_aload (k := 0) K (by decide +kernel) 0 rfl ?_
  refine jm_bipush (n := 60) (v := 60) K (by decide +kernel) (by decide) ?_
  refine jm_newi (N := 60) K (by decide +kernel) (by decide) (by decide) (by decide) (Nat.le_of_ble_eq_true rfl) (Nat.le_of_ble_eq_true rfl) (fun q1 => ?_)
  refine jm_w jW_app.symm ?_
  refine jm_put (idx := 9) (a := 0) (b := 1) (g := 46) (ty := .array .int) (q0 := k) K hi (by decide +kernel) (by decide) (by decide) (by decide +kernel) (by decide +kernel) (by decide +kernel) rfl rfl (jW_get hkl) (Nat.le_of_ble_eq_true rfl) ?_
  refine jm_w (jW_set hkl).symm ?_
  refine jm_aload (k := 0) K (by decide +kernel) 0 rfl ?_
  refine jm_bipush (n := 60) (v := 60) K (by decide +kernel) (by decide) ?_
  refine jm_newi (N := 60) K (by decide +kernel) (by decide) (by decide) (by decide) (Nat.le_of_ble_eq_true rfl) (Nat.le_of_ble_eq_true rfl) (fun q2 => ?_)
  refine jm_w jW_app.symm ?_
  refine jm_put (idx := 15) (a := 0) (b := 2) (g := 49) (ty := .array .int) (q0 := k) K hi (by decide +kernel) (by decide) (by decide) (by decide +kernel) (by decide +kernel) (by decide +kernel) rfl rfl (jW_get hkl) (Nat.le_of_ble_eq_true rfl) ?_
  refine jm_w (jW_set hkl).symm ?_
  exact jm_ret K hr hlk (by decide +kernel) rfl ⟨q1, q2, rfl⟩
set_option maxHeartbeats 4000000 in
set_option maxRecDepth 100000 in
theorem jc_Plan (d : Nat) (l : Launch) (D : va_G) (cI cJ : ClassId) (t : Nat) {ws : va_W} {k h0 : Nat} (hk : ws[k]? = some (h0, .inr (7, [.int 0, .null]))) : jmC l D cI cJ t (d + 1) 1 60 nX7_init [.ref h0] ws (fun ws2 => ∃ q1 : Nat, ws2 = jW ws k (h0, .inr (7, [.int 0, .ref q1])) [(q1, jI cI 60)]) := by
  refine jm_start (by decide) (by decide) (Nat.le_of_ble_eq_true rfl) (by decide +kernel) (by decide +kernel) (fun p e s m below meth c0 K hi hr hlk => ?_)
  have hkl : k < ws.length := (List.getElem?_eq_some_iff.mp hk).1
  refine jm_w (jW_0 hk) ?_
  refine jm_aload (k := 0) K (by decide +kernel) 0 rfl ?_
  refine jm_obj (idx := 3) (g := 122) K rfl (by decide +kernel) (by decide +kernel) ?_
  refine jm_aload (k := 0) K (by decide +kernel) 0 rfl ?_
  refine jm_bipush (n := 60) (v := 60) K (by decide +kernel) (by decide) ?_
  refine jm_newi (N := 60) K (by decide +kernel) (by decide) (by decide) (by decide) (Nat.le_of_ble_eq_true rfl) (Nat.le_of_ble_eq_true rfl) (fun q1 => ?_)
  refine jm_w jW_app.symm ?_
  refine jm_put (idx := 9) (a := 7) (b := 1) (g := 124) (ty := .array .int) (q0 := k) K hi (by decide +kernel) (by decide) (by decide) (by decide +kernel) (by decide +kernel) (by decide +kernel) rfl rfl (jW_get hkl) (Nat.le_of_ble_eq_true rfl) ?_
  refine jm_w (jW_set hkl).symm ?_
  exact jm_ret K hr hlk (by decide +kernel) rfl ⟨q1, rfl⟩
set_option maxHeartbeats 4000000 in
set_option maxRecDepth 100000 in
theorem jc_Settings (d : Nat) (l : Launch) (D : va_G) (cI cJ : ClassId) (t : Nat) {ws : va_W} {k h0 : Nat} (hk : ws[k]? = some (h0, .inr (8, [.int 0, .int 0, .int 0, .int 0, .int 0, .int 0, .int 0, .int 0, .null, .null, .null, .null]))) : jmC l D cI cJ t (d + 1) 4 78 nX8_init [.ref h0] ws (fun ws2 => ∃ q1 q2 q3 q4 : Nat, ws2 = jW ws k (h0, .inr (8, [.int 12, .int 2, .int 10, .int 45, .int 60000, .int 90, .int 4000, .int 0, .ref q1, .ref q2, .ref q3, .ref q4])) [(q1, .inl (cI, 60, .inl (jWt 60))), (q2, jI cI 6), (q3, jI cI 6), (q4, jI cI 6)]) := by
  refine jm_start (by decide) (by decide) (Nat.le_of_ble_eq_true rfl) (by decide +kernel) (by decide +kernel) (fun p e s m below meth c0 K hi hr hlk => ?_)
  have hkl : k < ws.length := (List.getElem?_eq_some_iff.mp hk).1
  refine jm_w (jW_0 hk) ?_
  refine jm_aload (k := 0) K (by decide +kernel) 0 rfl ?_
  refine jm_obj (idx := 3) (g := 65) K rfl (by decide +kernel) (by decide +kernel) ?_
  refine jm_aload (k := 0) K (by decide +kernel) 0 rfl ?_
  refine jm_bipush (n := 12) (v := 12) K (by decide +kernel) (by decide) ?_
  refine jm_put (idx := 9) (a := 8) (b := 0) (g := 67) (ty := .int) (q0 := k) K hi (by decide +kernel) (by decide) (by decide) (by decide +kernel) (by decide +kernel) (by decide +kernel) rfl rfl (jW_get hkl) (Nat.le_of_ble_eq_true rfl) ?_
  refine jm_w (jW_set hkl).symm ?_
  refine jm_aload (k := 0) K (by decide +kernel) 0 rfl ?_
  refine jm_iconst (n := 2) (v := 2) K (by decide +kernel) (by decide) ?_
  refine jm_put (idx := 15) (a := 8) (b := 1) (g := 70) (ty := .int) (q0 := k) K hi (by decide +kernel) (by decide) (by decide) (by decide +kernel) (by decide +kernel) (by decide +kernel) rfl rfl (jW_get hkl) (Nat.le_of_ble_eq_true rfl) ?_
  refine jm_w (jW_set hkl).symm ?_
  refine jm_aload (k := 0) K (by decide +kernel) 0 rfl ?_
  refine jm_bipush (n := 10) (v := 10) K (by decide +kernel) (by decide) ?_
  refine jm_put (idx := 18) (a := 8) (b := 2) (g := 73) (ty := .int) (q0 := k) K hi (by decide +kernel) (by decide) (by decide) (by decide +kernel) (by decide +kernel) (by decide +kernel) rfl rfl (jW_get hkl) (Nat.le_of_ble_eq_true rfl) ?_
  refine jm_w (jW_set hkl).symm ?_
  refine jm_aload (k := 0) K (by decide +kernel) 0 rfl ?_
  refine jm_bipush (n := 45) (v := 45) K (by decide +kernel) (by decide) ?_
  refine jm_put (idx := 21) (a := 8) (b := 3) (g := 74) (ty := .int) (q0 := k) K hi (by decide +kernel) (by decide) (by decide) (by decide +kernel) (by decide +kernel) (by decide +kernel) rfl rfl (jW_get hkl) (Nat.le_of_ble_eq_true rfl) ?_
  refine jm_w (jW_set hkl).symm ?_
  refine jm_aload (k := 0) K (by decide +kernel) 0 rfl ?_
  refine jm_ldc (idx := 24) (g := 66) (v := 60000) K (by decide +kernel) (by decide +kernel) ?_
  refine jm_put (idx := 25) (a := 8) (b := 4) (g := 75) (ty := .int) (q0 := k) K hi (by decide +kernel) (by decide) (by decide) (by decide +kernel) (by decide +kernel) (by decide +kernel) rfl rfl (jW_get hkl) (Nat.le_of_ble_eq_true rfl) ?_
  refine jm_w (jW_set hkl).symm ?_
  refine jm_aload (k := 0) K (by decide +kernel) 0 rfl ?_
  refine jm_bipush (n := 90) (v := 90) K (by decide +kernel) (by decide) ?_
  refine jm_put (idx := 28) (a := 8) (b := 5) (g := 78) (ty := .int) (q0 := k) K hi (by decide +kernel) (by decide) (by decide) (by decide +kernel) (by decide +kernel) (by decide +kernel) rfl rfl (jW_get hkl) (Nat.le_of_ble_eq_true rfl) ?_
  refine jm_w (jW_set hkl).symm ?_
  refine jm_aload (k := 0) K (by decide +kernel) 0 rfl ?_
  refine jm_sipush (n := 4000) (v := 4000) K (by decide +kernel) (by decide) ?_
  refine jm_put (idx := 31) (a := 8) (b := 6) (g := 81) (ty := .int) (q0 := k) K hi (by decide +kernel) (by decide) (by decide) (by decide +kernel) (by decide +kernel) (by decide +kernel) rfl rfl (jW_get hkl) (Nat.le_of_ble_eq_true rfl) ?_
  refine jm_w (jW_set hkl).symm ?_
  refine jm_aload (k := 0) K (by decide +kernel) 0 rfl ?_
  refine jm_bipush (n := 60) (v := 60) K (by decide +kernel) (by decide) ?_
  refine jm_newi (N := 60) K (by decide +kernel) (by decide) (by decide) (by decide) (Nat.le_of_ble_eq_true rfl) (Nat.le_of_ble_eq_true rfl) (fun q1 => ?_)
  refine jm_w jW_app.symm ?_
  refine jm_put (idx := 34) (a := 8) (b := 8) (g := 86) (ty := .array .int) (q0 := k) K hi (by decide +kernel) (by decide) (by decide) (by decide +kernel) (by decide +kernel) (by decide +kernel) rfl rfl (jW_get hkl) (Nat.le_of_ble_eq_true rfl) ?_
  refine jm_w (jW_set hkl).symm ?_
  refine jm_aload (k := 0) K (by decide +kernel) 0 rfl ?_
  refine jm_bipush (n := 6) (v := 6) K (by decide +kernel) (by decide) ?_
  refine jm_newi (N := 6) K (by decide +kernel) (by decide) (by decide) (by decide) (Nat.le_of_ble_eq_true rfl) (Nat.le_of_ble_eq_true rfl) (fun q2 => ?_)
  refine jm_w jW_app.symm ?_
  refine jm_put (idx := 38) (a := 8) (b := 9) (g := 89) (ty := .array .int) (q0 := k) K hi (by decide +kernel) (by decide) (by decide) (by decide +kernel) (by decide +kernel) (by decide +kernel) rfl rfl (jW_get hkl) (Nat.le_of_ble_eq_true rfl) ?_
  refine jm_w (jW_set hkl).symm ?_
  refine jm_aload (k := 0) K (by decide +kernel) 0 rfl ?_
  refine jm_bipush (n := 6) (v := 6) K (by decide +kernel) (by decide) ?_
  refine jm_newi (N := 6) K (by decide +kernel) (by decide) (by decide) (by decide) (Nat.le_of_ble_eq_true rfl) (Nat.le_of_ble_eq_true rfl) (fun q3 => ?_)
  refine jm_w jW_app.symm ?_
  refine jm_put (idx := 41) (a := 8) (b := 10) (g := 90) (ty := .array .int) (q0 := k) K hi (by decide +kernel) (by decide) (by decide) (by decide +kernel) (by decide +kernel) (by decide +kernel) rfl rfl (jW_get hkl) (Nat.le_of_ble_eq_true rfl) ?_
  refine jm_w (jW_set hkl).symm ?_
  refine jm_aload (k := 0) K (by decide +kernel) 0 rfl ?_
  refine jm_bipush (n := 6) (v := 6) K (by decide +kernel) (by decide) ?_
  refine jm_newi (N := 6) K (by decide +kernel) (by decide) (by decide) (by decide) (Nat.le_of_ble_eq_true rfl) (Nat.le_of_ble_eq_true rfl) (fun q4 => ?_)
  refine jm_w jW_app.symm ?_
  refine jm_put (idx := 44) (a := 8) (b := 11) (g := 91) (ty := .array .int) (q0 := k) K hi (by decide +kernel) (by decide) (by decide) (by decide +kernel) (by decide +kernel) (by decide +kernel) rfl rfl (jW_get hkl) (Nat.le_of_ble_eq_true rfl) ?_
  refine jm_w (jW_set hkl).symm ?_
  refine jm_iconst (n := 0) (v := 0) K (by decide +kernel) (by decide) ?_
  refine jm_istore (k := 1) (lv' := [(1, .int (iI ((0 : Nat) : Int))), (0, .ref h0)]) K (by decide +kernel) (by decide) rfl ?_
  refine jm_w (ws' := jW ws k (h0, .inr (8, [.int 12, .int 2, .int 10, .int 45, .int 60000, .int 90, .int 4000, .int 0, .ref q1, .ref q2, .ref q3, .ref q4])) [(q1, .inl (cI, 60, .inl (jWt 0))), (q2, jI cI 6), (q3, jI cI 6), (q4, jI cI 6)]) (by rw [jWt_0]; rfl) ?_
  refine jl_Settings K hkl rfl ?_ 60 0 rfl
  exact jm_ret K hr hlk (by decide +kernel) rfl ⟨q1, q2, q3, q4, rfl⟩
set_option maxHeartbeats 4000000 in
set_option maxRecDepth 100000 in
theorem jc_Text (d : Nat) (l : Launch) (D : va_G) (cI cJ : ClassId) (t : Nat) {ws : va_W} {k h0 : Nat} (hk : ws[k]? = some (h0, .inr (10, [.int 0, .null, .null, .int 0, .int 0, .int 0]))) : jmC l D cI cJ t (d + 2) 4 223 nX10_init [.ref h0] ws (fun ws2 => ∃ q1 q2 q3 q4 : Nat, ws2 = jW ws k (h0, .inr (10, [.int 0, .ref q1, .ref q4, .int 0, .int 0, .int 0])) [(q1, .inr (0, [.int 0, .ref q2, .ref q3])), (q2, jI cI 60), (q3, jI cI 60), (q4, jI cI 100)]) := by
  refine jm_start (by decide) (by decide) (Nat.le_of_ble_eq_true rfl) (by decide +kernel) (by decide +kernel) (fun p e s m below meth c0 K hi hr hlk => ?_)
  have hkl : k < ws.length := (List.getElem?_eq_some_iff.mp hk).1
  refine jm_w (jW_0 hk) ?_
  refine jm_aload (k := 0) K (by decide +kernel) 0 rfl ?_
  refine jm_obj (idx := 3) (g := 136) K rfl (by decide +kernel) (by decide +kernel) ?_
  refine jm_aload (k := 0) K (by decide +kernel) 0 rfl ?_
  refine jm_new (idx := 9) (a := 0) (g1 := 137) (g2 := 38) (g3 := 17) (fs := [.int 0, .null, .null]) K (by decide +kernel) (by decide) (by decide +kernel) (by decide +kernel) (by decide +kernel) (fun k => [.int, .array .int, .array .int].getD k .int) (by decide +kernel) (by decide +kernel) 3 (by decide) (Nat.le_of_ble_eq_true rfl) (Nat.le_of_ble_eq_true rfl) (fun q1 => ?_)
  refine jm_w jW_app.symm ?_
  refine jm_dup K (by decide +kernel) ?_
  refine jm_call (idx := 11) (a := nX0_init) (g := 138) (cc := 2) (ss := 120) (As := []) (b := q1) K rfl (jc_Clip d l D cI cJ t (k := (ws.length + 0)) ((jW_new 0).trans rfl)) (by decide +kernel) (by decide) (by decide) (by decide +kernel) (by decide +kernel) (by decide +kernel) 0 rfl (by decide +kernel) (Or.inr (by decide +kernel)) (Nat.le_of_ble_eq_true rfl) (Nat.le_of_ble_eq_true rfl) (Nat.le_of_ble_eq_true rfl) rfl (fun ws2 hp => ?_)
  obtain ⟨q2, q3, rfl⟩ := hp
  refine jm_w (ws' := jW ws k (h0, .inr (10, [.int 0, .null, .null, .int 0, .int 0, .int 0])) [(q1, .inr (0, [.int 0, .ref q2, .ref q3])), (q2, jI cI 60), (q3, jI cI 60)]) (by rw [jW_jW 0]; rfl) ?_
  refine jm_put (idx := 12) (a := 10) (b := 1) (g := 140) (ty := .object "RatePlanner$Clip") (q0 := k) K hi (by decide +kernel) (by decide) (by decide) (by decide +kernel) (by decide +kernel) (by decide +kernel) rfl rfl (jW_get hkl) (Nat.le_of_ble_eq_true rfl) ?_
  refine jm_w (jW_set hkl).symm ?_
  refine jm_aload (k := 0) K (by decide +kernel) 0 rfl ?_
  refine jm_bipush (n := 100) (v := 100) K (by decide +kernel) (by decide) ?_
  refine jm_newi (N := 100) K (by decide +kernel) (by decide) (by decide) (by decide) (Nat.le_of_ble_eq_true rfl) (Nat.le_of_ble_eq_true rfl) (fun q4 => ?_)
  refine jm_w jW_app.symm ?_
  refine jm_put (idx := 18) (a := 10) (b := 2) (g := 141) (ty := .array .int) (q0 := k) K hi (by decide +kernel) (by decide) (by decide) (by decide +kernel) (by decide +kernel) (by decide +kernel) rfl rfl (jW_get hkl) (Nat.le_of_ble_eq_true rfl) ?_
  refine jm_w (jW_set hkl).symm ?_
  exact jm_ret K hr hlk (by decide +kernel) rfl ⟨q1, q2, q3, q4, rfl⟩
set_option maxHeartbeats 4000000 in
set_option maxRecDepth 100000 in
theorem jc_Layout (d : Nat) (l : Launch) (D : va_G) (cI cJ : ClassId) (t : Nat) {ws : va_W} {k h0 : Nat} (hk : ws[k]? = some (h0, .inr (3, [.int 0, .int 0, .int 0, .null, .null, .null, .null, .null, .null, .null]))) : jmC l D cI cJ t (d + 1) 7 420 nX3_init [.ref h0] ws (fun ws2 => ∃ q1 q2 q3 q4 q5 q6 q7 : Nat, ws2 = jW ws k (h0, .inr (3, [.int 0, .int 0, .int 0, .ref q1, .ref q2, .ref q3, .ref q4, .ref q5, .ref q6, .ref q7])) [(q1, jI cI 60), (q2, jI cI 60), (q3, jI cI 60), (q4, jI cI 60), (q5, jI cI 60), (q6, jI cI 60), (q7, jI cI 60)]) := by
  refine jm_start (by decide) (by decide) (Nat.le_of_ble_eq_true rfl) (by decide +kernel) (by decide +kernel) (fun p e s m below meth c0 K hi hr hlk => ?_)
  have hkl : k < ws.length := (List.getElem?_eq_some_iff.mp hk).1
  refine jm_w (jW_0 hk) ?_
  refine jm_aload (k := 0) K (by decide +kernel) 0 rfl ?_
  refine jm_obj (idx := 3) (g := 160) K rfl (by decide +kernel) (by decide +kernel) ?_
  refine jm_aload (k := 0) K (by decide +kernel) 0 rfl ?_
  refine jm_bipush (n := 60) (v := 60) K (by decide +kernel) (by decide) ?_
  refine jm_newi (N := 60) K (by decide +kernel) (by decide) (by decide) (by decide) (Nat.le_of_ble_eq_true rfl) (Nat.le_of_ble_eq_true rfl) (fun q1 => ?_)
  refine jm_w jW_app.symm ?_
  refine jm_put (idx := 9) (a := 3) (b := 3) (g := 168) (ty := .array .int) (q0 := k) K hi (by decide +kernel) (by decide) (by decide) (by decide +kernel) (by decide +kernel) (by decide +kernel) rfl rfl (jW_get hkl) (Nat.le_of_ble_eq_true rfl) ?_
  refine jm_w (jW_set hkl).symm ?_
  refine jm_aload (k := 0) K (by decide +kernel) 0 rfl ?_
  refine jm_bipush (n := 60) (v := 60) K (by decide +kernel) (by decide) ?_
  refine jm_newi (N := 60) K (by decide +kernel) (by decide) (by decide) (by decide) (Nat.le_of_ble_eq_true rfl) (Nat.le_of_ble_eq_true rfl) (fun q2 => ?_)
  refine jm_w jW_app.symm ?_
  refine jm_put (idx := 15) (a := 3) (b := 4) (g := 172) (ty := .array .int) (q0 := k) K hi (by decide +kernel) (by decide) (by decide) (by decide +kernel) (by decide +kernel) (by decide +kernel) rfl rfl (jW_get hkl) (Nat.le_of_ble_eq_true rfl) ?_
  refine jm_w (jW_set hkl).symm ?_
  refine jm_aload (k := 0) K (by decide +kernel) 0 rfl ?_
  refine jm_bipush (n := 60) (v := 60) K (by decide +kernel) (by decide) ?_
  refine jm_newi (N := 60) K (by decide +kernel) (by decide) (by decide) (by decide) (Nat.le_of_ble_eq_true rfl) (Nat.le_of_ble_eq_true rfl) (fun q3 => ?_)
  refine jm_w jW_app.symm ?_
  refine jm_put (idx := 18) (a := 3) (b := 5) (g := 175) (ty := .array .int) (q0 := k) K hi (by decide +kernel) (by decide) (by decide) (by decide +kernel) (by decide +kernel) (by decide +kernel) rfl rfl (jW_get hkl) (Nat.le_of_ble_eq_true rfl) ?_
  refine jm_w (jW_set hkl).symm ?_
  refine jm_aload (k := 0) K (by decide +kernel) 0 rfl ?_
  refine jm_bipush (n := 60) (v := 60) K (by decide +kernel) (by decide) ?_
  refine jm_newi (N := 60) K (by decide +kernel) (by decide) (by decide) (by decide) (Nat.le_of_ble_eq_true rfl) (Nat.le_of_ble_eq_true rfl) (fun q4 => ?_)
  refine jm_w jW_app.symm ?_
  refine jm_put (idx := 21) (a := 3) (b := 6) (g := 177) (ty := .array .int) (q0 := k) K hi (by decide +kernel) (by decide) (by decide) (by decide +kernel) (by decide +kernel) (by decide +kernel) rfl rfl (jW_get hkl) (Nat.le_of_ble_eq_true rfl) ?_
  refine jm_w (jW_set hkl).symm ?_
  refine jm_aload (k := 0) K (by decide +kernel) 0 rfl ?_
  refine jm_bipush (n := 60) (v := 60) K (by decide +kernel) (by decide) ?_
  refine jm_newi (N := 60) K (by decide +kernel) (by decide) (by decide) (by decide) (Nat.le_of_ble_eq_true rfl) (Nat.le_of_ble_eq_true rfl) (fun q5 => ?_)
  refine jm_w jW_app.symm ?_
  refine jm_put (idx := 24) (a := 3) (b := 7) (g := 179) (ty := .array .int) (q0 := k) K hi (by decide +kernel) (by decide) (by decide) (by decide +kernel) (by decide +kernel) (by decide +kernel) rfl rfl (jW_get hkl) (Nat.le_of_ble_eq_true rfl) ?_
  refine jm_w (jW_set hkl).symm ?_
  refine jm_aload (k := 0) K (by decide +kernel) 0 rfl ?_
  refine jm_bipush (n := 60) (v := 60) K (by decide +kernel) (by decide) ?_
  refine jm_newi (N := 60) K (by decide +kernel) (by decide) (by decide) (by decide) (Nat.le_of_ble_eq_true rfl) (Nat.le_of_ble_eq_true rfl) (fun q6 => ?_)
  refine jm_w jW_app.symm ?_
  refine jm_put (idx := 27) (a := 3) (b := 8) (g := 182) (ty := .array .int) (q0 := k) K hi (by decide +kernel) (by decide) (by decide) (by decide +kernel) (by decide +kernel) (by decide +kernel) rfl rfl (jW_get hkl) (Nat.le_of_ble_eq_true rfl) ?_
  refine jm_w (jW_set hkl).symm ?_
  refine jm_aload (k := 0) K (by decide +kernel) 0 rfl ?_
  refine jm_bipush (n := 60) (v := 60) K (by decide +kernel) (by decide) ?_
  refine jm_newi (N := 60) K (by decide +kernel) (by decide) (by decide) (by decide) (Nat.le_of_ble_eq_true rfl) (Nat.le_of_ble_eq_true rfl) (fun q7 => ?_)
  refine jm_w jW_app.symm ?_
  refine jm_put (idx := 30) (a := 3) (b := 9) (g := 184) (ty := .array .int) (q0 := k) K hi (by decide +kernel) (by decide) (by decide) (by decide +kernel) (by decide +kernel) (by decide +kernel) rfl rfl (jW_get hkl) (Nat.le_of_ble_eq_true rfl) ?_
  refine jm_w (jW_set hkl).symm ?_
  exact jm_ret K hr hlk (by decide +kernel) rfl ⟨q1, q2, q3, q4, q5, q6, q7, rfl⟩
set_option maxHeartbeats 4000000 in
set_option maxRecDepth 100000 in
theorem jc_Model (d : Nat) (l : Launch) (D : va_G) (cI cJ : ClassId) (t : Nat) {ws : va_W} {k h0 a1 a2 : Nat} (hk : ws[k]? = some (h0, .inr (6, [.null, .null, .null]))) : jmC l D cI cJ t (d + 1) 1 52 nX6_init [.ref h0, .ref a1, .ref a2] ws (fun ws2 => ∃ q1 : Nat, ws2 = jW ws k (h0, .inr (6, [.ref a1, .ref a2, .ref q1])) [(q1, .inl (cI, 52, .inl (jSt 52)))]) := by
  refine jm_start (by decide) (by decide) (Nat.le_of_ble_eq_true rfl) (by decide +kernel) (by decide +kernel) (fun p e s m below meth c0 K hi hr hlk => ?_)
  have hkl : k < ws.length := (List.getElem?_eq_some_iff.mp hk).1
  refine jm_w (jW_0 hk) ?_
  refine jm_aload (k := 0) K (by decide +kernel) 0 rfl ?_
  refine jm_obj (idx := 3) (g := 213) K rfl (by decide +kernel) (by decide +kernel) ?_
  refine jm_aload (k := 0) K (by decide +kernel) 0 rfl ?_
  refine jm_bipush (n := 52) (v := 52) K (by decide +kernel) (by decide) ?_
  refine jm_newi (N := 52) K (by decide +kernel) (by decide) (by decide) (by decide) (Nat.le_of_ble_eq_true rfl) (Nat.le_of_ble_eq_true rfl) (fun q1 => ?_)
  refine jm_w jW_app.symm ?_
  refine jm_put (idx := 9) (a := 6) (b := 2) (g := 229) (ty := .array .int) (q0 := k) K hi (by decide +kernel) (by decide) (by decide) (by decide +kernel) (by decide +kernel) (by decide +kernel) rfl rfl (jW_get hkl) (Nat.le_of_ble_eq_true rfl) ?_
  refine jm_w (jW_set hkl).symm ?_
  refine jm_aload (k := 0) K (by decide +kernel) 0 rfl ?_
  refine jm_aload (k := 1) K (by decide +kernel) 1 rfl ?_
  refine jm_put (idx := 15) (a := 6) (b := 0) (g := 219) (ty := .object "RatePlanner$Layout") (q0 := k) K hi (by decide +kernel) (by decide) (by decide) (by decide +kernel) (by decide +kernel) (by decide +kernel) rfl rfl (jW_get hkl) (Nat.le_of_ble_eq_true rfl) ?_
  refine jm_w (jW_set hkl).symm ?_
  refine jm_aload (k := 0) K (by decide +kernel) 0 rfl ?_
  refine jm_aload (k := 2) K (by decide +kernel) 2 rfl ?_
  refine jm_put (idx := 19) (a := 6) (b := 1) (g := 225) (ty := .object "RatePlanner$Settings") (q0 := k) K hi (by decide +kernel) (by decide) (by decide) (by decide +kernel) (by decide +kernel) (by decide +kernel) rfl rfl (jW_get hkl) (Nat.le_of_ble_eq_true rfl) ?_
  refine jm_w (jW_set hkl).symm ?_
  refine jm_iconst (n := 0) (v := 0) K (by decide +kernel) (by decide) ?_
  refine jm_istore (k := 3) (lv' := [(3, .int (iI ((0 : Nat) : Int))), (0, .ref h0), (1, .ref a1), (2, .ref a2)]) K (by decide +kernel) (by decide) rfl ?_
  refine jm_w (ws' := jW ws k (h0, .inr (6, [.ref a1, .ref a2, .ref q1])) [(q1, .inl (cI, 52, .inl (jSt 0)))]) (by rw [jSt_0]; rfl) ?_
  refine jm_sub [0, 1] rfl ?_
  refine jl_Model K hkl rfl (Nat.le_of_ble_eq_true rfl) (Nat.le_of_ble_eq_true rfl) ?_ 52 0 rfl
  exact jm_ret K hr hlk (by decide +kernel) rfl ⟨q1, rfl⟩
set_option maxHeartbeats 4000000 in
set_option maxRecDepth 100000 in
theorem jc_Course (d : Nat) (l : Launch) (D : va_G) (cI cJ : ClassId) (t : Nat) {ws : va_W} {k h0 a1 : Nat} (hk : ws[k]? = some (h0, .inr (1, [.int 0, .null, .null, .null, .null, .null, .null, .int 0, .int 0, .int 0]))) : jmC l D cI cJ t (d + 1) 5 300 nX1_init [.ref h0, .ref a1] ws (fun ws2 => ∃ q1 q2 q3 q4 q5 : Nat, ws2 = jW ws k (h0, .inr (1, [.int 0, .ref q1, .ref q2, .ref q3, .ref q4, .ref q5, .ref a1, .int 0, .int 0, .int 0])) [(q1, jI cI 60), (q2, jI cI 60), (q3, jI cI 60), (q4, jI cI 60), (q5, jI cI 60)]) := by
  refine jm_start (by decide) (by decide) (Nat.le_of_ble_eq_true rfl) (by decide +kernel) (by decide +kernel) (fun p e s m below meth c0 K hi hr hlk => ?_)
  have hkl : k < ws.length := (List.getElem?_eq_some_iff.mp hk).1
  refine jm_w (jW_0 hk) ?_
  refine jm_aload (k := 0) K (by decide +kernel) 0 rfl ?_
  refine jm_obj (idx := 3) (g := 242) K rfl (by decide +kernel) (by decide +kernel) ?_
  refine jm_aload (k := 0) K (by decide +kernel) 0 rfl ?_
  refine jm_bipush (n := 60) (v := 60) K (by decide +kernel) (by decide) ?_
  refine jm_newi (N := 60) K (by decide +kernel) (by decide) (by decide) (by decide) (Nat.le_of_ble_eq_true rfl) (Nat.le_of_ble_eq_true rfl) (fun q1 => ?_)
  refine jm_w jW_app.symm ?_
  refine jm_put (idx := 9) (a := 1) (b := 1) (g := 245) (ty := .array .int) (q0 := k) K hi (by decide +kernel) (by decide) (by decide) (by decide +kernel) (by decide +kernel) (by decide +kernel) rfl rfl (jW_get hkl) (Nat.le_of_ble_eq_true rfl) ?_
  refine jm_w (jW_set hkl).symm ?_
  refine jm_aload (k := 0) K (by decide +kernel) 0 rfl ?_
  refine jm_bipush (n := 60) (v := 60) K (by decide +kernel) (by decide) ?_
  refine jm_newi (N := 60) K (by decide +kernel) (by decide) (by decide) (by decide) (Nat.le_of_ble_eq_true rfl) (Nat.le_of_ble_eq_true rfl) (fun q2 => ?_)
  refine jm_w jW_app.symm ?_
  refine jm_put (idx := 15) (a := 1) (b := 2) (g := 247) (ty := .array .int) (q0 := k) K hi (by decide +kernel) (by decide) (by decide) (by decide +kernel) (by decide +kernel) (by decide +kernel) rfl rfl (jW_get hkl) (Nat.le_of_ble_eq_true rfl) ?_
  refine jm_w (jW_set hkl).symm ?_
  refine jm_aload (k := 0) K (by decide +kernel) 0 rfl ?_
  refine jm_bipush (n := 60) (v := 60) K (by decide +kernel) (by decide) ?_
  refine jm_newi (N := 60) K (by decide +kernel) (by decide) (by decide) (by decide) (Nat.le_of_ble_eq_true rfl) (Nat.le_of_ble_eq_true rfl) (fun q3 => ?_)
  refine jm_w jW_app.symm ?_
  refine jm_put (idx := 18) (a := 1) (b := 3) (g := 249) (ty := .array .int) (q0 := k) K hi (by decide +kernel) (by decide) (by decide) (by decide +kernel) (by decide +kernel) (by decide +kernel) rfl rfl (jW_get hkl) (Nat.le_of_ble_eq_true rfl) ?_
  refine jm_w (jW_set hkl).symm ?_
  refine jm_aload (k := 0) K (by decide +kernel) 0 rfl ?_
  refine jm_bipush (n := 60) (v := 60) K (by decide +kernel) (by decide) ?_
  refine jm_newi (N := 60) K (by decide +kernel) (by decide) (by decide) (by decide) (Nat.le_of_ble_eq_true rfl) (Nat.le_of_ble_eq_true rfl) (fun q4 => ?_)
  refine jm_w jW_app.symm ?_
  refine jm_put (idx := 21) (a := 1) (b := 4) (g := 251) (ty := .array .int) (q0 := k) K hi (by decide +kernel) (by decide) (by decide) (by decide +kernel) (by decide +kernel) (by decide +kernel) rfl rfl (jW_get hkl) (Nat.le_of_ble_eq_true rfl) ?_
  refine jm_w (jW_set hkl).symm ?_
  refine jm_aload (k := 0) K (by decide +kernel) 0 rfl ?_
  refine jm_bipush (n := 60) (v := 60) K (by decide +kernel) (by decide) ?_
  refine jm_newi (N := 60) K (by decide +kernel) (by decide) (by decide) (by decide) (Nat.le_of_ble_eq_true rfl) (Nat.le_of_ble_eq_true rfl) (fun q5 => ?_)
  refine jm_w jW_app.symm ?_
  refine jm_put (idx := 24) (a := 1) (b := 5) (g := 253) (ty := .array .int) (q0 := k) K hi (by decide +kernel) (by decide) (by decide) (by decide +kernel) (by decide +kernel) (by decide +kernel) rfl rfl (jW_get hkl) (Nat.le_of_ble_eq_true rfl) ?_
  refine jm_w (jW_set hkl).symm ?_
  refine jm_aload (k := 0) K (by decide +kernel) 0 rfl ?_
  refine jm_aload (k := 1) K (by decide +kernel) 1 rfl ?_
  refine jm_put (idx := 27) (a := 1) (b := 6) (g := 255) (ty := .object "RatePlanner$Model") (q0 := k) K hi (by decide +kernel) (by decide) (by decide) (by decide +kernel) (by decide +kernel) (by decide +kernel) rfl rfl (jW_get hkl) (Nat.le_of_ble_eq_true rfl) ?_
  refine jm_w (jW_set hkl).symm ?_
  exact jm_ret K hr hlk (by decide +kernel) rfl ⟨q1, q2, q3, q4, q5, rfl⟩
set_option maxHeartbeats 4000000 in
set_option maxRecDepth 100000 in
theorem jc_Maker (d : Nat) (l : Launch) (D : va_G) (cI cJ : ClassId) (t : Nat) {ws : va_W} {k h0 a1 a2 : Nat} (hk : ws[k]? = some (h0, .inr (4, [.null, .null, .null, .null, .null]))) {a1_p p1 p2 p3 : Nat} (a1_l : a1_p < ws.length) (a1_k : a1_p ≠ k) (a1_h : ws[a1_p]? = some (a1, .inr (6, [.ref p1, .ref p2, .ref p3]))) : jmC l D cI cJ t (d + 1) 1 60 nX4_init [.ref h0, .ref a1, .ref a2] ws (fun ws2 => ∃ q1 : Nat, ws2 = jW ws k (h0, .inr (4, [.ref a1, .ref p2, .ref p1, .ref a2, .ref q1])) [(q1, jI cI 60)]) := by
  refine jm_start (by decide) (by decide) (Nat.le_of_ble_eq_true rfl) (by decide +kernel) (by decide +kernel) (fun p e s m below meth c0 K hi hr hlk => ?_)
  have hkl : k < ws.length := (List.getElem?_eq_some_iff.mp hk).1
  refine jm_w (jW_0 hk) ?_
  refine jm_aload (k := 0) K (by decide +kernel) 0 rfl ?_
  refine jm_obj (idx := 3) (g := 285) K rfl (by decide +kernel) (by decide +kernel) ?_
  refine jm_aload (k := 0) K (by decide +kernel) 0 rfl ?_
  refine jm_bipush (n := 60) (v := 60) K (by decide +kernel) (by decide) ?_
  refine jm_newi (N := 60) K (by decide +kernel) (by decide) (by decide) (by decide) (Nat.le_of_ble_eq_true rfl) (Nat.le_of_ble_eq_true rfl) (fun q1 => ?_)
  refine jm_w jW_app.symm ?_
  refine jm_put (idx := 9) (a := 4) (b := 4) (g := 290) (ty := .array .int) (q0 := k) K hi (by decide +kernel) (by decide) (by decide) (by decide +kernel) (by decide +kernel) (by decide +kernel) rfl rfl (jW_get hkl) (Nat.le_of_ble_eq_true rfl) ?_
  refine jm_w (jW_set hkl).symm ?_
  refine jm_aload (k := 0) K (by decide +kernel) 0 rfl ?_
  refine jm_aload (k := 1) K (by decide +kernel) 1 rfl ?_
  refine jm_put (idx := 15) (a := 4) (b := 0) (g := 286) (ty := .object "RatePlanner$Model") (q0 := k) K hi (by decide +kernel) (by decide) (by decide) (by decide +kernel) (by decide +kernel) (by decide +kernel) rfl rfl (jW_get hkl) (Nat.le_of_ble_eq_true rfl) ?_
  refine jm_w (jW_set hkl).symm ?_
  refine jm_aload (k := 0) K (by decide +kernel) 0 rfl ?_
  refine jm_aload (k := 1) K (by decide +kernel) 1 rfl ?_
  refine jm_get (idx := 19) (a := 6) (b := 1) (g := 226) (v := .ref p2) (q0 := a1_p) K (by decide +kernel) (by decide) (by decide) (by decide +kernel) ((jW_old a1_l a1_k).trans a1_h) rfl ?_
  refine jm_put (idx := 25) (a := 4) (b := 1) (g := 287) (ty := .object "RatePlanner$Settings") (q0 := k) K hi (by decide +kernel) (by decide) (by decide) (by decide +kernel) (by decide +kernel) (by decide +kernel) rfl rfl (jW_get hkl) (Nat.le_of_ble_eq_true rfl) ?_
  refine jm_w (jW_set hkl).symm ?_
  refine jm_aload (k := 0) K (by decide +kernel) 0 rfl ?_
  refine jm_aload (k := 1) K (by decide +kernel) 1 rfl ?_
  refine jm_get (idx := 26) (a := 6) (b := 0) (g := 221) (v := .ref p1) (q0 := a1_p) K (by decide +kernel) (by decide) (by decide) (by decide +kernel) ((jW_old a1_l a1_k).trans a1_h) rfl ?_
  refine jm_put (idx := 30) (a := 4) (b := 2) (g := 288) (ty := .object "RatePlanner$Layout") (q0 := k) K hi (by decide +kernel) (by decide) (by decide) (by decide +kernel) (by decide +kernel) (by decide +kernel) rfl rfl (jW_get hkl) (Nat.le_of_ble_eq_true rfl) ?_
  refine jm_w (jW_set hkl).symm ?_
  refine jm_aload (k := 0) K (by decide +kernel) 0 rfl ?_
  refine jm_aload (k := 2) K (by decide +kernel) 2 rfl ?_
  refine jm_put (idx := 31) (a := 4) (b := 3) (g := 289) (ty := .object "RatePlanner$Course") (q0 := k) K hi (by decide +kernel) (by decide) (by decide) (by decide +kernel) (by decide +kernel) (by decide +kernel) rfl rfl (jW_get hkl) (Nat.le_of_ble_eq_true rfl) ?_
  refine jm_w (jW_set hkl).symm ?_
  exact jm_ret K hr hlk (by decide +kernel) rfl ⟨q1, rfl⟩
set_option maxHeartbeats 4000000 in
set_option maxRecDepth 100000 in
theorem jc_Mender (d : Nat) (l : Launch) (D : va_G) (cI cJ : ClassId) (t : Nat) {ws : va_W} {k h0 a1 a2 : Nat} (hk : ws[k]? = some (h0, .inr (5, [.null, .null, .null, .null, .null, .null, .null, .null]))) {a1_p p1 p2 p3 : Nat} (a1_l : a1_p < ws.length) (a1_k : a1_p ≠ k) (a1_h : ws[a1_p]? = some (a1, .inr (6, [.ref p1, .ref p2, .ref p3]))) : jmC l D cI cJ t (d + 1) 4 240 nX5_init [.ref h0, .ref a1, .ref a2] ws (fun ws2 => ∃ q1 q2 q3 q4 : Nat, ws2 = jW ws k (h0, .inr (5, [.ref a1, .ref p2, .ref p1, .ref a2, .ref q1, .ref q2, .ref q3, .ref q4])) [(q1, jI cI 60), (q2, jI cI 60), (q3, jJ cJ 60), (q4, jJ cJ 60)]) := by
  refine jm_start (by decide) (by decide) (Nat.le_of_ble_eq_true rfl) (by decide +kernel) (by decide +kernel) (fun p e s m below meth c0 K hi hr hlk => ?_)
  have hkl : k < ws.length := (List.getElem?_eq_some_iff.mp hk).1
  refine jm_w (jW_0 hk) ?_
  refine jm_aload (k := 0) K (by decide +kernel) 0 rfl ?_
  refine jm_obj (idx := 3) (g := 307) K rfl (by decide +kernel) (by decide +kernel) ?_
  refine jm_aload (k := 0) K (by decide +kernel) 0 rfl ?_
  refine jm_bipush (n := 60) (v := 60) K (by decide +kernel) (by decide) ?_
  refine jm_newi (N := 60) K (by decide +kernel) (by decide) (by decide) (by decide) (Nat.le_of_ble_eq_true rfl) (Nat.le_of_ble_eq_true rfl) (fun q1 => ?_)
  refine jm_w jW_app.symm ?_
  refine jm_put (idx := 9) (a := 5) (b := 4) (g := 312) (ty := .array .int) (q0 := k) K hi (by decide +kernel) (by decide) (by decide) (by decide +kernel) (by decide +kernel) (by decide +kernel) rfl rfl (jW_get hkl) (Nat.le_of_ble_eq_true rfl) ?_
  refine jm_w (jW_set hkl).symm ?_
  refine jm_aload (k := 0) K (by decide +kernel) 0 rfl ?_
  refine jm_bipush (n := 60) (v := 60) K (by decide +kernel) (by decide) ?_
  refine jm_newi (N := 60) K (by decide +kernel) (by decide) (by decide) (by decide) (Nat.le_of_ble_eq_true rfl) (Nat.le_of_ble_eq_true rfl) (fun q2 => ?_)
  refine jm_w jW_app.symm ?_
  refine jm_put (idx := 15) (a := 5) (b := 5) (g := 313) (ty := .array .int) (q0 := k) K hi (by decide +kernel) (by decide) (by decide) (by decide +kernel) (by decide +kernel) (by decide +kernel) rfl rfl (jW_get hkl) (Nat.le_of_ble_eq_true rfl) ?_
  refine jm_w (jW_set hkl).symm ?_
  refine jm_aload (k := 0) K (by decide +kernel) 0 rfl ?_
  refine jm_bipush (n := 60) (v := 60) K (by decide +kernel) (by decide) ?_
  refine jm_newj (N := 60) K (by decide +kernel) (by decide) (by decide) (by decide) (Nat.le_of_ble_eq_true rfl) (Nat.le_of_ble_eq_true rfl) (fun q3 => ?_)
  refine jm_w jW_app.symm ?_
  refine jm_put (idx := 18) (a := 5) (b := 6) (g := 314) (ty := .array .long) (q0 := k) K hi (by decide +kernel) (by decide) (by decide) (by decide +kernel) (by decide +kernel) (by decide +kernel) rfl rfl (jW_get hkl) (Nat.le_of_ble_eq_true rfl) ?_
  refine jm_w (jW_set hkl).symm ?_
  refine jm_aload (k := 0) K (by decide +kernel) 0 rfl ?_
  refine jm_bipush (n := 60) (v := 60) K (by decide +kernel) (by decide) ?_
  refine jm_newj (N := 60) K (by decide +kernel) (by decide) (by decide) (by decide) (Nat.le_of_ble_eq_true rfl) (Nat.le_of_ble_eq_true rfl) (fun q4 => ?_)
  refine jm_w jW_app.symm ?_
  refine jm_put (idx := 22) (a := 5) (b := 7) (g := 315) (ty := .array .long) (q0 := k) K hi (by decide +kernel) (by decide) (by decide) (by decide +kernel) (by decide +kernel) (by decide +kernel) rfl rfl (jW_get hkl) (Nat.le_of_ble_eq_true rfl) ?_
  refine jm_w (jW_set hkl).symm ?_
  refine jm_aload (k := 0) K (by decide +kernel) 0 rfl ?_
  refine jm_aload (k := 1) K (by decide +kernel) 1 rfl ?_
  refine jm_put (idx := 25) (a := 5) (b := 0) (g := 308) (ty := .object "RatePlanner$Model") (q0 := k) K hi (by decide +kernel) (by decide) (by decide) (by decide +kernel) (by decide +kernel) (by decide +kernel) rfl rfl (jW_get hkl) (Nat.le_of_ble_eq_true rfl) ?_
  refine jm_w (jW_set hkl).symm ?_
  refine jm_aload (k := 0) K (by decide +kernel) 0 rfl ?_
  refine jm_aload (k := 1) K (by decide +kernel) 1 rfl ?_
  refine jm_get (idx := 29) (a := 6) (b := 1) (g := 227) (v := .ref p2) (q0 := a1_p) K (by decide +kernel) (by decide) (by decide) (by decide +kernel) ((jW_old a1_l a1_k).trans a1_h) rfl ?_
  refine jm_put (idx := 35) (a := 5) (b := 1) (g := 309) (ty := .object "RatePlanner$Settings") (q0 := k) K hi (by decide +kernel) (by decide) (by decide) (by decide +kernel) (by decide +kernel) (by decide +kernel) rfl rfl (jW_get hkl) (Nat.le_of_ble_eq_true rfl) ?_
  refine jm_w (jW_set hkl).symm ?_
  refine jm_aload (k := 0) K (by decide +kernel) 0 rfl ?_
  refine jm_aload (k := 1) K (by decide +kernel) 1 rfl ?_
  refine jm_get (idx := 36) (a := 6) (b := 0) (g := 222) (v := .ref p1) (q0 := a1_p) K (by decide +kernel) (by decide) (by decide) (by decide +kernel) ((jW_old a1_l a1_k).trans a1_h) rfl ?_
  refine jm_put (idx := 40) (a := 5) (b := 2) (g := 310) (ty := .object "RatePlanner$Layout") (q0 := k) K hi (by decide +kernel) (by decide) (by decide) (by decide +kernel) (by decide +kernel) (by decide +kernel) rfl rfl (jW_get hkl) (Nat.le_of_ble_eq_true rfl) ?_
  refine jm_w (jW_set hkl).symm ?_
  refine jm_aload (k := 0) K (by decide +kernel) 0 rfl ?_
  refine jm_aload (k := 2) K (by decide +kernel) 2 rfl ?_
  refine jm_put (idx := 41) (a := 5) (b := 3) (g := 311) (ty := .object "RatePlanner$Course") (q0 := k) K hi (by decide +kernel) (by decide) (by decide) (by decide +kernel) (by decide +kernel) (by decide +kernel) rfl rfl (jW_get hkl) (Nat.le_of_ble_eq_true rfl) ?_
  refine jm_w (jW_set hkl).symm ?_
  exact jm_ret K hr hlk (by decide +kernel) rfl ⟨q1, q2, q3, q4, rfl⟩
set_option maxHeartbeats 4000000 in
set_option maxRecDepth 100000 in
theorem jc_Finder (d : Nat) (l : Launch) (D : va_G) (cI cJ : ClassId) (t : Nat) {ws : va_W} {k h0 a1 a2 a3 : Nat} (hk : ws[k]? = some (h0, .inr (2, [.null, .null, .null, .null, .null]))) {a1_p p1 p2 p3 : Nat} (a1_l : a1_p < ws.length) (a1_k : a1_p ≠ k) (a1_h : ws[a1_p]? = some (a1, .inr (6, [.ref p1, .ref p2, .ref p3]))) : jmC l D cI cJ t (d + 1) 1 60 nX2_init [.ref h0, .ref a1, .ref a2, .ref a3] ws (fun ws2 => ∃ q1 : Nat, ws2 = jW ws k (h0, .inr (2, [.ref p2, .ref p1, .ref a2, .ref a3, .ref q1])) [(q1, jI cI 60)]) := by
  refine jm_start (by decide) (by decide) (Nat.le_of_ble_eq_true rfl) (by decide +kernel) (by decide +kernel) (fun p e s m below meth c0 K hi hr hlk => ?_)
  have hkl : k < ws.length := (List.getElem?_eq_some_iff.mp hk).1
  refine jm_w (jW_0 hk) ?_
  refine jm_aload (k := 0) K (by decide +kernel) 0 rfl ?_
  refine jm_obj (idx := 3) (g := 339) K rfl (by decide +kernel) (by decide +kernel) ?_
  refine jm_aload (k := 0) K (by decide +kernel) 0 rfl ?_
  refine jm_bipush (n := 60) (v := 60) K (by decide +kernel) (by decide) ?_
  refine jm_newi (N := 60) K (by decide +kernel) (by decide) (by decide) (by decide) (Nat.le_of_ble_eq_true rfl) (Nat.le_of_ble_eq_true rfl) (fun q1 => ?_)
  refine jm_w jW_app.symm ?_
  refine jm_put (idx := 9) (a := 2) (b := 4) (g := 344) (ty := .array .int) (q0 := k) K hi (by decide +kernel) (by decide) (by decide) (by decide +kernel) (by decide +kernel) (by decide +kernel) rfl rfl (jW_get hkl) (Nat.le_of_ble_eq_true rfl) ?_
  refine jm_w (jW_set hkl).symm ?_
  refine jm_aload (k := 0) K (by decide +kernel) 0 rfl ?_
  refine jm_aload (k := 1) K (by decide +kernel) 1 rfl ?_
  refine jm_get (idx := 15) (a := 6) (b := 1) (g := 224) (v := .ref p2) (q0 := a1_p) K (by decide +kernel) (by decide) (by decide) (by decide +kernel) ((jW_old a1_l a1_k).trans a1_h) rfl ?_
  refine jm_put (idx := 21) (a := 2) (b := 0) (g := 340) (ty := .object "RatePlanner$Settings") (q0 := k) K hi (by decide +kernel) (by decide) (by decide) (by decide +kernel) (by decide +kernel) (by decide +kernel) rfl rfl (jW_get hkl) (Nat.le_of_ble_eq_true rfl) ?_
  refine jm_w (jW_set hkl).symm ?_
  refine jm_aload (k := 0) K (by decide +kernel) 0 rfl ?_
  refine jm_aload (k := 1) K (by decide +kernel) 1 rfl ?_
  refine jm_get (idx := 22) (a := 6) (b := 0) (g := 220) (v := .ref p1) (q0 := a1_p) K (by decide +kernel) (by decide) (by decide) (by decide +kernel) ((jW_old a1_l a1_k).trans a1_h) rfl ?_
  refine jm_put (idx := 26) (a := 2) (b := 1) (g := 341) (ty := .object "RatePlanner$Layout") (q0 := k) K hi (by decide +kernel) (by decide) (by decide) (by decide +kernel) (by decide +kernel) (by decide +kernel) rfl rfl (jW_get hkl) (Nat.le_of_ble_eq_true rfl) ?_
  refine jm_w (jW_set hkl).symm ?_
  refine jm_aload (k := 0) K (by decide +kernel) 0 rfl ?_
  refine jm_aload (k := 2) K (by decide +kernel) 2 rfl ?_
  refine jm_put (idx := 27) (a := 2) (b := 2) (g := 342) (ty := .object "RatePlanner$Course") (q0 := k) K hi (by decide +kernel) (by decide) (by decide) (by decide +kernel) (by decide +kernel) (by decide +kernel) rfl rfl (jW_get hkl) (Nat.le_of_ble_eq_true rfl) ?_
  refine jm_w (jW_set hkl).symm ?_
  refine jm_aload (k := 0) K (by decide +kernel) 0 rfl ?_
  refine jm_aload (k := 3) K (by decide +kernel) 3 rfl ?_
  refine jm_put (idx := 31) (a := 2) (b := 3) (g := 343) (ty := .object "RatePlanner$Maker") (q0 := k) K hi (by decide +kernel) (by decide) (by decide) (by decide +kernel) (by decide +kernel) (by decide +kernel) rfl rfl (jW_get hkl) (Nat.le_of_ble_eq_true rfl) ?_
  refine jm_w (jW_set hkl).symm ?_
  exact jm_ret K hr hlk (by decide +kernel) rfl ⟨q1, rfl⟩
set_option maxHeartbeats 4000000 in
set_option maxRecDepth 100000 in
theorem jc_Slot (d : Nat) (l : Launch) (D : va_G) (cI cJ : ClassId) (t : Nat) {ws : va_W} {k h0 : Nat} (hk : ws[k]? = some (h0, .inr (9, [.int 0, .null, .null, .null]))) : jmC l D cI cJ t (d + 2) 10 275 nX9_init [.ref h0] ws (fun ws2 => ∃ q1 q2 q3 q4 q5 q6 q7 q8 q9 q10 : Nat, ws2 = jW ws k (h0, .inr (9, [.int 0, .ref q1, .ref q4, .ref q9])) [(q1, .inr (0, [.int 0, .ref q2, .ref q3])), (q2, jI cI 60), (q3, jI cI 60), (q4, .inr (8, [.int 12, .int 2, .int 10, .int 45, .int 60000, .int 90, .int 4000, .int 0, .ref q5, .ref q6, .ref q7, .ref q8])), (q5, .inl (cI, 60, .inl (jWt 60))), (q6, jI cI 6), (q7, jI cI 6), (q8, jI cI 6), (q9, .inr (7, [.int 0, .ref q10])), (q10, jI cI 60)]) := by
  refine jm_start (by decide) (by decide) (Nat.le_of_ble_eq_true rfl) (by decide +kernel) (by decide +kernel) (fun p e s m below meth c0 K hi hr hlk => ?_)
  have hkl : k < ws.length := (List.getElem?_eq_some_iff.mp hk).1
  refine jm_w (jW_0 hk) ?_
  refine jm_aload (k := 0) K (by decide +kernel) 0 rfl ?_
  refine jm_obj (idx := 1) (g := 361) K rfl (by decide +kernel) (by decide +kernel) ?_
  refine jm_aload (k := 0) K (by decide +kernel) 0 rfl ?_
  refine jm_new (idx := 7) (a := 0) (g1 := 362) (g2 := 38) (g3 := 17) (fs := [.int 0, .null, .null]) K (by decide +kernel) (by decide) (by decide +kernel) (by decide +kernel) (by decide +kernel) (fun k => [.int, .array .int, .array .int].getD k .int) (by decide +kernel) (by decide +kernel) 3 (by decide) (Nat.le_of_ble_eq_true rfl) (Nat.le_of_ble_eq_true rfl) (fun q1 => ?_)
  refine jm_w jW_app.symm ?_
  refine jm_dup K (by decide +kernel) ?_
  refine jm_call (idx := 9) (a := nX0_init) (g := 363) (cc := 2) (ss := 120) (As := []) (b := q1) K rfl (jc_Clip d l D cI cJ t (k := (ws.length + 0)) ((jW_new 0).trans rfl)) (by decide +kernel) (by decide) (by decide) (by decide +kernel) (by decide +kernel) (by decide +kernel) 0 rfl (by decide +kernel) (Or.inr (by decide +kernel)) (Nat.le_of_ble_eq_true rfl) (Nat.le_of_ble_eq_true rfl) (Nat.le_of_ble_eq_true rfl) rfl (fun ws2 hp => ?_)
  obtain ⟨q2, q3, rfl⟩ := hp
  refine jm_w (ws' := jW ws k (h0, .inr (9, [.int 0, .null, .null, .null])) [(q1, .inr (0, [.int 0, .ref q2, .ref q3])), (q2, jI cI 60), (q3, jI cI 60)]) (by rw [jW_jW 0]; rfl) ?_
  refine jm_put (idx := 10) (a := 9) (b := 1) (g := 368) (ty := .object "RatePlanner$Clip") (q0 := k) K hi (by decide +kernel) (by decide) (by decide) (by decide +kernel) (by decide +kernel) (by decide +kernel) rfl rfl (jW_get hkl) (Nat.le_of_ble_eq_true rfl) ?_
  refine jm_w (jW_set hkl).symm ?_
  refine jm_aload (k := 0) K (by decide +kernel) 0 rfl ?_
  refine jm_new (idx := 16) (a := 8) (g1 := 364) (g2 := 61) (g3 := 18) (fs := [.int 0, .int 0, .int 0, .int 0, .int 0, .int 0, .int 0, .int 0, .null, .null, .null, .null]) K (by decide +kernel) (by decide) (by decide +kernel) (by decide +kernel) (by decide +kernel) (fun k => [.int, .int, .int, .int, .int, .int, .int, .int, .array .int, .array .int, .array .int, .array .int].getD k .int) (by decide +kernel) (by decide +kernel) 12 (by decide) (Nat.le_of_ble_eq_true rfl) (Nat.le_of_ble_eq_true rfl) (fun q4 => ?_)
  refine jm_w jW_app.symm ?_
  refine jm_dup K (by decide +kernel) ?_
  refine jm_call (idx := 18) (a := nX8_init) (g := 365) (cc := 4) (ss := 78) (As := []) (b := q4) K rfl (jc_Settings d l D cI cJ t (k := (ws.length + 3)) ((jW_new 3).trans rfl)) (by decide +kernel) (by decide) (by decide) (by decide +kernel) (by decide +kernel) (by decide +kernel) 0 rfl (by decide +kernel) (Or.inl (by decide +kernel)) (Nat.le_of_ble_eq_true rfl) (Nat.le_of_ble_eq_true rfl) (Nat.le_of_ble_eq_true rfl) rfl (fun ws2 hp => ?_)
  obtain ⟨q5, q6, q7, q8, rfl⟩ := hp
  refine jm_w (ws' := jW ws k (h0, .inr (9, [.int 0, .ref q1, .null, .null])) [(q1, .inr (0, [.int 0, .ref q2, .ref q3])), (q2, jI cI 60), (q3, jI cI 60), (q4, .inr (8, [.int 12, .int 2, .int 10, .int 45, .int 60000, .int 90, .int 4000, .int 0, .ref q5, .ref q6, .ref q7, .ref q8])), (q5, .inl (cI, 60, .inl (jWt 60))), (q6, jI cI 6), (q7, jI cI 6), (q8, jI cI 6)]) (by rw [jW_jW 3]; rfl) ?_
  refine jm_put (idx := 19) (a := 9) (b := 2) (g := 369) (ty := .object "RatePlanner$Settings") (q0 := k) K hi (by decide +kernel) (by decide) (by decide) (by decide +kernel) (by decide +kernel) (by decide +kernel) rfl rfl (jW_get hkl) (Nat.le_of_ble_eq_true rfl) ?_
  refine jm_w (jW_set hkl).symm ?_
  refine jm_aload (k := 0) K (by decide +kernel) 0 rfl ?_
  refine jm_new (idx := 23) (a := 7) (g1 := 366) (g2 := 118) (g3 := 19) (fs := [.int 0, .null]) K (by decide +kernel) (by decide) (by decide +kernel) (by decide +kernel) (by decide +kernel) (fun k => [.boolean, .array .int].getD k .int) (by decide +kernel) (by decide +kernel) 2 (by decide) (Nat.le_of_ble_eq_true rfl) (Nat.le_of_ble_eq_true rfl) (fun q9 => ?_)
  refine jm_w jW_app.symm ?_
  refine jm_dup K (by decide +kernel) ?_
  refine jm_call (idx := 25) (a := nX7_init) (g := 367) (cc := 1) (ss := 60) (As := []) (b := q9) K rfl (jc_Plan d l D cI cJ t (k := (ws.length + 8)) ((jW_new 8).trans rfl)) (by decide +kernel) (by decide) (by decide) (by decide +kernel) (by decide +kernel) (by decide +kernel) 0 rfl (by decide +kernel) (Or.inr (by decide +kernel)) (Nat.le_of_ble_eq_true rfl) (Nat.le_of_ble_eq_true rfl) (Nat.le_of_ble_eq_true rfl) rfl (fun ws2 hp => ?_)
  obtain ⟨q10, rfl⟩ := hp
  refine jm_w (ws' := jW ws k (h0, .inr (9, [.int 0, .ref q1, .ref q4, .null])) [(q1, .inr (0, [.int 0, .ref q2, .ref q3])), (q2, jI cI 60), (q3, jI cI 60), (q4, .inr (8, [.int 12, .int 2, .int 10, .int 45, .int 60000, .int 90, .int 4000, .int 0, .ref q5, .ref q6, .ref q7, .ref q8])), (q5, .inl (cI, 60, .inl (jWt 60))), (q6, jI cI 6), (q7, jI cI 6), (q8, jI cI 6), (q9, .inr (7, [.int 0, .ref q10])), (q10, jI cI 60)]) (by rw [jW_jW 8]; rfl) ?_
  refine jm_put (idx := 26) (a := 9) (b := 3) (g := 370) (ty := .object "RatePlanner$Plan") (q0 := k) K hi (by decide +kernel) (by decide) (by decide) (by decide +kernel) (by decide +kernel) (by decide +kernel) rfl rfl (jW_get hkl) (Nat.le_of_ble_eq_true rfl) ?_
  refine jm_w (jW_set hkl).symm ?_
  exact jm_ret K hr hlk (by decide +kernel) rfl ⟨q1, q2, q3, q4, q5, q6, q7, q8, q9, q10, rfl⟩
