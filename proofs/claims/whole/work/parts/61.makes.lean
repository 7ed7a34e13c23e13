/-! the constructors, a contract each: printed by wip/whole/genmake.py -/
def jWt (i : Nat) : Nat → Int32 := fun j => if j < i then 4 else 0
def jSt (i : Nat) : Nat → Int32 := fun j => if j < i then iI (mStp j : Int) else 0
def jMt (i : Nat) : Nat → Int32 := fun j => if 121 ≤ j ∧ j < 121 + i then 4 else 0
theorem jWt_0 : jWt 0 = fun _ => 0 := funext fun j => if_neg (Nat.not_lt_zero j)
theorem jSt_0 : jSt 0 = fun _ => 0 := funext fun j => if_neg (Nat.not_lt_zero j)
theorem jMt_0 : jMt 0 = fun _ => 0 := funext fun j => if_neg (by omega)
theorem jWt_s (i : Nat) : upd (jWt i) i 4 = jWt (i + 1) := funext fun j => by
  unfold jWt
  simp only [upd]
  by_cases e : j = i
  · rw [if_pos e, if_pos (by omega)]
  · rw [if_neg e]
    by_cases c : j < i
    · rw [if_pos c, if_pos (by omega)]
    · rw [if_neg c, if_neg (by omega)]
theorem jSt_s (i : Nat) : upd (jSt i) i (iI (mStp i : Int)) = jSt (i + 1) := funext fun j => by
  unfold jSt
  simp only [upd]
  by_cases e : j = i
  · rw [if_pos e, if_pos (by omega), e]
  · rw [if_neg e]
    by_cases c : j < i
    · rw [if_pos c, if_pos (by omega)]
    · rw [if_neg c, if_neg (by omega)]
theorem jMt_s (i : Nat) : upd (jMt i) (121 + i) 4 = jMt (i + 1) := funext fun j => by
  unfold jMt
  simp only [upd]
  by_cases e : j = 121 + i
  · rw [if_pos e, if_pos (by omega)]
  · rw [if_neg e]
    by_cases c : 121 ≤ j ∧ j < 121 + i
    · rw [if_pos c, if_pos (by omega)]
    · rw [if_neg c, if_neg (by omega)]
theorem jSt_v : ∀ i : Nat, i < 52 → jFs (i % 6) <<< (iI ((i / 6 : Nat) : Int) &&& 31) = iI (mStp i : Int) := by decide +kernel
theorem jSt_d : ∀ i : Nat, i < 52 → iI (i : Int) / 6 = iI ((i / 6 : Nat) : Int) := by decide +kernel
theorem jSt_m : ∀ i : Nat, i < 52 → iI (i : Int) - iI (i : Int) / 6 * 6 = iI ((i % 6 : Nat) : Int) := by decide +kernel
theorem j1 (i : Nat) : iI (i : Int) + Int32.ofInt 1 = iI ((i + 1 : Nat) : Int) := by
  rw [show Int32.ofInt 1 = 1 from by decide]
  exact iI_s i
section JL
variable {p : Program} {l : Launch} {e : Env} {R : Room} {s : State} {m : MethodId} {args : Array Value} {below : List Frame} {meth : Method} {c : Code} {cells slots : Nat} {Q : State → Prop} {D : va_G} {cI cJ : ClassId} {t : Nat} {A : Nat → Prop} {d : Nat} {ws L : va_W} {k h0 q1 a1 a2 : Nat} {fs : List Value}
set_option maxHeartbeats 4000000 in
set_option maxRecDepth 100000 in
theorem jl_Settings (K : jmX p l R s m args meth c D cI cJ t A d nX8_init) (hkl : k < ws.length) (hf : fs[8]? = some (.ref q1)) (fin : jmG p l e R s m args below meth c Q D A 2 102 [(0, .ref h0)] [] (jW ws k (h0, .inr (8, fs)) ((q1, .inl (cI, 60, .inl (jWt 60))) :: L)) cells slots) : ∀ (n i : Nat), i + n = 60 → jmG p l e R s m args below meth c Q D A 2 80 [(1, .int (iI (i : Int))), (0, .ref h0)] [] (jW ws k (h0, .inr (8, fs)) ((q1, .inl (cI, 60, .inl (jWt i))) :: L)) cells slots
  | n, i, hi => by
    refine jm_iload (k := 1) K (by decide +kernel) 0 rfl ?_
    refine jm_aload (k := 0) K (by decide +kernel) 1 rfl ?_
    refine jm_get (idx := 34) (a := 8) (b := 8) (g := 155) (q0 := k) K (by decide +kernel) (by decide) (by decide) (by decide +kernel) (jW_get hkl) hf ?_
    refine jm_alen (v := iI 60) (q0 := ws.length + 0) (f := jWt i) (N := 60) K (by decide +kernel) ((jW_new 0).trans rfl) (by decide) ?_
    cases n with
    | zero =>
      have ei : i = 60 := by omega
      subst ei
      refine jm_icmp_ge (off := 16) (tgt := 102) K (by decide +kernel) (by decide) (fun _ => ?_) (fun z => absurd ((iI_le (by omega) (by omega) (by omega) (by omega)).mpr (by omega)) z)
      exact jm_sub [1] rfl fin
    | succ n =>
      refine jm_icmp_ge (off := 16) (tgt := 102) K (by decide +kernel) (by decide) (fun z => ?_) (fun _ => ?_)
      · rw [iI_le (by omega) (by omega) (by omega) (by omega)] at z
        omega
      refine jm_aload (k := 0) K (by decide +kernel) 1 rfl ?_
      refine jm_get (idx := 34) (a := 8) (b := 8) (g := 155) (q0 := k) K (by decide +kernel) (by decide) (by decide) (by decide +kernel) (jW_get hkl) hf ?_
      refine jm_iload (k := 1) K (by decide +kernel) 0 rfl ?_
      refine jm_iconst (n := 4) (v := 4) K (by decide +kernel) (by decide) ?_
      refine jm_iast (k := i) (q0 := ws.length + 0) (f := jWt i) (N := 60) K (by decide +kernel) ((jW_new 0).trans rfl) (vin_k (by omega) (by decide)) (iI_k (by omega)) ?_
      refine jm_w (ws' := jW ws k (h0, .inr (8, fs)) ((q1, .inl (cI, 60, .inl (jWt (i + 1)))) :: L)) (by rw [jW_setn, jWt_s]; rfl) ?_
      refine jm_iinc (k := 0) (i := 1) (n := 1) (lv' := [(1, .int (iI ((i + 1 : Nat) : Int))), (0, .ref h0)]) K (by decide +kernel) rfl (j1 i) (by decide) rfl ?_
      refine jm_goto (off := -19) (tgt := 80) K (by decide +kernel) (by decide) ?_
      exact jl_Settings K hkl hf fin n (i + 1) (by omega)
set_option maxHeartbeats 4000000 in
set_option maxRecDepth 100000 in
theorem jl_Model (K : jmX p l R s m args meth c D cI cJ t A d nX6_init) (hkl : k < ws.length) (hf : fs[2]? = some (.ref q1)) (hc : cells ≤ R.cells) (hs : slots ≤ R.slots) (fin : jmG p l e R s m args below meth c Q D A 4 60 [(0, .ref h0)] [] (jW ws k (h0, .inr (6, fs)) ((q1, .inl (cI, 52, .inl (jSt 52))) :: L)) cells slots) : ∀ (n i : Nat), i + n = 52 → jmG p l e R s m args below meth c Q D A 4 24 [(3, .int (iI (i : Int))), (0, .ref h0)] [] (jW ws k (h0, .inr (6, fs)) ((q1, .inl (cI, 52, .inl (jSt i))) :: L)) cells slots
  | n, i, hi => by
    refine jm_iload (k := 3) K (by decide +kernel) 0 rfl ?_
    refine jm_aload (k := 0) K (by decide +kernel) 1 rfl ?_
    refine jm_get (idx := 9) (a := 6) (b := 2) (g := 310) (q0 := k) K (by decide +kernel) (by decide) (by decide) (by decide +kernel) (jW_get hkl) hf ?_
    refine jm_alen (v := iI 52) (q0 := ws.length + 0) (f := jSt i) (N := 52) K (by decide +kernel) ((jW_new 0).trans rfl) (by decide) ?_
    cases n with
    | zero =>
      have ei : i = 52 := by omega
      subst ei
      refine jm_icmp_ge (off := 30) (tgt := 60) K (by decide +kernel) (by decide) (fun _ => ?_) (fun z => absurd ((iI_le (by omega) (by omega) (by omega) (by omega)).mpr (by omega)) z)
      exact jm_sub [1] rfl fin
    | succ n =>
      refine jm_icmp_ge (off := 30) (tgt := 60) K (by decide +kernel) (by decide) (fun z => ?_) (fun _ => ?_)
      · rw [iI_le (by omega) (by omega) (by omega) (by omega)] at z
        omega
      refine jm_aload (k := 0) K (by decide +kernel) 1 rfl ?_
      refine jm_get (idx := 9) (a := 6) (b := 2) (g := 310) (q0 := k) K (by decide +kernel) (by decide) (by decide) (by decide +kernel) (jW_get hkl) hf ?_
      refine jm_iload (k := 3) K (by decide +kernel) 0 rfl ?_
      refine jm_gets (idx := 23) (g := 295) K (by decide +kernel) (by decide +kernel) ?_
      refine jm_iload (k := 3) K (by decide +kernel) 0 rfl ?_
      refine jm_bipush (n := 6) (v := 6) K (by decide +kernel) (by decide) ?_
      refine jm_irem K (by decide +kernel) (by decide) ?_
      rw [jSt_m i (by omega)]
      refine jm_callAt (k := i % 6) (idx := 26) (g := 297) K rfl (Nat.mod_lt _ (by decide)) (by decide +kernel) (by decide +kernel) (Nat.le_of_ble_eq_true rfl) hc hs ?_
      refine jm_iload (k := 3) K (by decide +kernel) 0 rfl ?_
      refine jm_bipush (n := 6) (v := 6) K (by decide +kernel) (by decide) ?_
      refine jm_idiv K (by decide +kernel) (by decide) ?_
      refine jm_ishl K (by decide +kernel) ?_
      rw [jSt_d i (by omega), jSt_v i (by omega)]
      refine jm_iast (k := i) (q0 := ws.length + 0) (f := jSt i) (N := 52) K (by decide +kernel) ((jW_new 0).trans rfl) (vin_k (by omega) (by decide)) (iI_k (by omega)) ?_
      refine jm_w (ws' := jW ws k (h0, .inr (6, fs)) ((q1, .inl (cI, 52, .inl (jSt (i + 1)))) :: L)) (by rw [jW_setn, jSt_s]; rfl) ?_
      refine jm_iinc (k := 0) (i := 3) (n := 1) (lv' := [(3, .int (iI ((i + 1 : Nat) : Int))), (0, .ref h0)]) K (by decide +kernel) rfl (j1 i) (by decide) rfl ?_
      refine jm_goto (off := -33) (tgt := 24) K (by decide +kernel) (by decide) ?_
      exact jl_Model K hkl hf hc hs fin n (i + 1) (by omega)
set_option maxHeartbeats 4000000 in
set_option maxRecDepth 100000 in
theorem jl_Ref (K : jmX p l R s m args meth c D cI cJ t A d nX12_init) (hkl : k < ws.length) (hf : fs[0]? = some (.ref q1)) (fin : jmG p l e R s m args below meth c Q D A 2 157 [(0, .ref h0)] [] (jW ws k (h0, .inr (12, fs)) ((q1, .inl (cI, 268, .inl (jMt 60))) :: L)) cells slots) : ∀ (n i : Nat), i + n = 60 → jmG p l e R s m args below meth c Q D A 2 135 [(1, .int (iI (i : Int))), (0, .ref h0)] [] (jW ws k (h0, .inr (12, fs)) ((q1, .inl (cI, 268, .inl (jMt i))) :: L)) cells slots
  | n, i, hi => by
    refine jm_iload (k := 1) K (by decide +kernel) 0 rfl ?_
    refine jm_bipush (n := 60) (v := iI 60) K (by decide +kernel) (by decide) ?_
    cases n with
    | zero =>
      have ei : i = 60 := by omega
      subst ei
      refine jm_icmp_ge (off := 19) (tgt := 157) K (by decide +kernel) (by decide) (fun _ => ?_) (fun z => absurd ((iI_le (by omega) (by omega) (by omega) (by omega)).mpr (by omega)) z)
      exact jm_sub [1] rfl fin
    | succ n =>
      refine jm_icmp_ge (off := 19) (tgt := 157) K (by decide +kernel) (by decide) (fun z => ?_) (fun _ => ?_)
      · rw [iI_le (by omega) (by omega) (by omega) (by omega)] at z
        omega
      refine jm_aload (k := 0) K (by decide +kernel) 1 rfl ?_
      refine jm_get (idx := 7) (a := 12) (b := 0) (g := 1051) (q0 := k) K (by decide +kernel) (by decide) (by decide) (by decide +kernel) (jW_get hkl) hf ?_
      refine jm_bipush (n := 121) (v := 121) K (by decide +kernel) (by decide) ?_
      refine jm_iload (k := 1) K (by decide +kernel) 0 rfl ?_
      refine jm_iadd K (by decide +kernel) ?_
      rw [iI_121p i]
      refine jm_iconst (n := 4) (v := 4) K (by decide +kernel) (by decide) ?_
      refine jm_iast (k := 121 + i) (q0 := ws.length + 0) (f := jMt i) (N := 268) K (by decide +kernel) ((jW_new 0).trans rfl) (vin_k (by omega) (by decide)) (iI_k (by omega)) ?_
      refine jm_w (ws' := jW ws k (h0, .inr (12, fs)) ((q1, .inl (cI, 268, .inl (jMt (i + 1)))) :: L)) (by rw [jW_setn, jMt_s]; rfl) ?_
      refine jm_iinc (k := 0) (i := 1) (n := 1) (lv' := [(1, .int (iI ((i + 1 : Nat) : Int))), (0, .ref h0)]) K (by decide +kernel) rfl (j1 i) (by decide) rfl ?_
      refine jm_goto (off := -19) (tgt := 135) K (by decide +kernel) (by decide) ?_
      exact jl_Ref K hkl hf fin n (i + 1) (by omega)
end JL
set_option maxHeartbeats 4000000 in
set_option maxRecDepth 100000 in
theorem jc_Clip (d : Nat) (l : Launch) (D : va_G) (cI cJ : ClassId) (t : Nat) {ws : va_W} {k h0 : Nat} (hk : ws[k]? = some (h0, .inr (0, [.int 0, .null, .null]))) : jmC l D cI cJ t (d + 1) 2 120 nX0_init [.ref h0] ws (fun ws2 => ∃ q1 q2 : Nat, ws2 = jW ws k (h0, .inr (0, [.int 0, .ref q1, .ref q2])) [(q1, jI cI 60), (q2, jI cI 60)]) := by
  refine jm_start (by decide) (by decide) (Nat.le_of_ble_eq_true rfl) (by decide +kernel) (by decide +kernel) (fun p e s m below meth c0 K hi hr hlk => ?_)
  have hkl : k < ws.length := (List.getElem?_eq_some_iff.mp hk).1
  refine jm_w (jW_0 hk) ?_
  refine jm_aload (k := 0) K (by decide +kernel) 0 rfl ?_
  refine jm_obj (idx := 3) (g := 98) K rfl (by decide +kernel) (by decide +kernel) ?_
  refine jm_aload (k := 0) K (by decide +kernel) 0 rfl ?_
  refine jm_bipush (n := 60) (v := 60) K (by decide +kernel) (by decide) ?_
  refine jm_newi (N := 60) K (by decide +kernel) (by decide) (by decide) (by decide) (Nat.le_of_ble_eq_true rfl) (Nat.le_of_ble_eq_true rfl) (fun q1 => ?_)
  refine jm_w jW_app.symm ?_
  refine jm_put (idx := 9) (a := 0) (b := 1) (g := 103) (ty := .array .int) (q0 := k) K hi (by decide +kernel) (by decide) (by decide) (by decide +kernel) (by decide +kernel) (by decide +kernel) rfl rfl (jW_get hkl) (Nat.le_of_ble_eq_true rfl) ?_
  refine jm_w (jW_set hkl).symm ?_
  refine jm_aload (k := 0) K (by decide +kernel) 0 rfl ?_
  refine jm_bipush (n := 60) (v := 60) K (by decide +kernel) (by decide) ?_
  refine jm_newi (N := 60) K (by decide +kernel) (by decide) (by decide) (by decide) (Nat.le_of_ble_eq_true rfl) (Nat.le_of_ble_eq_true rfl) (fun q2 => ?_)
  refine jm_w jW_app.symm ?_
  refine jm_put (idx := 15) (a := 0) (b := 2) (g := 106) (ty := .array .int) (q0 := k) K hi (by decide +kernel) (by decide) (by decide) (by decide +kernel) (by decide +kernel) (by decide +kernel) rfl rfl (jW_get hkl) (Nat.le_of_ble_eq_true rfl) ?_
  refine jm_w (jW_set hkl).symm ?_
  exact jm_ret K hr hlk (by decide +kernel) rfl ⟨q1, q2, rfl⟩
set_option maxHeartbeats 4000000 in
set_option maxRecDepth 100000 in
theorem jc_Plan (d : Nat) (l : Launch) (D : va_G) (cI cJ : ClassId) (t : Nat) {ws : va_W} {k h0 : Nat} (hk : ws[k]? = some (h0, .inr (7, [.int 0, .null]))) : jmC l D cI cJ t (d + 1) 1 60 nX7_init [.ref h0] ws (fun ws2 => ∃ q1 : Nat, ws2 = jW ws k (h0, .inr (7, [.int 0, .ref q1])) [(q1, jI cI 60)]) := by
  refine jm_start (by decide) (by decide) (Nat.le_of_ble_eq_true rfl) (by decide +kernel) (by decide +kernel) (fun p e s m below meth c0 K hi hr hlk => ?_)
  have hkl : k < ws.length := (List.getElem?_eq_some_iff.mp hk).1
  refine jm_w (jW_0 hk) ?_
  refine jm_aload (k := 0) K (by decide +kernel) 0 rfl ?_
  refine jm_obj (idx := 3) (g := 191) K rfl (by decide +kernel) (by decide +kernel) ?_
  refine jm_aload (k := 0) K (by decide +kernel) 0 rfl ?_
  refine jm_bipush (n := 60) (v := 60) K (by decide +kernel) (by decide) ?_
  refine jm_newi (N := 60) K (by decide +kernel) (by decide) (by decide) (by decide) (Nat.le_of_ble_eq_true rfl) (Nat.le_of_ble_eq_true rfl) (fun q1 => ?_)
  refine jm_w jW_app.symm ?_
  refine jm_put (idx := 9) (a := 7) (b := 1) (g := 194) (ty := .array .int) (q0 := k) K hi (by decide +kernel) (by decide) (by decide) (by decide +kernel) (by decide +kernel) (by decide +kernel) rfl rfl (jW_get hkl) (Nat.le_of_ble_eq_true rfl) ?_
  refine jm_w (jW_set hkl).symm ?_
  exact jm_ret K hr hlk (by decide +kernel) rfl ⟨q1, rfl⟩
set_option maxHeartbeats 4000000 in
set_option maxRecDepth 100000 in
theorem jc_Settings (d : Nat) (l : Launch) (D : va_G) (cI cJ : ClassId) (t : Nat) {ws : va_W} {k h0 : Nat} (hk : ws[k]? = some (h0, .inr (8, [.int 0, .int 0, .int 0, .int 0, .int 0, .int 0, .int 0, .int 0, .null, .null, .null, .null]))) : jmC l D cI cJ t (d + 1) 4 78 nX8_init [.ref h0] ws (fun ws2 => ∃ q1 q2 q3 q4 : Nat, ws2 = jW ws k (h0, .inr (8, [.int 12, .int 2, .int 10, .int 45, .int 60000, .int 90, .int 4000, .int 0, .ref q1, .ref q2, .ref q3, .ref q4])) [(q1, .inl (cI, 60, .inl (jWt 60))), (q2, jI cI 6), (q3, jI cI 6), (q4, jI cI 6)]) := by
  refine jm_start (by decide) (by decide) (Nat.le_of_ble_eq_true rfl) (by decide +kernel) (by decide +kernel) (fun p e s m below meth c0 K hi hr hlk => ?_)
  have hkl : k < ws.length := (List.getElem?_eq_some_iff.mp hk).1
  refine jm_w (jW_0 hk) ?_
  refine jm_aload (k := 0) K (by decide +kernel) 0 rfl ?_
  refine jm_obj (idx := 3) (g := 122) K rfl (by decide +kernel) (by decide +kernel) ?_
  refine jm_aload (k := 0) K (by decide +kernel) 0 rfl ?_
  refine jm_bipush (n := 12) (v := 12) K (by decide +kernel) (by decide) ?_
  refine jm_put (idx := 9) (a := 8) (b := 0) (g := 124) (ty := .int) (q0 := k) K hi (by decide +kernel) (by decide) (by decide) (by decide +kernel) (by decide +kernel) (by decide +kernel) rfl rfl (jW_get hkl) (Nat.le_of_ble_eq_true rfl) ?_
  refine jm_w (jW_set hkl).symm ?_
  refine jm_aload (k := 0) K (by decide +kernel) 0 rfl ?_
  refine jm_iconst (n := 2) (v := 2) K (by decide +kernel) (by decide) ?_
  refine jm_put (idx := 15) (a := 8) (b := 1) (g := 127) (ty := .int) (q0 := k) K hi (by decide +kernel) (by decide) (by decide) (by decide +kernel) (by decide +kernel) (by decide +kernel) rfl rfl (jW_get hkl) (Nat.le_of_ble_eq_true rfl) ?_
  refine jm_w (jW_set hkl).symm ?_
  refine jm_aload (k := 0) K (by decide +kernel) 0 rfl ?_
  refine jm_bipush (n := 10) (v := 10) K (by decide +kernel) (by decide) ?_
  refine jm_put (idx := 18) (a := 8) (b := 2) (g := 130) (ty := .int) (q0 := k) K hi (by decide +kernel) (by decide) (by decide) (by decide +kernel) (by decide +kernel) (by decide +kernel) rfl rfl (jW_get hkl) (Nat.le_of_ble_eq_true rfl) ?_
  refine jm_w (jW_set hkl).symm ?_
  refine jm_aload (k := 0) K (by decide +kernel) 0 rfl ?_
  refine jm_bipush (n := 45) (v := 45) K (by decide +kernel) (by decide) ?_
  refine jm_put (idx := 21) (a := 8) (b := 3) (g := 134) (ty := .int) (q0 := k) K hi (by decide +kernel) (by decide) (by decide) (by decide +kernel) (by decide +kernel) (by decide +kernel) rfl rfl (jW_get hkl) (Nat.le_of_ble_eq_true rfl) ?_
  refine jm_w (jW_set hkl).symm ?_
  refine jm_aload (k := 0) K (by decide +kernel) 0 rfl ?_
  refine jm_ldc (idx := 24) (g := 123) (v := 60000) K (by decide +kernel) (by decide +kernel) ?_
  refine jm_put (idx := 25) (a := 8) (b := 4) (g := 138) (ty := .int) (q0 := k) K hi (by decide +kernel) (by decide) (by decide) (by decide +kernel) (by decide +kernel) (by decide +kernel) rfl rfl (jW_get hkl) (Nat.le_of_ble_eq_true rfl) ?_
  refine jm_w (jW_set hkl).symm ?_
  refine jm_aload (k := 0) K (by decide +kernel) 0 rfl ?_
  refine jm_bipush (n := 90) (v := 90) K (by decide +kernel) (by decide) ?_
  refine jm_put (idx := 28) (a := 8) (b := 5) (g := 143) (ty := .int) (q0 := k) K hi (by decide +kernel) (by decide) (by decide) (by decide +kernel) (by decide +kernel) (by decide +kernel) rfl rfl (jW_get hkl) (Nat.le_of_ble_eq_true rfl) ?_
  refine jm_w (jW_set hkl).symm ?_
  refine jm_aload (k := 0) K (by decide +kernel) 0 rfl ?_
  refine jm_sipush (n := 4000) (v := 4000) K (by decide +kernel) (by decide) ?_
  refine jm_put (idx := 31) (a := 8) (b := 6) (g := 148) (ty := .int) (q0 := k) K hi (by decide +kernel) (by decide) (by decide) (by decide +kernel) (by decide +kernel) (by decide +kernel) rfl rfl (jW_get hkl) (Nat.le_of_ble_eq_true rfl) ?_
  refine jm_w (jW_set hkl).symm ?_
  refine jm_aload (k := 0) K (by decide +kernel) 0 rfl ?_
  refine jm_bipush (n := 60) (v := 60) K (by decide +kernel) (by decide) ?_
  refine jm_newi (N := 60) K (by decide +kernel) (by decide) (by decide) (by decide) (Nat.le_of_ble_eq_true rfl) (Nat.le_of_ble_eq_true rfl) (fun q1 => ?_)
  refine jm_w jW_app.symm ?_
  refine jm_put (idx := 34) (a := 8) (b := 8) (g := 155) (ty := .array .int) (q0 := k) K hi (by decide +kernel) (by decide) (by decide) (by decide +kernel) (by decide +kernel) (by decide +kernel) rfl rfl (jW_get hkl) (Nat.le_of_ble_eq_true rfl) ?_
  refine jm_w (jW_set hkl).symm ?_
  refine jm_aload (k := 0) K (by decide +kernel) 0 rfl ?_
  refine jm_bipush (n := 6) (v := 6) K (by decide +kernel) (by decide) ?_
  refine jm_newi (N := 6) K (by decide +kernel) (by decide) (by decide) (by decide) (Nat.le_of_ble_eq_true rfl) (Nat.le_of_ble_eq_true rfl) (fun q2 => ?_)
  refine jm_w jW_app.symm ?_
  refine jm_put (idx := 38) (a := 8) (b := 9) (g := 158) (ty := .array .int) (q0 := k) K hi (by decide +kernel) (by decide) (by decide) (by decide +kernel) (by decide +kernel) (by decide +kernel) rfl rfl (jW_get hkl) (Nat.le_of_ble_eq_true rfl) ?_
  refine jm_w (jW_set hkl).symm ?_
  refine jm_aload (k := 0) K (by decide +kernel) 0 rfl ?_
  refine jm_bipush (n := 6) (v := 6) K (by decide +kernel) (by decide) ?_
  refine jm_newi (N := 6) K (by decide +kernel) (by decide) (by decide) (by decide) (Nat.le_of_ble_eq_true rfl) (Nat.le_of_ble_eq_true rfl) (fun q3 => ?_)
  refine jm_w jW_app.symm ?_
  refine jm_put (idx := 41) (a := 8) (b := 10) (g := 159) (ty := .array .int) (q0 := k) K hi (by decide +kernel) (by decide) (by decide) (by decide +kernel) (by decide +kernel) (by decide +kernel) rfl rfl (jW_get hkl) (Nat.le_of_ble_eq_true rfl) ?_
  refine jm_w (jW_set hkl).symm ?_
  refine jm_aload (k := 0) K (by decide +kernel) 0 rfl ?_
  refine jm_bipush (n := 6) (v := 6) K (by decide +kernel) (by decide) ?_
  refine jm_newi (N := 6) K (by decide +kernel) (by decide) (by decide) (by decide) (Nat.le_of_ble_eq_true rfl) (Nat.le_of_ble_eq_true rfl) (fun q4 => ?_)
  refine jm_w jW_app.symm ?_
  refine jm_put (idx := 44) (a := 8) (b := 11) (g := 160) (ty := .array .int) (q0 := k) K hi (by decide +kernel) (by decide) (by decide) (by decide +kernel) (by decide +kernel) (by decide +kernel) rfl rfl (jW_get hkl) (Nat.le_of_ble_eq_true rfl) ?_
  refine jm_w (jW_set hkl).symm ?_
  refine jm_iconst (n := 0) (v := 0) K (by decide +kernel) (by decide) ?_
  refine jm_istore (k := 1) (lv' := [(1, .int (iI ((0 : Nat) : Int))), (0, .ref h0)]) K (by decide +kernel) (by decide) rfl ?_
  refine jm_w (ws' := jW ws k (h0, .inr (8, [.int 12, .int 2, .int 10, .int 45, .int 60000, .int 90, .int 4000, .int 0, .ref q1, .ref q2, .ref q3, .ref q4])) [(q1, .inl (cI, 60, .inl (jWt 0))), (q2, jI cI 6), (q3, jI cI 6), (q4, jI cI 6)]) (by rw [jWt_0]; rfl) ?_
  refine jl_Settings K hkl rfl ?_ 60 0 rfl
  exact jm_ret K hr hlk (by decide +kernel) rfl ⟨q1, q2, q3, q4, rfl⟩
set_option maxHeartbeats 4000000 in
set_option maxRecDepth 100000 in
theorem jc_Text (d : Nat) (l : Launch) (D : va_G) (cI cJ : ClassId) (t : Nat) {ws : va_W} {k h0 : Nat} (hk : ws[k]? = some (h0, .inr (10, [.int 0, .null, .null, .int 0, .int 0, .int 0]))) : jmC l D cI cJ t (d + 2) 4 223 nX10_init [.ref h0] ws (fun ws2 => ∃ q1 q2 q3 q4 : Nat, ws2 = jW ws k (h0, .inr (10, [.int 0, .ref q1, .ref q4, .int 0, .int 0, .int 0])) [(q1, .inr (0, [.int 0, .ref q2, .ref q3])), (q2, jI cI 60), (q3, jI cI 60), (q4, jI cI 100)]) := by
  refine jm_start (by decide) (by decide) (Nat.le_of_ble_eq_true rfl) (by decide +kernel) (by decide +kernel) (fun p e s m below meth c0 K hi hr hlk => ?_)
  have hkl : k < ws.length := (List.getElem?_eq_some_iff.mp hk).1
  refine jm_w (jW_0 hk) ?_
  refine jm_aload (k := 0) K (by decide +kernel) 0 rfl ?_
  refine jm_obj (idx := 3) (g := 206) K rfl (by decide +kernel) (by decide +kernel) ?_
  refine jm_aload (k := 0) K (by decide +kernel) 0 rfl ?_
  refine jm_new (idx := 9) (a := 0) (g1 := 207) (g2 := 94) (g3 := 71) (fs := [.int 0, .null, .null]) K (by decide +kernel) (by decide) (by decide +kernel) (by decide +kernel) (by decide +kernel) (fun k => [.int, .array .int, .array .int].getD k .int) (by decide +kernel) (by decide +kernel) 3 (by decide) (Nat.le_of_ble_eq_true rfl) (Nat.le_of_ble_eq_true rfl) (fun q1 => ?_)
  refine jm_w jW_app.symm ?_
  refine jm_dup K (by decide +kernel) ?_
  refine jm_call (idx := 11) (a := nX0_init) (g := 208) (cc := 2) (ss := 120) (As := []) (b := q1) K rfl (jc_Clip d l D cI cJ t (k := (ws.length + 0)) ((jW_new 0).trans rfl)) (by decide +kernel) (by decide) (by decide) (by decide +kernel) (by decide +kernel) (by decide +kernel) 0 rfl (by decide +kernel) (Or.inr (by decide +kernel)) (Nat.le_of_ble_eq_true rfl) (Nat.le_of_ble_eq_true rfl) (Nat.le_of_ble_eq_true rfl) rfl (fun ws2 hp => ?_)
  obtain ⟨q2, q3, rfl⟩ := hp
  refine jm_w (ws' := jW ws k (h0, .inr (10, [.int 0, .null, .null, .int 0, .int 0, .int 0])) [(q1, .inr (0, [.int 0, .ref q2, .ref q3])), (q2, jI cI 60), (q3, jI cI 60)]) (by rw [jW_jW 0]; rfl) ?_
  refine jm_put (idx := 12) (a := 10) (b := 1) (g := 211) (ty := .object "RatePlanner$Clip") (q0 := k) K hi (by decide +kernel) (by decide) (by decide) (by decide +kernel) (by decide +kernel) (by decide +kernel) rfl rfl (jW_get hkl) (Nat.le_of_ble_eq_true rfl) ?_
  refine jm_w (jW_set hkl).symm ?_
  refine jm_aload (k := 0) K (by decide +kernel) 0 rfl ?_
  refine jm_bipush (n := 100) (v := 100) K (by decide +kernel) (by decide) ?_
  refine jm_newi (N := 100) K (by decide +kernel) (by decide) (by decide) (by decide) (Nat.le_of_ble_eq_true rfl) (Nat.le_of_ble_eq_true rfl) (fun q4 => ?_)
  refine jm_w jW_app.symm ?_
  refine jm_put (idx := 18) (a := 10) (b := 2) (g := 213) (ty := .array .int) (q0 := k) K hi (by decide +kernel) (by decide) (by decide) (by decide +kernel) (by decide +kernel) (by decide +kernel) rfl rfl (jW_get hkl) (Nat.le_of_ble_eq_true rfl) ?_
  refine jm_w (jW_set hkl).symm ?_
  exact jm_ret K hr hlk (by decide +kernel) rfl ⟨q1, q2, q3, q4, rfl⟩
set_option maxHeartbeats 4000000 in
set_option maxRecDepth 100000 in
theorem jc_Layout (d : Nat) (l : Launch) (D : va_G) (cI cJ : ClassId) (t : Nat) {ws : va_W} {k h0 : Nat} (hk : ws[k]? = some (h0, .inr (3, [.int 0, .int 0, .int 0, .null, .null, .null, .null, .null, .null, .null]))) : jmC l D cI cJ t (d + 1) 7 420 nX3_init [.ref h0] ws (fun ws2 => ∃ q1 q2 q3 q4 q5 q6 q7 : Nat, ws2 = jW ws k (h0, .inr (3, [.int 0, .int 0, .int 0, .ref q1, .ref q2, .ref q3, .ref q4, .ref q5, .ref q6, .ref q7])) [(q1, jI cI 60), (q2, jI cI 60), (q3, jI cI 60), (q4, jI cI 60), (q5, jI cI 60), (q6, jI cI 60), (q7, jI cI 60)]) := by
  refine jm_start (by decide) (by decide) (Nat.le_of_ble_eq_true rfl) (by decide +kernel) (by decide +kernel) (fun p e s m below meth c0 K hi hr hlk => ?_)
  have hkl : k < ws.length := (List.getElem?_eq_some_iff.mp hk).1
  refine jm_w (jW_0 hk) ?_
  refine jm_aload (k := 0) K (by decide +kernel) 0 rfl ?_
  refine jm_obj (idx := 3) (g := 235) K rfl (by decide +kernel) (by decide +kernel) ?_
  refine jm_aload (k := 0) K (by decide +kernel) 0 rfl ?_
  refine jm_bipush (n := 60) (v := 60) K (by decide +kernel) (by decide) ?_
  refine jm_newi (N := 60) K (by decide +kernel) (by decide) (by decide) (by decide) (Nat.le_of_ble_eq_true rfl) (Nat.le_of_ble_eq_true rfl) (fun q1 => ?_)
  refine jm_w jW_app.symm ?_
  refine jm_put (idx := 9) (a := 3) (b := 3) (g := 245) (ty := .array .int) (q0 := k) K hi (by decide +kernel) (by decide) (by decide) (by decide +kernel) (by decide +kernel) (by decide +kernel) rfl rfl (jW_get hkl) (Nat.le_of_ble_eq_true rfl) ?_
  refine jm_w (jW_set hkl).symm ?_
  refine jm_aload (k := 0) K (by decide +kernel) 0 rfl ?_
  refine jm_bipush (n := 60) (v := 60) K (by decide +kernel) (by decide) ?_
  refine jm_newi (N := 60) K (by decide +kernel) (by decide) (by decide) (by decide) (Nat.le_of_ble_eq_true rfl) (Nat.le_of_ble_eq_true rfl) (fun q2 => ?_)
  refine jm_w jW_app.symm ?_
  refine jm_put (idx := 15) (a := 3) (b := 4) (g := 249) (ty := .array .int) (q0 := k) K hi (by decide +kernel) (by decide) (by decide) (by decide +kernel) (by decide +kernel) (by decide +kernel) rfl rfl (jW_get hkl) (Nat.le_of_ble_eq_true rfl) ?_
  refine jm_w (jW_set hkl).symm ?_
  refine jm_aload (k := 0) K (by decide +kernel) 0 rfl ?_
  refine jm_bipush (n := 60) (v := 60) K (by decide +kernel) (by decide) ?_
  refine jm_newi (N := 60) K (by decide +kernel) (by decide) (by decide) (by decide) (Nat.le_of_ble_eq_true rfl) (Nat.le_of_ble_eq_true rfl) (fun q3 => ?_)
  refine jm_w jW_app.symm ?_
  refine jm_put (idx := 18) (a := 3) (b := 5) (g := 253) (ty := .array .int) (q0 := k) K hi (by decide +kernel) (by decide) (by decide) (by decide +kernel) (by decide +kernel) (by decide +kernel) rfl rfl (jW_get hkl) (Nat.le_of_ble_eq_true rfl) ?_
  refine jm_w (jW_set hkl).symm ?_
  refine jm_aload (k := 0) K (by decide +kernel) 0 rfl ?_
  refine jm_bipush (n := 60) (v := 60) K (by decide +kernel) (by decide) ?_
  refine jm_newi (N := 60) K (by decide +kernel) (by decide) (by decide) (by decide) (Nat.le_of_ble_eq_true rfl) (Nat.le_of_ble_eq_true rfl) (fun q4 => ?_)
  refine jm_w jW_app.symm ?_
  refine jm_put (idx := 21) (a := 3) (b := 6) (g := 255) (ty := .array .int) (q0 := k) K hi (by decide +kernel) (by decide) (by decide) (by decide +kernel) (by decide +kernel) (by decide +kernel) rfl rfl (jW_get hkl) (Nat.le_of_ble_eq_true rfl) ?_
  refine jm_w (jW_set hkl).symm ?_
  refine jm_aload (k := 0) K (by decide +kernel) 0 rfl ?_
  refine jm_bipush (n := 60) (v := 60) K (by decide +kernel) (by decide) ?_
  refine jm_newi (N := 60) K (by decide +kernel) (by decide) (by decide) (by decide) (Nat.le_of_ble_eq_true rfl) (Nat.le_of_ble_eq_true rfl) (fun q5 => ?_)
  refine jm_w jW_app.symm ?_
  refine jm_put (idx := 24) (a := 3) (b := 7) (g := 257) (ty := .array .int) (q0 := k) K hi (by decide +kernel) (by decide) (by decide) (by decide +kernel) (by decide +kernel) (by decide +kernel) rfl rfl (jW_get hkl) (Nat.le_of_ble_eq_true rfl) ?_
  refine jm_w (jW_set hkl).symm ?_
  refine jm_aload (k := 0) K (by decide +kernel) 0 rfl ?_
  refine jm_bipush (n := 60) (v := 60) K (by decide +kernel) (by decide) ?_
  refine jm_newi (N := 60) K (by decide +kernel) (by decide) (by decide) (by decide) (Nat.le_of_ble_eq_true rfl) (Nat.le_of_ble_eq_true rfl) (fun q6 => ?_)
  refine jm_w jW_app.symm ?_
  refine jm_put (idx := 27) (a := 3) (b := 8) (g := 261) (ty := .array .int) (q0 := k) K hi (by decide +kernel) (by decide) (by decide) (by decide +kernel) (by decide +kernel) (by decide +kernel) rfl rfl (jW_get hkl) (Nat.le_of_ble_eq_true rfl) ?_
  refine jm_w (jW_set hkl).symm ?_
  refine jm_aload (k := 0) K (by decide +kernel) 0 rfl ?_
  refine jm_bipush (n := 60) (v := 60) K (by decide +kernel) (by decide) ?_
  refine jm_newi (N := 60) K (by decide +kernel) (by decide) (by decide) (by decide) (Nat.le_of_ble_eq_true rfl) (Nat.le_of_ble_eq_true rfl) (fun q7 => ?_)
  refine jm_w jW_app.symm ?_
  refine jm_put (idx := 30) (a := 3) (b := 9) (g := 263) (ty := .array .int) (q0 := k) K hi (by decide +kernel) (by decide) (by decide) (by decide +kernel) (by decide +kernel) (by decide +kernel) rfl rfl (jW_get hkl) (Nat.le_of_ble_eq_true rfl) ?_
  refine jm_w (jW_set hkl).symm ?_
  exact jm_ret K hr hlk (by decide +kernel) rfl ⟨q1, q2, q3, q4, q5, q6, q7, rfl⟩
set_option maxHeartbeats 4000000 in
set_option maxRecDepth 100000 in
theorem jc_Model (d : Nat) (l : Launch) (D : va_G) (cI cJ : ClassId) (t : Nat) {ws : va_W} {k h0 a1 a2 : Nat} (hk : ws[k]? = some (h0, .inr (6, [.null, .null, .null]))) : jmC l D cI cJ t (d + 1) 1 52 nX6_init [.ref h0, .ref a1, .ref a2] ws (fun ws2 => ∃ q1 : Nat, ws2 = jW ws k (h0, .inr (6, [.ref a1, .ref a2, .ref q1])) [(q1, .inl (cI, 52, .inl (jSt 52)))]) := by
  refine jm_start (by decide) (by decide) (Nat.le_of_ble_eq_true rfl) (by decide +kernel) (by decide +kernel) (fun p e s m below meth c0 K hi hr hlk => ?_)
  have hkl : k < ws.length := (List.getElem?_eq_some_iff.mp hk).1
  refine jm_w (jW_0 hk) ?_
  refine jm_aload (k := 0) K (by decide +kernel) 0 rfl ?_
  refine jm_obj (idx := 3) (g := 294) K rfl (by decide +kernel) (by decide +kernel) ?_
  refine jm_aload (k := 0) K (by decide +kernel) 0 rfl ?_
  refine jm_bipush (n := 52) (v := 52) K (by decide +kernel) (by decide) ?_
  refine jm_newi (N := 52) K (by decide +kernel) (by decide) (by decide) (by decide) (Nat.le_of_ble_eq_true rfl) (Nat.le_of_ble_eq_true rfl) (fun q1 => ?_)
  refine jm_w jW_app.symm ?_
  refine jm_put (idx := 9) (a := 6) (b := 2) (g := 310) (ty := .array .int) (q0 := k) K hi (by decide +kernel) (by decide) (by decide) (by decide +kernel) (by decide +kernel) (by decide +kernel) rfl rfl (jW_get hkl) (Nat.le_of_ble_eq_true rfl) ?_
  refine jm_w (jW_set hkl).symm ?_
  refine jm_aload (k := 0) K (by decide +kernel) 0 rfl ?_
  refine jm_aload (k := 1) K (by decide +kernel) 1 rfl ?_
  refine jm_put (idx := 15) (a := 6) (b := 0) (g := 300) (ty := .object "RatePlanner$Layout") (q0 := k) K hi (by decide +kernel) (by decide) (by decide) (by decide +kernel) (by decide +kernel) (by decide +kernel) rfl rfl (jW_get hkl) (Nat.le_of_ble_eq_true rfl) ?_
  refine jm_w (jW_set hkl).symm ?_
  refine jm_aload (k := 0) K (by decide +kernel) 0 rfl ?_
  refine jm_aload (k := 2) K (by decide +kernel) 2 rfl ?_
  refine jm_put (idx := 19) (a := 6) (b := 1) (g := 306) (ty := .object "RatePlanner$Settings") (q0 := k) K hi (by decide +kernel) (by decide) (by decide) (by decide +kernel) (by decide +kernel) (by decide +kernel) rfl rfl (jW_get hkl) (Nat.le_of_ble_eq_true rfl) ?_
  refine jm_w (jW_set hkl).symm ?_
  refine jm_iconst (n := 0) (v := 0) K (by decide +kernel) (by decide) ?_
  refine jm_istore (k := 3) (lv' := [(3, .int (iI ((0 : Nat) : Int))), (0, .ref h0), (1, .ref a1), (2, .ref a2)]) K (by decide +kernel) (by decide) rfl ?_
  refine jm_w (ws' := jW ws k (h0, .inr (6, [.ref a1, .ref a2, .ref q1])) [(q1, .inl (cI, 52, .inl (jSt 0)))]) (by rw [jSt_0]; rfl) ?_
  refine jm_sub [0, 1] rfl ?_
  refine jl_Model K hkl rfl (Nat.le_of_ble_eq_true rfl) (Nat.le_of_ble_eq_true rfl) ?_ 52 0 rfl
  exact jm_ret K hr hlk (by decide +kernel) rfl ⟨q1, rfl⟩
set_option maxHeartbeats 4000000 in
set_option maxRecDepth 100000 in
theorem jc_Course (d : Nat) (l : Launch) (D : va_G) (cI cJ : ClassId) (t : Nat) {ws : va_W} {k h0 a1 : Nat} (hk : ws[k]? = some (h0, .inr (1, [.int 0, .null, .null, .null, .null, .null, .null, .int 0, .int 0, .int 0]))) : jmC l D cI cJ t (d + 1) 5 300 nX1_init [.ref h0, .ref a1] ws (fun ws2 => ∃ q1 q2 q3 q4 q5 : Nat, ws2 = jW ws k (h0, .inr (1, [.int 0, .ref q1, .ref q2, .ref q3, .ref q4, .ref q5, .ref a1, .int 0, .int 0, .int 0])) [(q1, jI cI 60), (q2, jI cI 60), (q3, jI cI 60), (q4, jI cI 60), (q5, jI cI 60)]) := by
  refine jm_start (by decide) (by decide) (Nat.le_of_ble_eq_true rfl) (by decide +kernel) (by decide +kernel) (fun p e s m below meth c0 K hi hr hlk => ?_)
  have hkl : k < ws.length := (List.getElem?_eq_some_iff.mp hk).1
  refine jm_w (jW_0 hk) ?_
  refine jm_aload (k := 0) K (by decide +kernel) 0 rfl ?_
  refine jm_obj (idx := 3) (g := 323) K rfl (by decide +kernel) (by decide +kernel) ?_
  refine jm_aload (k := 0) K (by decide +kernel) 0 rfl ?_
  refine jm_bipush (n := 60) (v := 60) K (by decide +kernel) (by decide) ?_
  refine jm_newi (N := 60) K (by decide +kernel) (by decide) (by decide) (by decide) (Nat.le_of_ble_eq_true rfl) (Nat.le_of_ble_eq_true rfl) (fun q1 => ?_)
  refine jm_w jW_app.symm ?_
  refine jm_put (idx := 9) (a := 1) (b := 1) (g := 328) (ty := .array .int) (q0 := k) K hi (by decide +kernel) (by decide) (by decide) (by decide +kernel) (by decide +kernel) (by decide +kernel) rfl rfl (jW_get hkl) (Nat.le_of_ble_eq_true rfl) ?_
  refine jm_w (jW_set hkl).symm ?_
  refine jm_aload (k := 0) K (by decide +kernel) 0 rfl ?_
  refine jm_bipush (n := 60) (v := 60) K (by decide +kernel) (by decide) ?_
  refine jm_newi (N := 60) K (by decide +kernel) (by decide) (by decide) (by decide) (Nat.le_of_ble_eq_true rfl) (Nat.le_of_ble_eq_true rfl) (fun q2 => ?_)
  refine jm_w jW_app.symm ?_
  refine jm_put (idx := 15) (a := 1) (b := 2) (g := 332) (ty := .array .int) (q0 := k) K hi (by decide +kernel) (by decide) (by decide) (by decide +kernel) (by decide +kernel) (by decide +kernel) rfl rfl (jW_get hkl) (Nat.le_of_ble_eq_true rfl) ?_
  refine jm_w (jW_set hkl).symm ?_
  refine jm_aload (k := 0) K (by decide +kernel) 0 rfl ?_
  refine jm_bipush (n := 60) (v := 60) K (by decide +kernel) (by decide) ?_
  refine jm_newi (N := 60) K (by decide +kernel) (by decide) (by decide) (by decide) (Nat.le_of_ble_eq_true rfl) (Nat.le_of_ble_eq_true rfl) (fun q3 => ?_)
  refine jm_w jW_app.symm ?_
  refine jm_put (idx := 18) (a := 1) (b := 3) (g := 334) (ty := .array .int) (q0 := k) K hi (by decide +kernel) (by decide) (by decide) (by decide +kernel) (by decide +kernel) (by decide +kernel) rfl rfl (jW_get hkl) (Nat.le_of_ble_eq_true rfl) ?_
  refine jm_w (jW_set hkl).symm ?_
  refine jm_aload (k := 0) K (by decide +kernel) 0 rfl ?_
  refine jm_bipush (n := 60) (v := 60) K (by decide +kernel) (by decide) ?_
  refine jm_newi (N := 60) K (by decide +kernel) (by decide) (by decide) (by decide) (Nat.le_of_ble_eq_true rfl) (Nat.le_of_ble_eq_true rfl) (fun q4 => ?_)
  refine jm_w jW_app.symm ?_
  refine jm_put (idx := 21) (a := 1) (b := 4) (g := 336) (ty := .array .int) (q0 := k) K hi (by decide +kernel) (by decide) (by decide) (by decide +kernel) (by decide +kernel) (by decide +kernel) rfl rfl (jW_get hkl) (Nat.le_of_ble_eq_true rfl) ?_
  refine jm_w (jW_set hkl).symm ?_
  refine jm_aload (k := 0) K (by decide +kernel) 0 rfl ?_
  refine jm_bipush (n := 60) (v := 60) K (by decide +kernel) (by decide) ?_
  refine jm_newi (N := 60) K (by decide +kernel) (by decide) (by decide) (by decide) (Nat.le_of_ble_eq_true rfl) (Nat.le_of_ble_eq_true rfl) (fun q5 => ?_)
  refine jm_w jW_app.symm ?_
  refine jm_put (idx := 24) (a := 1) (b := 5) (g := 338) (ty := .array .int) (q0 := k) K hi (by decide +kernel) (by decide) (by decide) (by decide +kernel) (by decide +kernel) (by decide +kernel) rfl rfl (jW_get hkl) (Nat.le_of_ble_eq_true rfl) ?_
  refine jm_w (jW_set hkl).symm ?_
  refine jm_aload (k := 0) K (by decide +kernel) 0 rfl ?_
  refine jm_aload (k := 1) K (by decide +kernel) 1 rfl ?_
  refine jm_put (idx := 27) (a := 1) (b := 6) (g := 340) (ty := .object "RatePlanner$Model") (q0 := k) K hi (by decide +kernel) (by decide) (by decide) (by decide +kernel) (by decide +kernel) (by decide +kernel) rfl rfl (jW_get hkl) (Nat.le_of_ble_eq_true rfl) ?_
  refine jm_w (jW_set hkl).symm ?_
  exact jm_ret K hr hlk (by decide +kernel) rfl ⟨q1, q2, q3, q4, q5, rfl⟩
set_option maxHeartbeats 4000000 in
set_option maxRecDepth 100000 in
theorem jc_Maker (d : Nat) (l : Launch) (D : va_G) (cI cJ : ClassId) (t : Nat) {ws : va_W} {k h0 a1 a2 : Nat} (hk : ws[k]? = some (h0, .inr (4, [.null, .null, .null, .null, .null]))) {a1_p p1 p2 p3 : Nat} (a1_l : a1_p < ws.length) (a1_k : a1_p ≠ k) (a1_h : ws[a1_p]? = some (a1, .inr (6, [.ref p1, .ref p2, .ref p3]))) : jmC l D cI cJ t (d + 1) 1 60 nX4_init [.ref h0, .ref a1, .ref a2] ws (fun ws2 => ∃ q1 : Nat, ws2 = jW ws k (h0, .inr (4, [.ref a1, .ref p2, .ref p1, .ref a2, .ref q1])) [(q1, jI cI 60)]) := by
  refine jm_start (by decide) (by decide) (Nat.le_of_ble_eq_true rfl) (by decide +kernel) (by decide +kernel) (fun p e s m below meth c0 K hi hr hlk => ?_)
  have hkl : k < ws.length := (List.getElem?_eq_some_iff.mp hk).1
  refine jm_w (jW_0 hk) ?_
  refine jm_aload (k := 0) K (by decide +kernel) 0 rfl ?_
  refine jm_obj (idx := 3) (g := 370) K rfl (by decide +kernel) (by decide +kernel) ?_
  refine jm_aload (k := 0) K (by decide +kernel) 0 rfl ?_
  refine jm_bipush (n := 60) (v := 60) K (by decide +kernel) (by decide) ?_
  refine jm_newi (N := 60) K (by decide +kernel) (by decide) (by decide) (by decide) (Nat.le_of_ble_eq_true rfl) (Nat.le_of_ble_eq_true rfl) (fun q1 => ?_)
  refine jm_w jW_app.symm ?_
  refine jm_put (idx := 9) (a := 4) (b := 4) (g := 375) (ty := .array .int) (q0 := k) K hi (by decide +kernel) (by decide) (by decide) (by decide +kernel) (by decide +kernel) (by decide +kernel) rfl rfl (jW_get hkl) (Nat.le_of_ble_eq_true rfl) ?_
  refine jm_w (jW_set hkl).symm ?_
  refine jm_aload (k := 0) K (by decide +kernel) 0 rfl ?_
  refine jm_aload (k := 1) K (by decide +kernel) 1 rfl ?_
  refine jm_put (idx := 15) (a := 4) (b := 0) (g := 371) (ty := .object "RatePlanner$Model") (q0 := k) K hi (by decide +kernel) (by decide) (by decide) (by decide +kernel) (by decide +kernel) (by decide +kernel) rfl rfl (jW_get hkl) (Nat.le_of_ble_eq_true rfl) ?_
  refine jm_w (jW_set hkl).symm ?_
  refine jm_aload (k := 0) K (by decide +kernel) 0 rfl ?_
  refine jm_aload (k := 1) K (by decide +kernel) 1 rfl ?_
  refine jm_get (idx := 19) (a := 6) (b := 1) (g := 307) (v := .ref p2) (q0 := a1_p) K (by decide +kernel) (by decide) (by decide) (by decide +kernel) ((jW_old a1_l a1_k).trans a1_h) rfl ?_
  refine jm_put (idx := 25) (a := 4) (b := 1) (g := 372) (ty := .object "RatePlanner$Settings") (q0 := k) K hi (by decide +kernel) (by decide) (by decide) (by decide +kernel) (by decide +kernel) (by decide +kernel) rfl rfl (jW_get hkl) (Nat.le_of_ble_eq_true rfl) ?_
  refine jm_w (jW_set hkl).symm ?_
  refine jm_aload (k := 0) K (by decide +kernel) 0 rfl ?_
  refine jm_aload (k := 1) K (by decide +kernel) 1 rfl ?_
  refine jm_get (idx := 26) (a := 6) (b := 0) (g := 302) (v := .ref p1) (q0 := a1_p) K (by decide +kernel) (by decide) (by decide) (by decide +kernel) ((jW_old a1_l a1_k).trans a1_h) rfl ?_
  refine jm_put (idx := 30) (a := 4) (b := 2) (g := 373) (ty := .object "RatePlanner$Layout") (q0 := k) K hi (by decide +kernel) (by decide) (by decide) (by decide +kernel) (by decide +kernel) (by decide +kernel) rfl rfl (jW_get hkl) (Nat.le_of_ble_eq_true rfl) ?_
  refine jm_w (jW_set hkl).symm ?_
  refine jm_aload (k := 0) K (by decide +kernel) 0 rfl ?_
  refine jm_aload (k := 2) K (by decide +kernel) 2 rfl ?_
  refine jm_put (idx := 31) (a := 4) (b := 3) (g := 374) (ty := .object "RatePlanner$Course") (q0 := k) K hi (by decide +kernel) (by decide) (by decide) (by decide +kernel) (by decide +kernel) (by decide +kernel) rfl rfl (jW_get hkl) (Nat.le_of_ble_eq_true rfl) ?_
  refine jm_w (jW_set hkl).symm ?_
  exact jm_ret K hr hlk (by decide +kernel) rfl ⟨q1, rfl⟩
set_option maxHeartbeats 4000000 in
set_option maxRecDepth 100000 in
theorem jc_Mender (d : Nat) (l : Launch) (D : va_G) (cI cJ : ClassId) (t : Nat) {ws : va_W} {k h0 a1 a2 : Nat} (hk : ws[k]? = some (h0, .inr (5, [.null, .null, .null, .null, .null, .null, .null, .null]))) {a1_p p1 p2 p3 : Nat} (a1_l : a1_p < ws.length) (a1_k : a1_p ≠ k) (a1_h : ws[a1_p]? = some (a1, .inr (6, [.ref p1, .ref p2, .ref p3]))) : jmC l D cI cJ t (d + 1) 4 240 nX5_init [.ref h0, .ref a1, .ref a2] ws (fun ws2 => ∃ q1 q2 q3 q4 : Nat, ws2 = jW ws k (h0, .inr (5, [.ref a1, .ref p2, .ref p1, .ref a2, .ref q1, .ref q2, .ref q3, .ref q4])) [(q1, jI cI 60), (q2, jI cI 60), (q3, jJ cJ 60), (q4, jJ cJ 60)]) := by
  refine jm_start (by decide) (by decide) (Nat.le_of_ble_eq_true rfl) (by decide +kernel) (by decide +kernel) (fun p e s m below meth c0 K hi hr hlk => ?_)
  have hkl : k < ws.length := (List.getElem?_eq_some_iff.mp hk).1
  refine jm_w (jW_0 hk) ?_
  refine jm_aload (k := 0) K (by decide +kernel) 0 rfl ?_
  refine jm_obj (idx := 3) (g := 392) K rfl (by decide +kernel) (by decide +kernel) ?_
  refine jm_aload (k := 0) K (by decide +kernel) 0 rfl ?_
  refine jm_bipush (n := 60) (v := 60) K (by decide +kernel) (by decide) ?_
  refine jm_newi (N := 60) K (by decide +kernel) (by decide) (by decide) (by decide) (Nat.le_of_ble_eq_true rfl) (Nat.le_of_ble_eq_true rfl) (fun q1 => ?_)
  refine jm_w jW_app.symm ?_
  refine jm_put (idx := 9) (a := 5) (b := 4) (g := 397) (ty := .array .int) (q0 := k) K hi (by decide +kernel) (by decide) (by decide) (by decide +kernel) (by decide +kernel) (by decide +kernel) rfl rfl (jW_get hkl) (Nat.le_of_ble_eq_true rfl) ?_
  refine jm_w (jW_set hkl).symm ?_
  refine jm_aload (k := 0) K (by decide +kernel) 0 rfl ?_
  refine jm_bipush (n := 60) (v := 60) K (by decide +kernel) (by decide) ?_
  refine jm_newi (N := 60) K (by decide +kernel) (by decide) (by decide) (by decide) (Nat.le_of_ble_eq_true rfl) (Nat.le_of_ble_eq_true rfl) (fun q2 => ?_)
  refine jm_w jW_app.symm ?_
  refine jm_put (idx := 15) (a := 5) (b := 5) (g := 398) (ty := .array .int) (q0 := k) K hi (by decide +kernel) (by decide) (by decide) (by decide +kernel) (by decide +kernel) (by decide +kernel) rfl rfl (jW_get hkl) (Nat.le_of_ble_eq_true rfl) ?_
  refine jm_w (jW_set hkl).symm ?_
  refine jm_aload (k := 0) K (by decide +kernel) 0 rfl ?_
  refine jm_bipush (n := 60) (v := 60) K (by decide +kernel) (by decide) ?_
  refine jm_newj (N := 60) K (by decide +kernel) (by decide) (by decide) (by decide) (Nat.le_of_ble_eq_true rfl) (Nat.le_of_ble_eq_true rfl) (fun q3 => ?_)
  refine jm_w jW_app.symm ?_
  refine jm_put (idx := 18) (a := 5) (b := 6) (g := 399) (ty := .array .long) (q0 := k) K hi (by decide +kernel) (by decide) (by decide) (by decide +kernel) (by decide +kernel) (by decide +kernel) rfl rfl (jW_get hkl) (Nat.le_of_ble_eq_true rfl) ?_
  refine jm_w (jW_set hkl).symm ?_
  refine jm_aload (k := 0) K (by decide +kernel) 0 rfl ?_
  refine jm_bipush (n := 60) (v := 60) K (by decide +kernel) (by decide) ?_
  refine jm_newj (N := 60) K (by decide +kernel) (by decide) (by decide) (by decide) (Nat.le_of_ble_eq_true rfl) (Nat.le_of_ble_eq_true rfl) (fun q4 => ?_)
  refine jm_w jW_app.symm ?_
  refine jm_put (idx := 22) (a := 5) (b := 7) (g := 400) (ty := .array .long) (q0 := k) K hi (by decide +kernel) (by decide) (by decide) (by decide +kernel) (by decide +kernel) (by decide +kernel) rfl rfl (jW_get hkl) (Nat.le_of_ble_eq_true rfl) ?_
  refine jm_w (jW_set hkl).symm ?_
  refine jm_aload (k := 0) K (by decide +kernel) 0 rfl ?_
  refine jm_aload (k := 1) K (by decide +kernel) 1 rfl ?_
  refine jm_put (idx := 25) (a := 5) (b := 0) (g := 393) (ty := .object "RatePlanner$Model") (q0 := k) K hi (by decide +kernel) (by decide) (by decide) (by decide +kernel) (by decide +kernel) (by decide +kernel) rfl rfl (jW_get hkl) (Nat.le_of_ble_eq_true rfl) ?_
  refine jm_w (jW_set hkl).symm ?_
  refine jm_aload (k := 0) K (by decide +kernel) 0 rfl ?_
  refine jm_aload (k := 1) K (by decide +kernel) 1 rfl ?_
  refine jm_get (idx := 29) (a := 6) (b := 1) (g := 308) (v := .ref p2) (q0 := a1_p) K (by decide +kernel) (by decide) (by decide) (by decide +kernel) ((jW_old a1_l a1_k).trans a1_h) rfl ?_
  refine jm_put (idx := 35) (a := 5) (b := 1) (g := 394) (ty := .object "RatePlanner$Settings") (q0 := k) K hi (by decide +kernel) (by decide) (by decide) (by decide +kernel) (by decide +kernel) (by decide +kernel) rfl rfl (jW_get hkl) (Nat.le_of_ble_eq_true rfl) ?_
  refine jm_w (jW_set hkl).symm ?_
  refine jm_aload (k := 0) K (by decide +kernel) 0 rfl ?_
  refine jm_aload (k := 1) K (by decide +kernel) 1 rfl ?_
  refine jm_get (idx := 36) (a := 6) (b := 0) (g := 303) (v := .ref p1) (q0 := a1_p) K (by decide +kernel) (by decide) (by decide) (by decide +kernel) ((jW_old a1_l a1_k).trans a1_h) rfl ?_
  refine jm_put (idx := 40) (a := 5) (b := 2) (g := 395) (ty := .object "RatePlanner$Layout") (q0 := k) K hi (by decide +kernel) (by decide) (by decide) (by decide +kernel) (by decide +kernel) (by decide +kernel) rfl rfl (jW_get hkl) (Nat.le_of_ble_eq_true rfl) ?_
  refine jm_w (jW_set hkl).symm ?_
  refine jm_aload (k := 0) K (by decide +kernel) 0 rfl ?_
  refine jm_aload (k := 2) K (by decide +kernel) 2 rfl ?_
  refine jm_put (idx := 41) (a := 5) (b := 3) (g := 396) (ty := .object "RatePlanner$Course") (q0 := k) K hi (by decide +kernel) (by decide) (by decide) (by decide +kernel) (by decide +kernel) (by decide +kernel) rfl rfl (jW_get hkl) (Nat.le_of_ble_eq_true rfl) ?_
  refine jm_w (jW_set hkl).symm ?_
  exact jm_ret K hr hlk (by decide +kernel) rfl ⟨q1, q2, q3, q4, rfl⟩
set_option maxHeartbeats 4000000 in
set_option maxRecDepth 100000 in
theorem jc_Finder (d : Nat) (l : Launch) (D : va_G) (cI cJ : ClassId) (t : Nat) {ws : va_W} {k h0 a1 a2 a3 : Nat} (hk : ws[k]? = some (h0, .inr (2, [.null, .null, .null, .null, .null]))) {a1_p p1 p2 p3 : Nat} (a1_l : a1_p < ws.length) (a1_k : a1_p ≠ k) (a1_h : ws[a1_p]? = some (a1, .inr (6, [.ref p1, .ref p2, .ref p3]))) : jmC l D cI cJ t (d + 1) 1 60 nX2_init [.ref h0, .ref a1, .ref a2, .ref a3] ws (fun ws2 => ∃ q1 : Nat, ws2 = jW ws k (h0, .inr (2, [.ref p2, .ref p1, .ref a2, .ref a3, .ref q1])) [(q1, jI cI 60)]) := by
  refine jm_start (by decide) (by decide) (Nat.le_of_ble_eq_true rfl) (by decide +kernel) (by decide +kernel) (fun p e s m below meth c0 K hi hr hlk => ?_)
  have hkl : k < ws.length := (List.getElem?_eq_some_iff.mp hk).1
  refine jm_w (jW_0 hk) ?_
  refine jm_aload (k := 0) K (by decide +kernel) 0 rfl ?_
  refine jm_obj (idx := 3) (g := 424) K rfl (by decide +kernel) (by decide +kernel) ?_
  refine jm_aload (k := 0) K (by decide +kernel) 0 rfl ?_
  refine jm_bipush (n := 60) (v := 60) K (by decide +kernel) (by decide) ?_
  refine jm_newi (N := 60) K (by decide +kernel) (by decide) (by decide) (by decide) (Nat.le_of_ble_eq_true rfl) (Nat.le_of_ble_eq_true rfl) (fun q1 => ?_)
  refine jm_w jW_app.symm ?_
  refine jm_put (idx := 9) (a := 2) (b := 4) (g := 429) (ty := .array .int) (q0 := k) K hi (by decide +kernel) (by decide) (by decide) (by decide +kernel) (by decide +kernel) (by decide +kernel) rfl rfl (jW_get hkl) (Nat.le_of_ble_eq_true rfl) ?_
  refine jm_w (jW_set hkl).symm ?_
  refine jm_aload (k := 0) K (by decide +kernel) 0 rfl ?_
  refine jm_aload (k := 1) K (by decide +kernel) 1 rfl ?_
  refine jm_get (idx := 15) (a := 6) (b := 1) (g := 305) (v := .ref p2) (q0 := a1_p) K (by decide +kernel) (by decide) (by decide) (by decide +kernel) ((jW_old a1_l a1_k).trans a1_h) rfl ?_
  refine jm_put (idx := 21) (a := 2) (b := 0) (g := 425) (ty := .object "RatePlanner$Settings") (q0 := k) K hi (by decide +kernel) (by decide) (by decide) (by decide +kernel) (by decide +kernel) (by decide +kernel) rfl rfl (jW_get hkl) (Nat.le_of_ble_eq_true rfl) ?_
  refine jm_w (jW_set hkl).symm ?_
  refine jm_aload (k := 0) K (by decide +kernel) 0 rfl ?_
  refine jm_aload (k := 1) K (by decide +kernel) 1 rfl ?_
  refine jm_get (idx := 22) (a := 6) (b := 0) (g := 301) (v := .ref p1) (q0 := a1_p) K (by decide +kernel) (by decide) (by decide) (by decide +kernel) ((jW_old a1_l a1_k).trans a1_h) rfl ?_
  refine jm_put (idx := 26) (a := 2) (b := 1) (g := 426) (ty := .object "RatePlanner$Layout") (q0 := k) K hi (by decide +kernel) (by decide) (by decide) (by decide +kernel) (by decide +kernel) (by decide +kernel) rfl rfl (jW_get hkl) (Nat.le_of_ble_eq_true rfl) ?_
  refine jm_w (jW_set hkl).symm ?_
  refine jm_aload (k := 0) K (by decide +kernel) 0 rfl ?_
  refine jm_aload (k := 2) K (by decide +kernel) 2 rfl ?_
  refine jm_put (idx := 27) (a := 2) (b := 2) (g := 427) (ty := .object "RatePlanner$Course") (q0 := k) K hi (by decide +kernel) (by decide) (by decide) (by decide +kernel) (by decide +kernel) (by decide +kernel) rfl rfl (jW_get hkl) (Nat.le_of_ble_eq_true rfl) ?_
  refine jm_w (jW_set hkl).symm ?_
  refine jm_aload (k := 0) K (by decide +kernel) 0 rfl ?_
  refine jm_aload (k := 3) K (by decide +kernel) 3 rfl ?_
  refine jm_put (idx := 31) (a := 2) (b := 3) (g := 428) (ty := .object "RatePlanner$Maker") (q0 := k) K hi (by decide +kernel) (by decide) (by decide) (by decide +kernel) (by decide +kernel) (by decide +kernel) rfl rfl (jW_get hkl) (Nat.le_of_ble_eq_true rfl) ?_
  refine jm_w (jW_set hkl).symm ?_
  exact jm_ret K hr hlk (by decide +kernel) rfl ⟨q1, rfl⟩
set_option maxHeartbeats 4000000 in
set_option maxRecDepth 100000 in
theorem jc_Slot (d : Nat) (l : Launch) (D : va_G) (cI cJ : ClassId) (t : Nat) {ws : va_W} {k h0 : Nat} (hk : ws[k]? = some (h0, .inr (9, [.int 0, .null, .null, .null]))) : jmC l D cI cJ t (d + 2) 10 275 nX9_init [.ref h0] ws (fun ws2 => ∃ q1 q2 q3 q4 q5 q6 q7 q8 q9 q10 : Nat, ws2 = jW ws k (h0, .inr (9, [.int 0, .ref q1, .ref q4, .ref q9])) [(q1, .inr (0, [.int 0, .ref q2, .ref q3])), (q2, jI cI 60), (q3, jI cI 60), (q4, .inr (8, [.int 12, .int 2, .int 10, .int 45, .int 60000, .int 90, .int 4000, .int 0, .ref q5, .ref q6, .ref q7, .ref q8])), (q5, .inl (cI, 60, .inl (jWt 60))), (q6, jI cI 6), (q7, jI cI 6), (q8, jI cI 6), (q9, .inr (7, [.int 0, .ref q10])), (q10, jI cI 60)]) := by
  refine jm_start (by decide) (by decide) (Nat.le_of_ble_eq_true rfl) (by decide +kernel) (by decide +kernel) (fun p e s m below meth c0 K hi hr hlk => ?_)
  have hkl : k < ws.length := (List.getElem?_eq_some_iff.mp hk).1
  refine jm_w (jW_0 hk) ?_
  refine jm_aload (k := 0) K (by decide +kernel) 0 rfl ?_
  refine jm_obj (idx := 1) (g := 446) K rfl (by decide +kernel) (by decide +kernel) ?_
  refine jm_aload (k := 0) K (by decide +kernel) 0 rfl ?_
  refine jm_new (idx := 7) (a := 0) (g1 := 447) (g2 := 94) (g3 := 71) (fs := [.int 0, .null, .null]) K (by decide +kernel) (by decide) (by decide +kernel) (by decide +kernel) (by decide +kernel) (fun k => [.int, .array .int, .array .int].getD k .int) (by decide +kernel) (by decide +kernel) 3 (by decide) (Nat.le_of_ble_eq_true rfl) (Nat.le_of_ble_eq_true rfl) (fun q1 => ?_)
  refine jm_w jW_app.symm ?_
  refine jm_dup K (by decide +kernel) ?_
  refine jm_call (idx := 9) (a := nX0_init) (g := 448) (cc := 2) (ss := 120) (As := []) (b := q1) K rfl (jc_Clip d l D cI cJ t (k := (ws.length + 0)) ((jW_new 0).trans rfl)) (by decide +kernel) (by decide) (by decide) (by decide +kernel) (by decide +kernel) (by decide +kernel) 0 rfl (by decide +kernel) (Or.inr (by decide +kernel)) (Nat.le_of_ble_eq_true rfl) (Nat.le_of_ble_eq_true rfl) (Nat.le_of_ble_eq_true rfl) rfl (fun ws2 hp => ?_)
  obtain ⟨q2, q3, rfl⟩ := hp
  refine jm_w (ws' := jW ws k (h0, .inr (9, [.int 0, .null, .null, .null])) [(q1, .inr (0, [.int 0, .ref q2, .ref q3])), (q2, jI cI 60), (q3, jI cI 60)]) (by rw [jW_jW 0]; rfl) ?_
  refine jm_put (idx := 10) (a := 9) (b := 1) (g := 454) (ty := .object "RatePlanner$Clip") (q0 := k) K hi (by decide +kernel) (by decide) (by decide) (by decide +kernel) (by decide +kernel) (by decide +kernel) rfl rfl (jW_get hkl) (Nat.le_of_ble_eq_true rfl) ?_
  refine jm_w (jW_set hkl).symm ?_
  refine jm_aload (k := 0) K (by decide +kernel) 0 rfl ?_
  refine jm_new (idx := 16) (a := 8) (g1 := 449) (g2 := 118) (g3 := 72) (fs := [.int 0, .int 0, .int 0, .int 0, .int 0, .int 0, .int 0, .int 0, .null, .null, .null, .null]) K (by decide +kernel) (by decide) (by decide +kernel) (by decide +kernel) (by decide +kernel) (fun k => [.int, .int, .int, .int, .int, .int, .int, .int, .array .int, .array .int, .array .int, .array .int].getD k .int) (by decide +kernel) (by decide +kernel) 12 (by decide) (Nat.le_of_ble_eq_true rfl) (Nat.le_of_ble_eq_true rfl) (fun q4 => ?_)
  refine jm_w jW_app.symm ?_
  refine jm_dup K (by decide +kernel) ?_
  refine jm_call (idx := 18) (a := nX8_init) (g := 450) (cc := 4) (ss := 78) (As := []) (b := q4) K rfl (jc_Settings d l D cI cJ t (k := (ws.length + 3)) ((jW_new 3).trans rfl)) (by decide +kernel) (by decide) (by decide) (by decide +kernel) (by decide +kernel) (by decide +kernel) 0 rfl (by decide +kernel) (Or.inl (by decide +kernel)) (Nat.le_of_ble_eq_true rfl) (Nat.le_of_ble_eq_true rfl) (Nat.le_of_ble_eq_true rfl) rfl (fun ws2 hp => ?_)
  obtain ⟨q5, q6, q7, q8, rfl⟩ := hp
  refine jm_w (ws' := jW ws k (h0, .inr (9, [.int 0, .ref q1, .null, .null])) [(q1, .inr (0, [.int 0, .ref q2, .ref q3])), (q2, jI cI 60), (q3, jI cI 60), (q4, .inr (8, [.int 12, .int 2, .int 10, .int 45, .int 60000, .int 90, .int 4000, .int 0, .ref q5, .ref q6, .ref q7, .ref q8])), (q5, .inl (cI, 60, .inl (jWt 60))), (q6, jI cI 6), (q7, jI cI 6), (q8, jI cI 6)]) (by rw [jW_jW 3]; rfl) ?_
  refine jm_put (idx := 19) (a := 9) (b := 2) (g := 456) (ty := .object "RatePlanner$Settings") (q0 := k) K hi (by decide +kernel) (by decide) (by decide) (by decide +kernel) (by decide +kernel) (by decide +kernel) rfl rfl (jW_get hkl) (Nat.le_of_ble_eq_true rfl) ?_
  refine jm_w (jW_set hkl).symm ?_
  refine jm_aload (k := 0) K (by decide +kernel) 0 rfl ?_
  refine jm_new (idx := 23) (a := 7) (g1 := 451) (g2 := 187) (g3 := 73) (fs := [.int 0, .null]) K (by decide +kernel) (by decide) (by decide +kernel) (by decide +kernel) (by decide +kernel) (fun k => [.boolean, .array .int].getD k .int) (by decide +kernel) (by decide +kernel) 2 (by decide) (Nat.le_of_ble_eq_true rfl) (Nat.le_of_ble_eq_true rfl) (fun q9 => ?_)
  refine jm_w jW_app.symm ?_
  refine jm_dup K (by decide +kernel) ?_
  refine jm_call (idx := 25) (a := nX7_init) (g := 452) (cc := 1) (ss := 60) (As := []) (b := q9) K rfl (jc_Plan d l D cI cJ t (k := (ws.length + 8)) ((jW_new 8).trans rfl)) (by decide +kernel) (by decide) (by decide) (by decide +kernel) (by decide +kernel) (by decide +kernel) 0 rfl (by decide +kernel) (Or.inr (by decide +kernel)) (Nat.le_of_ble_eq_true rfl) (Nat.le_of_ble_eq_true rfl) (Nat.le_of_ble_eq_true rfl) rfl (fun ws2 hp => ?_)
  obtain ⟨q10, rfl⟩ := hp
  refine jm_w (ws' := jW ws k (h0, .inr (9, [.int 0, .ref q1, .ref q4, .null])) [(q1, .inr (0, [.int 0, .ref q2, .ref q3])), (q2, jI cI 60), (q3, jI cI 60), (q4, .inr (8, [.int 12, .int 2, .int 10, .int 45, .int 60000, .int 90, .int 4000, .int 0, .ref q5, .ref q6, .ref q7, .ref q8])), (q5, .inl (cI, 60, .inl (jWt 60))), (q6, jI cI 6), (q7, jI cI 6), (q8, jI cI 6), (q9, .inr (7, [.int 0, .ref q10])), (q10, jI cI 60)]) (by rw [jW_jW 8]; rfl) ?_
  refine jm_put (idx := 26) (a := 9) (b := 3) (g := 458) (ty := .object "RatePlanner$Plan") (q0 := k) K hi (by decide +kernel) (by decide) (by decide) (by decide +kernel) (by decide +kernel) (by decide +kernel) rfl rfl (jW_get hkl) (Nat.le_of_ble_eq_true rfl) ?_
  refine jm_w (jW_set hkl).symm ?_
  exact jm_ret K hr hlk (by decide +kernel) rfl ⟨q1, q2, q3, q4, q5, q6, q7, q8, q9, q10, rfl⟩
set_option maxHeartbeats 4000000 in
set_option maxRecDepth 100000 in
theorem jc_Ref (d : Nat) (l : Launch) (D : va_G) (cI cJ : ClassId) (t : Nat) {ws : va_W} {k h0 : Nat} (hk : ws[k]? = some (h0, .inr (12, [.null, .null, .null, .null, .null, .null, .null, .null, .int 0, .int 0, .null, .null, .null, .null, .int 0, .null, .int 0, .int 0, .int 0, .null, .null, .int 0, .null, .long 0]))) : jmC l D cI cJ t (d + 1) 16 1626 nX12_init [.ref h0] ws (fun ws2 => ∃ q1 q2 q3 q4 q5 q6 q7 q8 q9 q10 q11 q12 q13 q14 q15 q16 : Nat, ws2 = jW ws k (h0, .inr (12, [.ref q1, .ref q2, .ref q3, .ref q4, .ref q5, .ref q6, .ref q7, .ref q8, .int 0, .int 0, .ref q9, .ref q10, .ref q11, .ref q12, .int 0, .ref q13, .int 0, .int 0, .int 0, .ref q14, .ref q15, .int 0, .ref q16, .long 0])) [(q1, .inl (cI, 268, .inl (upd (upd (upd (upd (upd (upd (upd (jMt 60) 181 12) 182 2) 183 10) 184 45) 185 60000) 186 90) 187 4000))), (q2, jI cI 536), (q3, jI cI 2), (q4, jI cI 60), (q5, jI cI 60), (q6, jI cI 60), (q7, jI cI 60), (q8, jI cI 60), (q9, jI cI 60), (q10, jI cI 60), (q11, jI cI 60), (q12, jI cI 60), (q13, jI cI 100), (q14, jI cI 60), (q15, jI cI 60), (q16, jI cI 60)]) := by
  refine jm_start (by decide) (by decide) (Nat.le_of_ble_eq_true rfl) (by decide +kernel) (by decide +kernel) (fun p e s m below meth c0 K hi hr hlk => ?_)
  have hkl : k < ws.length := (List.getElem?_eq_some_iff.mp hk).1
  refine jm_w (jW_0 hk) ?_
  refine jm_aload (k := 0) K (by decide +kernel) 0 rfl ?_
  refine jm_obj (idx := 1) (g := 1049) K rfl (by decide +kernel) (by decide +kernel) ?_
  refine jm_aload (k := 0) K (by decide +kernel) 0 rfl ?_
  refine jm_sipush (n := 268) (v := 268) K (by decide +kernel) (by decide) ?_
  refine jm_newi (N := 268) K (by decide +kernel) (by decide) (by decide) (by decide) (Nat.le_of_ble_eq_true rfl) (Nat.le_of_ble_eq_true rfl) (fun q1 => ?_)
  refine jm_w jW_app.symm ?_
  refine jm_put (idx := 7) (a := 12) (b := 0) (g := 1051) (ty := .array .int) (q0 := k) K hi (by decide +kernel) (by decide) (by decide) (by decide +kernel) (by decide +kernel) (by decide +kernel) rfl rfl (jW_get hkl) (Nat.le_of_ble_eq_true rfl) ?_
  refine jm_w (jW_set hkl).symm ?_
  refine jm_aload (k := 0) K (by decide +kernel) 0 rfl ?_
  refine jm_sipush (n := 536) (v := 536) K (by decide +kernel) (by decide) ?_
  refine jm_newi (N := 536) K (by decide +kernel) (by decide) (by decide) (by decide) (Nat.le_of_ble_eq_true rfl) (Nat.le_of_ble_eq_true rfl) (fun q2 => ?_)
  refine jm_w jW_app.symm ?_
  refine jm_put (idx := 13) (a := 12) (b := 1) (g := 1052) (ty := .array .int) (q0 := k) K hi (by decide +kernel) (by decide) (by decide) (by decide +kernel) (by decide +kernel) (by decide +kernel) rfl rfl (jW_get hkl) (Nat.le_of_ble_eq_true rfl) ?_
  refine jm_w (jW_set hkl).symm ?_
  refine jm_aload (k := 0) K (by decide +kernel) 0 rfl ?_
  refine jm_iconst (n := 2) (v := 2) K (by decide +kernel) (by decide) ?_
  refine jm_newi (N := 2) K (by decide +kernel) (by decide) (by decide) (by decide) (Nat.le_of_ble_eq_true rfl) (Nat.le_of_ble_eq_true rfl) (fun q3 => ?_)
  refine jm_w jW_app.symm ?_
  refine jm_put (idx := 16) (a := 12) (b := 2) (g := 1053) (ty := .array .int) (q0 := k) K hi (by decide +kernel) (by decide) (by decide) (by decide +kernel) (by decide +kernel) (by decide +kernel) rfl rfl (jW_get hkl) (Nat.le_of_ble_eq_true rfl) ?_
  refine jm_w (jW_set hkl).symm ?_
  refine jm_aload (k := 0) K (by decide +kernel) 0 rfl ?_
  refine jm_bipush (n := 60) (v := 60) K (by decide +kernel) (by decide) ?_
  refine jm_newi (N := 60) K (by decide +kernel) (by decide) (by decide) (by decide) (Nat.le_of_ble_eq_true rfl) (Nat.le_of_ble_eq_true rfl) (fun q4 => ?_)
  refine jm_w jW_app.symm ?_
  refine jm_put (idx := 19) (a := 12) (b := 3) (g := 1054) (ty := .array .int) (q0 := k) K hi (by decide +kernel) (by decide) (by decide) (by decide +kernel) (by decide +kernel) (by decide +kernel) rfl rfl (jW_get hkl) (Nat.le_of_ble_eq_true rfl) ?_
  refine jm_w (jW_set hkl).symm ?_
  refine jm_aload (k := 0) K (by decide +kernel) 0 rfl ?_
  refine jm_bipush (n := 60) (v := 60) K (by decide +kernel) (by decide) ?_
  refine jm_newi (N := 60) K (by decide +kernel) (by decide) (by decide) (by decide) (Nat.le_of_ble_eq_true rfl) (Nat.le_of_ble_eq_true rfl) (fun q5 => ?_)
  refine jm_w jW_app.symm ?_
  refine jm_put (idx := 22) (a := 12) (b := 4) (g := 1055) (ty := .array .int) (q0 := k) K hi (by decide +kernel) (by decide) (by decide) (by decide +kernel) (by decide +kernel) (by decide +kernel) rfl rfl (jW_get hkl) (Nat.le_of_ble_eq_true rfl) ?_
  refine jm_w (jW_set hkl).symm ?_
  refine jm_aload (k := 0) K (by decide +kernel) 0 rfl ?_
  refine jm_bipush (n := 60) (v := 60) K (by decide +kernel) (by decide) ?_
  refine jm_newi (N := 60) K (by decide +kernel) (by decide) (by decide) (by decide) (Nat.le_of_ble_eq_true rfl) (Nat.le_of_ble_eq_true rfl) (fun q6 => ?_)
  refine jm_w jW_app.symm ?_
  refine jm_put (idx := 25) (a := 12) (b := 5) (g := 1056) (ty := .array .int) (q0 := k) K hi (by decide +kernel) (by decide) (by decide) (by decide +kernel) (by decide +kernel) (by decide +kernel) rfl rfl (jW_get hkl) (Nat.le_of_ble_eq_true rfl) ?_
  refine jm_w (jW_set hkl).symm ?_
  refine jm_aload (k := 0) K (by decide +kernel) 0 rfl ?_
  refine jm_bipush (n := 60) (v := 60) K (by decide +kernel) (by decide) ?_
  refine jm_newi (N := 60) K (by decide +kernel) (by decide) (by decide) (by decide) (Nat.le_of_ble_eq_true rfl) (Nat.le_of_ble_eq_true rfl) (fun q7 => ?_)
  refine jm_w jW_app.symm ?_
  refine jm_put (idx := 28) (a := 12) (b := 6) (g := 1057) (ty := .array .int) (q0 := k) K hi (by decide +kernel) (by decide) (by decide) (by decide +kernel) (by decide +kernel) (by decide +kernel) rfl rfl (jW_get hkl) (Nat.le_of_ble_eq_true rfl) ?_
  refine jm_w (jW_set hkl).symm ?_
  refine jm_aload (k := 0) K (by decide +kernel) 0 rfl ?_
  refine jm_bipush (n := 60) (v := 60) K (by decide +kernel) (by decide) ?_
  refine jm_newi (N := 60) K (by decide +kernel) (by decide) (by decide) (by decide) (Nat.le_of_ble_eq_true rfl) (Nat.le_of_ble_eq_true rfl) (fun q8 => ?_)
  refine jm_w jW_app.symm ?_
  refine jm_put (idx := 31) (a := 12) (b := 7) (g := 1058) (ty := .array .int) (q0 := k) K hi (by decide +kernel) (by decide) (by decide) (by decide +kernel) (by decide +kernel) (by decide +kernel) rfl rfl (jW_get hkl) (Nat.le_of_ble_eq_true rfl) ?_
  refine jm_w (jW_set hkl).symm ?_
  refine jm_aload (k := 0) K (by decide +kernel) 0 rfl ?_
  refine jm_bipush (n := 60) (v := 60) K (by decide +kernel) (by decide) ?_
  refine jm_newi (N := 60) K (by decide +kernel) (by decide) (by decide) (by decide) (Nat.le_of_ble_eq_true rfl) (Nat.le_of_ble_eq_true rfl) (fun q9 => ?_)
  refine jm_w jW_app.symm ?_
  refine jm_put (idx := 34) (a := 12) (b := 10) (g := 1061) (ty := .array .int) (q0 := k) K hi (by decide +kernel) (by decide) (by decide) (by decide +kernel) (by decide +kernel) (by decide +kernel) rfl rfl (jW_get hkl) (Nat.le_of_ble_eq_true rfl) ?_
  refine jm_w (jW_set hkl).symm ?_
  refine jm_aload (k := 0) K (by decide +kernel) 0 rfl ?_
  refine jm_bipush (n := 60) (v := 60) K (by decide +kernel) (by decide) ?_
  refine jm_newi (N := 60) K (by decide +kernel) (by decide) (by decide) (by decide) (Nat.le_of_ble_eq_true rfl) (Nat.le_of_ble_eq_true rfl) (fun q10 => ?_)
  refine jm_w jW_app.symm ?_
  refine jm_put (idx := 37) (a := 12) (b := 11) (g := 1062) (ty := .array .int) (q0 := k) K hi (by decide +kernel) (by decide) (by decide) (by decide +kernel) (by decide +kernel) (by decide +kernel) rfl rfl (jW_get hkl) (Nat.le_of_ble_eq_true rfl) ?_
  refine jm_w (jW_set hkl).symm ?_
  refine jm_aload (k := 0) K (by decide +kernel) 0 rfl ?_
  refine jm_bipush (n := 60) (v := 60) K (by decide +kernel) (by decide) ?_
  refine jm_newi (N := 60) K (by decide +kernel) (by decide) (by decide) (by decide) (Nat.le_of_ble_eq_true rfl) (Nat.le_of_ble_eq_true rfl) (fun q11 => ?_)
  refine jm_w jW_app.symm ?_
  refine jm_put (idx := 40) (a := 12) (b := 12) (g := 1063) (ty := .array .int) (q0 := k) K hi (by decide +kernel) (by decide) (by decide) (by decide +kernel) (by decide +kernel) (by decide +kernel) rfl rfl (jW_get hkl) (Nat.le_of_ble_eq_true rfl) ?_
  refine jm_w (jW_set hkl).symm ?_
  refine jm_aload (k := 0) K (by decide +kernel) 0 rfl ?_
  refine jm_bipush (n := 60) (v := 60) K (by decide +kernel) (by decide) ?_
  refine jm_newi (N := 60) K (by decide +kernel) (by decide) (by decide) (by decide) (Nat.le_of_ble_eq_true rfl) (Nat.le_of_ble_eq_true rfl) (fun q12 => ?_)
  refine jm_w jW_app.symm ?_
  refine jm_put (idx := 43) (a := 12) (b := 13) (g := 1064) (ty := .array .int) (q0 := k) K hi (by decide +kernel) (by decide) (by decide) (by decide +kernel) (by decide +kernel) (by decide +kernel) rfl rfl (jW_get hkl) (Nat.le_of_ble_eq_true rfl) ?_
  refine jm_w (jW_set hkl).symm ?_
  refine jm_aload (k := 0) K (by decide +kernel) 0 rfl ?_
  refine jm_bipush (n := 100) (v := 100) K (by decide +kernel) (by decide) ?_
  refine jm_newi (N := 100) K (by decide +kernel) (by decide) (by decide) (by decide) (Nat.le_of_ble_eq_true rfl) (Nat.le_of_ble_eq_true rfl) (fun q13 => ?_)
  refine jm_w jW_app.symm ?_
  refine jm_put (idx := 46) (a := 12) (b := 15) (g := 1066) (ty := .array .int) (q0 := k) K hi (by decide +kernel) (by decide) (by decide) (by decide +kernel) (by decide +kernel) (by decide +kernel) rfl rfl (jW_get hkl) (Nat.le_of_ble_eq_true rfl) ?_
  refine jm_w (jW_set hkl).symm ?_
  refine jm_aload (k := 0) K (by decide +kernel) 0 rfl ?_
  refine jm_bipush (n := 60) (v := 60) K (by decide +kernel) (by decide) ?_
  refine jm_newi (N := 60) K (by decide +kernel) (by decide) (by decide) (by decide) (Nat.le_of_ble_eq_true rfl) (Nat.le_of_ble_eq_true rfl) (fun q14 => ?_)
  refine jm_w jW_app.symm ?_
  refine jm_put (idx := 49) (a := 12) (b := 19) (g := 1070) (ty := .array .int) (q0 := k) K hi (by decide +kernel) (by decide) (by decide) (by decide +kernel) (by decide +kernel) (by decide +kernel) rfl rfl (jW_get hkl) (Nat.le_of_ble_eq_true rfl) ?_
  refine jm_w (jW_set hkl).symm ?_
  refine jm_aload (k := 0) K (by decide +kernel) 0 rfl ?_
  refine jm_bipush (n := 60) (v := 60) K (by decide +kernel) (by decide) ?_
  refine jm_newi (N := 60) K (by decide +kernel) (by decide) (by decide) (by decide) (Nat.le_of_ble_eq_true rfl) (Nat.le_of_ble_eq_true rfl) (fun q15 => ?_)
  refine jm_w jW_app.symm ?_
  refine jm_put (idx := 52) (a := 12) (b := 20) (g := 1071) (ty := .array .int) (q0 := k) K hi (by decide +kernel) (by decide) (by decide) (by decide +kernel) (by decide +kernel) (by decide +kernel) rfl rfl (jW_get hkl) (Nat.le_of_ble_eq_true rfl) ?_
  refine jm_w (jW_set hkl).symm ?_
  refine jm_aload (k := 0) K (by decide +kernel) 0 rfl ?_
  refine jm_bipush (n := 60) (v := 60) K (by decide +kernel) (by decide) ?_
  refine jm_newi (N := 60) K (by decide +kernel) (by decide) (by decide) (by decide) (Nat.le_of_ble_eq_true rfl) (Nat.le_of_ble_eq_true rfl) (fun q16 => ?_)
  refine jm_w jW_app.symm ?_
  refine jm_put (idx := 55) (a := 12) (b := 22) (g := 1073) (ty := .array .int) (q0 := k) K hi (by decide +kernel) (by decide) (by decide) (by decide +kernel) (by decide +kernel) (by decide +kernel) rfl rfl (jW_get hkl) (Nat.le_of_ble_eq_true rfl) ?_
  refine jm_w (jW_set hkl).symm ?_
  refine jm_iconst (n := 0) (v := 0) K (by decide +kernel) (by decide) ?_
  refine jm_istore (k := 1) (lv' := [(1, .int (iI ((0 : Nat) : Int))), (0, .ref h0)]) K (by decide +kernel) (by decide) rfl ?_
  refine jm_w (ws' := jW ws k (h0, .inr (12, [.ref q1, .ref q2, .ref q3, .ref q4, .ref q5, .ref q6, .ref q7, .ref q8, .int 0, .int 0, .ref q9, .ref q10, .ref q11, .ref q12, .int 0, .ref q13, .int 0, .int 0, .int 0, .ref q14, .ref q15, .int 0, .ref q16, .long 0])) [(q1, .inl (cI, 268, .inl (jMt 0))), (q2, jI cI 536), (q3, jI cI 2), (q4, jI cI 60), (q5, jI cI 60), (q6, jI cI 60), (q7, jI cI 60), (q8, jI cI 60), (q9, jI cI 60), (q10, jI cI 60), (q11, jI cI 60), (q12, jI cI 60), (q13, jI cI 100), (q14, jI cI 60), (q15, jI cI 60), (q16, jI cI 60)]) (by rw [jMt_0]; rfl) ?_
  refine jl_Ref K hkl rfl ?_ 60 0 rfl
  refine jm_aload (k := 0) K (by decide +kernel) 0 rfl ?_
  refine jm_get (idx := 7) (a := 12) (b := 0) (g := 1051) (v := .ref q1) (q0 := k) K (by decide +kernel) (by decide) (by decide) (by decide +kernel) (jW_get hkl) rfl ?_
  refine jm_sipush (n := 181) (v := 181) K (by decide +kernel) (by decide) ?_
  refine jm_bipush (n := 12) (v := 12) K (by decide +kernel) (by decide) ?_
  refine jm_iast (k := 181) (q0 := ws.length + 0) (f := (jMt 60)) (N := 268) K (by decide +kernel) ((jW_new 0).trans rfl) (vin_k (k := 181) (by decide) (by decide)) (by decide) ?_
  refine jm_w (jW_setn 0).symm ?_
  refine jm_aload (k := 0) K (by decide +kernel) 0 rfl ?_
  refine jm_get (idx := 7) (a := 12) (b := 0) (g := 1051) (v := .ref q1) (q0 := k) K (by decide +kernel) (by decide) (by decide) (by decide +kernel) (jW_get hkl) rfl ?_
  refine jm_sipush (n := 182) (v := 182) K (by decide +kernel) (by decide) ?_
  refine jm_iconst (n := 2) (v := 2) K (by decide +kernel) (by decide) ?_
  refine jm_iast (k := 182) (q0 := ws.length + 0) (f := (upd (jMt 60) 181 12)) (N := 268) K (by decide +kernel) ((jW_new 0).trans rfl) (vin_k (k := 182) (by decide) (by decide)) (by decide) ?_
  refine jm_w (jW_setn 0).symm ?_
  refine jm_aload (k := 0) K (by decide +kernel) 0 rfl ?_
  refine jm_get (idx := 7) (a := 12) (b := 0) (g := 1051) (v := .ref q1) (q0 := k) K (by decide +kernel) (by decide) (by decide) (by decide +kernel) (jW_get hkl) rfl ?_
  refine jm_sipush (n := 183) (v := 183) K (by decide +kernel) (by decide) ?_
  refine jm_bipush (n := 10) (v := 10) K (by decide +kernel) (by decide) ?_
  refine jm_iast (k := 183) (q0 := ws.length + 0) (f := (upd (upd (jMt 60) 181 12) 182 2)) (N := 268) K (by decide +kernel) ((jW_new 0).trans rfl) (vin_k (k := 183) (by decide) (by decide)) (by decide) ?_
  refine jm_w (jW_setn 0).symm ?_
  refine jm_aload (k := 0) K (by decide +kernel) 0 rfl ?_
  refine jm_get (idx := 7) (a := 12) (b := 0) (g := 1051) (v := .ref q1) (q0 := k) K (by decide +kernel) (by decide) (by decide) (by decide +kernel) (jW_get hkl) rfl ?_
  refine jm_sipush (n := 184) (v := 184) K (by decide +kernel) (by decide) ?_
  refine jm_bipush (n := 45) (v := 45) K (by decide +kernel) (by decide) ?_
  refine jm_iast (k := 184) (q0 := ws.length + 0) (f := (upd (upd (upd (jMt 60) 181 12) 182 2) 183 10)) (N := 268) K (by decide +kernel) ((jW_new 0).trans rfl) (vin_k (k := 184) (by decide) (by decide)) (by decide) ?_
  refine jm_w (jW_setn 0).symm ?_
  refine jm_aload (k := 0) K (by decide +kernel) 0 rfl ?_
  refine jm_get (idx := 7) (a := 12) (b := 0) (g := 1051) (v := .ref q1) (q0 := k) K (by decide +kernel) (by decide) (by decide) (by decide +kernel) (jW_get hkl) rfl ?_
  refine jm_sipush (n := 185) (v := 185) K (by decide +kernel) (by decide) ?_
  refine jm_ldc (idx := 58) (g := 1050) (v := 60000) K (by decide +kernel) (by decide +kernel) ?_
  refine jm_iast (k := 185) (q0 := ws.length + 0) (f := (upd (upd (upd (upd (jMt 60) 181 12) 182 2) 183 10) 184 45)) (N := 268) K (by decide +kernel) ((jW_new 0).trans rfl) (vin_k (k := 185) (by decide) (by decide)) (by decide) ?_
  refine jm_w (jW_setn 0).symm ?_
  refine jm_aload (k := 0) K (by decide +kernel) 0 rfl ?_
  refine jm_get (idx := 7) (a := 12) (b := 0) (g := 1051) (v := .ref q1) (q0 := k) K (by decide +kernel) (by decide) (by decide) (by decide +kernel) (jW_get hkl) rfl ?_
  refine jm_sipush (n := 186) (v := 186) K (by decide +kernel) (by decide) ?_
  refine jm_bipush (n := 90) (v := 90) K (by decide +kernel) (by decide) ?_
  refine jm_iast (k := 186) (q0 := ws.length + 0) (f := (upd (upd (upd (upd (upd (jMt 60) 181 12) 182 2) 183 10) 184 45) 185 60000)) (N := 268) K (by decide +kernel) ((jW_new 0).trans rfl) (vin_k (k := 186) (by decide) (by decide)) (by decide) ?_
  refine jm_w (jW_setn 0).symm ?_
  refine jm_aload (k := 0) K (by decide +kernel) 0 rfl ?_
  refine jm_get (idx := 7) (a := 12) (b := 0) (g := 1051) (v := .ref q1) (q0 := k) K (by decide +kernel) (by decide) (by decide) (by decide +kernel) (jW_get hkl) rfl ?_
  refine jm_sipush (n := 187) (v := 187) K (by decide +kernel) (by decide) ?_
  refine jm_sipush (n := 4000) (v := 4000) K (by decide +kernel) (by decide) ?_
  refine jm_iast (k := 187) (q0 := ws.length + 0) (f := (upd (upd (upd (upd (upd (upd (jMt 60) 181 12) 182 2) 183 10) 184 45) 185 60000) 186 90)) (N := 268) K (by decide +kernel) ((jW_new 0).trans rfl) (vin_k (k := 187) (by decide) (by decide)) (by decide) ?_
  refine jm_w (jW_setn 0).symm ?_
  exact jm_ret K hr hlk (by decide +kernel) rfl ⟨q1, q2, q3, q4, q5, q6, q7, q8, q9, q10, q11, q12, q13, q14, q15, q16, rfl⟩
