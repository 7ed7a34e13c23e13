/-! the tables' rows are true: checked by computation -/
theorem zv0 : zMv 0 = true := by decide +kernel
theorem zv1 : zMv 1 = true := by decide +kernel
theorem zv2 : zMv 2 = true := by decide +kernel
theorem zv3 : zMv 3 = true := by decide +kernel
theorem zv4 : zMv 4 = true := by decide +kernel
theorem zv5 : zMv 5 = true := by decide +kernel
theorem zv6 : zMv 6 = true := by decide +kernel
theorem zv7 : zMv 7 = true := by decide +kernel
theorem zv8 : zMv 8 = true := by decide +kernel
theorem zv9 : zMv 9 = true := by decide +kernel
theorem zv10 : zMv 10 = true := by decide +kernel
theorem zv11 : zMv 11 = true := by decide +kernel
theorem zv12 : zMv 12 = true := by decide +kernel
theorem zv13 : zMv 13 = true := by decide +kernel
theorem zv14 : zMv 14 = true := by decide +kernel
theorem zv15 : zMv 15 = true := by decide +kernel
theorem zv16 : zMv 16 = true := by decide +kernel
theorem zv17 : zMv 17 = true := by decide +kernel
theorem zv18 : zMv 18 = true := by decide +kernel
theorem zv19 : zMv 19 = true := by decide +kernel
theorem zv20 : zMv 20 = true := by decide +kernel
theorem zv21 : zMv 21 = true := by decide +kernel
theorem zv22 : zMv 22 = true := by decide +kernel
theorem zv23 : zMv 23 = true := by decide +kernel
theorem zv24 : zMv 24 = true := by decide +kernel
theorem zv25 : zMv 25 = true := by decide +kernel
theorem zv26 : zMv 26 = true := by decide +kernel
theorem zv27 : zMv 27 = true := by decide +kernel
theorem zv28 : zMv 28 = true := by decide +kernel
theorem zv29 : zMv 29 = true := by decide +kernel
theorem zv30 : zMv 30 = true := by decide +kernel
theorem zv31 : zMv 31 = true := by decide +kernel
theorem zv32 : zMv 32 = true := by decide +kernel
theorem zv33 : zMv 33 = true := by decide +kernel
theorem zv34 : zMv 34 = true := by decide +kernel
theorem zv35 : zMv 35 = true := by decide +kernel
theorem zv36 : zMv 36 = true := by decide +kernel
theorem zv37 : zMv 37 = true := by decide +kernel
theorem zv38 : zMv 38 = true := by decide +kernel
theorem zv39 : zMv 39 = true := by decide +kernel
theorem zv40 : zMv 40 = true := by decide +kernel
theorem zv41 : zMv 41 = true := by decide +kernel
theorem zv42 : zMv 42 = true := by decide +kernel
theorem zv43 : zMv 43 = true := by decide +kernel
theorem zv44 : zMv 44 = true := by decide +kernel
theorem zv45 : zMv 45 = true := by decide +kernel
theorem zv46 : zMv 46 = true := by decide +kernel
theorem zv47 : zMv 47 = true := by decide +kernel
theorem zv48 : zMv 48 = true := by decide +kernel
theorem zv49 : zMv 49 = true := by decide +kernel
theorem zv50 : zMv 50 = true := by decide +kernel
theorem zv51 : zMv 51 = true := by decide +kernel
theorem zv52 : zMv 52 = true := by decide +kernel
theorem zv53 : zMv 53 = true := by decide +kernel
theorem zv54 : zMv 54 = true := by decide +kernel
theorem zv55 : zMv 55 = true := by decide +kernel
theorem zv56 : zMv 56 = true := by decide +kernel
theorem zv57 : zMv 57 = true := by decide +kernel
theorem zv58 : zMv 58 = true := by decide +kernel
theorem zv59 : zMv 59 = true := by decide +kernel
theorem zv60 : zMv 60 = true := by decide +kernel
theorem zv61 : zMv 61 = true := by decide +kernel
theorem zv62 : zMv 62 = true := by decide +kernel
theorem zv63 : zMv 63 = true := by decide +kernel
theorem zv64 : zMv 64 = true := by decide +kernel
theorem zv65 : zMv 65 = true := by decide +kernel
theorem zv66 : zMv 66 = true := by decide +kernel
theorem zv67 : zMv 67 = true := by decide +kernel
theorem zv68 : zMv 68 = true := by decide +kernel
theorem zv69 : zMv 69 = true := by decide +kernel
theorem zv70 : zMv 70 = true := by decide +kernel
theorem zv71 : zMv 71 = true := by decide +kernel
theorem zv72 : zMv 72 = true := by decide +kernel
theorem zv73 : zMv 73 = true := by decide +kernel
theorem zv74 : zMv 74 = true := by decide +kernel
theorem zv75 : zMv 75 = true := by decide +kernel
theorem zv76 : zMv 76 = true := by decide +kernel
theorem zv77 : zMv 77 = true := by decide +kernel
theorem zv78 : zMv 78 = true := by decide +kernel
theorem zv79 : zMv 79 = true := by decide +kernel
theorem zv80 : zMv 80 = true := by decide +kernel
theorem zv81 : zMv 81 = true := by decide +kernel
theorem zv82 : zMv 82 = true := by decide +kernel
theorem zv83 : zMv 83 = true := by decide +kernel
theorem zvr0 : ∀ q ∈ [0, 1, 2, 3, 4, 5, 6, 7, 8, 9, 10, 11, 12, 13, 14, 15], zMv q = true := List.forall_mem_cons.mpr ⟨zv0, List.forall_mem_cons.mpr ⟨zv1, List.forall_mem_cons.mpr ⟨zv2, List.forall_mem_cons.mpr ⟨zv3, List.forall_mem_cons.mpr ⟨zv4, List.forall_mem_cons.mpr ⟨zv5, List.forall_mem_cons.mpr ⟨zv6, List.forall_mem_cons.mpr ⟨zv7, List.forall_mem_cons.mpr ⟨zv8, List.forall_mem_cons.mpr ⟨zv9, List.forall_mem_cons.mpr ⟨zv10, List.forall_mem_cons.mpr ⟨zv11, List.forall_mem_cons.mpr ⟨zv12, List.forall_mem_cons.mpr ⟨zv13, List.forall_mem_cons.mpr ⟨zv14, List.forall_mem_cons.mpr ⟨zv15, fun _ h => absurd h List.not_mem_nil⟩⟩⟩⟩⟩⟩⟩⟩⟩⟩⟩⟩⟩⟩⟩⟩
theorem zvr1 : ∀ q ∈ [16, 17, 18, 19, 20, 21, 22, 23, 24, 25, 26, 27, 28, 29, 30, 31], zMv q = true := List.forall_mem_cons.mpr ⟨zv16, List.forall_mem_cons.mpr ⟨zv17, List.forall_mem_cons.mpr ⟨zv18, List.forall_mem_cons.mpr ⟨zv19, List.forall_mem_cons.mpr ⟨zv20, List.forall_mem_cons.mpr ⟨zv21, List.forall_mem_cons.mpr ⟨zv22, List.forall_mem_cons.mpr ⟨zv23, List.forall_mem_cons.mpr ⟨zv24, List.forall_mem_cons.mpr ⟨zv25, List.forall_mem_cons.mpr ⟨zv26, List.forall_mem_cons.mpr ⟨zv27, List.forall_mem_cons.mpr ⟨zv28, List.forall_mem_cons.mpr ⟨zv29, List.forall_mem_cons.mpr ⟨zv30, List.forall_mem_cons.mpr ⟨zv31, fun _ h => absurd h List.not_mem_nil⟩⟩⟩⟩⟩⟩⟩⟩⟩⟩⟩⟩⟩⟩⟩⟩
theorem zvr2 : ∀ q ∈ [32, 33, 34, 35, 36, 37, 38, 39, 40, 41, 42, 43, 44, 45, 46, 47], zMv q = true := List.forall_mem_cons.mpr ⟨zv32, List.forall_mem_cons.mpr ⟨zv33, List.forall_mem_cons.mpr ⟨zv34, List.forall_mem_cons.mpr ⟨zv35, List.forall_mem_cons.mpr ⟨zv36, List.forall_mem_cons.mpr ⟨zv37, List.forall_mem_cons.mpr ⟨zv38, List.forall_mem_cons.mpr ⟨zv39, List.forall_mem_cons.mpr ⟨zv40, List.forall_mem_cons.mpr ⟨zv41, List.forall_mem_cons.mpr ⟨zv42, List.forall_mem_cons.mpr ⟨zv43, List.forall_mem_cons.mpr ⟨zv44, List.forall_mem_cons.mpr ⟨zv45, List.forall_mem_cons.mpr ⟨zv46, List.forall_mem_cons.mpr ⟨zv47, fun _ h => absurd h List.not_mem_nil⟩⟩⟩⟩⟩⟩⟩⟩⟩⟩⟩⟩⟩⟩⟩⟩
theorem zvr3 : ∀ q ∈ [48, 49, 50, 51, 52, 53, 54, 55, 56, 57, 58, 59, 60, 61, 62, 63], zMv q = true := List.forall_mem_cons.mpr ⟨zv48, List.forall_mem_cons.mpr ⟨zv49, List.forall_mem_cons.mpr ⟨zv50, List.forall_mem_cons.mpr ⟨zv51, List.forall_mem_cons.mpr ⟨zv52, List.forall_mem_cons.mpr ⟨zv53, List.forall_mem_cons.mpr ⟨zv54, List.forall_mem_cons.mpr ⟨zv55, List.forall_mem_cons.mpr ⟨zv56, List.forall_mem_cons.mpr ⟨zv57, List.forall_mem_cons.mpr ⟨zv58, List.forall_mem_cons.mpr ⟨zv59, List.forall_mem_cons.mpr ⟨zv60, List.forall_mem_cons.mpr ⟨zv61, List.forall_mem_cons.mpr ⟨zv62, List.forall_mem_cons.mpr ⟨zv63, fun _ h => absurd h List.not_mem_nil⟩⟩⟩⟩⟩⟩⟩⟩⟩⟩⟩⟩⟩⟩⟩⟩
theorem zvr4 : ∀ q ∈ [64, 65, 66, 67, 68, 69, 70, 71, 72, 73, 74, 75, 76, 77, 78, 79], zMv q = true := List.forall_mem_cons.mpr ⟨zv64, List.forall_mem_cons.mpr ⟨zv65, List.forall_mem_cons.mpr ⟨zv66, List.forall_mem_cons.mpr ⟨zv67, List.forall_mem_cons.mpr ⟨zv68, List.forall_mem_cons.mpr ⟨zv69, List.forall_mem_cons.mpr ⟨zv70, List.forall_mem_cons.mpr ⟨zv71, List.forall_mem_cons.mpr ⟨zv72, List.forall_mem_cons.mpr ⟨zv73, List.forall_mem_cons.mpr ⟨zv74, List.forall_mem_cons.mpr ⟨zv75, List.forall_mem_cons.mpr ⟨zv76, List.forall_mem_cons.mpr ⟨zv77, List.forall_mem_cons.mpr ⟨zv78, List.forall_mem_cons.mpr ⟨zv79, fun _ h => absurd h List.not_mem_nil⟩⟩⟩⟩⟩⟩⟩⟩⟩⟩⟩⟩⟩⟩⟩⟩
theorem zvr5 : ∀ q ∈ [80, 81, 82, 83], zMv q = true := List.forall_mem_cons.mpr ⟨zv80, List.forall_mem_cons.mpr ⟨zv81, List.forall_mem_cons.mpr ⟨zv82, List.forall_mem_cons.mpr ⟨zv83, fun _ h => absurd h List.not_mem_nil⟩⟩⟩⟩
theorem zvs : ∀ q ∈ [0, 1, 2, 3, 4, 5, 6, 7, 8, 9, 10, 11, 12, 13, 14, 15] ++ ([16, 17, 18, 19, 20, 21, 22, 23, 24, 25, 26, 27, 28, 29, 30, 31] ++ ([32, 33, 34, 35, 36, 37, 38, 39, 40, 41, 42, 43, 44, 45, 46, 47] ++ ([48, 49, 50, 51, 52, 53, 54, 55, 56, 57, 58, 59, 60, 61, 62, 63] ++ ([64, 65, 66, 67, 68, 69, 70, 71, 72, 73, 74, 75, 76, 77, 78, 79] ++ ([80, 81, 82, 83]))))), zMv q = true := (List.forall_mem_append.mpr ⟨zvr0, (List.forall_mem_append.mpr ⟨zvr1, (List.forall_mem_append.mpr ⟨zvr2, (List.forall_mem_append.mpr ⟨zvr3, (List.forall_mem_append.mpr ⟨zvr4, zvr5⟩)⟩)⟩)⟩)⟩)
theorem zMv_all : ∀ mi, mi < 85 → mi ≠ nL_law → zMv mi = true := fun mi h h2 => zvs mi (of_decide_eq_true (List.all_eq_true.mp (by decide +kernel : ((List.range 85).all fun k => decide (k ≠ nL_law → k ∈ [0, 1, 2, 3, 4, 5, 6, 7, 8, 9, 10, 11, 12, 13, 14, 15] ++ ([16, 17, 18, 19, 20, 21, 22, 23, 24, 25, 26, 27, 28, 29, 30, 31] ++ ([32, 33, 34, 35, 36, 37, 38, 39, 40, 41, 42, 43, 44, 45, 46, 47] ++ ([48, 49, 50, 51, 52, 53, 54, 55, 56, 57, 58, 59, 60, 61, 62, 63] ++ ([64, 65, 66, 67, 68, 69, 70, 71, 72, 73, 74, 75, 76, 77, 78, 79] ++ ([80, 81, 82, 83]))))))) = true) mi (List.mem_range.mpr h)) h2)
set_option maxRecDepth 100000 in
theorem zCv_all : vwCl.all zCv = true := by decide +kernel
set_option maxRecDepth 100000 in
theorem zIn_max : lw_tbl.contains (.static Lib.Math.max.name) && lw_tbl.contains (.code Lib.Math.max.name Lib.Math.max.code 2 (some .int)) && lw_tbl.contains (.static Lib.Math.min.name) && lw_tbl.contains (.code Lib.Math.min.name Lib.Math.min.code 2 (some .int)) && lw_tbl.contains (.static Lib.Math.abs.name) && lw_tbl.contains (.code Lib.Math.abs.name Lib.Math.abs.code 1 (some .int)) && lw_tbl.contains (.initialized "java/lang/Math") = true := by decide +kernel
