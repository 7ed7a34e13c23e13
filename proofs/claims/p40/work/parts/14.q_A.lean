/-! the regions again, with what is pure in its place: printed by wip/whole/sym2.py -/
-- X3_framesOfScene(16,) depth 2
set_option maxRecDepth 100000 in
set_option maxHeartbeats 4000000 in
theorem zq_X3_framesOfScene_0 {d : Nat} {post : zPo} {X : zX} (hX : zClosed none (zCall (d + 1)) post nX3_framesOfScene X) (p0 : Int32) (σ : zS) (h : X 4 [some (.ref 16), some (.int p0), some (.int 0), some (.int 0)] [] σ) : X 0 [some (.ref 16), some (.int p0), none, none] [] σ := zr_X3_framesOfScene_0 hX p0 σ h
set_option maxRecDepth 100000 in
set_option maxHeartbeats 4000000 in
theorem zq_X3_framesOfScene_4 {d : Nat} {post : zPo} {X : zX} (hX : zClosed none (zCall (d + 1)) post nX3_framesOfScene X) (v1 : Int32) (v2 : Int32) (v3 : Int32) (σ : zS) (h : zIf ((v3 : Int32) < (σ.1 16 0)) (zIf ((zAt σ 18 v3 : Int32) = v1) (X 4 [some (.ref 16), some (.int v1), some (.int (v2 + 1)), some (.int (v3 + 1))] [] σ) (X 4 [some (.ref 16), some (.int v1), some (.int v2), some (.int (v3 + 1))] [] σ)) (post (some (.int v2)) σ)) : X 4 [some (.ref 16), some (.int v1), some (.int v2), some (.int v3)] [] σ := zr_X3_framesOfScene_4 hX v1 v2 v3 σ ⟨fun z1 => sm_at rfl ((h.1 z1)), fun z2 => (h.2 z2)⟩
-- X3_firstOfScene(16,) depth 2
set_option maxRecDepth 100000 in
set_option maxHeartbeats 4000000 in
theorem zq_X3_firstOfScene_0 {d : Nat} {post : zPo} {X : zX} (hX : zClosed none (zCall (d + 1)) post nX3_firstOfScene X) (p0 : Int32) (σ : zS) (h : X 2 [some (.ref 16), some (.int p0), some (.int 0)] [] σ) : X 0 [some (.ref 16), some (.int p0), none] [] σ := zr_X3_firstOfScene_0 hX p0 σ h
set_option maxRecDepth 100000 in
set_option maxHeartbeats 4000000 in
theorem zq_X3_firstOfScene_2 {d : Nat} {post : zPo} {X : zX} (hX : zClosed none (zCall (d + 1)) post nX3_firstOfScene X) (v1 : Int32) (v2 : Int32) (σ : zS) (h : zIf ((v2 : Int32) < (σ.1 16 0)) (zIf ((zAt σ 18 v2 : Int32) = v1) (post (some (.int v2)) σ) (X 2 [some (.ref 16), some (.int v1), some (.int (v2 + 1))] [] σ)) (post (some (.int (-1))) σ)) : X 2 [some (.ref 16), some (.int v1), some (.int v2)] [] σ := zr_X3_firstOfScene_2 hX v1 v2 σ ⟨fun z1 => sm_at rfl ((h.1 z1)), fun z2 => (h.2 z2)⟩
-- X3_groupsOfScene(16,) depth 2
set_option maxRecDepth 100000 in
set_option maxHeartbeats 4000000 in
theorem zq_X3_groupsOfScene_0 {d : Nat} {post : zPo} {X : zX} (hX : zClosed none (zCall (d + 1)) post nX3_groupsOfScene X) (p0 : Int32) (σ : zS) (h : X 4 [some (.ref 16), some (.int p0), some (.int 0), some (.int 0)] [] σ) : X 0 [some (.ref 16), some (.int p0), none, none] [] σ := zr_X3_groupsOfScene_0 hX p0 σ h
set_option maxRecDepth 100000 in
set_option maxHeartbeats 4000000 in
theorem zq_X3_groupsOfScene_4 {d : Nat} {post : zPo} {X : zX} (hX : zClosed none (zCall (d + 1)) post nX3_groupsOfScene X) (v1 : Int32) (v2 : Int32) (v3 : Int32) (σ : zS) (h : zIf ((v3 : Int32) < (σ.1 16 0)) (zIf ((zAt σ 18 v3 : Int32) = v1) (zIf ((zAt σ 17 v3 : Int32) = 0) (X 4 [some (.ref 16), some (.int v1), some (.int (v2 + 1)), some (.int (v3 + 1))] [] σ) (X 4 [some (.ref 16), some (.int v1), some (.int v2), some (.int (v3 + 1))] [] σ)) (X 4 [some (.ref 16), some (.int v1), some (.int v2), some (.int (v3 + 1))] [] σ)) (post (some (.int v2)) σ)) : X 4 [some (.ref 16), some (.int v1), some (.int v2), some (.int v3)] [] σ := zr_X3_groupsOfScene_4 hX v1 v2 v3 σ ⟨fun z1 => sm_at rfl (⟨fun z3 => sm_at rfl (((h.1 z1).1 z3)), fun z4 => ((h.1 z1).2 z4)⟩), fun z2 => (h.2 z2)⟩
-- X0_add(1,) depth 2
set_option maxRecDepth 100000 in
set_option maxHeartbeats 4000000 in
theorem zq_X0_add_1_0 {d : Nat} {post : zPo} {X : zX} (hX : zClosed none (zCall (d + 1)) post nX0_add X) (p0 : Int32) (p1 : Int32) (σ : zS) (h : post none (zSI (zPt (zPt σ 2 (σ.1 1 0) p0) 3 (σ.1 1 0) p1) 1 0 ((σ.1 1 0) + 1))) : X 0 [some (.ref 1), some (.int p0), some (.int p1)] [] σ := zr_X0_add_1_0 hX p0 p1 σ (sm_put rfl (sm_put rfl (h)))
-- X3_chooseTypes(16,) depth 2
set_option maxRecDepth 100000 in
set_option maxHeartbeats 4000000 in
theorem zq_X3_chooseTypes_0 {d : Nat} {post : zPo} {X : zX} (hX : zClosed none (zCall (d + 1)) post nX3_chooseTypes X) (p0 : Int32) (σ : zS) (h : X 2 [some (.ref 16), some (.int p0), some (.int 0), none, none] [] σ) : X 0 [some (.ref 16), some (.int p0), none, none, none] [] σ := zr_X3_chooseTypes_0 hX p0 σ h
set_option maxRecDepth 100000 in
set_option maxHeartbeats 4000000 in
theorem zq_X3_chooseTypes_2 {d : Nat} {post : zPo} {X : zX} (hX : zClosed none (zCall (d + 1)) post nX3_chooseTypes X) (v1 : Int32) (v2 : Int32) (σ : zS) (h : zIf ((v2 : Int32) < (σ.1 16 0)) (zIf ((v2 - (zAt σ 19 v2) : Int32) = ((zAt σ 20 v2) - 1)) (zIf ((v2 - (zAt σ 19 v2) : Int32) = 0) (X 2 [some (.ref 16), some (.int v1), some (.int (v2 + 1)), none, none] [] (zPt σ 17 v2 0)) (X 2 [some (.ref 16), some (.int v1), some (.int (v2 + 1)), none, none] [] (zPt σ 17 v2 1))) (zIf ((v2 - (zAt σ 19 v2) : Int32) = 0) (X 2 [some (.ref 16), some (.int v1), some (.int (v2 + 1)), none, none] [] (zPt σ 17 v2 0)) (zIf (¬ (v1 + 1 : Int32) = 0 ∧ (v2 - (zAt σ 19 v2)) - (v2 - (zAt σ 19 v2)) / (v1 + 1) * (v1 + 1) = 0) (X 2 [some (.ref 16), some (.int v1), some (.int (v2 + 1)), none, none] [] (zPt σ 17 v2 1)) (X 2 [some (.ref 16), some (.int v1), some (.int (v2 + 1)), none, none] [] (zPt σ 17 v2 2))))) (post none σ)) : X 2 [some (.ref 16), some (.int v1), some (.int v2), none, none] [] σ := zr_X3_chooseTypes_2 hX v1 v2 σ ⟨fun z1 => sm_at rfl (sm_at rfl (⟨fun z3 => ⟨fun z5 => sm_put rfl ((((h.1 z1).1 z3).1 z5)), fun z6 => ⟨fun z => absurd z (by decide), fun _ => sm_put rfl ((((h.1 z1).1 z3).2 z6))⟩⟩, fun z4 => ⟨fun z7 => sm_put rfl ((((h.1 z1).2 z4).1 z7)), fun z8 => ⟨fun _ => sm_isMultiple (fun z9 => ⟨fun z => absurd z (by decide), fun _ => sm_put rfl (((((h.1 z1).2 z4).2 z8).1 z9))⟩) (fun z10 => ⟨fun _ => sm_put rfl (((((h.1 z1).2 z4).2 z8).2 z10)), fun z => absurd (by decide) z⟩), fun z => absurd (by decide) z⟩⟩⟩)), fun z2 => (h.2 z2)⟩
-- X3_findStarts(16, 1) depth 3
set_option maxRecDepth 100000 in
set_option maxHeartbeats 4000000 in
theorem zq_X3_findStarts_0 {d : Nat} {post : zPo} {X : zX} (hX : zClosed none (zCall (d + 2)) post nX3_findStarts X) (p1 : Int32) (σ : zS) (h : X 15 [some (.ref 16), some (.ref 1), some (.int p1), some (.int 0), some (.int 0), none] [] (zSI (zSI σ 16 1 0) 16 2 0)) : X 0 [some (.ref 16), some (.ref 1), some (.int p1), none, none, none] [] σ := zr_X3_findStarts_0 hX p1 σ h
set_option maxRecDepth 100000 in
set_option maxHeartbeats 4000000 in
theorem zq_X3_findStarts_15 {d : Nat} {post : zPo} {X : zX} (hX : zClosed none (zCall (d + 2)) post nX3_findStarts X) (v2 : Int32) (v3 : Int32) (v4 : Int32) (σ : zS) (h : zIf ((v4 : Int32) < (σ.1 16 0)) (zIf ((v4 : Int32) = 0) (X 15 [some (.ref 16), some (.ref 1), some (.int v2), some (.int v4), some (.int (v4 + 1)), none] [] (zPt (zPt (zSI (zSI σ 16 1 ((σ.1 16 1) + 1)) 16 2 ((σ.1 16 2) + 1)) 18 v4 (((σ.1 16 1) + 1) - 1)) 19 v4 v4)) (zIf (cCut σ v4) (X 15 [some (.ref 16), some (.ref 1), some (.int v2), some (.int v4), some (.int (v4 + 1)), none] [] (zPt (zPt (zSI (zSI σ 16 1 ((σ.1 16 1) + 1)) 16 2 ((σ.1 16 2) + 1)) 18 v4 (((σ.1 16 1) + 1) - 1)) 19 v4 v4)) (zIf ((v4 - v3 : Int32) < v2) (X 15 [some (.ref 16), some (.ref 1), some (.int v2), some (.int v3), some (.int (v4 + 1)), none] [] (zPt (zPt σ 18 v4 ((σ.1 16 1) - 1)) 19 v4 v3)) (X 15 [some (.ref 16), some (.ref 1), some (.int v2), some (.int v4), some (.int (v4 + 1)), none] [] (zPt (zPt (zSI σ 16 2 ((σ.1 16 2) + 1)) 18 v4 ((σ.1 16 1) - 1)) 19 v4 v4))))) (post none σ)) : X 15 [some (.ref 16), some (.ref 1), some (.int v2), some (.int v3), some (.int v4), none] [] σ := zr_X3_findStarts_15 hX v2 v3 v4 σ ⟨fun z1 => ⟨fun z3 => ⟨fun z => absurd z (by decide), fun _ => ⟨fun z => absurd z (by decide), fun _ => sm_put rfl (sm_put rfl (((h.1 z1).1 z3)))⟩⟩, fun z4 => sm_isCut (fun z5 => ⟨fun z => absurd z (by decide), fun _ => ⟨fun z => absurd z (by decide), fun _ => ⟨fun z => absurd z (by decide), fun _ => sm_put rfl (sm_put rfl ((((h.1 z1).2 z4).1 z5)))⟩⟩⟩) (fun z6 => ⟨fun _ => ⟨fun _ => ⟨fun _ => ⟨fun z7 => sm_put rfl (sm_put rfl (((((h.1 z1).2 z4).2 z6).1 z7))), fun z8 => sm_put rfl (sm_put rfl (((((h.1 z1).2 z4).2 z6).2 z8)))⟩, fun z => absurd (by decide) z⟩, fun z => absurd (by decide) z⟩, fun z => absurd (by decide) z⟩)⟩, fun z2 => (h.2 z2)⟩
-- X3_measureGroups(16,) depth 2
set_option maxRecDepth 100000 in
set_option maxHeartbeats 4000000 in
theorem zq_X3_measureGroups_0 {d : Nat} {post : zPo} {X : zX} (hX : zClosed none (zCall (d + 1)) post nX3_measureGroups X) (σ : zS) (h : X 12 [some (.ref 16), some (.int (σ.1 16 0)), some (.int ((σ.1 16 0) - 1)), none] [] σ) : X 0 [some (.ref 16), none, none, none] [] σ := zr_X3_measureGroups_0 hX  σ h
set_option maxRecDepth 100000 in
set_option maxHeartbeats 4000000 in
theorem zq_X3_measureGroups_12 {d : Nat} {post : zPo} {X : zX} (hX : zClosed none (zCall (d + 1)) post nX3_measureGroups X) (v1 : Int32) (v2 : Int32) (σ : zS) (h : zIf ((v2 : Int32) < 0) (post none σ) (zIf ((v2 : Int32) = (zAt σ 19 v2)) (X 12 [some (.ref 16), some (.int v2), some (.int (v2 + (-1))), none] [] (zPt σ 20 v2 (v1 - (zAt σ 19 v2)))) (X 12 [some (.ref 16), some (.int v1), some (.int (v2 + (-1))), none] [] (zPt σ 20 v2 (v1 - (zAt σ 19 v2)))))) : X 12 [some (.ref 16), some (.int v1), some (.int v2), none] [] σ := zr_X3_measureGroups_12 hX v1 v2 σ ⟨fun z1 => (h.1 z1), fun z2 => sm_at rfl (sm_put rfl ((h.2 z2)))⟩
-- X3_putAt(16,) depth 2
set_option maxRecDepth 100000 in
set_option maxHeartbeats 4000000 in
theorem zq_X3_putAt_0 {d : Nat} {post : zPo} {X : zX} (hX : zClosed none (zCall (d + 1)) post nX3_putAt X) (p0 : Int32) (p1 : Int32) (σ : zS) (h : post none (zPt (zPt σ 23 p0 p1) 22 p1 p0)) : X 0 [some (.ref 16), some (.int p0), some (.int p1)] [] σ := zr_X3_putAt_0 hX p0 p1 σ (sm_put rfl (sm_put rfl (h)))
-- X3_putInOrder(16,) depth 3
set_option maxRecDepth 100000 in
set_option maxHeartbeats 4000000 in
theorem zq_X3_putInOrder_0 {d : Nat} {post : zPo} {X : zX} (hX : zClosed none (zCall (d + 2)) post nX3_putInOrder X) (σ : zS) (h : X 6 [some (.ref 16), some (.int 0), some (.int 0), some (.int 0), none] [] σ) : X 0 [some (.ref 16), none, none, none, none] [] σ := zr_X3_putInOrder_0 hX  σ h
set_option maxRecDepth 100000 in
set_option maxHeartbeats 4000000 in
theorem zq_X3_putInOrder_6 {d : Nat} {post : zPo} {X : zX} (hX : zClosed none (zCall (d + 2)) post nX3_putInOrder X) (v1 : Int32) (v2 : Int32) (v3 : Int32) (σ : zS) (h : zIf ((v3 : Int32) < (σ.1 16 0)) (zIf ((zAt σ 17 v3 : Int32) = 2) (X 6 [some (.ref 16), some (.int v1), some (.int v2), some (.int (v3 + 1)), none] [] σ) (zCall (d + 2) nX3_putAt [.ref 16, .int v1, .int v3] σ (zPV fun σ1 => X 38 [some (.ref 16), some (.int (v1 + 1)), none, some (.int v3), some (.int v2)] [] σ1))) (post none σ)) : X 6 [some (.ref 16), some (.int v1), some (.int v2), some (.int v3), none] [] σ := zr_X3_putInOrder_6 hX v1 v2 v3 σ ⟨fun z1 => sm_at rfl (⟨fun z3 => zr_X3_putInOrder_64 hX v1 v2 v3 σ (((h.1 z1).1 z3)), fun z4 => ((h.1 z1).2 z4)⟩), fun z2 => zr_X3_putInOrder_70 hX  σ ((h.2 z2))⟩
set_option maxRecDepth 100000 in
set_option maxHeartbeats 4000000 in
theorem zq_X3_putInOrder_38 {d : Nat} {post : zPo} {X : zX} (hX : zClosed none (zCall (d + 2)) post nX3_putInOrder X) (v1 : Int32) (v3 : Int32) (v4 : Int32) (σ : zS) (h : zIf ((v4 : Int32) < v3) (zCall (d + 2) nX3_putAt [.ref 16, .int v1, .int v4] σ (zPV fun σ1 => X 38 [some (.ref 16), some (.int (v1 + 1)), none, some (.int v3), some (.int (v4 + 1))] [] σ1)) (X 6 [some (.ref 16), some (.int v1), some (.int (v3 + 1)), some (.int (v3 + 1)), none] [] σ)) : X 38 [some (.ref 16), some (.int v1), none, some (.int v3), some (.int v4)] [] σ := zr_X3_putInOrder_38 hX v1 v3 v4 σ h
-- X3_weighWorks(16, 1) depth 2
set_option maxRecDepth 100000 in
set_option maxHeartbeats 4000000 in
theorem zq_X3_weighWorks_0 {d : Nat} {post : zPo} {X : zX} (hX : zClosed none (zCall (d + 1)) post nX3_weighWorks X) (σ : zS) (h : X 2 [some (.ref 16), some (.ref 1), some (.int 0)] [] σ) : X 0 [some (.ref 16), some (.ref 1), none] [] σ := zr_X3_weighWorks_0 hX  σ h
set_option maxRecDepth 100000 in
set_option maxHeartbeats 4000000 in
theorem zq_X3_weighWorks_2 {d : Nat} {post : zPo} {X : zX} (hX : zClosed none (zCall (d + 1)) post nX3_weighWorks X) (v2 : Int32) (σ : zS) (h : zIf ((v2 : Int32) < (σ.1 16 0)) (X 2 [some (.ref 16), some (.ref 1), some (.int (v2 + 1))] [] (zPt σ 21 v2 (cWk (zAt σ 17 v2) (zAt σ 2 v2) (zAt σ 3 v2)))) (post none σ)) : X 2 [some (.ref 16), some (.ref 1), some (.int v2)] [] σ := zr_X3_weighWorks_2 hX v2 σ ⟨fun z1 => sm_at rfl (sm_at rfl (sm_at rfl (sm_workOf (sm_put rfl ((h.1 z1)))))), fun z2 => (h.2 z2)⟩
-- X3_arrange(16, 1, 4) depth 4
set_option maxRecDepth 100000 in
set_option maxHeartbeats 4000000 in
theorem zq_X3_arrange_0 {d : Nat} {post : zPo} {X : zX} (hX : zClosed none (zCall (d + 3)) post nX3_arrange X) (σ : zS) (h : zCall (d + 3) nX3_findStarts [.ref 16, .ref 1, .int (σ.1 4 0)] (zSI σ 16 0 (σ.1 1 0)) (zPV fun σ1 => zCall (d + 3) nX3_measureGroups [.ref 16] σ1 (zPV fun σ2 => zCall (d + 3) nX3_chooseTypes [.ref 16, .int (σ2.1 4 1)] σ2 (zPV fun σ3 => zCall (d + 3) nX3_putInOrder [.ref 16] σ3 (zPV fun σ4 => zCall (d + 3) nX3_weighWorks [.ref 16, .ref 1] σ4 (zPV fun σ5 => post none σ5)))))) : X 0 [some (.ref 16), some (.ref 1), some (.ref 4)] [] σ := zr_X3_arrange_0 hX  σ h
-- X1_begin(26,) depth 1
set_option maxRecDepth 100000 in
set_option maxHeartbeats 4000000 in
theorem zq_X1_begin_0 {d : Nat} {post : zPo} {X : zX} (hX : zClosed none (zCall (d + 0)) post nX1_begin X) (p0 : Int32) (p1 : Int32) (p2 : Int32) (σ : zS) (h : post none (zSI (zSI (zSI (zSI σ 26 7 p0) 26 8 p2) 26 9 ((p0 * p1) / 100)) 26 0 0)) : X 0 [some (.ref 26), some (.int p0), some (.int p1), some (.int p2)] [] σ := zr_X1_begin_0 hX p0 p1 p2 σ ⟨(by decide), h⟩
-- X1_fillBefore(26,) depth 2
set_option maxRecDepth 100000 in
set_option maxHeartbeats 4000000 in
theorem zq_X1_fillBefore_0 {d : Nat} {post : zPo} {X : zX} (hX : zClosed none (zCall (d + 1)) post nX1_fillBefore X) (p0 : Int32) (σ : zS) (h : zIf ((p0 : Int32) = 0) (post (some (.int (if ((σ.1 26 7 : Int32) < (σ.1 26 9)) then σ.1 26 7 else σ.1 26 9))) (zPt (zPt (zSI σ 26 9 (if ((σ.1 26 7 : Int32) < (σ.1 26 9)) then σ.1 26 7 else σ.1 26 9)) 28 p0 (if ((σ.1 26 7 : Int32) < (σ.1 26 9)) then σ.1 26 7 else σ.1 26 9)) 31 p0 ((σ.1 26 9) - (if ((σ.1 26 7 : Int32) < (σ.1 26 9)) then σ.1 26 7 else σ.1 26 9)))) (post (some (.int (if ((σ.1 26 7 : Int32) < ((σ.1 26 9) + (σ.1 26 8))) then σ.1 26 7 else (σ.1 26 9) + (σ.1 26 8)))) (zPt (zPt (zSI σ 26 9 (if ((σ.1 26 7 : Int32) < ((σ.1 26 9) + (σ.1 26 8))) then σ.1 26 7 else (σ.1 26 9) + (σ.1 26 8))) 28 p0 (if ((σ.1 26 7 : Int32) < ((σ.1 26 9) + (σ.1 26 8))) then σ.1 26 7 else (σ.1 26 9) + (σ.1 26 8))) 31 p0 (((σ.1 26 9) + (σ.1 26 8)) - (if ((σ.1 26 7 : Int32) < ((σ.1 26 9) + (σ.1 26 8))) then σ.1 26 7 else (σ.1 26 9) + (σ.1 26 8)))))) : X 0 [some (.ref 26), some (.int p0), none] [] σ := zr_X1_fillBefore_0 hX p0 σ ⟨fun z1 => sm_put rfl (sm_put rfl ((h.1 z1))), fun z2 => sm_put rfl (sm_put rfl ((h.2 z2)))⟩
-- X1_takeOut(26,) depth 2
set_option maxRecDepth 100000 in
set_option maxHeartbeats 4000000 in
theorem zq_X1_takeOut_0 {d : Nat} {post : zPo} {X : zX} (hX : zClosed none (zCall (d + 1)) post nX1_takeOut X) (p0 : Int32) (p1 : Int32) (σ : zS) (h : zIf ((if ((0 : Int32) < (p1 - (σ.1 26 9))) then p1 - (σ.1 26 9) else 0 : Int32) ≤ 0) (post none (zPt (zPt (zSI σ 26 9 (if ((0 : Int32) < ((σ.1 26 9) - p1)) then (σ.1 26 9) - p1 else 0)) 30 p0 (if ((0 : Int32) < (p1 - (σ.1 26 9))) then p1 - (σ.1 26 9) else 0)) 29 p0 (if ((0 : Int32) < ((σ.1 26 9) - p1)) then (σ.1 26 9) - p1 else 0))) (post none (zPt (zPt (zSI (zSI σ 26 0 ((σ.1 26 0) + 1)) 26 9 (if ((0 : Int32) < ((σ.1 26 9) - p1)) then (σ.1 26 9) - p1 else 0)) 30 p0 (if ((0 : Int32) < (p1 - (σ.1 26 9))) then p1 - (σ.1 26 9) else 0)) 29 p0 (if ((0 : Int32) < ((σ.1 26 9) - p1)) then (σ.1 26 9) - p1 else 0)))) : X 0 [some (.ref 26), some (.int p0), some (.int p1), none] [] σ := zr_X1_takeOut_0 hX p0 p1 σ ⟨fun z1 => sm_put rfl (sm_put rfl ((h.1 z1))), fun z2 => sm_put rfl (sm_put rfl ((h.2 z2)))⟩
-- X1_pass(26,) depth 3
set_option maxRecDepth 100000 in
set_option maxHeartbeats 4000000 in
theorem zq_X1_pass_0 {d : Nat} {post : zPo} {X : zX} (hX : zClosed none (zCall (d + 2)) post nX1_pass X) (p0 : Int32) (p1 : Int32) (p2 : Int32) (σ : zS) (h : zCall (d + 2) nX1_begin [.ref 26, .int p0, .int p1, .int p2] σ (zPV fun σ1 => X 10 [some (.ref 26), none, none, none, some (.int 0)] [] σ1)) : X 0 [some (.ref 26), some (.int p0), some (.int p1), some (.int p2), none] [] σ := zr_X1_pass_0 hX p0 p1 p2 σ h
set_option maxRecDepth 100000 in
set_option maxHeartbeats 4000000 in
theorem zq_X1_pass_10 {d : Nat} {post : zPo} {X : zX} (hX : zClosed none (zCall (d + 2)) post nX1_pass X) (v4 : Int32) (σ : zS) (h : zIf ((v4 : Int32) < (σ.1 16 0)) (zCall (d + 2) nX1_fillBefore [.ref 26, .int v4] σ (zPI fun x2 σ1 => zCall (d + 2) nX1_takeOut [.ref 26, .int v4, .int (zAt σ1 27 v4)] σ1 (zPV fun σ3 => X 10 [some (.ref 26), none, none, none, some (.int (v4 + 1))] [] σ3))) (post none σ)) : X 10 [some (.ref 26), none, none, none, some (.int v4)] [] σ := zr_X1_pass_10 hX v4 σ ⟨fun z1 => zc_I (fun x2 σ1 h3 => sm_at rfl (h3)) (h.1 z1), fun z2 => (h.2 z2)⟩
-- X1_passAsSet(26,) depth 4
set_option maxRecDepth 100000 in
set_option maxHeartbeats 4000000 in
theorem zq_X1_passAsSet_0 {d : Nat} {post : zPo} {X : zX} (hX : zClosed none (zCall (d + 3)) post nX1_passAsSet X) (σ : zS) (h : zCall (d + 3) nX1_pass [.ref 26, .int (σ.1 4 4), .int (σ.1 4 5), .int (σ.1 4 6)] σ (zPV fun σ1 => post none σ1)) : X 0 [some (.ref 26)] [] σ := zr_X1_passAsSet_0 hX  σ h
-- X1_takeBits(26, None) depth 3
set_option maxRecDepth 100000 in
set_option maxHeartbeats 4000000 in
theorem zq_X1_takeBits_0 {d : Nat} {post : zPo} {X : zX} (hX : zClosed none (zCall (d + 2)) post nX1_takeBits X) (p0 : Nat) (hq_p0 : zIsI p0 = true) (σ : zS) (h : X 2 [some (.ref 26), some (.ref p0), some (.int 0), none] [] σ) : X 0 [some (.ref 26), some (.ref p0), none, none] [] σ := zr_X1_takeBits_0 hX p0 σ h
set_option maxRecDepth 100000 in
set_option maxHeartbeats 4000000 in
theorem zq_X1_takeBits_2 {d : Nat} {post : zPo} {X : zX} (hX : zClosed none (zCall (d + 2)) post nX1_takeBits X) (p0 : Nat) (v2 : Int32) (hq_p0 : zIsI p0 = true) (σ : zS) (h : zIf ((v2 : Int32) < (σ.1 16 0)) (X 2 [some (.ref 26), some (.ref p0), some (.int (v2 + 1)), none] [] (zPt σ 27 v2 (cBits σ (zAt σ 23 v2) (zAt σ p0 (zAt σ 23 v2))))) (post none σ)) : X 2 [some (.ref 26), some (.ref p0), some (.int v2), none] [] σ := zr_X1_takeBits_2 hX p0 v2 σ ⟨fun z1 => sm_at rfl (sm_at hq_p0 (sm_bitsOf (sm_put rfl ((h.1 z1))))), fun z2 => (h.2 z2)⟩
-- X1_follow(26, None) depth 5
set_option maxRecDepth 100000 in
set_option maxHeartbeats 4000000 in
theorem zq_X1_follow_0 {d : Nat} {post : zPo} {X : zX} (hX : zClosed none (zCall (d + 4)) post nX1_follow X) (p0 : Nat) (hq_p0 : zIsI p0 = true) (σ : zS) (h : zCall (d + 4) nX1_takeBits [.ref 26, .ref p0] σ (zPV fun σ1 => zCall (d + 4) nX1_passAsSet [.ref 26] σ1 (zPV fun σ2 => post none σ2))) : X 0 [some (.ref 26), some (.ref p0)] [] σ := zr_X1_follow_0 hX p0 σ h
-- X8_settle(4,) depth 2
set_option maxRecDepth 100000 in
set_option maxHeartbeats 4000000 in
theorem zq_X8_settle_0 {d : Nat} {post : zPo} {X : zX} (hX : zClosed none (zCall (d + 1)) post nX8_settle X) (p0 : Int32) (p1 : Int32) (σ : zS) (h : X 5 [some (.ref 4), some (.int p0), none, some (.int p1), some (.int 0)] [] σ) : X 0 [some (.ref 4), some (.int p0), some (.int p1), none, none] [] σ := zr_X8_settle_0 hX p0 p1 σ h
set_option maxRecDepth 100000 in
set_option maxHeartbeats 4000000 in
theorem zq_X8_settle_5 {d : Nat} {post : zPo} {X : zX} (hX : zClosed none (zCall (d + 1)) post nX8_settle X) (v1 : Int32) (v3 : Int32) (v4 : Int32) (σ : zS) (h : zIf ((v4 : Int32) < (σ.1 4 7)) (zIf ((zAt σ 6 v4) ≤ (v1 : Int32) ∧ v1 ≤ (zAt σ 7 v4)) (X 5 [some (.ref 4), some (.int v1), none, some (.int (v3 + (zAt σ 8 v4))), some (.int (v4 + 1))] [] σ) (X 5 [some (.ref 4), some (.int v1), none, some (.int v3), some (.int (v4 + 1))] [] σ)) (post (some (.int (zLc v3 (σ.1 4 2) (σ.1 4 3)))) σ)) : X 5 [some (.ref 4), some (.int v1), none, some (.int v3), some (.int v4)] [] σ := zr_X8_settle_5 hX v1 v3 v4 σ ⟨fun z1 => sm_at rfl (sm_at rfl (sm_within (fun z3 => ⟨fun z => absurd z (by decide), fun _ => sm_at rfl (((h.1 z1).1 z3))⟩) (fun z4 => ⟨fun _ => ((h.1 z1).2 z4), fun z => absurd (by decide) z⟩))), fun z2 => sm_limit ((h.2 z2))⟩
-- X4_planConstant(32, None) depth 3
set_option maxRecDepth 100000 in
set_option maxHeartbeats 4000000 in
theorem zq_X4_planConstant_0 {d : Nat} {post : zPo} {X : zX} (hX : zClosed none (zCall (d + 2)) post nX4_planConstant X) (p0 : Nat) (p1 : Int32) (hq_p0 : zIsI p0 = true) (σ : zS) (h : X 2 [some (.ref 32), some (.ref p0), some (.int p1), some (.int 0)] [] σ) : X 0 [some (.ref 32), some (.ref p0), some (.int p1), none] [] σ := zr_X4_planConstant_0 hX p0 p1 σ h
set_option maxRecDepth 100000 in
set_option maxHeartbeats 4000000 in
theorem zq_X4_planConstant_2 {d : Nat} {post : zPo} {X : zX} (hX : zClosed none (zCall (d + 2)) post nX4_planConstant X) (p0 : Nat) (v2 : Int32) (v3 : Int32) (hq_p0 : zIsI p0 = true) (σ : zS) (h : zIf ((v3 : Int32) < (σ.1 16 0)) (zCall (d + 2) nX8_settle [.ref 4, .int v3, .int (v2 + (cOff σ v3))] σ (zPI fun x2 σ1 => X 2 [some (.ref 32), some (.ref p0), some (.int v2), some (.int (v3 + 1))] [] (zPt σ1 p0 v3 x2))) (post none σ)) : X 2 [some (.ref 32), some (.ref p0), some (.int v2), some (.int v3)] [] σ := zr_X4_planConstant_2 hX p0 v2 v3 σ ⟨fun z1 => sm_offsetOf (zc_I (fun x2 σ1 h3 => sm_put hq_p0 (h3)) (h.1 z1)), fun z2 => (h.2 z2)⟩
