/-! the regions again, with what is pure in its place: printed by wip/whole/sym2.py -/
-- X0_add(1,) depth 2
set_option maxRecDepth 100000 in
set_option maxHeartbeats 4000000 in
theorem zq_X0_add_1_0 {d : Nat} {post : zPo} {X : zX} (hX : zClosed none (zCall (d + 1)) post nX0_add X) (p0 : Int32) (p1 : Int32) (σ : zS) (h : post none (zSI (zPt (zPt σ 2 (σ.1 1 0) p0) 3 (σ.1 1 0) p1) 1 0 ((σ.1 1 0) + 1))) : X 0 [some (.ref 1), some (.int p0), some (.int p1)] [] σ := zr_X0_add_1_0 hX p0 p1 σ (sm_put rfl (sm_put rfl (h)))
-- X0_add(12,) depth 2
set_option maxRecDepth 100000 in
set_option maxHeartbeats 4000000 in
theorem zq_X0_add_12_0 {d : Nat} {post : zPo} {X : zX} (hX : zClosed none (zCall (d + 1)) post nX0_add X) (p0 : Int32) (p1 : Int32) (σ : zS) (h : post none (zSI (zPt (zPt σ 13 (σ.1 12 0) p0) 14 (σ.1 12 0) p1) 12 0 ((σ.1 12 0) + 1))) : X 0 [some (.ref 12), some (.int p0), some (.int p1)] [] σ := zr_X0_add_12_0 hX p0 p1 σ (sm_put rfl (sm_put rfl (h)))
-- X0_copyFrom(1, 12) depth 2
set_option maxRecDepth 100000 in
set_option maxHeartbeats 4000000 in
theorem zq_X0_copyFrom_1_12_0 {d : Nat} {post : zPo} {X : zX} (hX : zClosed none (zCall (d + 1)) post nX0_copyFrom X) (σ : zS) (h : post none (zCp (zCp (zSI σ 1 0 (σ.1 12 0)) 13 2) 14 3)) : X 0 [some (.ref 1), some (.ref 12)] [] σ := zr_X0_copyFrom_1_12_0 hX  σ (sm_copyRow rfl rfl (sm_copyRow rfl rfl (h)))
-- X0_copyFrom(1, 42) depth 2
set_option maxRecDepth 100000 in
set_option maxHeartbeats 4000000 in
theorem zq_X0_copyFrom_1_42_0 {d : Nat} {post : zPo} {X : zX} (hX : zClosed none (zCall (d + 1)) post nX0_copyFrom X) (σ : zS) (h : post none (zCp (zCp (zSI σ 1 0 (σ.1 42 0)) 43 2) 44 3)) : X 0 [some (.ref 1), some (.ref 42)] [] σ := zr_X0_copyFrom_1_42_0 hX  σ (sm_copyRow rfl rfl (sm_copyRow rfl rfl (h)))
-- X0_copyFrom(1, 53) depth 2
set_option maxRecDepth 100000 in
set_option maxHeartbeats 4000000 in
theorem zq_X0_copyFrom_1_53_0 {d : Nat} {post : zPo} {X : zX} (hX : zClosed none (zCall (d + 1)) post nX0_copyFrom X) (σ : zS) (h : post none (zCp (zCp (zSI σ 1 0 (σ.1 53 0)) 54 2) 55 3)) : X 0 [some (.ref 1), some (.ref 53)] [] σ := zr_X0_copyFrom_1_53_0 hX  σ (sm_copyRow rfl rfl (sm_copyRow rfl rfl (h)))
-- X0_copyFrom(42, 1) depth 2
set_option maxRecDepth 100000 in
set_option maxHeartbeats 4000000 in
theorem zq_X0_copyFrom_42_1_0 {d : Nat} {post : zPo} {X : zX} (hX : zClosed none (zCall (d + 1)) post nX0_copyFrom X) (σ : zS) (h : post none (zCp (zCp (zSI σ 42 0 (σ.1 1 0)) 2 43) 3 44)) : X 0 [some (.ref 42), some (.ref 1)] [] σ := zr_X0_copyFrom_42_1_0 hX  σ (sm_copyRow rfl rfl (sm_copyRow rfl rfl (h)))
-- X0_copyFrom(53, 1) depth 2
set_option maxRecDepth 100000 in
set_option maxHeartbeats 4000000 in
theorem zq_X0_copyFrom_53_1_0 {d : Nat} {post : zPo} {X : zX} (hX : zClosed none (zCall (d + 1)) post nX0_copyFrom X) (σ : zS) (h : post none (zCp (zCp (zSI σ 53 0 (σ.1 1 0)) 2 54) 3 55)) : X 0 [some (.ref 53), some (.ref 1)] [] σ := zr_X0_copyFrom_53_1_0 hX  σ (sm_copyRow rfl rfl (sm_copyRow rfl rfl (h)))
-- X10_add(11,) depth 2
set_option maxRecDepth 100000 in
set_option maxHeartbeats 4000000 in
theorem zq_X10_add_0 {d : Nat} {post : zPo} {X : zX} (hX : zClosed none (zCall (d + 1)) post nX10_add X) (p0 : Int32) (σ : zS) (h : post none (zSI (zPt σ 15 (σ.1 11 0) p0) 11 0 ((σ.1 11 0) + 1))) : X 0 [some (.ref 11), some (.int p0)] [] σ := zr_X10_add_0 hX p0 σ (sm_put rfl (h))
-- X10_skipBlanks(11,) depth 3
set_option maxRecDepth 100000 in
set_option maxHeartbeats 4000000 in
theorem zq_X10_skipBlanks_0 {d : Nat} {post : zPo} {X : zX} (hX : zClosed none (zCall (d + 2)) post nX10_skipBlanks X) (σ : zS) (h : zIf ((σ.1 11 3 : Int32) < (σ.1 11 0)) (zIf ((cLt σ (σ.1 11 3) : Int32) = 32) (X 0 [some (.ref 11)] [] (zSI σ 11 3 ((σ.1 11 3) + 1))) (post none σ)) (post none σ)) : X 0 [some (.ref 11)] [] σ := zr_X10_skipBlanks_0 hX  σ ⟨fun z1 => sm_letterAt ((h.1 z1)), fun z2 => (h.2 z2)⟩
-- X10_readNumber(11,) depth 4
set_option maxRecDepth 100000 in
set_option maxHeartbeats 4000000 in
theorem zq_X10_readNumber_0 {d : Nat} {post : zPo} {X : zX} (hX : zClosed none (zCall (d + 3)) post nX10_readNumber X) (p0 : Int32) (p1 : Int32) (σ : zS) (h : X 10 [some (.ref 11), some (.int p0), some (.int p1), some (.int (σ.1 11 3))] [] (zSI σ 11 4 0)) : X 0 [some (.ref 11), some (.int p0), some (.int p1), none] [] σ := zr_X10_readNumber_0 hX p0 p1 σ h
set_option maxRecDepth 100000 in
set_option maxHeartbeats 4000000 in
theorem zq_X10_readNumber_10 {d : Nat} {post : zPo} {X : zX} (hX : zClosed none (zCall (d + 3)) post nX10_readNumber X) (v1 : Int32) (v2 : Int32) (v3 : Int32) (σ : zS) (h : zIf ((σ.1 11 3 : Int32) < (v3 + 4)) (zIf (48 ≤ (cLt σ (σ.1 11 3) : Int32) ∧ (cLt σ (σ.1 11 3)) ≤ 57) (X 10 [some (.ref 11), some (.int v1), some (.int v2), some (.int v3)] [] (zSI (zSI σ 11 4 (((10 * (σ.1 11 4)) + (cLt σ (σ.1 11 3))) - 48)) 11 3 ((σ.1 11 3) + 1))) (zIf ((σ.1 11 3 : Int32) = v3) (post (some (.int 0)) (zSI σ 11 5 v3)) (zIf (v1 ≤ (σ.1 11 4 : Int32) ∧ (σ.1 11 4) ≤ v2) (zCall (d + 3) nX10_skipBlanks [.ref 11] σ (zPV fun σ1 => post (some (.int 1)) σ1)) (post (some (.int 0)) (zSI σ 11 5 v3))))) (zIf ((σ.1 11 3 : Int32) = v3) (post (some (.int 0)) (zSI σ 11 5 v3)) (zIf (v1 ≤ (σ.1 11 4 : Int32) ∧ (σ.1 11 4) ≤ v2) (zCall (d + 3) nX10_skipBlanks [.ref 11] σ (zPV fun σ2 => post (some (.int 1)) σ2)) (post (some (.int 0)) (zSI σ 11 5 v3))))) : X 10 [some (.ref 11), some (.int v1), some (.int v2), some (.int v3)] [] σ := zr_X10_readNumber_10 hX v1 v2 v3 σ ⟨fun z1 => sm_letterAt (sm_within (fun z3 => ⟨fun z => absurd z (by decide), fun _ => sm_letterAt (((h.1 z1).1 z3))⟩) (fun z4 => ⟨fun _ => ⟨fun z5 => (((h.1 z1).2 z4).1 z5), fun z6 => sm_within (fun z7 => ⟨fun z => absurd z (by decide), fun _ => ((((h.1 z1).2 z4).2 z6).1 z7)⟩) (fun z8 => ⟨fun _ => ((((h.1 z1).2 z4).2 z6).2 z8), fun z => absurd (by decide) z⟩)⟩, fun z => absurd (by decide) z⟩)), fun z2 => ⟨fun z9 => ((h.2 z2).1 z9), fun z10 => sm_within (fun z11 => ⟨fun z => absurd z (by decide), fun _ => (((h.2 z2).2 z10).1 z11)⟩) (fun z12 => ⟨fun _ => (((h.2 z2).2 z10).2 z12), fun z => absurd (by decide) z⟩)⟩⟩
-- X10_readSign(11,) depth 4
set_option maxRecDepth 100000 in
set_option maxHeartbeats 4000000 in
theorem zq_X10_readSign_0 {d : Nat} {post : zPo} {X : zX} (hX : zClosed none (zCall (d + 3)) post nX10_readSign X) (p0 : Int32) (σ : zS) (h : zIf ((cLt σ (σ.1 11 3) : Int32) = p0) (zCall (d + 3) nX10_skipBlanks [.ref 11] (zSI σ 11 3 ((σ.1 11 3) + 1)) (zPV fun σ1 => post (some (.int 1)) σ1)) (post (some (.int 0)) (zSI σ 11 5 (σ.1 11 3)))) : X 0 [some (.ref 11), some (.int p0)] [] σ := zr_X10_readSign_0 hX p0 σ (sm_letterAt (h))
-- X10_readRun(11,) depth 5
set_option maxRecDepth 100000 in
set_option maxHeartbeats 4000000 in
theorem zq_X10_readRun_0 {d : Nat} {post : zPo} {X : zX} (hX : zClosed none (zCall (d + 4)) post nX10_readRun X) (σ : zS) (h : zCall (d + 4) nX10_readNumber [.ref 11, .int 1, .int 4000] σ (zPI fun x2 σ1 => zIf ((x2 : Int32) = 0) (post (some (.int 0)) σ1) (zCall (d + 4) nX10_readSign [.ref 11, .int 47] σ1 (zPI fun x4 σ3 => zIf ((x4 : Int32) = 0) (post (some (.int 0)) σ3) (zCall (d + 4) nX10_readNumber [.ref 11, .int 0, .int 4000] σ3 (zPI fun x6 σ5 => zIf ((x6 : Int32) = 0) (post (some (.int 0)) σ5) (zIf ((cLt σ5 (σ5.1 11 3) : Int32) = 42) (zCall (d + 4) nX10_readSign [.ref 11, .int 42] σ5 (zPI fun x8 σ7 => zIf ((x8 : Int32) = 0) (post (some (.int 0)) σ7) (zCall (d + 4) nX10_readNumber [.ref 11, .int 1, .int (60 - (σ7.1 12 0))] σ7 (zPI fun x10 σ9 => zIf ((x10 : Int32) = 0) (post (some (.int 0)) σ9) (X 97 [some (.ref 11), some (.int (σ1.1 11 4)), some (.int (σ5.1 11 4)), some (.int (σ9.1 11 4)), some (.int 0)] [] σ9))))) (X 97 [some (.ref 11), some (.int (σ1.1 11 4)), some (.int (σ5.1 11 4)), some (.int 1), some (.int 0)] [] σ5)))))))) : X 0 [some (.ref 11), none, none, none, none] [] σ := zr_X10_readRun_0 hX  σ (zc_I (fun x2 σ1 h13 => ⟨fun z1 => (h13.1 z1), fun z2 => zc_I (fun x4 σ3 h14 => ⟨fun z3 => (h14.1 z3), fun z4 => zc_I (fun x6 σ5 h15 => ⟨fun z5 => (h15.1 z5), fun z6 => sm_letterAt ((h15.2 z6))⟩) (h14.2 z4)⟩) (h13.2 z2)⟩) h)
set_option maxRecDepth 100000 in
set_option maxHeartbeats 4000000 in
theorem zq_X10_readRun_97 {d : Nat} {post : zPo} {X : zX} (hX : zClosed none (zCall (d + 4)) post nX10_readRun X) (v1 : Int32) (v2 : Int32) (v3 : Int32) (v4 : Int32) (σ : zS) (h : zIf ((v4 : Int32) < v3) (zCall (d + 4) nX0_add [.ref 12, .int v1, .int v2] σ (zPV fun σ1 => X 97 [some (.ref 11), some (.int v1), some (.int v2), some (.int v3), some (.int (v4 + 1))] [] σ1)) (post (some (.int 1)) σ)) : X 97 [some (.ref 11), some (.int v1), some (.int v2), some (.int v3), some (.int v4)] [] σ := zr_X10_readRun_97 hX v1 v2 v3 v4 σ h
-- X10_readClip(11,) depth 6
set_option maxRecDepth 100000 in
set_option maxHeartbeats 4000000 in
theorem zq_X10_readClip_0 {d : Nat} {post : zPo} {X : zX} (hX : zClosed none (zCall (d + 5)) post nX10_readClip X) (σ : zS) (h : zCall (d + 5) nX10_skipBlanks [.ref 11] (zSI (zSI σ 12 0 0) 11 3 0) (zPV fun σ1 => zIf ((σ1.1 11 3 : Int32) < (σ1.1 11 0)) (X 32 [some (.ref 11), some (.int 0)] [] σ1) (post (some (.int (-1))) σ1))) : X 0 [some (.ref 11), none] [] σ := zr_X10_readClip_0 hX  σ h
set_option maxRecDepth 100000 in
set_option maxHeartbeats 4000000 in
theorem zq_X10_readClip_32 {d : Nat} {post : zPo} {X : zX} (hX : zClosed none (zCall (d + 5)) post nX10_readClip X) (v1 : Int32) (σ : zS) (h : zIf ((v1 : Int32) ≤ 60) (zIf ((σ.1 12 0 : Int32) < 60) (zCall (d + 5) nX10_readRun [.ref 11] σ (zPI fun x2 σ1 => zIf ((x2 : Int32) = 0) (post (some (.int (σ1.1 11 5))) σ1) (zIf ((σ1.1 11 3 : Int32) < (σ1.1 11 0)) (zCall (d + 5) nX10_readSign [.ref 11, .int 59] σ1 (zPI fun x4 σ3 => zIf ((x4 : Int32) = 0) (post (some (.int (σ3.1 11 5))) σ3) (X 32 [some (.ref 11), some (.int (v1 + 1))] [] σ3))) (post (some (.int (-1))) σ1)))) (post (some (.int (σ.1 11 3))) σ)) (post (some (.int (σ.1 11 3))) σ)) : X 32 [some (.ref 11), some (.int v1)] [] σ := zr_X10_readClip_32 hX v1 σ h
-- X8_putZone(4,) depth 2
set_option maxRecDepth 100000 in
set_option maxHeartbeats 4000000 in
theorem zq_X8_putZone_0 {d : Nat} {post : zPo} {X : zX} (hX : zClosed none (zCall (d + 1)) post nX8_putZone X) (p0 : Int32) (p1 : Int32) (p2 : Int32) (σ : zS) (h : post none (zSI (zPt (zPt (zPt σ 6 (σ.1 4 7) p0) 7 (σ.1 4 7) p1) 8 (σ.1 4 7) p2) 4 7 ((σ.1 4 7) + 1))) : X 0 [some (.ref 4), some (.int p0), some (.int p1), some (.int p2)] [] σ := zr_X8_putZone_0 hX p0 p1 p2 σ (sm_put rfl (sm_put rfl (sm_put rfl (h))))
-- X3_chooseTypes(16,) depth 2
set_option maxRecDepth 100000 in
set_option maxHeartbeats 4000000 in
theorem zq_X3_chooseTypes_0 {d : Nat} {post : zPo} {X : zX} (hX : zClosed none (zCall (d + 1)) post nX3_chooseTypes X) (p0 : Int32) (σ : zS) (h : X 2 [some (.ref 16), some (.int p0), some (.int 0), none, none] [] σ) : X 0 [some (.ref 16), some (.int p0), none, none, none] [] σ := zr_X3_chooseTypes_0 hX p0 σ h
set_option maxRecDepth 100000 in
set_option maxHeartbeats 4000000 in
theorem zq_X3_chooseTypes_2 {d : Nat} {post : zPo} {X : zX} (hX : zClosed none (zCall (d + 1)) post nX3_chooseTypes X) (v1 : Int32) (v2 : Int32) (σ : zS) (h : zIf ((v2 : Int32) < (σ.1 16 0)) (zIf ((v2 - (zAt σ 19 v2) : Int32) = ((zAt σ 20 v2) - 1)) (zIf ((v2 - (zAt σ 19 v2) : Int32) = 0) (X 2 [some (.ref 16), some (.int v1), some (.int (v2 + 1)), none, none] [] (zPt σ 17 v2 0)) (X 2 [some (.ref 16), some (.int v1), some (.int (v2 + 1)), none, none] [] (zPt σ 17 v2 1))) (zIf ((v2 - (zAt σ 19 v2) : Int32) = 0) (X 2 [some (.ref 16), some (.int v1), some (.int (v2 + 1)), none, none] [] (zPt σ 17 v2 0)) (zIf (¬ (v1 + 1 : Int32) = 0 ∧ (v2 - (zAt σ 19 v2)) - (v2 - (zAt σ 19 v2)) / (v1 + 1) * (v1 + 1) = 0) (X 2 [some (.ref 16), some (.int v1), some (.int (v2 + 1)), none, none] [] (zPt σ 17 v2 1)) (X 2 [some (.ref 16), some (.int v1), some (.int (v2 + 1)), none, none] [] (zPt σ 17 v2 2))))) (post none σ)) : X 2 [some (.ref 16), some (.int v1), some (.int v2), none, none] [] σ := zr_X3_chooseTypes_2 hX v1 v2 σ ⟨fun z1 => sm_at rfl (sm_at rfl (⟨fun z3 => ⟨fun z5 => sm_put rfl ((((h.1 z1).1 z3).1 z5)), fun z6 => ⟨fun z => absurd z (by decide), fun _ => sm_put rfl ((((h.1 z1).1 z3).2 z6))⟩⟩, fun z4 => ⟨fun z7 => sm_put rfl ((((h.1 z1).2 z4).1 z7)), fun z8 => ⟨fun _ => sm_isMultiple (fun z9 => ⟨fun z => absurd z (by decide), fun _ => sm_put rfl (((((h.1 z1).2 z4).2 z8).1 z9))⟩) (fun z10 => ⟨fun _ => sm_put rfl (((((h.1 z1).2 z4).2 z8).2 z10)), fun z => absurd (by decide) z⟩), fun z => absurd (by decide) z⟩⟩⟩)), fun z2 => (h.2 z2)⟩
-- X3_findStarts(16, 1) depth 3
set_option maxRecDepth 100000 in
set_option maxHeartbeats 4000000 in
theorem zq_X3_findStarts_0 {d : Nat} {post : zPo} {X : zX} (hX : zClosed none (zCall (d + 2)) post nX3_findStarts X) (p1 : Int32) (σ : zS) (h : X 15 [some (.ref 16), some (.ref 1), some (.int p1), some (.int 0), some (.int 0), none] [] (zSI (zSI σ 16 1 0) 16 2 0)) : X 0 [some (.ref 16), some (.ref 1), some (.int p1), none, none, none] [] σ := zr_X3_findStarts_0 hX p1 σ h
set_option maxRecDepth 100000 in
set_option maxHeartbeats 4000000 in
theorem zq_X3_findStarts_15 {d : Nat} {post : zPo} {X : zX} (hX : zClosed none (zCall (d + 2)) post nX3_findStarts X) (v2 : Int32) (v3 : Int32) (v4 : Int32) (σ : zS) (h : zIf ((v4 : Int32) < (σ.1 16 0)) (zIf ((v4 : Int32) = 0) (X 15 [some (.ref 16), some (.ref 1), some (.int v2), some (.int v4), some (.int (v4 + 1)), none] [] (zPt (zPt (zSI (zSI σ 16 1 ((σ.1 16 1) + 1)) 16 2 ((σ.1 16 2) + 1)) 18 v4 (((σ.1 16 1) + 1) - 1)) 19 v4 v4)) (zIf (cCut σ v4) (X 15 [some (.ref 16), some (.ref 1), some (.int v2), some (.int v4), some (.int (v4 + 1)), none] [] (zPt (zPt (zSI (zSI σ 16 1 ((σ.1 16 1) + 1)) 16 2 ((σ.1 16 2) + 1)) 18 v4 (((σ.1 16 1) + 1) - 1)) 19 v4 v4)) (zIf ((v4 - v3 : Int32) < v2) (X 15 [some (.ref 16), some (.ref 1), some (.int v2), some (.int v3), some (.int (v4 + 1)), none] [] (zPt (zPt σ 18 v4 ((σ.1 16 1) - 1)) 19 v4 v3)) (X 15 [some (.ref 16), some (.ref 1), some (.int v2), some (.int v4), some (.int (v4 + 1)), none] [] (zPt (zPt (zSI σ 16 2 ((σ.1 16 2) + 1)) 18 v4 ((σ.1 16 1) - 1)) 19 v4 v4))))) (post none σ)) : X 15 [some (.ref 16), some (.ref 1), some (.int v2), some (.int v3), some (.int v4), none] [] σ := zr_X3_findStarts_15 hX v2 v3 v4 σ ⟨fun z1 => ⟨fun z3 => ⟨fun z => absurd z (by decide), fun _ => ⟨fun z => absurd z (by decide), fun _ => sm_put rfl (sm_put rfl (((h.1 z1).1 z3)))⟩⟩, fun z4 => sm_isCut (fun z5 => ⟨fun z => absurd z (by decide), fun _ => ⟨fun z => absurd z (by decide), fun _ => ⟨fun z => absurd z (by decide), fun _ => sm_put rfl (sm_put rfl ((((h.1 z1).2 z4).1 z5)))⟩⟩⟩) (fun z6 => ⟨fun _ => ⟨fun _ => ⟨fun _ => ⟨fun z7 => sm_put rfl (sm_put rfl (((((h.1 z1).2 z4).2 z6).1 z7))), fun z8 => sm_put rfl (sm_put rfl (((((h.1 z1).2 z4).2 z6).2 z8)))⟩, fun z => absurd (by decide) z⟩, fun z => absurd (by decide) z⟩, fun z => absurd (by decide) z⟩)⟩, fun z2 => (h.2 z2)⟩
-- X3_measureGroups(16,) depth 2
set_option maxRecDepth 100000 in
set_option maxHeartbeats 4000000 in
theorem zq_X3_measureGroups_0 {d : Nat} {post : zPo} {X : zX} (hX : zClosed none (zCall (d + 1)) post nX3_measureGroups X) (σ : zS) (h : X 12 [some (.ref 16), some (.int (σ.1 16 0)), some (.int ((σ.1 16 0) - 1)), none] [] σ) : X 0 [some (.ref 16), none, none, none] [] σ := zr_X3_measureGroups_0 hX  σ h
set_option maxRecDepth 100000 in
set_option maxHeartbeats 4000000 in
theorem zq_X3_measureGroups_12 {d : Nat} {post : zPo} {X : zX} (hX : zClosed none (zCall (d + 1)) post nX3_measureGroups X) (v1 : Int32) (v2 : Int32) (σ : zS) (h : zIf ((v2 : Int32) < 0) (post none σ) (zIf ((v2 : Int32) = (zAt σ 19 v2)) (X 12 [some (.ref 16), some (.int v2), some (.int (v2 + (-1))), none] [] (zPt σ 20 v2 (v1 - (zAt σ 19 v2)))) (X 12 [some (.ref 16), some (.int v1), some (.int (v2 + (-1))), none] [] (zPt σ 20 v2 (v1 - (zAt σ 19 v2)))))) : X 12 [some (.ref 16), some (.int v1), some (.int v2), none] [] σ := zr_X3_measureGroups_12 hX v1 v2 σ ⟨fun z1 => (h.1 z1), fun z2 => sm_at rfl (sm_put rfl ((h.2 z2)))⟩
-- X3_putAt(16,) depth 2
set_option maxRecDepth 100000 in
set_option maxHeartbeats 4000000 in
theorem zq_X3_putAt_0 {d : Nat} {post : zPo} {X : zX} (hX : zClosed none (zCall (d + 1)) post nX3_putAt X) (p0 : Int32) (p1 : Int32) (σ : zS) (h : post none (zPt (zPt σ 23 p0 p1) 22 p1 p0)) : X 0 [some (.ref 16), some (.int p0), some (.int p1)] [] σ := zr_X3_putAt_0 hX p0 p1 σ (sm_put rfl (sm_put rfl (h)))
-- X3_putInOrder(16,) depth 3
set_option maxRecDepth 100000 in
set_option maxHeartbeats 4000000 in
theorem zq_X3_putInOrder_0 {d : Nat} {post : zPo} {X : zX} (hX : zClosed none (zCall (d + 2)) post nX3_putInOrder X) (σ : zS) (h : X 6 [some (.ref 16), some (.int 0), some (.int 0), some (.int 0), none] [] σ) : X 0 [some (.ref 16), none, none, none, none] [] σ := zr_X3_putInOrder_0 hX  σ h
set_option maxRecDepth 100000 in
set_option maxHeartbeats 4000000 in
theorem zq_X3_putInOrder_6 {d : Nat} {post : zPo} {X : zX} (hX : zClosed none (zCall (d + 2)) post nX3_putInOrder X) (v1 : Int32) (v2 : Int32) (v3 : Int32) (σ : zS) (h : zIf ((v3 : Int32) < (σ.1 16 0)) (zIf ((zAt σ 17 v3 : Int32) = 2) (X 6 [some (.ref 16), some (.int v1), some (.int v2), some (.int (v3 + 1)), none] [] σ) (zCall (d + 2) nX3_putAt [.ref 16, .int v1, .int v3] σ (zPV fun σ1 => X 38 [some (.ref 16), some (.int (v1 + 1)), none, some (.int v3), some (.int v2)] [] σ1))) (post none σ)) : X 6 [some (.ref 16), some (.int v1), some (.int v2), some (.int v3), none] [] σ := zr_X3_putInOrder_6 hX v1 v2 v3 σ ⟨fun z1 => sm_at rfl (⟨fun z3 => zr_X3_putInOrder_64 hX v1 v2 v3 σ (((h.1 z1).1 z3)), fun z4 => ((h.1 z1).2 z4)⟩), fun z2 => zr_X3_putInOrder_70 hX  σ ((h.2 z2))⟩
set_option maxRecDepth 100000 in
set_option maxHeartbeats 4000000 in
theorem zq_X3_putInOrder_38 {d : Nat} {post : zPo} {X : zX} (hX : zClosed none (zCall (d + 2)) post nX3_putInOrder X) (v1 : Int32) (v3 : Int32) (v4 : Int32) (σ : zS) (h : zIf ((v4 : Int32) < v3) (zCall (d + 2) nX3_putAt [.ref 16, .int v1, .int v4] σ (zPV fun σ1 => X 38 [some (.ref 16), some (.int (v1 + 1)), none, some (.int v3), some (.int (v4 + 1))] [] σ1)) (X 6 [some (.ref 16), some (.int v1), some (.int (v3 + 1)), some (.int (v3 + 1)), none] [] σ)) : X 38 [some (.ref 16), some (.int v1), none, some (.int v3), some (.int v4)] [] σ := zr_X3_putInOrder_38 hX v1 v3 v4 σ h
-- X3_weighWorks(16, 1) depth 2
set_option maxRecDepth 100000 in
set_option maxHeartbeats 4000000 in
theorem zq_X3_weighWorks_0 {d : Nat} {post : zPo} {X : zX} (hX : zClosed none (zCall (d + 1)) post nX3_weighWorks X) (σ : zS) (h : X 2 [some (.ref 16), some (.ref 1), some (.int 0)] [] σ) : X 0 [some (.ref 16), some (.ref 1), none] [] σ := zr_X3_weighWorks_0 hX  σ h
set_option maxRecDepth 100000 in
set_option maxHeartbeats 4000000 in
theorem zq_X3_weighWorks_2 {d : Nat} {post : zPo} {X : zX} (hX : zClosed none (zCall (d + 1)) post nX3_weighWorks X) (v2 : Int32) (σ : zS) (h : zIf ((v2 : Int32) < (σ.1 16 0)) (X 2 [some (.ref 16), some (.ref 1), some (.int (v2 + 1))] [] (zPt σ 21 v2 (cWk (zAt σ 17 v2) (zAt σ 2 v2) (zAt σ 3 v2)))) (post none σ)) : X 2 [some (.ref 16), some (.ref 1), some (.int v2)] [] σ := zr_X3_weighWorks_2 hX v2 σ ⟨fun z1 => sm_at rfl (sm_at rfl (sm_at rfl (sm_workOf (sm_put rfl ((h.1 z1)))))), fun z2 => (h.2 z2)⟩
-- X3_arrange(16, 1, 4) depth 4
set_option maxRecDepth 100000 in
set_option maxHeartbeats 4000000 in
theorem zq_X3_arrange_0 {d : Nat} {post : zPo} {X : zX} (hX : zClosed none (zCall (d + 3)) post nX3_arrange X) (σ : zS) (h : zCall (d + 3) nX3_findStarts [.ref 16, .ref 1, .int (σ.1 4 0)] (zSI σ 16 0 (σ.1 1 0)) (zPV fun σ1 => zCall (d + 3) nX3_measureGroups [.ref 16] σ1 (zPV fun σ2 => zCall (d + 3) nX3_chooseTypes [.ref 16, .int (σ2.1 4 1)] σ2 (zPV fun σ3 => zCall (d + 3) nX3_putInOrder [.ref 16] σ3 (zPV fun σ4 => zCall (d + 3) nX3_weighWorks [.ref 16, .ref 1] σ4 (zPV fun σ5 => post none σ5)))))) : X 0 [some (.ref 16), some (.ref 1), some (.ref 4)] [] σ := zr_X3_arrange_0 hX  σ h
-- X1_begin(26,) depth 1
set_option maxRecDepth 100000 in
set_option maxHeartbeats 4000000 in
theorem zq_X1_begin_0 {d : Nat} {post : zPo} {X : zX} (hX : zClosed none (zCall (d + 0)) post nX1_begin X) (p0 : Int32) (p1 : Int32) (p2 : Int32) (σ : zS) (h : post none (zSI (zSI (zSI (zSI σ 26 7 p0) 26 8 p2) 26 9 ((p0 * p1) / 100)) 26 0 0)) : X 0 [some (.ref 26), some (.int p0), some (.int p1), some (.int p2)] [] σ := zr_X1_begin_0 hX p0 p1 p2 σ ⟨(by decide), h⟩
-- X1_fillBefore(26,) depth 2
set_option maxRecDepth 100000 in
set_option maxHeartbeats 4000000 in
theorem zq_X1_fillBefore_0 {d : Nat} {post : zPo} {X : zX} (hX : zClosed none (zCall (d + 1)) post nX1_fillBefore X) (p0 : Int32) (σ : zS) (h : zIf ((p0 : Int32) = 0) (post (some (.int (if ((σ.1 26 7 : Int32) < (σ.1 26 9)) then σ.1 26 7 else σ.1 26 9))) (zPt (zPt (zSI σ 26 9 (if ((σ.1 26 7 : Int32) < (σ.1 26 9)) then σ.1 26 7 else σ.1 26 9)) 28 p0 (if ((σ.1 26 7 : Int32) < (σ.1 26 9)) then σ.1 26 7 else σ.1 26 9)) 31 p0 ((σ.1 26 9) - (if ((σ.1 26 7 : Int32) < (σ.1 26 9)) then σ.1 26 7 else σ.1 26 9)))) (post (some (.int (if ((σ.1 26 7 : Int32) < ((σ.1 26 9) + (σ.1 26 8))) then σ.1 26 7 else (σ.1 26 9) + (σ.1 26 8)))) (zPt (zPt (zSI σ 26 9 (if ((σ.1 26 7 : Int32) < ((σ.1 26 9) + (σ.1 26 8))) then σ.1 26 7 else (σ.1 26 9) + (σ.1 26 8))) 28 p0 (if ((σ.1 26 7 : Int32) < ((σ.1 26 9) + (σ.1 26 8))) then σ.1 26 7 else (σ.1 26 9) + (σ.1 26 8))) 31 p0 (((σ.1 26 9) + (σ.1 26 8)) - (if ((σ.1 26 7 : Int32) < ((σ.1 26 9) + (σ.1 26 8))) then σ.1 26 7 else (σ.1 26 9) + (σ.1 26 8)))))) : X 0 [some (.ref 26), some (.int p0), none] [] σ := zr_X1_fillBefore_0 hX p0 σ ⟨fun z1 => sm_put rfl (sm_put rfl ((h.1 z1))), fun z2 => sm_put rfl (sm_put rfl ((h.2 z2)))⟩
-- X1_takeOut(26,) depth 2
set_option maxRecDepth 100000 in
set_option maxHeartbeats 4000000 in
theorem zq_X1_takeOut_0 {d : Nat} {post : zPo} {X : zX} (hX : zClosed none (zCall (d + 1)) post nX1_takeOut X) (p0 : Int32) (p1 : Int32) (σ : zS) (h : zIf ((if ((0 : Int32) < (p1 - (σ.1 26 9))) then p1 - (σ.1 26 9) else 0 : Int32) ≤ 0) (post none (zPt (zPt (zSI σ 26 9 (if ((0 : Int32) < ((σ.1 26 9) - p1)) then (σ.1 26 9) - p1 else 0)) 30 p0 (if ((0 : Int32) < (p1 - (σ.1 26 9))) then p1 - (σ.1 26 9) else 0)) 29 p0 (if ((0 : Int32) < ((σ.1 26 9) - p1)) then (σ.1 26 9) - p1 else 0))) (post none (zPt (zPt (zSI (zSI σ 26 0 ((σ.1 26 0) + 1)) 26 9 (if ((0 : Int32) < ((σ.1 26 9) - p1)) then (σ.1 26 9) - p1 else 0)) 30 p0 (if ((0 : Int32) < (p1 - (σ.1 26 9))) then p1 - (σ.1 26 9) else 0)) 29 p0 (if ((0 : Int32) < ((σ.1 26 9) - p1)) then (σ.1 26 9) - p1 else 0)))) : X 0 [some (.ref 26), some (.int p0), some (.int p1), none] [] σ := zr_X1_takeOut_0 hX p0 p1 σ ⟨fun z1 => sm_put rfl (sm_put rfl ((h.1 z1))), fun z2 => sm_put rfl (sm_put rfl ((h.2 z2)))⟩
-- X1_pass(26,) depth 3
set_option maxRecDepth 100000 in
set_option maxHeartbeats 4000000 in
theorem zq_X1_pass_0 {d : Nat} {post : zPo} {X : zX} (hX : zClosed none (zCall (d + 2)) post nX1_pass X) (p0 : Int32) (p1 : Int32) (p2 : Int32) (σ : zS) (h : zCall (d + 2) nX1_begin [.ref 26, .int p0, .int p1, .int p2] σ (zPV fun σ1 => X 10 [some (.ref 26), none, none, none, some (.int 0)] [] σ1)) : X 0 [some (.ref 26), some (.int p0), some (.int p1), some (.int p2), none] [] σ := zr_X1_pass_0 hX p0 p1 p2 σ h
set_option maxRecDepth 100000 in
set_option maxHeartbeats 4000000 in
theorem zq_X1_pass_10 {d : Nat} {post : zPo} {X : zX} (hX : zClosed none (zCall (d + 2)) post nX1_pass X) (v4 : Int32) (σ : zS) (h : zIf ((v4 : Int32) < (σ.1 16 0)) (zCall (d + 2) nX1_fillBefore [.ref 26, .int v4] σ (zPI fun x2 σ1 => zCall (d + 2) nX1_takeOut [.ref 26, .int v4, .int (zAt σ1 27 v4)] σ1 (zPV fun σ3 => X 10 [some (.ref 26), none, none, none, some (.int (v4 + 1))] [] σ3))) (post none σ)) : X 10 [some (.ref 26), none, none, none, some (.int v4)] [] σ := zr_X1_pass_10 hX v4 σ ⟨fun z1 => zc_I (fun x2 σ1 h3 => sm_at rfl (h3)) (h.1 z1), fun z2 => (h.2 z2)⟩
-- X1_passAsSet(26,) depth 4
set_option maxRecDepth 100000 in
set_option maxHeartbeats 4000000 in
theorem zq_X1_passAsSet_0 {d : Nat} {post : zPo} {X : zX} (hX : zClosed none (zCall (d + 3)) post nX1_passAsSet X) (σ : zS) (h : zCall (d + 3) nX1_pass [.ref 26, .int (σ.1 4 4), .int (σ.1 4 5), .int (σ.1 4 6)] σ (zPV fun σ1 => post none σ1)) : X 0 [some (.ref 26)] [] σ := zr_X1_passAsSet_0 hX  σ h
-- X1_takeBits(26, None) depth 3
set_option maxRecDepth 100000 in
set_option maxHeartbeats 4000000 in
theorem zq_X1_takeBits_0 {d : Nat} {post : zPo} {X : zX} (hX : zClosed none (zCall (d + 2)) post nX1_takeBits X) (p0 : Nat) (hq_p0 : zIsI p0 = true) (σ : zS) (h : X 2 [some (.ref 26), some (.ref p0), some (.int 0), none] [] σ) : X 0 [some (.ref 26), some (.ref p0), none, none] [] σ := zr_X1_takeBits_0 hX p0 σ h
set_option maxRecDepth 100000 in
set_option maxHeartbeats 4000000 in
theorem zq_X1_takeBits_2 {d : Nat} {post : zPo} {X : zX} (hX : zClosed none (zCall (d + 2)) post nX1_takeBits X) (p0 : Nat) (v2 : Int32) (hq_p0 : zIsI p0 = true) (σ : zS) (h : zIf ((v2 : Int32) < (σ.1 16 0)) (X 2 [some (.ref 26), some (.ref p0), some (.int (v2 + 1)), none] [] (zPt σ 27 v2 (cBits σ (zAt σ 23 v2) (zAt σ p0 (zAt σ 23 v2))))) (post none σ)) : X 2 [some (.ref 26), some (.ref p0), some (.int v2), none] [] σ := zr_X1_takeBits_2 hX p0 v2 σ ⟨fun z1 => sm_at rfl (sm_at hq_p0 (sm_bitsOf (sm_put rfl ((h.1 z1))))), fun z2 => (h.2 z2)⟩
-- X1_follow(26, None) depth 5
set_option maxRecDepth 100000 in
set_option maxHeartbeats 4000000 in
theorem zq_X1_follow_0 {d : Nat} {post : zPo} {X : zX} (hX : zClosed none (zCall (d + 4)) post nX1_follow X) (p0 : Nat) (hq_p0 : zIsI p0 = true) (σ : zS) (h : zCall (d + 4) nX1_takeBits [.ref 26, .ref p0] σ (zPV fun σ1 => zCall (d + 4) nX1_passAsSet [.ref 26] σ1 (zPV fun σ2 => post none σ2))) : X 0 [some (.ref 26), some (.ref p0)] [] σ := zr_X1_follow_0 hX p0 σ h
-- X8_settle(4,) depth 2
set_option maxRecDepth 100000 in
set_option maxHeartbeats 4000000 in
theorem zq_X8_settle_0 {d : Nat} {post : zPo} {X : zX} (hX : zClosed none (zCall (d + 1)) post nX8_settle X) (p0 : Int32) (p1 : Int32) (σ : zS) (h : X 5 [some (.ref 4), some (.int p0), none, some (.int p1), some (.int 0)] [] σ) : X 0 [some (.ref 4), some (.int p0), some (.int p1), none, none] [] σ := zr_X8_settle_0 hX p0 p1 σ h
set_option maxRecDepth 100000 in
set_option maxHeartbeats 4000000 in
theorem zq_X8_settle_5 {d : Nat} {post : zPo} {X : zX} (hX : zClosed none (zCall (d + 1)) post nX8_settle X) (v1 : Int32) (v3 : Int32) (v4 : Int32) (σ : zS) (h : zIf ((v4 : Int32) < (σ.1 4 7)) (zIf ((zAt σ 6 v4) ≤ (v1 : Int32) ∧ v1 ≤ (zAt σ 7 v4)) (X 5 [some (.ref 4), some (.int v1), none, some (.int (v3 + (zAt σ 8 v4))), some (.int (v4 + 1))] [] σ) (X 5 [some (.ref 4), some (.int v1), none, some (.int v3), some (.int (v4 + 1))] [] σ)) (post (some (.int (zLc v3 (σ.1 4 2) (σ.1 4 3)))) σ)) : X 5 [some (.ref 4), some (.int v1), none, some (.int v3), some (.int v4)] [] σ := zr_X8_settle_5 hX v1 v3 v4 σ ⟨fun z1 => sm_at rfl (sm_at rfl (sm_within (fun z3 => ⟨fun z => absurd z (by decide), fun _ => sm_at rfl (((h.1 z1).1 z3))⟩) (fun z4 => ⟨fun _ => ((h.1 z1).2 z4), fun z => absurd (by decide) z⟩))), fun z2 => sm_limit ((h.2 z2))⟩
-- X4_planConstant(32, None) depth 3
set_option maxRecDepth 100000 in
set_option maxHeartbeats 4000000 in
theorem zq_X4_planConstant_0 {d : Nat} {post : zPo} {X : zX} (hX : zClosed none (zCall (d + 2)) post nX4_planConstant X) (p0 : Nat) (p1 : Int32) (hq_p0 : zIsI p0 = true) (σ : zS) (h : X 2 [some (.ref 32), some (.ref p0), some (.int p1), some (.int 0)] [] σ) : X 0 [some (.ref 32), some (.ref p0), some (.int p1), none] [] σ := zr_X4_planConstant_0 hX p0 p1 σ h
set_option maxRecDepth 100000 in
set_option maxHeartbeats 4000000 in
theorem zq_X4_planConstant_2 {d : Nat} {post : zPo} {X : zX} (hX : zClosed none (zCall (d + 2)) post nX4_planConstant X) (p0 : Nat) (v2 : Int32) (v3 : Int32) (hq_p0 : zIsI p0 = true) (σ : zS) (h : zIf ((v3 : Int32) < (σ.1 16 0)) (zCall (d + 2) nX8_settle [.ref 4, .int v3, .int (v2 + (cOff σ v3))] σ (zPI fun x2 σ1 => X 2 [some (.ref 32), some (.ref p0), some (.int v2), some (.int (v3 + 1))] [] (zPt σ1 p0 v3 x2))) (post none σ)) : X 2 [some (.ref 32), some (.ref p0), some (.int v2), some (.int v3)] [] σ := zr_X4_planConstant_2 hX p0 v2 v3 σ ⟨fun z1 => sm_offsetOf (zc_I (fun x2 σ1 h3 => sm_put hq_p0 (h3)) (h.1 z1)), fun z2 => (h.2 z2)⟩
-- X2_findConstant(39,) depth 6
set_option maxRecDepth 100000 in
set_option maxHeartbeats 4000000 in
theorem zq_X2_findConstant_0 {d : Nat} {post : zPo} {X : zX} (hX : zClosed none (zCall (d + 5)) post nX2_findConstant X) (σ : zS) (h : X 2 [some (.ref 39), some (.int 0)] [] σ) : X 0 [some (.ref 39), none] [] σ := zr_X2_findConstant_0 hX  σ h
set_option maxRecDepth 100000 in
set_option maxHeartbeats 4000000 in
theorem zq_X2_findConstant_2 {d : Nat} {post : zPo} {X : zX} (hX : zClosed none (zCall (d + 5)) post nX2_findConstant X) (v1 : Int32) (σ : zS) (h : zIf ((v1 : Int32) ≤ 51) (zCall (d + 5) nX4_planConstant [.ref 32, .ref 40, .int v1] σ (zPV fun σ1 => zCall (d + 5) nX1_follow [.ref 26, .ref 40] σ1 (zPV fun σ2 => zIf ((σ2.1 26 0 : Int32) = 0) (post (some (.int v1)) σ2) (X 2 [some (.ref 39), some (.int (v1 + 1))] [] σ2)))) (post (some (.int (-1))) σ)) : X 2 [some (.ref 39), some (.int v1)] [] σ := zr_X2_findConstant_2 hX v1 σ h
-- X4_planControlled(32, None) depth 3
set_option maxRecDepth 100000 in
set_option maxHeartbeats 4000000 in
theorem zq_X4_planControlled_0 {d : Nat} {post : zPo} {X : zX} (hX : zClosed none (zCall (d + 2)) post nX4_planControlled X) (p0 : Nat) (p1 : Int32) (p2 : Int32) (hq_p0 : zIsI p0 = true) (σ : zS) (h : zCall (d + 2) nX1_begin [.ref 26, .int (σ.1 4 4), .int (σ.1 4 5), .int (σ.1 4 6)] σ (zPV fun σ1 => X 35 [some (.ref 32), some (.ref p0), some (.int p1), some (.int p2), some (.int (σ.1 4 4)), some (.int 0), none, none, none, none] [] σ1)) : X 0 [some (.ref 32), some (.ref p0), some (.int p1), some (.int p2), none, none, none, none, none, none] [] σ := zr_X4_planControlled_0 hX p0 p1 p2 σ h
set_option maxRecDepth 100000 in
set_option maxHeartbeats 4000000 in
theorem zq_X4_planControlled_35 {d : Nat} {post : zPo} {X : zX} (hX : zClosed none (zCall (d + 2)) post nX4_planControlled X) (p0 : Nat) (v2 : Int32) (v3 : Int32) (v4 : Int32) (v5 : Int32) (hq_p0 : zIsI p0 = true) (σ : zS) (h : zIf ((v5 : Int32) < (σ.1 16 0)) (zCall (d + 2) nX1_fillBefore [.ref 26, .int v5] σ (zPI fun x2 σ1 => zCall (d + 2) nX8_settle [.ref 4, .int (zAt σ 23 v5), .int ((v2 + (Int64.toInt32 (zRat (Int32.toInt64 (((v4 / 2) - x2) * v3)) (Int32.toInt64 v4)))) + (cOff σ1 (zAt σ 23 v5)))] σ1 (zPI fun x4 σ3 => zCall (d + 2) nX1_takeOut [.ref 26, .int v5, .int (cBits (zPt σ3 p0 (zAt σ 23 v5) x4) (zAt σ 23 v5) x4)] (zPt σ3 p0 (zAt σ 23 v5) x4) (zPV fun σ5 => X 35 [some (.ref 32), some (.ref p0), some (.int v2), some (.int v3), some (.int v4), some (.int (v5 + 1)), none, none, none, none] [] σ5)))) (post none σ)) : X 35 [some (.ref 32), some (.ref p0), some (.int v2), some (.int v3), some (.int v4), some (.int v5), none, none, none, none] [] σ := zr_X4_planControlled_35 hX p0 v2 v3 v4 v5 σ ⟨fun z1 => sm_at rfl (zc_I (fun x2 σ1 h3 => ⟨(by decide), sm_ratio (sm_offsetOf (zc_I (fun x4 σ3 h4 => sm_put hq_p0 (sm_bitsOf (h4))) h3))⟩) (h.1 z1)), fun z2 => (h.2 z2)⟩
-- X2_findDemand(39, None) depth 4
set_option maxRecDepth 100000 in
set_option maxHeartbeats 4000000 in
theorem zq_X2_findDemand_0 {d : Nat} {post : zPo} {X : zX} (hX : zClosed none (zCall (d + 3)) post nX2_findDemand X) (p0 : Nat) (p1 : Int32) (p2 : Int32) (hq_p0 : zIsI p0 = true) (σ : zS) (h : zCall (d + 3) nX1_takeBits [.ref 26, .ref p0] σ (zPV fun σ1 => X 30 [some (.ref 39), none, none, some (.int p2), some (.int (zAt σ1 27 p1)), some (.int (zAt σ1 27 p1)), some (.int (p1 + 1))] [] σ1)) : X 0 [some (.ref 39), some (.ref p0), some (.int p1), some (.int p2), none, none, none] [] σ := zr_X2_findDemand_0 hX p0 p1 p2 σ (zc_V (fun σ1 h1 => sm_at rfl (h1)) h)
set_option maxRecDepth 100000 in
set_option maxHeartbeats 4000000 in
theorem zq_X2_findDemand_30 {d : Nat} {post : zPo} {X : zX} (hX : zClosed none (zCall (d + 3)) post nX2_findDemand X) (v3 : Int32) (v4 : Int32) (v5 : Int32) (v6 : Int32) (σ : zS) (h : zIf ((v6 : Int32) ≤ v3) (zIf ((v6 : Int32) < (σ.1 16 0)) (X 30 [some (.ref 39), none, none, some (.int v3), some (.int (v4 + ((zAt σ 27 v6) - (σ.1 4 6)))), some (.int (if ((v5 : Int32) < (v4 + ((zAt σ 27 v6) - (σ.1 4 6)))) then v4 + ((zAt σ 27 v6) - (σ.1 4 6)) else v5)), some (.int (v6 + 1))] [] σ) (post (some (.int v5)) σ)) (post (some (.int v5)) σ)) : X 30 [some (.ref 39), none, none, some (.int v3), some (.int v4), some (.int v5), some (.int v6)] [] σ := zr_X2_findDemand_30 hX v3 v4 v5 v6 σ ⟨fun z1 => ⟨fun z3 => sm_at rfl (((h.1 z1).1 z3)), fun z4 => ((h.1 z1).2 z4)⟩, fun z2 => (h.2 z2)⟩
-- X3_framesOfScene(16,) depth 2
set_option maxRecDepth 100000 in
set_option maxHeartbeats 4000000 in
theorem zq_X3_framesOfScene_0 {d : Nat} {post : zPo} {X : zX} (hX : zClosed none (zCall (d + 1)) post nX3_framesOfScene X) (p0 : Int32) (σ : zS) (h : X 4 [some (.ref 16), some (.int p0), some (.int 0), some (.int 0)] [] σ) : X 0 [some (.ref 16), some (.int p0), none, none] [] σ := zr_X3_framesOfScene_0 hX p0 σ h
set_option maxRecDepth 100000 in
set_option maxHeartbeats 4000000 in
theorem zq_X3_framesOfScene_4 {d : Nat} {post : zPo} {X : zX} (hX : zClosed none (zCall (d + 1)) post nX3_framesOfScene X) (v1 : Int32) (v2 : Int32) (v3 : Int32) (σ : zS) (h : zIf ((v3 : Int32) < (σ.1 16 0)) (zIf ((zAt σ 18 v3 : Int32) = v1) (X 4 [some (.ref 16), some (.int v1), some (.int (v2 + 1)), some (.int (v3 + 1))] [] σ) (X 4 [some (.ref 16), some (.int v1), some (.int v2), some (.int (v3 + 1))] [] σ)) (post (some (.int v2)) σ)) : X 4 [some (.ref 16), some (.int v1), some (.int v2), some (.int v3)] [] σ := zr_X3_framesOfScene_4 hX v1 v2 v3 σ ⟨fun z1 => sm_at rfl ((h.1 z1)), fun z2 => (h.2 z2)⟩
-- X3_firstOfScene(16,) depth 2
set_option maxRecDepth 100000 in
set_option maxHeartbeats 4000000 in
theorem zq_X3_firstOfScene_0 {d : Nat} {post : zPo} {X : zX} (hX : zClosed none (zCall (d + 1)) post nX3_firstOfScene X) (p0 : Int32) (σ : zS) (h : X 2 [some (.ref 16), some (.int p0), some (.int 0)] [] σ) : X 0 [some (.ref 16), some (.int p0), none] [] σ := zr_X3_firstOfScene_0 hX p0 σ h
set_option maxRecDepth 100000 in
set_option maxHeartbeats 4000000 in
theorem zq_X3_firstOfScene_2 {d : Nat} {post : zPo} {X : zX} (hX : zClosed none (zCall (d + 1)) post nX3_firstOfScene X) (v1 : Int32) (v2 : Int32) (σ : zS) (h : zIf ((v2 : Int32) < (σ.1 16 0)) (zIf ((zAt σ 18 v2 : Int32) = v1) (post (some (.int v2)) σ) (X 2 [some (.ref 16), some (.int v1), some (.int (v2 + 1))] [] σ)) (post (some (.int (-1))) σ)) : X 2 [some (.ref 16), some (.int v1), some (.int v2)] [] σ := zr_X3_firstOfScene_2 hX v1 v2 σ ⟨fun z1 => sm_at rfl ((h.1 z1)), fun z2 => (h.2 z2)⟩
-- X3_groupsOfScene(16,) depth 2
set_option maxRecDepth 100000 in
set_option maxHeartbeats 4000000 in
theorem zq_X3_groupsOfScene_0 {d : Nat} {post : zPo} {X : zX} (hX : zClosed none (zCall (d + 1)) post nX3_groupsOfScene X) (p0 : Int32) (σ : zS) (h : X 4 [some (.ref 16), some (.int p0), some (.int 0), some (.int 0)] [] σ) : X 0 [some (.ref 16), some (.int p0), none, none] [] σ := zr_X3_groupsOfScene_0 hX p0 σ h
set_option maxRecDepth 100000 in
set_option maxHeartbeats 4000000 in
theorem zq_X3_groupsOfScene_4 {d : Nat} {post : zPo} {X : zX} (hX : zClosed none (zCall (d + 1)) post nX3_groupsOfScene X) (v1 : Int32) (v2 : Int32) (v3 : Int32) (σ : zS) (h : zIf ((v3 : Int32) < (σ.1 16 0)) (zIf ((zAt σ 18 v3 : Int32) = v1) (zIf ((zAt σ 17 v3 : Int32) = 0) (X 4 [some (.ref 16), some (.int v1), some (.int (v2 + 1)), some (.int (v3 + 1))] [] σ) (X 4 [some (.ref 16), some (.int v1), some (.int v2), some (.int (v3 + 1))] [] σ)) (X 4 [some (.ref 16), some (.int v1), some (.int v2), some (.int (v3 + 1))] [] σ)) (post (some (.int v2)) σ)) : X 4 [some (.ref 16), some (.int v1), some (.int v2), some (.int v3)] [] σ := zr_X3_groupsOfScene_4 hX v1 v2 v3 σ ⟨fun z1 => sm_at rfl (⟨fun z3 => sm_at rfl (((h.1 z1).1 z3)), fun z4 => ((h.1 z1).2 z4)⟩), fun z2 => (h.2 z2)⟩
-- X4_leastWithin(32,) depth 3
set_option maxRecDepth 100000 in
set_option maxHeartbeats 4000000 in
theorem zq_X4_leastWithin_0 {d : Nat} {post : zPo} {X : zX} (hX : zClosed none (zCall (d + 2)) post nX4_leastWithin X) (p0 : Int32) (p1 : Int64) (σ : zS) (h : X 9 [some (.ref 32), some (.int p0), some (.long p1), none, some (.int (σ.1 4 2))] [] σ) : X 0 [some (.ref 32), some (.int p0), some (.long p1), none, none] [] σ := zr_X4_leastWithin_0 hX p0 p1 σ h
set_option maxRecDepth 100000 in
set_option maxHeartbeats 4000000 in
theorem zq_X4_leastWithin_9 {d : Nat} {post : zPo} {X : zX} (hX : zClosed none (zCall (d + 2)) post nX4_leastWithin X) (v1 : Int32) (v2 : Int64) (v4 : Int32) (σ : zS) (h : zIf ((v4 : Int32) < (σ.1 4 3)) (zIf ((lg_cmp (Int32.toInt64 (cBits σ v1 v4)) v2 : Int32) ≤ 0) (post (some (.int v4)) σ) (X 9 [some (.ref 32), some (.int v1), some (.long v2), none, some (.int (v4 + 1))] [] σ)) (post (some (.int (σ.1 4 3))) σ)) : X 9 [some (.ref 32), some (.int v1), some (.long v2), none, some (.int v4)] [] σ := zr_X4_leastWithin_9 hX v1 v2 v4 σ ⟨fun z1 => sm_bitsOf ((h.1 z1)), fun z2 => (h.2 z2)⟩
-- X4_rootOf() depth 1
set_option maxRecDepth 100000 in
set_option maxHeartbeats 4000000 in
theorem zq_X4_rootOf_0 {d : Nat} {post : zPo} {X : zX} (hX : zClosed none (zCall (d + 0)) post nX4_rootOf X) (p0 : Int32) (σ : zS) (h : X 6 [some (.int p0), some (.int 0), some (.int 2048)] [] σ) : X 0 [some (.int p0), none, none] [] σ := zr_X4_rootOf_0 hX p0 σ h
set_option maxRecDepth 100000 in
set_option maxHeartbeats 4000000 in
theorem zq_X4_rootOf_6 {d : Nat} {post : zPo} {X : zX} (hX : zClosed none (zCall (d + 0)) post nX4_rootOf X) (v0 : Int32) (v1 : Int32) (v2 : Int32) (σ : zS) (h : zIf ((v2 : Int32) ≤ 0) (post (some (.int v1)) σ) (zIf (((v1 + v2) * (v1 + v2) : Int32) ≤ v0) (X 6 [some (.int v0), some (.int (v1 + v2)), some (.int (v2 / 2))] [] σ) (X 6 [some (.int v0), some (.int v1), some (.int (v2 / 2))] [] σ))) : X 6 [some (.int v0), some (.int v1), some (.int v2)] [] σ := zr_X4_rootOf_6 hX v0 v1 v2 σ ⟨fun z1 => (h.1 z1), fun z2 => ⟨fun z3 => ⟨(by decide), ((h.2 z2).1 z3)⟩, fun z4 => ⟨(by decide), ((h.2 z2).2 z4)⟩⟩⟩
-- X4_weighShares(32,) depth 3
set_option maxRecDepth 100000 in
set_option maxHeartbeats 4000000 in
theorem zq_X4_weighShares_0 {d : Nat} {post : zPo} {X : zX} (hX : zClosed none (zCall (d + 2)) post nX4_weighShares X) (σ : zS) (h : X 4 [some (.ref 32), some (.long 0), none, some (.int 0), none] [] σ) : X 0 [some (.ref 32), none, none, none, none] [] σ := zr_X4_weighShares_0 hX  σ h
set_option maxRecDepth 100000 in
set_option maxHeartbeats 4000000 in
theorem zq_X4_weighShares_4 {d : Nat} {post : zPo} {X : zX} (hX : zClosed none (zCall (d + 2)) post nX4_weighShares X) (v1 : Int64) (v3 : Int32) (σ : zS) (h : zIf ((v3 : Int32) < (σ.1 16 0)) (zCall (d + 2) nX4_rootOf [.int (((zAt σ 21 v3) * (cWt σ v3)) * 64)] σ (zPI fun x2 σ1 => X 4 [some (.ref 32), some (.long (v1 + (Int32.toInt64 x2))), none, some (.int (v3 + 1)), none] [] (zPt σ1 33 v3 x2))) (post (some (.long v1)) σ)) : X 4 [some (.ref 32), some (.long v1), none, some (.int v3), none] [] σ := zr_X4_weighShares_4 hX v1 v3 σ ⟨fun z1 => sm_at rfl (sm_weightOf (zc_I (fun x2 σ1 h3 => sm_put rfl (h3)) (h.1 z1))), fun z2 => (h.2 z2)⟩
-- X4_planDistributed(32, None) depth 4
set_option maxRecDepth 100000 in
set_option maxHeartbeats 4000000 in
theorem zq_X4_planDistributed_0 {d : Nat} {post : zPo} {X : zX} (hX : zClosed none (zCall (d + 3)) post nX4_planDistributed X) (p0 : Nat) (p1 : Int32) (hq_p0 : zIsI p0 = true) (σ : zS) (h : zCall (d + 3) nX4_weighShares [.ref 32] σ (zPJ fun x2 σ1 => X 23 [some (.ref 32), some (.ref p0), none, some (.long x2), none, some (.long (Int32.toInt64 (p1 - (40 * (σ1.1 16 0))))), none, some (.int 0), none, none] [] σ1)) : X 0 [some (.ref 32), some (.ref p0), some (.int p1), none, none, none, none, none, none, none] [] σ := zr_X4_planDistributed_0 hX p0 p1 σ h
set_option maxRecDepth 100000 in
set_option maxHeartbeats 4000000 in
theorem zq_X4_planDistributed_23 {d : Nat} {post : zPo} {X : zX} (hX : zClosed none (zCall (d + 3)) post nX4_planDistributed X) (p0 : Nat) (v3 : Int64) (v5 : Int64) (v7 : Int32) (hq_p0 : zIsI p0 = true) (σ : zS) (h : zIf ((v7 : Int32) < (σ.1 16 0)) (zCall (d + 3) nX4_leastWithin [.ref 32, .int v7, .long (40 + (zRat (v5 * (Int32.toInt64 (zAt σ 33 v7))) v3))] σ (zPI fun x2 σ1 => zCall (d + 3) nX8_settle [.ref 4, .int v7, .int x2] σ1 (zPI fun x4 σ3 => X 23 [some (.ref 32), some (.ref p0), none, some (.long v3), none, some (.long v5), none, some (.int (v7 + 1)), none, none] [] (zPt σ3 p0 v7 x4)))) (post none σ)) : X 23 [some (.ref 32), some (.ref p0), none, some (.long v3), none, some (.long v5), none, some (.int v7), none, none] [] σ := zr_X4_planDistributed_23 hX p0 v3 v5 v7 σ ⟨fun z1 => sm_at rfl (sm_ratio (zc_I (fun x2 σ1 h3 => zc_I (fun x4 σ3 h4 => sm_put hq_p0 (h4)) h3) (h.1 z1))), fun z2 => (h.2 z2)⟩
-- X2_suffices(39,) depth 4
set_option maxRecDepth 100000 in
set_option maxHeartbeats 4000000 in
theorem zq_X2_suffices_0 {d : Nat} {post : zPo} {X : zX} (hX : zClosed none (zCall (d + 3)) post nX2_suffices X) (p0 : Int32) (p1 : Int32) (σ : zS) (h : zIf ((p0 : Int32) = 0) (zIf ((p0 : Int32) = 1) (zIf ((p0 : Int32) = 2) (zCall (d + 3) nX1_pass [.ref 26, .int p1, .int p1, .int p1] σ (zPV fun σ1 => zIf ((σ1.1 26 0 : Int32) = 0) (post (some (.int 1)) σ1) (post (some (.int 0)) σ1))) (zCall (d + 3) nX1_pass [.ref 26, .int p1, .int p1, .int (σ.1 4 6)] σ (zPV fun σ2 => zIf ((σ2.1 26 0 : Int32) = 0) (post (some (.int 1)) σ2) (post (some (.int 0)) σ2)))) (zIf ((p0 : Int32) = 2) (zCall (d + 3) nX1_pass [.ref 26, .int p1, .int (σ.1 4 5), .int p1] σ (zPV fun σ3 => zIf ((σ3.1 26 0 : Int32) = 0) (post (some (.int 1)) σ3) (post (some (.int 0)) σ3))) (zCall (d + 3) nX1_pass [.ref 26, .int p1, .int (σ.1 4 5), .int (σ.1 4 6)] σ (zPV fun σ4 => zIf ((σ4.1 26 0 : Int32) = 0) (post (some (.int 1)) σ4) (post (some (.int 0)) σ4))))) (zIf ((p0 : Int32) = 1) (zIf ((p0 : Int32) = 2) (zCall (d + 3) nX1_pass [.ref 26, .int (σ.1 4 4), .int p1, .int p1] σ (zPV fun σ5 => zIf ((σ5.1 26 0 : Int32) = 0) (post (some (.int 1)) σ5) (post (some (.int 0)) σ5))) (zCall (d + 3) nX1_pass [.ref 26, .int (σ.1 4 4), .int p1, .int (σ.1 4 6)] σ (zPV fun σ6 => zIf ((σ6.1 26 0 : Int32) = 0) (post (some (.int 1)) σ6) (post (some (.int 0)) σ6)))) (zIf ((p0 : Int32) = 2) (zCall (d + 3) nX1_pass [.ref 26, .int (σ.1 4 4), .int (σ.1 4 5), .int p1] σ (zPV fun σ7 => zIf ((σ7.1 26 0 : Int32) = 0) (post (some (.int 1)) σ7) (post (some (.int 0)) σ7))) (zCall (d + 3) nX1_pass [.ref 26, .int (σ.1 4 4), .int (σ.1 4 5), .int (σ.1 4 6)] σ (zPV fun σ8 => zIf ((σ8.1 26 0 : Int32) = 0) (post (some (.int 1)) σ8) (post (some (.int 0)) σ8)))))) : X 0 [some (.ref 39), some (.int p0), some (.int p1), none, none, none] [] σ := zr_X2_suffices_0 hX p0 p1 σ h
-- X2_findLeast(39, None) depth 5
set_option maxRecDepth 100000 in
set_option maxHeartbeats 4000000 in
theorem zq_X2_findLeast_0 {d : Nat} {post : zPo} {X : zX} (hX : zClosed none (zCall (d + 4)) post nX2_findLeast X) (p0 : Nat) (p1 : Int32) (p2 : Int32) (p3 : Int32) (hq_p0 : zIsI p0 = true) (σ : zS) (h : zCall (d + 4) nX1_takeBits [.ref 26, .ref p0] σ (zPV fun σ1 => zCall (d + 4) nX2_suffices [.ref 39, .int p1, .int p3] σ1 (zPI fun x3 σ2 => zIf ((x3 : Int32) = 0) (post (some (.int (-1))) σ2) (X 30 [some (.ref 39), none, some (.int p1), none, none, some (.int p2), some (.int p3), some (.int 0), none] [] σ2)))) : X 0 [some (.ref 39), some (.ref p0), some (.int p1), some (.int p2), some (.int p3), none, none, none, none] [] σ := zr_X2_findLeast_0 hX p0 p1 p2 p3 σ h
set_option maxRecDepth 100000 in
set_option maxHeartbeats 4000000 in
theorem zq_X2_findLeast_30 {d : Nat} {post : zPo} {X : zX} (hX : zClosed none (zCall (d + 4)) post nX2_findLeast X) (v2 : Int32) (v5 : Int32) (v6 : Int32) (v7 : Int32) (σ : zS) (h : zIf ((v7 : Int32) < 32) (zIf ((v5 : Int32) < v6) (zCall (d + 4) nX2_suffices [.ref 39, .int v2, .int ((v5 + v6) / 2)] σ (zPI fun x2 σ1 => zIf ((x2 : Int32) = 0) (X 30 [some (.ref 39), none, some (.int v2), none, none, some (.int (((v5 + v6) / 2) + 1)), some (.int v6), some (.int (v7 + 1)), none] [] σ1) (X 30 [some (.ref 39), none, some (.int v2), none, none, some (.int v5), some (.int ((v5 + v6) / 2)), some (.int (v7 + 1)), none] [] σ1))) (post (some (.int v5)) σ)) (post (some (.int v5)) σ)) : X 30 [some (.ref 39), none, some (.int v2), none, none, some (.int v5), some (.int v6), some (.int v7), none] [] σ := zr_X2_findLeast_30 hX v2 v5 v6 v7 σ ⟨fun z1 => ⟨fun z3 => ⟨(by decide), ((h.1 z1).1 z3)⟩, fun z4 => ((h.1 z1).2 z4)⟩, fun z2 => (h.2 z2)⟩
-- X2_findRate(39, None) depth 6
set_option maxRecDepth 100000 in
set_option maxHeartbeats 4000000 in
theorem zq_X2_findRate_0 {d : Nat} {post : zPo} {X : zX} (hX : zClosed none (zCall (d + 5)) post nX2_findRate X) (p0 : Nat) (hq_p0 : zIsI p0 = true) (σ : zS) (h : zCall (d + 5) nX2_findLeast [.ref 39, .ref p0, .int 2, .int 0, .int 100000] σ (zPI fun x2 σ1 => post (some (.int x2)) σ1)) : X 0 [some (.ref 39), some (.ref p0)] [] σ := zr_X2_findRate_0 hX p0 σ h
-- X2_findSize(39, None) depth 6
set_option maxRecDepth 100000 in
set_option maxHeartbeats 4000000 in
theorem zq_X2_findSize_0 {d : Nat} {post : zPo} {X : zX} (hX : zClosed none (zCall (d + 5)) post nX2_findSize X) (p0 : Nat) (hq_p0 : zIsI p0 = true) (σ : zS) (h : zCall (d + 5) nX2_findLeast [.ref 39, .ref p0, .int 0, .int 100, .int 1000000] σ (zPI fun x2 σ1 => post (some (.int x2)) σ1)) : X 0 [some (.ref 39), some (.ref p0)] [] σ := zr_X2_findSize_0 hX p0 σ h
-- X2_findStart(39, None) depth 6
set_option maxRecDepth 100000 in
set_option maxHeartbeats 4000000 in
theorem zq_X2_findStart_0 {d : Nat} {post : zPo} {X : zX} (hX : zClosed none (zCall (d + 5)) post nX2_findStart X) (p0 : Nat) (hq_p0 : zIsI p0 = true) (σ : zS) (h : zCall (d + 5) nX2_findLeast [.ref 39, .ref p0, .int 1, .int 0, .int 100] σ (zPI fun x2 σ1 => post (some (.int x2)) σ1)) : X 0 [some (.ref 39), some (.ref p0)] [] σ := zr_X2_findStart_0 hX p0 σ h
-- X1_sumOfBits(26,) depth 2
set_option maxRecDepth 100000 in
set_option maxHeartbeats 4000000 in
theorem zq_X1_sumOfBits_0 {d : Nat} {post : zPo} {X : zX} (hX : zClosed none (zCall (d + 1)) post nX1_sumOfBits X) (σ : zS) (h : X 4 [some (.ref 26), some (.int 0), some (.int 0)] [] σ) : X 0 [some (.ref 26), none, none] [] σ := zr_X1_sumOfBits_0 hX  σ h
set_option maxRecDepth 100000 in
set_option maxHeartbeats 4000000 in
theorem zq_X1_sumOfBits_4 {d : Nat} {post : zPo} {X : zX} (hX : zClosed none (zCall (d + 1)) post nX1_sumOfBits X) (v1 : Int32) (v2 : Int32) (σ : zS) (h : zIf ((v2 : Int32) < (σ.1 16 0)) (X 4 [some (.ref 26), some (.int (v1 + (zAt σ 27 v2))), some (.int (v2 + 1))] [] σ) (post (some (.int v1)) σ)) : X 4 [some (.ref 26), some (.int v1), some (.int v2)] [] σ := zr_X1_sumOfBits_4 hX v1 v2 σ ⟨fun z1 => sm_at rfl ((h.1 z1)), fun z2 => (h.2 z2)⟩
-- X5_canLower(34, None) depth 5
set_option maxRecDepth 100000 in
set_option maxHeartbeats 4000000 in
theorem zq_X5_canLower_0 {d : Nat} {post : zPo} {X : zX} (hX : zClosed none (zCall (d + 4)) post nX5_canLower X) (p0 : Nat) (p1 : Int32) (p2 : Int32) (p3 : Int32) (hq_p0 : zIsI p0 = true) (σ : zS) (h : zCall (d + 4) nX1_sumOfBits [.ref 26] σ (zPI fun x2 σ1 => zIf (((x2 - (zAt σ 27 p1)) + (cBits σ (zAt σ 23 p1) ((zAt σ p0 (zAt σ 23 p1)) - 1)) : Int32) ≤ p2) (zCall (d + 4) nX1_passAsSet [.ref 26] (zPt σ1 27 p1 (cBits σ (zAt σ 23 p1) ((zAt σ p0 (zAt σ 23 p1)) - 1))) (zPV fun σ3 => zIf ((σ3.1 26 0 : Int32) ≤ p3) (post (some (.int 1)) (zPt σ3 27 p1 (zAt σ 27 p1))) (post (some (.int 0)) (zPt σ3 27 p1 (zAt σ 27 p1))))) (post (some (.int 0)) σ1))) : X 0 [some (.ref 34), some (.ref p0), some (.int p1), some (.int p2), some (.int p3), none, none, none] [] σ := zr_X5_canLower_0 hX p0 p1 p2 p3 σ (sm_at rfl (sm_at rfl (sm_at hq_p0 (sm_bitsOf (zc_I (fun x2 σ1 h5 => ⟨fun z1 => sm_put rfl (zc_V (fun σ3 h6 => sm_put rfl (h6)) (h5.1 z1)), fun z2 => (h5.2 z2)⟩) h)))))
-- X5_greatestGain(34,) depth 2
set_option maxRecDepth 100000 in
set_option maxHeartbeats 4000000 in
theorem zq_X5_greatestGain_0 {d : Nat} {post : zPo} {X : zX} (hX : zClosed none (zCall (d + 1)) post nX5_greatestGain X) (σ : zS) (h : X 4 [some (.ref 34), some (.int (-1)), some (.int 0), none] [] σ) : X 0 [some (.ref 34), none, none, none] [] σ := zr_X5_greatestGain_0 hX  σ h
set_option maxRecDepth 100000 in
set_option maxHeartbeats 4000000 in
theorem zq_X5_greatestGain_4 {d : Nat} {post : zPo} {X : zX} (hX : zClosed none (zCall (d + 1)) post nX5_greatestGain X) (v1 : Int32) (v2 : Int32) (σ : zS) (h : zIf ((v2 : Int32) < (σ.1 16 0)) (zIf ((lg_cmp (zAtJ σ 38 v2) (-1) : Int32) = 0) (X 4 [some (.ref 34), some (.int v1), some (.int (v2 + 1)), none] [] σ) (zIf ((v1 : Int32) < 0) (X 4 [some (.ref 34), some (.int v2), some (.int (v2 + 1)), none] [] σ) (zIf ((lg_cmp (zAtJ σ 38 v2) (zAtJ σ 38 v1) : Int32) ≤ 0) (X 4 [some (.ref 34), some (.int v1), some (.int (v2 + 1)), none] [] σ) (X 4 [some (.ref 34), some (.int v2), some (.int (v2 + 1)), none] [] σ)))) (post (some (.int v1)) σ)) : X 4 [some (.ref 34), some (.int v1), some (.int v2), none] [] σ := zr_X5_greatestGain_4 hX v1 v2 σ ⟨fun z1 => sm_atJ rfl (⟨fun z3 => ⟨fun _ => ((h.1 z1).1 z3), fun z => absurd (by decide) z⟩, fun z4 => ⟨fun z => absurd z (by decide), fun _ => ⟨fun z5 => (((h.1 z1).2 z4).1 z5), fun z6 => sm_atJ rfl (sm_atJ rfl ((((h.1 z1).2 z4).2 z6)))⟩⟩⟩), fun z2 => (h.2 z2)⟩
-- X5_weighLowering(34, None) depth 4
set_option maxRecDepth 100000 in
set_option maxHeartbeats 4000000 in
theorem zq_X5_weighLowering_0 {d : Nat} {post : zPo} {X : zX} (hX : zClosed none (zCall (d + 3)) post nX5_weighLowering X) (p0 : Nat) (p1 : Int32) (hq_p0 : zIsI p0 = true) (σ : zS) (h : zIf ((zAt σ p0 (zAt σ 23 p1) : Int32) ≤ (σ.1 4 2)) (post none (zPtJ σ 38 p1 (-1))) (zIf ((lg_cmp (Int32.toInt64 ((cBits σ (zAt σ 23 p1) ((zAt σ p0 (zAt σ 23 p1)) - 1)) - (cBits σ (zAt σ 23 p1) (zAt σ p0 (zAt σ 23 p1))))) 0 : Int32) ≤ 0) (post none (zPtJ σ 38 p1 2000000000)) (post none (zPtJ σ 38 p1 (zRat (1000 * (Int32.toInt64 ((cLoss σ (zAt σ 23 p1) (zAt σ p0 (zAt σ 23 p1))) - (cLoss σ (zAt σ 23 p1) ((zAt σ p0 (zAt σ 23 p1)) - 1))))) (Int32.toInt64 ((cBits σ (zAt σ 23 p1) ((zAt σ p0 (zAt σ 23 p1)) - 1)) - (cBits σ (zAt σ 23 p1) (zAt σ p0 (zAt σ 23 p1)))))))))) : X 0 [some (.ref 34), some (.ref p0), some (.int p1), none, none, none, none, none, none] [] σ := zr_X5_weighLowering_0 hX p0 p1 σ (sm_at rfl (sm_at hq_p0 (⟨fun z1 => sm_putJ rfl ((h.1 z1)), fun z2 => sm_lossOf (sm_lossOf (sm_bitsOf (sm_bitsOf (⟨fun z3 => sm_putJ rfl (((h.2 z2).1 z3)), fun z4 => sm_ratio (sm_putJ rfl (((h.2 z2).2 z4)))⟩))))⟩)))
-- X5_lower(34, None) depth 5
set_option maxRecDepth 100000 in
set_option maxHeartbeats 4000000 in
theorem zq_X5_lower_0 {d : Nat} {post : zPo} {X : zX} (hX : zClosed none (zCall (d + 4)) post nX5_lower X) (p0 : Nat) (p1 : Int32) (hq_p0 : zIsI p0 = true) (σ : zS) (h : zCall (d + 4) nX5_weighLowering [.ref 34, .ref p0, .int p1] (zPt (zPt σ p0 (zAt σ 23 p1) ((zAt σ p0 (zAt σ 23 p1)) - 1)) 27 p1 (cBits (zPt σ p0 (zAt σ 23 p1) ((zAt σ p0 (zAt σ 23 p1)) - 1)) (zAt σ 23 p1) ((zAt σ p0 (zAt σ 23 p1)) - 1))) (zPV fun σ1 => post none σ1)) : X 0 [some (.ref 34), some (.ref p0), some (.int p1), none, none] [] σ := zr_X5_lower_0 hX p0 p1 σ (sm_at rfl (sm_at hq_p0 (sm_put hq_p0 (sm_bitsOf (sm_put rfl (h))))))
-- X5_loosen(34, None) depth 6
set_option maxRecDepth 100000 in
set_option maxHeartbeats 4000000 in
theorem zq_X5_loosen_0 {d : Nat} {post : zPo} {X : zX} (hX : zClosed none (zCall (d + 5)) post nX5_loosen X) (p0 : Nat) (p1 : Int32) (hq_p0 : zIsI p0 = true) (σ : zS) (h : zCall (d + 5) nX1_follow [.ref 26, .ref p0] σ (zPV fun σ1 => X 19 [some (.ref 34), some (.ref p0), some (.int p1), some (.int (σ1.1 26 0)), some (.int 0), none, none] [] σ1)) : X 0 [some (.ref 34), some (.ref p0), some (.int p1), none, none, none, none] [] σ := zr_X5_loosen_0 hX p0 p1 σ h
set_option maxRecDepth 100000 in
set_option maxHeartbeats 4000000 in
theorem zq_X5_loosen_19 {d : Nat} {post : zPo} {X : zX} (hX : zClosed none (zCall (d + 5)) post nX5_loosen X) (p0 : Nat) (v2 : Int32) (v3 : Int32) (v4 : Int32) (hq_p0 : zIsI p0 = true) (σ : zS) (h : zIf ((v4 : Int32) < (σ.1 16 0)) (zCall (d + 5) nX5_weighLowering [.ref 34, .ref p0, .int v4] σ (zPV fun σ1 => X 19 [some (.ref 34), some (.ref p0), some (.int v2), some (.int v3), some (.int (v4 + 1)), none, none] [] σ1)) (X 50 [some (.ref 34), some (.ref p0), some (.int v2), some (.int v3), some (.int 0), some (.int 0), none] [] σ)) : X 19 [some (.ref 34), some (.ref p0), some (.int v2), some (.int v3), some (.int v4), none, none] [] σ := zr_X5_loosen_19 hX p0 v2 v3 v4 σ h
set_option maxRecDepth 100000 in
set_option maxHeartbeats 4000000 in
theorem zq_X5_loosen_50 {d : Nat} {post : zPo} {X : zX} (hX : zClosed none (zCall (d + 5)) post nX5_loosen X) (p0 : Nat) (v2 : Int32) (v3 : Int32) (v4 : Int32) (v5 : Int32) (hq_p0 : zIsI p0 = true) (σ : zS) (h : zIf ((v5 : Int32) < 560) (zIf ((v4 : Int32) < 500) (zCall (d + 5) nX5_greatestGain [.ref 34] σ (zPI fun x2 σ1 => zIf ((x2 : Int32) < 0) (post (some (.int v4)) σ1) (zCall (d + 5) nX5_canLower [.ref 34, .ref p0, .int x2, .int v2, .int v3] σ1 (zPI fun x4 σ3 => zIf ((x4 : Int32) = 0) (X 50 [some (.ref 34), some (.ref p0), some (.int v2), some (.int v3), some (.int v4), some (.int (v5 + 1)), none] [] (zPtJ σ3 38 x2 (-1))) (zCall (d + 5) nX5_lower [.ref 34, .ref p0, .int x2] σ3 (zPV fun σ5 => X 50 [some (.ref 34), some (.ref p0), some (.int v2), some (.int v3), some (.int (v4 + 1)), some (.int (v5 + 1)), none] [] σ5)))))) (post (some (.int v4)) σ)) (post (some (.int v4)) σ)) : X 50 [some (.ref 34), some (.ref p0), some (.int v2), some (.int v3), some (.int v4), some (.int v5), none] [] σ := zr_X5_loosen_50 hX p0 v2 v3 v4 v5 σ ⟨fun z1 => ⟨fun z3 => zc_I (fun x2 σ1 h9 => ⟨fun z5 => (h9.1 z5), fun z6 => zc_I (fun x4 σ3 h10 => ⟨fun z7 => sm_putJ rfl ((h10.1 z7)), fun z8 => (h10.2 z8)⟩) (h9.2 z6)⟩) ((h.1 z1).1 z3), fun z4 => ((h.1 z1).2 z4)⟩, fun z2 => (h.2 z2)⟩
-- X1_firstUnderflow(26,) depth 2
set_option maxRecDepth 100000 in
set_option maxHeartbeats 4000000 in
theorem zq_X1_firstUnderflow_0 {d : Nat} {post : zPo} {X : zX} (hX : zClosed none (zCall (d + 1)) post nX1_firstUnderflow X) (σ : zS) (h : X 2 [some (.ref 26), some (.int 0)] [] σ) : X 0 [some (.ref 26), none] [] σ := zr_X1_firstUnderflow_0 hX  σ h
set_option maxRecDepth 100000 in
set_option maxHeartbeats 4000000 in
theorem zq_X1_firstUnderflow_2 {d : Nat} {post : zPo} {X : zX} (hX : zClosed none (zCall (d + 1)) post nX1_firstUnderflow X) (v1 : Int32) (σ : zS) (h : zIf ((v1 : Int32) < (σ.1 16 0)) (zIf ((zAt σ 30 v1 : Int32) ≤ 0) (X 2 [some (.ref 26), some (.int (v1 + 1))] [] σ) (post (some (.int v1)) σ)) (post (some (.int (-1))) σ)) : X 2 [some (.ref 26), some (.int v1)] [] σ := zr_X1_firstUnderflow_2 hX v1 σ ⟨fun z1 => sm_at rfl ((h.1 z1)), fun z2 => (h.2 z2)⟩
-- X1_lastFullNotBehind(26,) depth 2
set_option maxRecDepth 100000 in
set_option maxHeartbeats 4000000 in
theorem zq_X1_lastFullNotBehind_0 {d : Nat} {post : zPo} {X : zX} (hX : zClosed none (zCall (d + 1)) post nX1_lastFullNotBehind X) (p0 : Int32) (σ : zS) (h : X 2 [some (.ref 26), none, some (.int p0)] [] σ) : X 0 [some (.ref 26), some (.int p0), none] [] σ := zr_X1_lastFullNotBehind_0 hX p0 σ h
set_option maxRecDepth 100000 in
set_option maxHeartbeats 4000000 in
theorem zq_X1_lastFullNotBehind_2 {d : Nat} {post : zPo} {X : zX} (hX : zClosed none (zCall (d + 1)) post nX1_lastFullNotBehind X) (v2 : Int32) (σ : zS) (h : zIf ((v2 : Int32) ≤ 0) (post (some (.int 0)) σ) (zIf ((zAt σ 28 v2 : Int32) = (σ.1 26 7)) (post (some (.int v2)) σ) (X 2 [some (.ref 26), none, some (.int (v2 + (-1)))] [] σ))) : X 2 [some (.ref 26), none, some (.int v2)] [] σ := zr_X1_lastFullNotBehind_2 hX v2 σ ⟨fun z1 => (h.1 z1), fun z2 => sm_at rfl ((h.2 z2))⟩
-- X5_cheapestRaise(34,) depth 2
set_option maxRecDepth 100000 in
set_option maxHeartbeats 4000000 in
theorem zq_X5_cheapestRaise_0 {d : Nat} {post : zPo} {X : zX} (hX : zClosed none (zCall (d + 1)) post nX5_cheapestRaise X) (p0 : Int32) (p1 : Int32) (σ : zS) (h : X 5 [some (.ref 34), none, some (.int p1), some (.int (-1)), some (.int p0), none] [] σ) : X 0 [some (.ref 34), some (.int p0), some (.int p1), none, none, none] [] σ := zr_X5_cheapestRaise_0 hX p0 p1 σ h
set_option maxRecDepth 100000 in
set_option maxHeartbeats 4000000 in
theorem zq_X5_cheapestRaise_5 {d : Nat} {post : zPo} {X : zX} (hX : zClosed none (zCall (d + 1)) post nX5_cheapestRaise X) (v2 : Int32) (v3 : Int32) (v4 : Int32) (σ : zS) (h : zIf ((v4 : Int32) ≤ v2) (zIf ((zAt σ 36 v4 : Int32) = (-1)) (X 5 [some (.ref 34), none, some (.int v2), some (.int v3), some (.int (v4 + 1)), none] [] σ) (zIf ((v3 : Int32) < 0) (X 5 [some (.ref 34), none, some (.int v2), some (.int v4), some (.int (v4 + 1)), none] [] σ) (zIf ((lg_cmp (zAtJ σ 37 v4) (zAtJ σ 37 v3) : Int32) < 0) (X 5 [some (.ref 34), none, some (.int v2), some (.int v4), some (.int (v4 + 1)), none] [] σ) (X 5 [some (.ref 34), none, some (.int v2), some (.int v3), some (.int (v4 + 1)), none] [] σ)))) (post (some (.int v3)) σ)) : X 5 [some (.ref 34), none, some (.int v2), some (.int v3), some (.int v4), none] [] σ := zr_X5_cheapestRaise_5 hX v2 v3 v4 σ ⟨fun z1 => sm_at rfl (⟨fun z3 => ⟨fun _ => ((h.1 z1).1 z3), fun z => absurd (by decide) z⟩, fun z4 => ⟨fun z => absurd z (by decide), fun _ => ⟨fun z5 => (((h.1 z1).2 z4).1 z5), fun z6 => sm_atJ rfl (sm_atJ rfl ((((h.1 z1).2 z4).2 z6)))⟩⟩⟩), fun z2 => (h.2 z2)⟩
-- X5_nextOf(34,) depth 3
set_option maxRecDepth 100000 in
set_option maxHeartbeats 4000000 in
theorem zq_X5_nextOf_0 {d : Nat} {post : zPo} {X : zX} (hX : zClosed none (zCall (d + 2)) post nX5_nextOf X) (p0 : Int32) (p1 : Int32) (σ : zS) (h : X 15 [some (.ref 34), some (.int p0), none, some (.int (cBits σ p0 p1)), some (.int (p1 + 1))] [] σ) : X 0 [some (.ref 34), some (.int p0), some (.int p1), none, none] [] σ := zr_X5_nextOf_0 hX p0 p1 σ (sm_bitsOf (h))
set_option maxRecDepth 100000 in
set_option maxHeartbeats 4000000 in
theorem zq_X5_nextOf_15 {d : Nat} {post : zPo} {X : zX} (hX : zClosed none (zCall (d + 2)) post nX5_nextOf X) (v1 : Int32) (v3 : Int32) (v4 : Int32) (σ : zS) (h : zIf ((v4 : Int32) ≤ (σ.1 4 3)) (zIf ((cBits σ v1 v4 : Int32) < v3) (post (some (.int v4)) σ) (X 15 [some (.ref 34), some (.int v1), none, some (.int v3), some (.int (v4 + 1))] [] σ)) (post (some (.int (-1))) σ)) : X 15 [some (.ref 34), some (.int v1), none, some (.int v3), some (.int v4)] [] σ := zr_X5_nextOf_15 hX v1 v3 v4 σ ⟨fun z1 => sm_bitsOf ((h.1 z1)), fun z2 => (h.2 z2)⟩
-- X5_weighRaise(34,) depth 4
set_option maxRecDepth 100000 in
set_option maxHeartbeats 4000000 in
theorem zq_X5_weighRaise_0 {d : Nat} {post : zPo} {X : zX} (hX : zClosed none (zCall (d + 3)) post nX5_weighRaise X) (p0 : Int32) (σ : zS) (h : zCall (d + 3) nX5_nextOf [.ref 34, .int (zAt σ 23 p0), .int (zAt σ 35 (zAt σ 23 p0))] σ (zPI fun x2 σ1 => zIf ((x2 : Int32) = (-1)) (post none (zPt σ1 36 p0 x2)) (post none (zPtJ (zPt σ1 36 p0 x2) 37 p0 (zRat (1000 * (Int32.toInt64 ((cLoss σ1 (zAt σ 23 p0) x2) - (cLoss σ1 (zAt σ 23 p0) (zAt σ 35 (zAt σ 23 p0)))))) (Int32.toInt64 ((cBits σ1 (zAt σ 23 p0) (zAt σ 35 (zAt σ 23 p0))) - (cBits σ1 (zAt σ 23 p0) x2)))))))) : X 0 [some (.ref 34), some (.int p0), none, none, none, none, none, none, none] [] σ := zr_X5_weighRaise_0 hX p0 σ (sm_at rfl (sm_at rfl (zc_I (fun x2 σ1 h3 => sm_put rfl (⟨fun z1 => (h3.1 z1), fun z2 => sm_lossOf (sm_lossOf (sm_bitsOf (sm_bitsOf (sm_ratio (sm_putJ rfl ((h3.2 z2)))))))⟩)) h)))
-- X5_raise(34,) depth 5
set_option maxRecDepth 100000 in
set_option maxHeartbeats 4000000 in
theorem zq_X5_raise_0 {d : Nat} {post : zPo} {X : zX} (hX : zClosed none (zCall (d + 4)) post nX5_raise X) (p0 : Int32) (σ : zS) (h : zCall (d + 4) nX5_weighRaise [.ref 34, .int p0] (zPt (zPt σ 35 (zAt σ 23 p0) (zAt σ 36 p0)) 27 p0 (cBits σ (zAt σ 23 p0) (zAt σ 36 p0))) (zPV fun σ1 => post none σ1)) : X 0 [some (.ref 34), some (.int p0), none, none] [] σ := zr_X5_raise_0 hX p0 σ (sm_at rfl (sm_at rfl (sm_put rfl (sm_bitsOf (sm_put rfl (h))))))
-- X5_mend(34, None) depth 6
set_option maxRecDepth 100000 in
set_option maxHeartbeats 4000000 in
theorem zq_X5_mend_0 {d : Nat} {post : zPo} {X : zX} (hX : zClosed none (zCall (d + 5)) post nX5_mend X) (p0 : Nat) (hq_p0 : zIsI p0 = true) (σ : zS) (h : zCall (d + 5) nX1_takeBits [.ref 26, .ref 35] (zCp σ p0 35) (zPV fun σ1 => X 21 [some (.ref 34), some (.ref p0), some (.int 0), none, none] [] σ1)) : X 0 [some (.ref 34), some (.ref p0), none, none, none] [] σ := zr_X5_mend_0 hX p0 σ (sm_copyRow hq_p0 rfl (h))
set_option maxRecDepth 100000 in
set_option maxHeartbeats 4000000 in
theorem zq_X5_mend_21 {d : Nat} {post : zPo} {X : zX} (hX : zClosed none (zCall (d + 5)) post nX5_mend X) (p0 : Nat) (v2 : Int32) (hq_p0 : zIsI p0 = true) (σ : zS) (h : zIf ((v2 : Int32) < (σ.1 16 0)) (zCall (d + 5) nX5_weighRaise [.ref 34, .int v2] σ (zPV fun σ1 => X 21 [some (.ref 34), some (.ref p0), some (.int (v2 + 1)), none, none] [] σ1)) (X 45 [some (.ref 34), some (.ref p0), some (.int 0), none, none] [] σ)) : X 21 [some (.ref 34), some (.ref p0), some (.int v2), none, none] [] σ := zr_X5_mend_21 hX p0 v2 σ h
set_option maxRecDepth 100000 in
set_option maxHeartbeats 4000000 in
theorem zq_X5_mend_45 {d : Nat} {post : zPo} {X : zX} (hX : zClosed none (zCall (d + 5)) post nX5_mend X) (p0 : Nat) (v2 : Int32) (hq_p0 : zIsI p0 = true) (σ : zS) (h : zIf ((v2 : Int32) ≤ 3060) (zCall (d + 5) nX1_passAsSet [.ref 26] σ (zPV fun σ1 => zCall (d + 5) nX1_firstUnderflow [.ref 26] σ1 (zPI fun x3 σ2 => zIf ((x3 : Int32) < 0) (post (some (.int v2)) (zCp σ2 35 p0)) (zCall (d + 5) nX1_lastFullNotBehind [.ref 26, .int x3] σ2 (zPI fun x5 σ4 => zCall (d + 5) nX5_cheapestRaise [.ref 34, .int x5, .int x3] σ4 (zPI fun x7 σ6 => zIf ((x7 : Int32) < 0) (post (some (.int (-3))) σ6) (zCall (d + 5) nX5_raise [.ref 34, .int x7] σ6 (zPV fun σ8 => X 45 [some (.ref 34), some (.ref p0), some (.int (v2 + 1)), none, none] [] σ8)))))))) (post (some (.int (-3))) σ)) : X 45 [some (.ref 34), some (.ref p0), some (.int v2), none, none] [] σ := zr_X5_mend_45 hX p0 v2 σ ⟨fun z1 => zc_V (fun σ1 h7 => zc_I (fun x3 σ2 h8 => ⟨fun z3 => sm_copyRow rfl hq_p0 ((h8.1 z3)), fun z4 => (h8.2 z4)⟩) h7) (h.1 z1), fun z2 => (h.2 z2)⟩
-- X7_copyFrom(9, 50) depth 2
set_option maxRecDepth 100000 in
set_option maxHeartbeats 4000000 in
theorem zq_X7_copyFrom_9_50_0 {d : Nat} {post : zPo} {X : zX} (hX : zClosed none (zCall (d + 1)) post nX7_copyFrom X) (σ : zS) (h : zG ((σ.1 50 0 : Int32) == 0 || (σ.1 50 0 : Int32) == 1) (post none (zCp (zSI σ 9 0 (σ.1 50 0)) 51 10))) : X 0 [some (.ref 9), some (.ref 50)] [] σ := zr_X7_copyFrom_9_50_0 hX  σ (zG_imp (fun h1 => sm_copyRow rfl rfl (h1)) h)
-- X7_copyFrom(9, 61) depth 2
set_option maxRecDepth 100000 in
set_option maxHeartbeats 4000000 in
theorem zq_X7_copyFrom_9_61_0 {d : Nat} {post : zPo} {X : zX} (hX : zClosed none (zCall (d + 1)) post nX7_copyFrom X) (σ : zS) (h : zG ((σ.1 61 0 : Int32) == 0 || (σ.1 61 0 : Int32) == 1) (post none (zCp (zSI σ 9 0 (σ.1 61 0)) 62 10))) : X 0 [some (.ref 9), some (.ref 61)] [] σ := zr_X7_copyFrom_9_61_0 hX  σ (zG_imp (fun h1 => sm_copyRow rfl rfl (h1)) h)
-- X8_copyFrom(4, 45) depth 2
set_option maxRecDepth 100000 in
set_option maxHeartbeats 4000000 in
theorem zq_X8_copyFrom_4_45_0 {d : Nat} {post : zPo} {X : zX} (hX : zClosed none (zCall (d + 1)) post nX8_copyFrom X) (σ : zS) (h : post none (zCp (zCp (zCp (zCp (zSI (zSI (zSI (zSI (zSI (zSI (zSI (zSI σ 4 0 (σ.1 45 0)) 4 1 (σ.1 45 1)) 4 2 (σ.1 45 2)) 4 3 (σ.1 45 3)) 4 4 (σ.1 45 4)) 4 5 (σ.1 45 5)) 4 6 (σ.1 45 6)) 4 7 (σ.1 45 7)) 46 5) 47 6) 48 7) 49 8)) : X 0 [some (.ref 4), some (.ref 45)] [] σ := zr_X8_copyFrom_4_45_0 hX  σ (sm_copyRow rfl rfl (sm_copyRow rfl rfl (sm_copyRow rfl rfl (sm_copyRow rfl rfl (h)))))
-- X8_copyFrom(4, 56) depth 2
set_option maxRecDepth 100000 in
set_option maxHeartbeats 4000000 in
theorem zq_X8_copyFrom_4_56_0 {d : Nat} {post : zPo} {X : zX} (hX : zClosed none (zCall (d + 1)) post nX8_copyFrom X) (σ : zS) (h : post none (zCp (zCp (zCp (zCp (zSI (zSI (zSI (zSI (zSI (zSI (zSI (zSI σ 4 0 (σ.1 56 0)) 4 1 (σ.1 56 1)) 4 2 (σ.1 56 2)) 4 3 (σ.1 56 3)) 4 4 (σ.1 56 4)) 4 5 (σ.1 56 5)) 4 6 (σ.1 56 6)) 4 7 (σ.1 56 7)) 57 5) 58 6) 59 7) 60 8)) : X 0 [some (.ref 4), some (.ref 56)] [] σ := zr_X8_copyFrom_4_56_0 hX  σ (sm_copyRow rfl rfl (sm_copyRow rfl rfl (sm_copyRow rfl rfl (sm_copyRow rfl rfl (h)))))
-- X7_copyFrom(50, 9) depth 2
set_option maxRecDepth 100000 in
set_option maxHeartbeats 4000000 in
theorem zq_X7_copyFrom_50_9_0 {d : Nat} {post : zPo} {X : zX} (hX : zClosed none (zCall (d + 1)) post nX7_copyFrom X) (σ : zS) (h : zG ((σ.1 9 0 : Int32) == 0 || (σ.1 9 0 : Int32) == 1) (post none (zCp (zSI σ 50 0 (σ.1 9 0)) 10 51))) : X 0 [some (.ref 50), some (.ref 9)] [] σ := zr_X7_copyFrom_50_9_0 hX  σ (zG_imp (fun h1 => sm_copyRow rfl rfl (h1)) h)
-- X7_copyFrom(61, 9) depth 2
set_option maxRecDepth 100000 in
set_option maxHeartbeats 4000000 in
theorem zq_X7_copyFrom_61_9_0 {d : Nat} {post : zPo} {X : zX} (hX : zClosed none (zCall (d + 1)) post nX7_copyFrom X) (σ : zS) (h : zG ((σ.1 9 0 : Int32) == 0 || (σ.1 9 0 : Int32) == 1) (post none (zCp (zSI σ 61 0 (σ.1 9 0)) 10 62))) : X 0 [some (.ref 61), some (.ref 9)] [] σ := zr_X7_copyFrom_61_9_0 hX  σ (zG_imp (fun h1 => sm_copyRow rfl rfl (h1)) h)
-- X8_copyFrom(45, 4) depth 2
set_option maxRecDepth 100000 in
set_option maxHeartbeats 4000000 in
theorem zq_X8_copyFrom_45_4_0 {d : Nat} {post : zPo} {X : zX} (hX : zClosed none (zCall (d + 1)) post nX8_copyFrom X) (σ : zS) (h : post none (zCp (zCp (zCp (zCp (zSI (zSI (zSI (zSI (zSI (zSI (zSI (zSI σ 45 0 (σ.1 4 0)) 45 1 (σ.1 4 1)) 45 2 (σ.1 4 2)) 45 3 (σ.1 4 3)) 45 4 (σ.1 4 4)) 45 5 (σ.1 4 5)) 45 6 (σ.1 4 6)) 45 7 (σ.1 4 7)) 5 46) 6 47) 7 48) 8 49)) : X 0 [some (.ref 45), some (.ref 4)] [] σ := zr_X8_copyFrom_45_4_0 hX  σ (sm_copyRow rfl rfl (sm_copyRow rfl rfl (sm_copyRow rfl rfl (sm_copyRow rfl rfl (h)))))
-- X8_copyFrom(56, 4) depth 2
set_option maxRecDepth 100000 in
set_option maxHeartbeats 4000000 in
theorem zq_X8_copyFrom_56_4_0 {d : Nat} {post : zPo} {X : zX} (hX : zClosed none (zCall (d + 1)) post nX8_copyFrom X) (σ : zS) (h : post none (zCp (zCp (zCp (zCp (zSI (zSI (zSI (zSI (zSI (zSI (zSI (zSI σ 56 0 (σ.1 4 0)) 56 1 (σ.1 4 1)) 56 2 (σ.1 4 2)) 56 3 (σ.1 4 3)) 56 4 (σ.1 4 4)) 56 5 (σ.1 4 5)) 56 6 (σ.1 4 6)) 56 7 (σ.1 4 7)) 5 57) 6 58) 7 59) 8 60)) : X 0 [some (.ref 56), some (.ref 4)] [] σ := zr_X8_copyFrom_56_4_0 hX  σ (sm_copyRow rfl rfl (sm_copyRow rfl rfl (sm_copyRow rfl rfl (sm_copyRow rfl rfl (h)))))
-- X5_smoothen(34, None) depth 2
set_option maxRecDepth 100000 in
set_option maxHeartbeats 4000000 in
theorem zq_X5_smoothen_0 {d : Nat} {post : zPo} {X : zX} (hX : zClosed none (zCall (d + 1)) post nX5_smoothen X) (p0 : Nat) (p1 : Int32) (hq_p0 : zIsI p0 = true) (σ : zS) (h : X 5 [some (.ref 34), some (.ref p0), some (.int p1), some (.int 0), some (.int 1), none, none, none, none] [] σ) : X 0 [some (.ref 34), some (.ref p0), some (.int p1), none, none, none, none, none, none] [] σ := zr_X5_smoothen_0 hX p0 p1 σ h
set_option maxRecDepth 100000 in
set_option maxHeartbeats 4000000 in
theorem zq_X5_smoothen_5 {d : Nat} {post : zPo} {X : zX} (hX : zClosed none (zCall (d + 1)) post nX5_smoothen X) (p0 : Nat) (v2 : Int32) (v3 : Int32) (v4 : Int32) (hq_p0 : zIsI p0 = true) (σ : zS) (h : zIf ((v4 : Int32) < (σ.1 16 0)) (zIf ((zAt σ 18 (zAt σ 23 v4) : Int32) = (zAt σ 18 (zAt σ 23 (v4 - 1)))) (zIf ((zLc (zAt σ p0 (zAt σ 23 v4)) ((zAt σ p0 (zAt σ 23 (v4 - 1))) - v2) ((zAt σ p0 (zAt σ 23 (v4 - 1))) + v2) : Int32) = (zAt σ p0 (zAt σ 23 v4))) (X 5 [some (.ref 34), some (.ref p0), some (.int v2), some (.int v3), some (.int (v4 + 1)), none, none, none, none] [] σ) (X 5 [some (.ref 34), some (.ref p0), some (.int v2), some (.int (v3 + 1)), some (.int (v4 + 1)), none, none, none, none] [] (zPt σ p0 (zAt σ 23 v4) (zLc (zAt σ p0 (zAt σ 23 v4)) ((zAt σ p0 (zAt σ 23 (v4 - 1))) - v2) ((zAt σ p0 (zAt σ 23 (v4 - 1))) + v2))))) (X 5 [some (.ref 34), some (.ref p0), some (.int v2), some (.int v3), some (.int (v4 + 1)), none, none, none, none] [] σ)) (post (some (.int v3)) σ)) : X 5 [some (.ref 34), some (.ref p0), some (.int v2), some (.int v3), some (.int v4), none, none, none, none] [] σ := zr_X5_smoothen_5 hX p0 v2 v3 v4 σ ⟨fun z1 => sm_at rfl (sm_at rfl (sm_at rfl (sm_at rfl (⟨fun z3 => sm_at hq_p0 (sm_at hq_p0 (sm_limit (sm_at hq_p0 (⟨fun z5 => (((h.1 z1).1 z3).1 z5), fun z6 => sm_put hq_p0 ((((h.1 z1).1 z3).2 z6))⟩)))), fun z4 => ((h.1 z1).2 z4)⟩)))), fun z2 => (h.2 z2)⟩
