theorem i_up {k : Nat} {u : SX} {v : SY} (h : i_Rel k u v) : i_Rel (k + 5) u v := h
theorem i_vc0 (k0 : Int32) : wpX_init (fun u => wpY_init (fun v => i_Rel 1 u v) k0) k0 := od_vc0 k0
theorem i_vc_addClass {k : Nat} {u : SX} {v : SY} (I : i_Rel k u v) (hk : k + 5 ≤ 2561) (v1 : Int32) : wpX_addClass (fun r u' => wpY_addClass (fun r' v' => r' = r ∧ i_Rel (k + 5) u' v') v v1) u v1 := by
  obtain ⟨ca, cc, oc, fc, st, er, ck, fm, fk, ft, rt, dX, pT, dY, sc, so, sa, sb, oC, oO, oF, fB, fP, fR, fV, fL, rfl, rfl, h⟩ := I
  exact od_addClass v1 h
theorem i_vc_addField {k : Nat} {u : SX} {v : SY} (I : i_Rel k u v) (hk : k + 5 ≤ 2561) (v1 : Int32) (v2 : Int32) : wpX_addField (fun r u' => wpY_addField (fun r' v' => r' = r ∧ i_Rel (k + 5) u' v') v v1 v2) u v1 v2 := by
  obtain ⟨ca, cc, oc, fc, st, er, ck, fm, fk, ft, rt, dX, pT, dY, sc, so, sa, sb, oC, oO, oF, fB, fP, fR, fV, fL, rfl, rfl, h⟩ := I
  exact od_addField v1 v2 h
theorem i_vc_setSignature {k : Nat} {u : SX} {v : SY} (I : i_Rel k u v) (hk : k + 5 ≤ 2561) (v1 : Int32) (v2 : Int32) (v3 : Int32) : wpX_setSignature (fun r u' => wpY_setSignature (fun r' v' => r' = r ∧ i_Rel (k + 5) u' v') v v1 v2 v3) u v1 v2 v3 := by
  obtain ⟨ca, cc, oc, fc, st, er, ck, fm, fk, ft, rt, dX, pT, dY, sc, so, sa, sb, oC, oO, oF, fB, fP, fR, fV, fL, rfl, rfl, h⟩ := I
  exact od_setSig v1 v2 v3 h
theorem i_vc_setLocal {k : Nat} {u : SX} {v : SY} (I : i_Rel k u v) (hk : k + 5 ≤ 2561) (v1 : Int32) (v2 : Int32) (v3 : Int32) : wpX_setLocal (fun r u' => wpY_setLocal (fun r' v' => r' = r ∧ i_Rel (k + 5) u' v') v v1 v2 v3) u v1 v2 v3 := by
  obtain ⟨ca, cc, oc, fc, st, er, ck, fm, fk, ft, rt, dX, pT, dY, sc, so, sa, sb, oC, oO, oF, fB, fP, fR, fV, fL, rfl, rfl, h⟩ := I
  exact od_setLocal v1 v2 v3 h
theorem i_vc_addStmt {k : Nat} {u : SX} {v : SY} (I : i_Rel k u v) (hk : k + 5 ≤ 2561) (v1 : Int32) (v2 : Int32) (v3 : Int32) (v4 : Int32) : wpX_addStmt (fun r u' => wpY_addStmt (fun r' v' => r' = r ∧ i_Rel (k + 5) u' v') v v1 v2 v3 v4) u v1 v2 v3 v4 := by
  obtain ⟨ca, cc, oc, fc, st, er, ck, fm, fk, ft, rt, dX, pT, dY, sc, so, sa, sb, oC, oO, oF, fB, fP, fR, fV, fL, rfl, rfl, h⟩ := I
  exact od_addStmt v1 v2 v3 v4 h
theorem i_vc_compile {k : Nat} {u : SX} {v : SY} (I : i_Rel k u v) (hk : k + 5 ≤ 2561) (v1 : Int32) : wpX_compile (fun r u' => wpY_compile (fun r' v' => r' = r ∧ i_Rel (k + 5) u' v') v v1) u v1 := by
  obtain ⟨ca, cc, oc, fc, st, er, ck, fm, fk, ft, rt, dX, pT, dY, sc, so, sa, sb, oC, oO, oF, fB, fP, fR, fV, fL, rfl, rfl, h⟩ := I
  exact od_compile v1 h
theorem i_vc_getErrorAt {k : Nat} {u : SX} {v : SY} (I : i_Rel k u v) (hk : k + 5 ≤ 2561) : wpX_getErrorAt (fun r => wpY_getErrorAt (fun r' => r' = r ∧ i_Rel (k + 5) u v) v) u := by
  obtain ⟨ca, cc, oc, fc, st, er, ck, fm, fk, ft, rt, dX, pT, dY, sc, so, sa, sb, oC, oO, oF, fB, fP, fR, fV, fL, rfl, rfl, h⟩ := I
  exact ⟨rfl, od_mk h⟩
theorem i_vc_run {k : Nat} {u : SX} {v : SY} (I : i_Rel k u v) (hk : k + 5 ≤ 2561) (v1 : Int32) : wpX_run (fun r u' => wpY_run (fun r' v' => r' = r ∧ i_Rel (k + 5) u' v') v v1) u v1 := by
  obtain ⟨ca, cc, oc, fc, st, er, ck, fm, fk, ft, rt, dX, pT, dY, sc, so, sa, sb, oC, oO, oF, fB, fP, fR, fV, fL, rfl, rfl, h⟩ := I
  exact od_run v1 h
theorem i_vc_restart {k : Nat} {u : SX} {v : SY} (I : i_Rel k u v) (hk : k + 5 ≤ 2561) : wpX_restart (fun r u' => wpY_restart (fun r' v' => r' = r ∧ i_Rel (k + 5) u' v') v) u := by
  obtain ⟨ca, cc, oc, fc, st, er, ck, fm, fk, ft, rt, dX, pT, dY, sc, so, sa, sb, oC, oO, oF, fB, fP, fR, fV, fL, rfl, rfl, h⟩ := I
  exact od_restart h
theorem i_vc_getStatus {k : Nat} {u : SX} {v : SY} (I : i_Rel k u v) (hk : k + 5 ≤ 2561) : wpX_getStatus (fun r => wpY_getStatus (fun r' => r' = r ∧ i_Rel (k + 5) u v) v) u := by
  obtain ⟨ca, cc, oc, fc, st, er, ck, fm, fk, ft, rt, dX, pT, dY, sc, so, sa, sb, oC, oO, oF, fB, fP, fR, fV, fL, rfl, rfl, h⟩ := I
  exact ⟨rfl, od_mk h⟩
theorem i_vc_getObjectCount {k : Nat} {u : SX} {v : SY} (I : i_Rel k u v) (hk : k + 5 ≤ 2561) : wpX_getObjectCount (fun r => wpY_getObjectCount (fun r' => r' = r ∧ i_Rel (k + 5) u v) v) u := by
  obtain ⟨ca, cc, oc, fc, st, er, ck, fm, fk, ft, rt, dX, pT, dY, sc, so, sa, sb, oC, oO, oF, fB, fP, fR, fV, fL, rfl, rfl, h⟩ := I
  exact ⟨rfl, od_mk h⟩
theorem i_vc_getObject {k : Nat} {u : SX} {v : SY} (I : i_Rel k u v) (hk : k + 5 ≤ 2561) (v1 : Int32) (v2 : Int32) : wpX_getObject (fun r => wpY_getObject (fun r' => r' = r ∧ i_Rel (k + 5) u v) v v1 v2) u v1 v2 := by
  obtain ⟨ca, cc, oc, fc, st, er, ck, fm, fk, ft, rt, dX, pT, dY, sc, so, sa, sb, oC, oO, oF, fB, fP, fR, fV, fL, rfl, rfl, h⟩ := I
  exact od_getObject v1 v2 h
theorem i_vc_getFrameCount {k : Nat} {u : SX} {v : SY} (I : i_Rel k u v) (hk : k + 5 ≤ 2561) : wpX_getFrameCount (fun r => wpY_getFrameCount (fun r' => r' = r ∧ i_Rel (k + 5) u v) v) u := by
  obtain ⟨ca, cc, oc, fc, st, er, ck, fm, fk, ft, rt, dX, pT, dY, sc, so, sa, sb, oC, oO, oF, fB, fP, fR, fV, fL, rfl, rfl, h⟩ := I
  exact od_getFrameCount h
theorem i_vc_getFrame {k : Nat} {u : SX} {v : SY} (I : i_Rel k u v) (hk : k + 5 ≤ 2561) (v1 : Int32) (v2 : Int32) : wpX_getFrame (fun r => wpY_getFrame (fun r' => r' = r ∧ i_Rel (k + 5) u v) v v1 v2) u v1 v2 := by
  obtain ⟨ca, cc, oc, fc, st, er, ck, fm, fk, ft, rt, dX, pT, dY, sc, so, sa, sb, oC, oO, oF, fB, fP, fR, fV, fL, rfl, rfl, h⟩ := I
  exact od_getFrame v1 v2 h
theorem i_vc_getDecl {k : Nat} {u : SX} {v : SY} (I : i_Rel k u v) (hk : k + 5 ≤ 2561) (v1 : Int32) (v2 : Int32) : wpX_getDecl (fun r => wpY_getDecl (fun r' => r' = r ∧ i_Rel (k + 5) u v) v v1 v2) u v1 v2 := by
  obtain ⟨ca, cc, oc, fc, st, er, ck, fm, fk, ft, rt, dX, pT, dY, sc, so, sa, sb, oC, oO, oF, fB, fP, fR, fV, fL, rfl, rfl, h⟩ := I
  exact od_getDecl v1 v2 h
theorem i_vc_getStmt {k : Nat} {u : SX} {v : SY} (I : i_Rel k u v) (hk : k + 5 ≤ 2561) (v1 : Int32) (v2 : Int32) (v3 : Int32) : wpX_getStmt (fun r => wpY_getStmt (fun r' => r' = r ∧ i_Rel (k + 5) u v) v v1 v2 v3) u v1 v2 v3 := by
  obtain ⟨ca, cc, oc, fc, st, er, ck, fm, fk, ft, rt, dX, pT, dY, sc, so, sa, sb, oC, oO, oF, fB, fP, fR, fV, fL, rfl, rfl, h⟩ := I
  exact od_getStmt v1 v2 v3 h
