variable {ca cc oc fc : Nat} {st er ck : Int32} {fm fk ft rt dX pT dY sc so sa sb oC oO oF fB fP fR fV fL : Nat → Int32}
theorem od_144 {b s : Nat} (hc : cc ≤ 8) (hb : b < cc ∨ b = 8) (hs : s < 16) : b * 16 + s < 144 := by omega
theorem od_72 {b a : Nat} (hc : cc ≤ 8) (hb : b < cc ∨ b = 8) (ha : a < 8) : b * 8 + a < 72 := by omega
theorem od_typ (hP : od_P ck cc fm fk dX pT dY sc) (hV : od_V cc fm fk ft rt dX) {b s o a : Nat} (hb : b < cc ∨ b = 8) (hs : s < 16) (o1 : 1 ≤ o) (o7 : o ≤ 7) (ha : a < 8) (eO : so (b * 16 + s) = nI o) (eA : sa (b * 16 + s) = nI a) (h87 : b = 8 → o ≠ 7) (h2 : o = 2 → ∃ y, y < 8 ∧ sb (b * 16 + s) = nI y) (h345 : (o = 3 ∨ o = 4 ∨ o = 5) → ∃ y, y < 64 ∧ sb (b * 16 + s) = nI y) :
    ∃ r : Int32, (r = 0 → od_ok cc fm b (so (b * 16 + s)) (sa (b * 16 + s)) (sb (b * 16 + s))) ∧ (∀ post : Int32 → Prop, post r → wpX_checkTyping post (nI ca, st, er, ck, nI cc, nI oc, nI fc, fm, fk, ft, rt, dX, sc, so, sa, sb, oC, oO, oF, fB, fP, fR, fV, fL) (nI b) (nI (b * 16 + s))) ∧
      (∀ post : Int32 → Prop, post r → wY_checkStmt_151 post (nI b) (nI o) (nI a) (sb (b * 16 + s)) (nI ca) st er (nI cc) ck (nI oc) (nI fc) fm fk ft pT rt dY sc so sa sb oC oO oF fB fP fR fV fL) := by
  have hck := hP.1
  have hcc := hP.2.1
  have hfm := hP.2.2.1
  have hd1 := hP.2.2.2.2.2.2.1
  have h144 := od_144 hcc hb hs
  have v : vp_in (nI (b * 16 + s)) 144 := vp_in_nI h144 (by decide)
  have ec : (nI (b * 16 + s)).toNatClampNeg = b * 16 + s := nI_clamp (Nat.lt_trans h144 (by decide))
  obtain ⟨B, eB⟩ : ∃ B, sb (b * 16 + s) = B := ⟨_, rfl⟩
  have fO : so (nI (b * 16 + s)).toNatClampNeg = nI o := by rw [ec]; exact eO
  have fA : sa (nI (b * 16 + s)).toNatClampNeg = nI a := by rw [ec]; exact eA
  have fB' : sb (nI (b * 16 + s)).toNatClampNeg = B := by rw [ec]; exact eB
  rw [eO, eA, eB]
  rw [eB] at h2 h345
  obtain ⟨T, mT, hT, eT, -⟩ := hV.1 b a hb ha
  have hva : b * 8 + a < 72 := od_72 hcc hb ha
  have fT : dX (nI b * 8 + nI a).toNatClampNeg = nI T := od_e8 hva eT
  have z8 : ¬ (8 : Int32) = 0 := by decide
  rcases (show o = 1 ∨ o = 2 ∨ o = 3 ∨ o = 4 ∨ o = 5 ∨ o = 6 ∨ o = 7 by omega) with rfl | rfl | rfl | rfl | rfl | rfl | rfl
  · obtain ⟨r, rT, rX, rY⟩ := od_type (ca := ca) (cc := cc) (oc := oc) (fc := fc) (st := st) (er := er) (ck := ck) (fm := fm) (fk := fk) (ft := ft) (rt := rt) (dX := dX) (pT := pT) (dY := dY) (sc := sc) (so := so) (sa := sa) (sb := sb) (oC := oC) (oO := oO) (oF := oF) (fB := fB) (fP := fP) (fR := fR) (fV := fV) (fL := fL) (b := b) B hcc hfm (by omega) hck
    by_cases hr : r = 0
    · obtain ⟨n, m, hn, eBn, -⟩ := rT hr
      subst eBn
      obtain ⟨q, qX, qY⟩ := od_match (ca := ca) (cc := cc) (oc := oc) (fc := fc) (st := st) (er := er) (ck := ck) (fm := fm) (fk := fk) (ft := ft) (rt := rt) (dX := dX) (pT := pT) (dY := dY) (sc := sc) (so := so) (sa := sa) (sb := sb) (oC := oC) (oO := oO) (oF := oF) (fB := fB) (fP := fP) (fR := fR) (fV := fV) (fL := fL) (s := n) (by omega) hck (nI T)
      refine ⟨q, fun _ => ⟨a, ha, rfl, Or.inl ⟨rfl, rT hr⟩⟩, fun post p => ⟨v, nm_r fA ⟨v, nm_r fB' ⟨z8, nm_e ⟨z8, nm_e ⟨od_v8 hva, nm_r fT ⟨v, nm_r fO (br_f (by decide) (br_f (by decide) (br_t rfl (rX _ (br_t hr (qX _ p))))))⟩⟩⟩⟩⟩⟩, fun post p => ?_⟩
      unfold wY_checkStmt_151
      refine od_decl hP hb ha ?_
      rw [eT]
      exact br_t rfl (rY _ (br_t hr (qY _ p)))
    · refine ⟨r, fun h => absurd h hr, fun post p => ⟨v, nm_r fA ⟨v, nm_r fB' ⟨z8, nm_e ⟨z8, nm_e ⟨od_v8 hva, nm_r fT ⟨v, nm_r fO (br_f (by decide) (br_f (by decide) (br_t rfl (rX _ (br_f hr p)))))⟩⟩⟩⟩⟩⟩, fun post p => ?_⟩
      unfold wY_checkStmt_151
      refine od_decl hP hb ha ?_
      rw [eT]
      exact br_t rfl (rY _ (br_f hr p))
  · obtain ⟨y, hy, rfl⟩ := h2 rfl
    obtain ⟨S, mS, hS, eS, -⟩ := hV.1 b y hb hy
    have hvy : b * 8 + y < 72 := by omega
    obtain ⟨q, qX, qY⟩ := od_match (ca := ca) (cc := cc) (oc := oc) (fc := fc) (st := st) (er := er) (ck := ck) (fm := fm) (fk := fk) (ft := ft) (rt := rt) (dX := dX) (pT := pT) (dY := dY) (sc := sc) (so := so) (sa := sa) (sb := sb) (oC := oC) (oO := oO) (oF := oF) (fB := fB) (fP := fP) (fR := fR) (fV := fV) (fL := fL) (s := S) (by omega) hck (nI T)
    refine ⟨q, fun _ => ⟨a, ha, rfl, Or.inr (Or.inl ⟨rfl, y, hy, rfl⟩)⟩, fun post p => ⟨v, nm_r fA ⟨v, nm_r fB' ⟨z8, nm_e ⟨z8, nm_e ⟨od_v8 hva, nm_r fT ⟨v, nm_r fO (br_f (by decide) (br_f (by decide) (br_f (by decide) (br_t rfl ⟨od_v8 hvy, ?_⟩))))⟩⟩⟩⟩⟩⟩, fun post p => ?_⟩
    · rw [od_e8 hvy eS]; exact qX _ p
    · unfold wY_checkStmt_151
      refine od_decl hP hb ha ?_
      rw [eT]
      refine br_f (by decide) (br_t rfl (od_decl hP hb hy ?_))
      rw [eS]; exact qY _ p
  · obtain ⟨y, hy, rfl⟩ := h345 (by omega)
    obtain ⟨c, hc, e15, r, r4, rX, rY⟩ := od_fld (ca := ca) (cc := cc) (oc := oc) (fc := fc) (st := st) (er := er) (ck := ck) (fm := fm) (fk := fk) (ft := ft) (rt := rt) (dX := dX) (pT := pT) (dY := dY) (sc := sc) (so := so) (sa := sa) (sb := sb) (oC := oC) (oO := oO) (oF := oF) (fB := fB) (fP := fP) (fR := fR) (fV := fV) (fL := fL) hP hV (h := y % 8) (q := y / 8) hb (by omega) (by omega) (nI T)
    refine ⟨r, fun h => ⟨a, ha, rfl, Or.inr (Or.inr (Or.inl ⟨rfl, y, by have := r4 h; omega, rfl⟩))⟩, fun post p => ⟨v, nm_r fA ⟨v, nm_r fB' ⟨z8, nm_r (od_rm (by omega)) ⟨z8, nm_r (od_dv (by omega)) ⟨od_v8 hva, nm_r fT ⟨v, nm_r fO (br_f (by decide) (br_f (by decide) (br_f (by decide) (br_f (by decide) (br_t rfl (rX _ p))))))⟩⟩⟩⟩⟩⟩, fun post p => ?_⟩
    unfold wY_checkStmt_151
    refine od_decl hP hb ha ?_
    rw [eT]
    refine br_f (by decide) (br_f (by decide) (br_f (by decide) (br_f (by decide) (nm_r (od_and7 (by omega)) (nm_r (od_q (by omega)) (od_decl hP hb (by omega) (br_t rfl ?_)))))))
    exact nm_r e15 (br_t (nI_lt hc (by omega)) (br_t rfl (rY _ p)))
  · obtain ⟨y, hy, rfl⟩ := h345 (by omega)
    have hvy : b * 8 + y % 8 < 72 := by omega
    obtain ⟨c, hc, e15, r, r4, rX, rY⟩ := od_fld (ca := ca) (cc := cc) (oc := oc) (fc := fc) (st := st) (er := er) (ck := ck) (fm := fm) (fk := fk) (ft := ft) (rt := rt) (dX := dX) (pT := pT) (dY := dY) (sc := sc) (so := so) (sa := sa) (sb := sb) (oC := oC) (oO := oO) (oF := oF) (fB := fB) (fP := fP) (fR := fR) (fV := fV) (fL := fL) hP hV (h := a) (q := y / 8) hb ha (by omega) (dX (b * 8 + y % 8))
    refine ⟨r, fun h => ⟨a, ha, rfl, Or.inr (Or.inr (Or.inr (Or.inl ⟨rfl, y, by have := r4 h; omega, rfl⟩)))⟩, fun post p => ⟨v, nm_r fA ⟨v, nm_r fB' ⟨z8, nm_r (od_rm (by omega)) ⟨z8, nm_r (od_dv (by omega)) ⟨od_v8 hva, nm_r fT ⟨v, nm_r fO (br_f (by decide) (br_f (by decide) (br_f (by decide) (br_f (by decide) (br_f (by decide) (br_t rfl ⟨od_v8 hvy, ?_⟩))))))⟩⟩⟩⟩⟩⟩, fun post p => ?_⟩
    · rw [od_e8 (f := dX) hvy rfl]; exact rX _ p
    · unfold wY_checkStmt_151
      refine od_decl hP hb ha ?_
      refine br_f (by decide) (br_f (by decide) (br_f (by decide) (br_f (by decide) (nm_r (od_and7 (by omega)) (nm_r (od_q (by omega)) (od_decl hP hb (by omega) (br_f (by decide) (br_f (by decide) ?_))))))))
      exact nm_r e15 (br_t (nI_lt hc (by omega)) (rY _ p))
  · obtain ⟨y, hy, rfl⟩ := h345 (by omega)
    have hvy : b * 8 + y % 8 < 72 := by omega
    have hvq : b * 8 + y / 8 < 72 := by omega
    have hDT := hV.1 b (y % 8) hb (by omega)
    obtain ⟨D, mD, hD, eD, hc, -⟩ := hV.1 b (y % 8) hb (by omega)
    have e15 : dX (b * 8 + y % 8) &&& 15 = nI (D % 16) := by rw [eD]; exact od_and15 (by omega)
    generalize D % 16 = c at *
    have f15 : dX (nI b * 8 + nI (y % 8)).toNatClampNeg &&& 15 = nI c := by rw [od_e8 (f := dX) hvy rfl]; exact e15
    have vc : vp_in (nI c) 8 := vp_in_nI (by omega) (by decide)
    have ecc : (nI c).toNatClampNeg = c := nI_clamp (by omega)
    have v1 : vp_in (nI c * 8 + 1) 72 := by rw [od_i81]; exact vp_in_nI (by omega) (by decide)
    have e1 : dX (nI c * 8 + 1).toNatClampNeg = dX (c * 8 + 1) := by rw [od_i81, nI_clamp (by omega)]
    have eq : dX (nI b * 8 + nI (y / 8)).toNatClampNeg = dX (b * 8 + y / 8) := od_e8 hvq rfl
    have lc : nI c < nI cc := nI_lt hc (by omega)
    have frX : ∀ post : Int32 → Prop, wpX_checkCall (fun r => post r) (nI ca, st, er, ck, nI cc, nI oc, nI fc, fm, fk, ft, rt, dX, sc, so, sa, sb, oC, oO, oF, fB, fP, fR, fV, fL) (nI b) (nI (y % 8)) (dX (b * 8 + y / 8)) (nI T) → wpX_checkTyping post (nI ca, st, er, ck, nI cc, nI oc, nI fc, fm, fk, ft, rt, dX, sc, so, sa, sb, oC, oO, oF, fB, fP, fR, fV, fL) (nI b) (nI (b * 16 + s)) := by
      intro post p
      refine ⟨v, nm_r fA ⟨v, nm_r fB' ⟨z8, nm_r (od_rm (by omega)) ⟨z8, nm_r (od_dv (by omega)) ⟨od_v8 hva, nm_r fT ⟨v, nm_r fO (br_f (by decide) (br_f (by decide) (br_f (by decide) (br_f (by decide) (br_f (by decide) (br_f (by decide) (br_t rfl ⟨od_v8 hvq, ?_⟩)))))))⟩⟩⟩⟩⟩⟩
      rw [eq]; exact p
    have frY : ∀ post : Int32 → Prop, wY_checkStmt_282 post (nI b) (nI 5) (nI T) (nI (y % 8)) (nI (y / 8)) (dX (b * 8 + y % 8)) (nI ca) st er (nI cc) ck (nI oc) (nI fc) fm fk ft pT rt dY sc so sa sb oC oO oF fB fP fR fV fL → wY_checkStmt_151 post (nI b) (nI 5) (nI a) (nI y) (nI ca) st er (nI cc) ck (nI oc) (nI fc) fm fk ft pT rt dY sc so sa sb oC oO oF fB fP fR fV fL := by
      intro post p
      unfold wY_checkStmt_151
      refine od_decl hP hb ha ?_
      rw [eT]
      exact br_f (by decide) (br_f (by decide) (br_f (by decide) (br_f (by decide) (nm_r (od_and7 (by omega)) (nm_r (od_q (by omega)) (od_decl hP hb (by omega) (br_f (by decide) (br_t rfl p))))))))
    have ok5 : od_ok cc fm b (nI 5) (nI a) (nI y) := ⟨a, ha, rfl, Or.inr (Or.inr (Or.inr (Or.inr (Or.inl ⟨rfl, y, hy, rfl⟩))))⟩
    have eP : pT (nI c).toNatClampNeg = dX (c * 8 + 1) := by rw [ecc]; exact (hd1 c (by omega)).symm
    have eR : rt (nI c).toNatClampNeg = rt c := by rw [ecc]
    obtain ⟨S, mS, hS, eS, -⟩ := hV.1 b (y / 8) hb (by omega)
    rcases od_subst (ca := ca) (cc := cc) (oc := oc) (fc := fc) (st := st) (er := er) (ck := ck) (fm := fm) (fk := fk) (ft := ft) (rt := rt) (dX := dX) (pT := pT) (dY := dY) (sc := sc) (so := so) (sa := sa) (sb := sb) (oC := oC) (oO := oO) (oF := oF) (fB := fB) (fP := fP) (fR := fR) (fV := fV) (fL := fL) hP hb (y := y % 8) (by omega) (hV.1 c 1 (Or.inl hc) (by decide)) hDT with ⟨w, hw, wX, wY⟩ | ⟨wX, wY⟩
    · obtain ⟨q, qX, qY⟩ := od_match (ca := ca) (cc := cc) (oc := oc) (fc := fc) (st := st) (er := er) (ck := ck) (fm := fm) (fk := fk) (ft := ft) (rt := rt) (dX := dX) (pT := pT) (dY := dY) (sc := sc) (so := so) (sa := sa) (sb := sb) (oC := oC) (oO := oO) (oF := oF) (fB := fB) (fP := fP) (fR := fR) (fV := fV) (fL := fL) (s := w) (by omega) hck (dX (b * 8 + y / 8))
      by_cases hq : q = 0
      · rcases od_subst (ca := ca) (cc := cc) (oc := oc) (fc := fc) (st := st) (er := er) (ck := ck) (fm := fm) (fk := fk) (ft := ft) (rt := rt) (dX := dX) (pT := pT) (dY := dY) (sc := sc) (so := so) (sa := sa) (sb := sb) (oC := oC) (oO := oO) (oF := oF) (fB := fB) (fP := fP) (fR := fR) (fV := fV) (fL := fL) hP hb (y := y % 8) (by omega) (hV.2.2 c hc) hDT with ⟨w', hw', wX', wY'⟩ | ⟨wX', wY'⟩
        · obtain ⟨q', qX', qY'⟩ := od_match (ca := ca) (cc := cc) (oc := oc) (fc := fc) (st := st) (er := er) (ck := ck) (fm := fm) (fk := fk) (ft := ft) (rt := rt) (dX := dX) (pT := pT) (dY := dY) (sc := sc) (so := so) (sa := sa) (sb := sb) (oC := oC) (oO := oO) (oF := oF) (fB := fB) (fP := fP) (fR := fR) (fV := fV) (fL := fL) (s := w') (by omega) hck (nI T)
          refine ⟨q', fun _ => ok5, fun post p => frX post ⟨od_v8 hvy, nm_r f15 ⟨v1, ?_⟩⟩, fun post p => frY post (nm_r e15 (br_t lc (br_f (by decide) ⟨vc, ?_⟩)))⟩
          · rw [e1, eR]; exact wX _ (qX _ (br_t hq ⟨vc, wX' _ (qX' _ p)⟩))
          · rw [eP, eR]; exact wY _ (br_t (nI_pos' (by omega)) (od_decl hP hb (by omega) (qY _ (br_t hq ⟨vc, wY' _ (br_t (nI_pos' (by omega)) (qY' _ p))⟩))))
        · refine ⟨6, fun _ => ok5, fun post p => frX post ⟨od_v8 hvy, nm_r f15 ⟨v1, ?_⟩⟩, fun post p => frY post (nm_r e15 (br_t lc (br_f (by decide) ⟨vc, ?_⟩)))⟩
          · rw [e1, eR]; exact wX _ (qX _ (br_t hq ⟨vc, wX' _ (br_t rfl p)⟩))
          · rw [eP, eR]; exact wY _ (br_t (nI_pos' (by omega)) (od_decl hP hb (by omega) (qY _ (br_t hq ⟨vc, wY' _ (br_f (by decide) (od_m6 p))⟩))))
      · refine ⟨q, fun _ => ok5, fun post p => frX post ⟨od_v8 hvy, nm_r f15 ⟨v1, ?_⟩⟩, fun post p => frY post (nm_r e15 (br_t lc (br_f (by decide) ⟨vc, ?_⟩)))⟩
        · rw [e1]; exact wX _ (qX _ (br_f hq p))
        · rw [eP]; exact wY _ (br_t (nI_pos' (by omega)) (od_decl hP hb (by omega) (qY _ (br_f hq p))))
    · refine ⟨6, fun _ => ok5, fun post p => frX post ⟨od_v8 hvy, nm_r f15 ⟨v1, ?_⟩⟩, fun post p => frY post (nm_r e15 (br_t lc (br_f (by decide) ⟨vc, ?_⟩)))⟩
      · rw [e1]; exact wX _ (br_t rfl (br_f (by decide) p))
      · rw [eP]; exact wY _ (br_f (by decide) (od_m6 p))
  · refine ⟨0, fun _ => ⟨a, ha, rfl, Or.inr (Or.inr (Or.inr (Or.inr (Or.inr (Or.inl rfl)))))⟩, fun post p => ⟨v, nm_r fA ⟨v, nm_r fB' ⟨z8, nm_e ⟨z8, nm_e ⟨od_v8 hva, nm_r fT ⟨v, nm_r fO (br_f (by decide) (br_f (by decide) (br_f (by decide) (br_f (by decide) (br_f (by decide) (br_f (by decide) (br_f (by decide) (br_t rfl p))))))))⟩⟩⟩⟩⟩⟩, fun post p => ?_⟩
    unfold wY_checkStmt_151
    refine od_decl hP hb ha ?_
    exact br_f (by decide) (br_f (by decide) (br_t rfl p))
  · have hb8 : b ≠ 8 := fun e => h87 e rfl
    obtain ⟨q, qX, qY⟩ := od_match (ca := ca) (cc := cc) (oc := oc) (fc := fc) (st := st) (er := er) (ck := ck) (fm := fm) (fk := fk) (ft := ft) (rt := rt) (dX := dX) (pT := pT) (dY := dY) (sc := sc) (so := so) (sa := sa) (sb := sb) (oC := oC) (oO := oO) (oF := oF) (fB := fB) (fP := fP) (fR := fR) (fV := fV) (fL := fL) (s := T) (by omega) hck (rt b)
    refine ⟨q, fun _ => ⟨a, ha, rfl, Or.inr (Or.inr (Or.inr (Or.inr (Or.inr (Or.inr ⟨rfl, hb8⟩)))))⟩, fun post p => ⟨v, nm_r fA ⟨v, nm_r fB' ⟨z8, nm_e ⟨z8, nm_e ⟨od_v8 hva, nm_r fT ⟨v, nm_r fO (br_f (by decide) (br_f (by decide) (br_f (by decide) (br_f (by decide) (br_f (by decide) (br_f (by decide) (br_f (by decide) (br_f (by decide) (br_t rfl ⟨vp_in_nI (by omega) (by decide), ?_⟩)))))))))⟩⟩⟩⟩⟩⟩, fun post p => ?_⟩
    · rw [nI_clamp (by omega)]; exact qX _ p
    · unfold wY_checkStmt_151
      refine od_decl hP hb ha ?_
      rw [eT]
      refine br_f (by decide) (br_f (by decide) (br_f (by decide) (br_t rfl ?_)))
      rw [od_and7' (by omega), nI_clamp (by omega)]
      exact ⟨vp_in_nI (by omega) (by decide), qY _ p⟩
/-- one statement's check -/
theorem od_stm (hP : od_P ck cc fm fk dX pT dY sc) (hV : od_V cc fm fk ft rt dX) {b s : Nat} (hb : b < cc ∨ b = 8) (hs : s < 16) :
    ∃ r : Int32, (r = 0 → od_ok cc fm b (so (b * 16 + s)) (sa (b * 16 + s)) (sb (b * 16 + s))) ∧
      (∀ post : Int32 → Prop, post r → wpX_checkOperands (fun r_7 => (((r_7 = 0 → (wpX_checkTyping (fun r_60 => post r_60) (nI ca, st, er, ck, nI cc, nI oc, nI fc, fm, fk, ft, rt, dX, sc, so, sa, sb, oC, oO, oF, fB, fP, fR, fV, fL) (nI b) (nI (b * 16 + s)))) ∧ (¬ r_7 = 0 → (post r_7))))) (nI ca, st, er, ck, nI cc, nI oc, nI fc, fm, fk, ft, rt, dX, sc, so, sa, sb, oC, oO, oF, fB, fP, fR, fV, fL) (nI b) (nI (b * 16 + s))) ∧
      (∀ post : Int32 → Prop, post r → wpY_checkStmt post (nI ca, st, er, nI cc, ck, nI oc, nI fc, fm, fk, ft, pT, rt, dY, sc, so, sa, sb, oC, oO, oF, fB, fP, fR, fV, fL) (nI b) (nI s)) := by
  have hcc := hP.2.1
  rcases od_op (ca := ca) (cc := cc) (oc := oc) (fc := fc) (st := st) (er := er) (ck := ck) (fm := fm) (fk := fk) (ft := ft) (rt := rt) (dX := dX) (pT := pT) (dY := dY) (sc := sc) (so := so) (sa := sa) (sb := sb) (oC := oC) (oO := oO) (oF := oF) (fB := fB) (fP := fP) (fR := fR) (fV := fV) (fL := fL) (b := b) (s := s) (by omega) hs with ⟨o, a, o1, o7, ha, eO, eA, h87, h2, h345, kX, kY⟩ | ⟨kX, kY⟩
  · obtain ⟨r, r0, rX, rY⟩ := od_typ (ca := ca) (cc := cc) (oc := oc) (fc := fc) (st := st) (er := er) (ck := ck) (fm := fm) (fk := fk) (ft := ft) (rt := rt) (dX := dX) (pT := pT) (dY := dY) (sc := sc) (so := so) (sa := sa) (sb := sb) (oC := oC) (oO := oO) (oF := oF) (fB := fB) (fP := fP) (fR := fR) (fV := fV) (fL := fL) hP hV hb hs o1 o7 ha eO eA h87 h2 h345
    exact ⟨r, r0, fun post p => kX _ (br_t rfl (rX _ p)), fun post p => kY _ (rY _ p)⟩
  · exact ⟨4, fun e => absurd e (by decide), fun post p => kX _ (br_f (by decide) p), fun post p => kY _ p⟩
