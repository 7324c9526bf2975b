variable {ca cc oc fc : Nat} {st er ck : Int32} {fm fk ft rt dX pT dY sc so sa sb oC oO oF fB fP fR fV fL : Nat → Int32}
/-- main has not come to its end, or is not alone -/
def od_NF (fc : Nat) (sc fP : Nat → Int32) : Prop := fc = 1 → fP 0 < sc 8
theorem od_xstop {Q : SX → Prop} (hfc : fc ≤ 8) (h : od_NF fc sc fP) (p : Q (nI ca, st, er, ck, nI cc, nI oc, nI fc, fm, fk, ft, rt, dX, sc, so, sa, sb, oC, oO, oF, fB, fP, fR, fV, fL)) : wpX_stopIfFinished Q (nI ca, st, er, ck, nI cc, nI oc, nI fc, fm, fk, ft, rt, dX, sc, so, sa, sb, oC, oO, oF, fB, fP, fR, fV, fL) := by
  by_cases e : fc = 1
  · subst e
    exact br_c (fun _ => br_t rfl (br_t (h rfl) p)) (fun _ => p)
  · exact br_c (fun _ => br_f (od_ne (k := 1) e (by omega) (by decide)) p) (fun _ => p)
theorem od_yfin {Q : Int32 → Prop} (hfc : fc ≤ 8) (h : od_NF fc sc fP) (p : Q 0) : wpY_finished Q (nI ca, st, er, nI cc, ck, nI oc, nI fc, fm, fk, ft, pT, rt, dY, sc, so, sa, sb, oC, oO, oF, fB, fP, fR, fV, fL) := by
  by_cases e : fc = 1
  · subst e
    exact br_t rfl (br_t (h rfl) p)
  · exact br_f (od_ne (k := 1) e (by omega) (by decide)) p
theorem od_st2 {s : Int32} (hs : ¬ s = 0) (h : od_All ca cc oc fc 1 ck fm fk dX pT dY sc so sa sb oC oO oF fB fP fR fV fL) : od_All ca cc oc fc s ck fm fk dX pT dY sc so sa sb oC oO oF fB fP fR fV fL := by
  obtain ⟨h1, h2, h3, h4, -, h6⟩ := h
  exact ⟨h1, h2, h3, h4, fun e => absurd e hs, fun _ => h6 (by decide)⟩
theorem od_step1 (hA : od_All ca cc oc fc 1 ck fm fk dX pT dY sc so sa sb oC oO oF fB fP fR fV fL) (hN : od_NF fc sc fP) : (∃ (st' : Int32) (oc' fc' : Nat) (oC' oO' oF' fB' fP' fR' fV' fL' : Nat → Int32), od_All ca cc oc' fc' st' ck fm fk dX pT dY sc so sa sb oC' oO' oF' fB' fP' fR' fV' fL' ∧ ¬ st' = 0 ∧ (∀ post : SX → Prop, post (nI ca, st', er, ck, nI cc, nI oc', nI fc', fm, fk, ft, rt, dX, sc, so, sa, sb, oC', oO', oF', fB', fP', fR', fV', fL') → wpX_step post (nI ca, 1, er, ck, nI cc, nI oc, nI fc, fm, fk, ft, rt, dX, sc, so, sa, sb, oC, oO, oF, fB, fP, fR, fV, fL)) ∧ (∀ post : SY → Prop, post (nI ca, st', er, nI cc, ck, nI oc', nI fc', fm, fk, ft, pT, rt, dY, sc, so, sa, sb, oC', oO', oF', fB', fP', fR', fV', fL') → wpY_step post (nI ca, 1, er, nI cc, ck, nI oc, nI fc, fm, fk, ft, pT, rt, dY, sc, so, sa, sb, oC, oO, oF, fB, fP, fR, fV, fL))) := by
  obtain ⟨hP, hca, hoc, hfc, -, hM⟩ := id hA
  obtain ⟨hC, h1, hH, hF⟩ := hM (by decide)
  obtain ⟨f, rfl⟩ : ∃ f, fc = f + 1 := ⟨fc - 1, by omega⟩
  obtain ⟨b, pc, n, hw⟩ := hF f (by omega)
  refine od_stepF hA hw (fun h => ?_)
  subst h
  have hl := hN rfl
  obtain ⟨w1, w2, w3, w4, w5, w6, -⟩ := hw
  have eb := (w6 rfl).1
  subst eb
  rw [w2, w4] at hl
  exact (nI_ltI (by omega) (by omega)).mp hl
theorem od_runl {k : Nat} (hk : k ≤ 16) : ∀ d i (oc fc : Nat) (oC oO oF fB fP fR fV fL : Nat → Int32), i + d = k → od_All ca cc oc fc 1 ck fm fk dX pT dY sc so sa sb oC oO oF fB fP fR fV fL → od_NF fc sc fP →
    ∃ (st' : Int32) (oc' fc' : Nat) (oC' oO' oF' fB' fP' fR' fV' fL' : Nat → Int32), od_All ca cc oc' fc' st' ck fm fk dX pT dY sc so sa sb oC' oO' oF' fB' fP' fR' fV' fL' ∧
      (∀ post : Int32 → SX → Prop, post st' (nI ca, st', er, ck, nI cc, nI oc', nI fc', fm, fk, ft, rt, dX, sc, so, sa, sb, oC', oO', oF', fB', fP', fR', fV', fL') → wX_run_37 post (nI k) (d + 1) (nI i) (nI ca) 1 er ck (nI cc) (nI oc) (nI fc) fm fk ft rt dX sc so sa sb oC oO oF fB fP fR fV fL) ∧
      (∀ post : Int32 → SY → Prop, post st' (nI ca, st', er, nI cc, ck, nI oc', nI fc', fm, fk, ft, pT, rt, dY, sc, so, sa, sb, oC', oO', oF', fB', fP', fR', fV', fL') → wY_run_50 post (nI k) (d + 1) (nI i) (nI ca) 1 er (nI cc) ck (nI oc) (nI fc) fm fk ft pT rt dY sc so sa sb oC oO oF fB fP fR fV fL) := by
  intro d
  induction d with
  | zero =>
    intro i oc fc oC oO oF fB fP fR fV fL hi hA hN
    have l : nI k ≤ nI i := nI_le (by omega) (by omega)
    exact ⟨1, oc, fc, oC, oO, oF, fB, fP, fR, fV, fL, hA, fun post p => br_t l p, fun post p => br_t l p⟩
  | succ d ih =>
    intro i oc fc oC oO oF fB fP fR fV fL hi hA hN
    have l : ¬ nI k ≤ nI i := nI_ge (by omega) (by omega)
    obtain ⟨st', oc', fc', oC', oO', oF', fB', fP', fR', fV', fL', hA', h0', sX, sY⟩ := od_step1 (ca := ca) (cc := cc) (oc := oc) (fc := fc) (er := er) (ck := ck) (fm := fm) (fk := fk) (ft := ft) (rt := rt) (dX := dX) (pT := pT) (dY := dY) (sc := sc) (so := so) (sa := sa) (sb := sb) (oC := oC) (oO := oO) (oF := oF) (fB := fB) (fP := fP) (fR := fR) (fV := fV) (fL := fL) hA hN
    by_cases h1 : st' = 1
    · subst h1
      by_cases hfin : od_NF fc' sc fP'
      · obtain ⟨st'', oc'', fc'', oC'', oO'', oF'', fB'', fP'', fR'', fV'', fL'', hA'', kX, kY⟩ := ih (i + 1) oc' fc' oC' oO' oF' fB' fP' fR' fV' fL' (by omega) hA' hfin
        refine ⟨st'', oc'', fc'', oC'', oO'', oF'', fB'', fP'', fR'', fV'', fL'', hA'', fun post p => br_f l (br_t rfl (sX _ ?_)), fun post p => br_f l (sY _ (br_t rfl (od_yfin hA'.2.2.2.1 hfin (br_t rfl (nm_r (nI_1 i) (kY post p))))))⟩
        exact od_xstop hA'.2.2.2.1 hfin (nm_r (nI_1 i) (kX post p))
      · have e1 : fc' = 1 := by
          by_cases e : fc' = 1
          · exact e
          · exact absurd (fun h => absurd h e) hfin
        have nl : ¬ fP' 0 < sc 8 := fun h => hfin (fun _ => h)
        subst e1
        exact ⟨2, oc', 1, oC', oO', oF', fB', fP', fR', fV', fL', od_st2 (by decide) hA', fun post p => br_f l (br_t rfl (sX _ (br_t rfl (br_t rfl (br_f nl (nm_e (br_c (fun _ => p) (fun _ => br_f (by decide) p)))))))),
          fun post p => br_f l (sY _ (br_t rfl (br_t rfl (br_f nl (br_f (by decide) p)))))⟩
    · exact ⟨st', oc', fc', oC', oO', oF', fB', fP', fR', fV', fL', hA', fun post p => br_f l (br_t rfl (sX _ (br_f h1 (nm_e (br_c (fun _ => p) (fun _ => br_f h1 p)))))), fun post p => br_f l (sY _ (br_f h1 p))⟩
theorem od_run {k : Nat} (v1 : Int32) (h : od_All ca cc oc fc st ck fm fk dX pT dY sc so sa sb oC oO oF fB fP fR fV fL) :
    wpX_run (fun r u' => wpY_run (fun r' v' => r' = r ∧ i_Rel k u' v') (nI ca, st, er, nI cc, ck, nI oc, nI fc, fm, fk, ft, pT, rt, dY, sc, so, sa, sb, oC, oO, oF, fB, fP, fR, fV, fL) v1) (nI ca, st, er, ck, nI cc, nI oc, nI fc, fm, fk, ft, rt, dX, sc, so, sa, sb, oC, oO, oF, fB, fP, fR, fV, fL) v1 := by
  by_cases hs : st = 1
  · subst hs
    by_cases h1 : (1 : Int32) ≤ v1
    · by_cases hN : od_NF fc sc fP
      · obtain ⟨z, m, ez, hm, z16⟩ : ∃ (z : Int32) (m : Nat), z = nI m ∧ m ≤ 16 ∧ ((16 ≤ v1 ∧ z = 16) ∨ (¬ (16 : Int32) ≤ v1 ∧ z = v1)) := by
          by_cases h16 : (16 : Int32) ≤ v1
          · exact ⟨16, 16, rfl, Nat.le_refl _, Or.inl ⟨h16, rfl⟩⟩
          · have g : ¬ v1 < 0 := fun h => absurd (Int32.lt_of_lt_of_le (Int32.lt_of_le_of_lt h1 h) (by decide : (0 : Int32) ≤ 1)) (Int32.lt_irrefl)
            obtain ⟨j, hj, rfl⟩ := nI_of g
            refine ⟨nI j, j, rfl, ?_, Or.inr ⟨h16, rfl⟩⟩
            by_cases q : j ≤ 16
            · exact q
            · exact absurd (nI_le (a := 16) (by omega) hj) h16
        obtain ⟨st', oc', fc', oC', oO', oF', fB', fP', fR', fV', fL', hA', kX, kY⟩ := od_runl (ca := ca) (cc := cc) (er := er) (ck := ck) (fm := fm) (fk := fk) (ft := ft) (rt := rt) (dX := dX) (pT := pT) (dY := dY) (sc := sc) (so := so) (sa := sa) (sb := sb) hm m 0 oc fc oC oO oF fB fP fR fV fL (by omega) h hN
        rw [← ez] at kX kY
        have xx : wX_run_30 (fun r u' => wpY_run (fun r' v' => r' = r ∧ i_Rel k u' v') (nI ca, 1, er, nI cc, ck, nI oc, nI fc, fm, fk, ft, pT, rt, dY, sc, so, sa, sb, oC, oO, oF, fB, fP, fR, fV, fL) v1) z (nI ca) 1 er ck (nI cc) (nI oc) (nI fc) fm fk ft rt dX sc so sa sb oC oO oF fB fP fR fV fL := by
          unfold wX_run_30
          refine od_xstop h.2.2.2.1 hN ⟨m + 1, kX _ ?_⟩
          refine br_t rfl (br_t h1 (od_yfin h.2.2.2.1 hN (br_t rfl ?_)))
          rcases z16 with ⟨q, rfl⟩ | ⟨q, rfl⟩
          · exact br_t q ⟨m + 1, kY _ ⟨rfl, od_mk hA'⟩⟩
          · exact br_f q ⟨m + 1, kY _ ⟨rfl, od_mk hA'⟩⟩
        rcases z16 with ⟨q, rfl⟩ | ⟨q, rfl⟩
        · exact br_t rfl (br_t h1 (br_t q xx))
        · exact br_t rfl (br_t h1 (br_f q xx))
      · have e1 : fc = 1 := by
          by_cases e : fc = 1
          · exact e
          · exact absurd (fun h => absurd h e) hN
        have nl : ¬ fP 0 < sc 8 := fun h => hN (fun _ => h)
        subst e1
        have fin : i_Rel k (nI ca, 2, er, ck, nI cc, nI oc, nI 1, fm, fk, ft, rt, dX, sc, so, sa, sb, oC, oO, oF, fB, fP, fR, fV, fL) (nI ca, 2, er, nI cc, ck, nI oc, nI 1, fm, fk, ft, pT, rt, dY, sc, so, sa, sb, oC, oO, oF, fB, fP, fR, fV, fL) := od_mk (od_st2 (by decide) h)
        have yy : wpY_run (fun r' v' => r' = 2 ∧ i_Rel k (nI ca, 2, er, ck, nI cc, nI oc, nI 1, fm, fk, ft, rt, dX, sc, so, sa, sb, oC, oO, oF, fB, fP, fR, fV, fL) v') (nI ca, 1, er, nI cc, ck, nI oc, nI 1, fm, fk, ft, pT, rt, dY, sc, so, sa, sb, oC, oO, oF, fB, fP, fR, fV, fL) v1 := br_t rfl (br_t h1 (br_t rfl (br_f nl (br_f (by decide) ⟨rfl, fin⟩))))
        have xx : ∀ z : Int32, wX_run_30 (fun r u' => wpY_run (fun r' v' => r' = r ∧ i_Rel k u' v') (nI ca, 1, er, nI cc, ck, nI oc, nI 1, fm, fk, ft, pT, rt, dY, sc, so, sa, sb, oC, oO, oF, fB, fP, fR, fV, fL) v1) z (nI ca) 1 er ck (nI cc) (nI oc) (nI 1) fm fk ft rt dX sc so sa sb oC oO oF fB fP fR fV fL := by
          intro z
          unfold wX_run_30
          exact br_t rfl (br_t rfl (br_f nl ⟨1, br_c (fun _ => yy) (fun _ => br_f (by decide) yy)⟩))
        by_cases h16 : (16 : Int32) ≤ v1
        · exact br_t rfl (br_t h1 (br_t h16 (xx _)))
        · exact br_t rfl (br_t h1 (br_f h16 (xx _)))
    · exact br_t rfl (br_f h1 (br_t rfl (br_f h1 ⟨rfl, od_mk h⟩)))
  · exact br_f hs (br_f hs ⟨rfl, od_mk h⟩)
theorem od_restart {k : Nat} (h : od_All ca cc oc fc st ck fm fk dX pT dY sc so sa sb oC oO oF fB fP fR fV fL) :
    wpX_restart (fun r u' => wpY_restart (fun r' v' => r' = r ∧ i_Rel k u' v') (nI ca, st, er, nI cc, ck, nI oc, nI fc, fm, fk, ft, pT, rt, dY, sc, so, sa, sb, oC, oO, oF, fB, fP, fR, fV, fL)) (nI ca, st, er, ck, nI cc, nI oc, nI fc, fm, fk, ft, rt, dX, sc, so, sa, sb, oC, oO, oF, fB, fP, fR, fV, fL) := by
  by_cases hs : st = 0
  · exact br_t hs (br_t hs ⟨rfl, od_mk h⟩)
  · obtain ⟨hP, hca, hoc, hfc, -, hM⟩ := h
    exact br_f hs (od_xstart (br_f hs (od_ystart ⟨rfl, od_mk (od_begin hP (hM hs).1 hca)⟩)))
