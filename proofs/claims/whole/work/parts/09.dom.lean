variable {ca cc oc fc : Nat} {st er ck : Int32} {fm fk ft rt dX pT dY sc so sa sb oC oO oF fB fP fR fV fL : Nat → Int32}
/-! inside, dominance -/
theorem od_i3x {f : Nat → Int32} {w : Nat} (hw : w < 32) : f (nI w * 3).toNatClampNeg = f (w * 3) := by rw [od_m3, nI_clamp (by omega)]
theorem od_v3 {w : Nat} (hw : w < 32) : vp_in (nI w * 3) 96 := by rw [od_m3]; exact vp_in_nI (by omega) (by decide)
theorem od_chain (hoc : oc ≤ 32) (hO : ∀ w, w < oc → od_R w (oO (w * 3))) (o : Int32) : ∀ w i, w < oc → w + i < 32 →
    ∃ r : Int32, (∀ (post : Int32 → Prop) (n : Nat), w < n → post r → wX_isInside_12 post o (nI ca) st er ck (nI cc) (nI oc) (nI fc) fm fk ft rt dX sc so sa sb oC oO oF fB fP fR fV fL (n + 1) (nI w) (nI i)) ∧ (∀ (post : Int32 → Prop) (n : Nat), w < n → post r → wY_inside_12 post o (nI ca) st er (nI cc) ck (nI oc) (nI fc) fm fk ft pT rt dY sc so sa sb oC oO oF fB fP fR fV fL (n + 1) (nI w) (nI i)) := by
  intro w
  induction w using Nat.strongRecOn with
  | _ w ih =>
    intro i hw hi
    have a1 : ¬ (32 : Int32) ≤ nI i := nI_ge (b := 32) (by omega) (by decide)
    have a2 : ¬ (40 : Int32) ≤ nI i := nI_ge (b := 40) (by omega) (by decide)
    have a3 : ¬ nI w = -1 := od_ne1 (by omega)
    have a4 : (0 : Int32) ≤ nI w := nI_pos' (by omega)
    have v := od_v3 (w := w) (by omega)
    by_cases e : nI w = o
    · exact ⟨1, fun post n _ p => br_f a1 (br_f a3 (br_t e p)), fun post n _ p => br_f a2 (br_t a4 (br_t e p))⟩
    · rcases hO w hw with h | ⟨w', hw', h⟩
      · have eo : oO (nI w * 3).toNatClampNeg = -1 := (od_i3x (by omega)).trans h
        have a5 : ¬ (40 : Int32) ≤ nI (i + 1) := nI_ge (b := 40) (by omega) (by decide)
        refine ⟨0, fun post n hn p => ?_, fun post n hn p => ?_⟩
        · obtain ⟨n', rfl⟩ : ∃ n', n = n' + 1 := ⟨n - 1, by omega⟩
          refine br_f a1 (br_f a3 (br_f e ⟨v, nm_r eo (nm_r (nI_1 i) ?_)⟩))
          exact br_c (fun _ => p) (fun _ => br_t rfl p)
        · obtain ⟨n', rfl⟩ : ∃ n', n = n' + 1 := ⟨n - 1, by omega⟩
          exact br_f a2 (br_t a4 (br_f e ⟨v, nm_r eo (nm_r (nI_1 i) (br_f a5 (br_f od_n0 p)))⟩))
      · have eo : oO (nI w * 3).toNatClampNeg = nI w' := (od_i3x (by omega)).trans h
        obtain ⟨r, rX, rY⟩ := ih w' hw' (i + 1) (by omega) (by omega)
        refine ⟨r, fun post n hn p => ?_, fun post n hn p => ?_⟩
        · obtain ⟨n', rfl⟩ : ∃ n', n = n' + 1 := ⟨n - 1, by omega⟩
          exact br_f a1 (br_f a3 (br_f e ⟨v, nm_r eo (nm_r (nI_1 i) (rX post n' (by omega) p))⟩))
        · obtain ⟨n', rfl⟩ : ∃ n', n = n' + 1 := ⟨n - 1, by omega⟩
          exact br_f a2 (br_t a4 (br_f e ⟨v, nm_r eo (nm_r (nI_1 i) (rY post n' (by omega) p))⟩))
theorem od_inside (hoc : oc ≤ 32) (hO : ∀ w, w < oc → od_R w (oO (w * 3))) (o : Int32) {w : Nat} (hw : w < oc) :
    ∃ r : Int32, (∀ post : Int32 → Prop, post r → wpX_isInside post (nI ca, st, er, ck, nI cc, nI oc, nI fc, fm, fk, ft, rt, dX, sc, so, sa, sb, oC, oO, oF, fB, fP, fR, fV, fL) (nI w) o) ∧ (∀ post : Int32 → Prop, post r → wpY_inside post (nI ca, st, er, nI cc, ck, nI oc, nI fc, fm, fk, ft, pT, rt, dY, sc, so, sa, sb, oC, oO, oF, fB, fP, fR, fV, fL) (nI w) o) := by
  by_cases e : o = -1
  · exact ⟨1, fun post p => br_t e p, fun post p => br_t e p⟩
  · obtain ⟨r, rX, rY⟩ := od_chain (ca := ca) (cc := cc) (oc := oc) (fc := fc) (st := st) (er := er) (ck := ck) (fm := fm) (fk := fk) (ft := ft) (rt := rt) (dX := dX) (pT := pT) (dY := dY) (sc := sc) (so := so) (sa := sa) (sb := sb) (oC := oC) (oO := oO) (oF := oF) (fB := fB) (fP := fP) (fR := fR) (fV := fV) (fL := fL) hoc hO o w 0 hw (by omega)
    exact ⟨r, fun post p => br_f e ⟨w + 2, rX post (w + 1) (by omega) p⟩, fun post p => br_f e ⟨w + 2, rY post (w + 1) (by omega) p⟩⟩
theorem od_may1 {a : Int32} {post : Int32 → Prop} (p : post 1) : wpX_mayRefer post (nI ca, st, er, ck, nI cc, nI oc, nI fc, fm, fk, ft, rt, dX, sc, so, sa, sb, oC, oO, oF, fB, fP, fR, fV, fL) a (-1) := br_t rfl p
theorem od_may2 {a : Int32} {t : Nat} {post : Int32 → Prop} (ht : t < 32) (p : wpX_isInside (fun r => (r = 0 → post 0) ∧ (¬ r = 0 → post 1)) (nI ca, st, er, ck, nI cc, nI oc, nI fc, fm, fk, ft, rt, dX, sc, so, sa, sb, oC, oO, oF, fB, fP, fR, fV, fL) a (oO (t * 3))) : wpX_mayRefer post (nI ca, st, er, ck, nI cc, nI oc, nI fc, fm, fk, ft, rt, dX, sc, so, sa, sb, oC, oO, oF, fB, fP, fR, fV, fL) a (nI t) := by
  refine br_f (od_ne1 (by omega)) ⟨od_v3 ht, ?_⟩
  rw [od_i3x (f := oO) ht]; exact p
theorem od_dom1 (hoc : oc ≤ 32) (hH : od_H cc oc oC oO oF) {a : Nat} (ha : a < oc) : ∀ d f, f + d = 4 →
    ((∀ (post : Int32 → Prop) (J : Int32 → Prop), J (nI (a + 1)) → wX_isDominated_12 post J (nI a) (nI ca) st er ck (nI cc) (nI oc) (nI fc) fm fk ft rt dX sc so sa sb oC oO oF fB fP fR fV fL (d + 1) (nI f)) ∧ (∀ (post : Int32 → Prop) (J : Int32 → Prop), J (nI (a + 1)) → wY_dominance_12 post J (nI a) (nI ca) st er (nI cc) ck (nI oc) (nI fc) fm fk ft pT rt dY sc so sa sb oC oO oF fB fP fR fV fL (d + 1) (nI f))) ∨
    ((∀ (post : Int32 → Prop) (J : Int32 → Prop), post 0 → wX_isDominated_12 post J (nI a) (nI ca) st er ck (nI cc) (nI oc) (nI fc) fm fk ft rt dX sc so sa sb oC oO oF fB fP fR fV fL (d + 1) (nI f)) ∧ (∀ (post : Int32 → Prop) (J : Int32 → Prop), post 0 → wY_dominance_12 post J (nI a) (nI ca) st er (nI cc) ck (nI oc) (nI fc) fm fk ft pT rt dY sc so sa sb oC oO oF fB fP fR fV fL (d + 1) (nI f))) := by
  have hO : ∀ w, w < oc → od_R w (oO (w * 3)) := fun w hw => (hH w hw).2.1 0 (by decide)
  have z : ¬ (1 : Int32) = 0 := by decide
  intro d
  induction d with
  | zero =>
    intro f hf
    obtain rfl : f = 4 := by omega
    exact Or.inl ⟨fun post J p => br_t (by decide) (nm_r (nI_1 a) p), fun post J p => br_t (by decide) (nm_r (nI_1 a) p)⟩
  | succ d ih =>
    intro f hf
    have n4 : ¬ (4 : Int32) ≤ nI f := nI_ge (b := 4) (by omega) (by decide)
    have v : vp_in (nI a * 4 + nI f) 128 := by rw [od_i4]; exact vp_in_nI (by omega) (by decide)
    have eF : oF (nI a * 4 + nI f).toNatClampNeg = oF (a * 4 + f) := by rw [od_i4, nI_clamp (by omega)]
    rcases (hH a ha).2.2 f (by omega) with h | ⟨t, ht, h⟩
    · rw [h] at eF
      have gX : ∀ (post : Int32 → Prop) (J : Int32 → Prop), wX_isDominated_12 post J (nI a) (nI ca) st er ck (nI cc) (nI oc) (nI fc) fm fk ft rt dX sc so sa sb oC oO oF fB fP fR fV fL (d + 1) (nI (f + 1)) → wX_isDominated_12 post J (nI a) (nI ca) st er ck (nI cc) (nI oc) (nI fc) fm fk ft rt dX sc so sa sb oC oO oF fB fP fR fV fL (d + 1 + 1) (nI f) := by
        intro post J p
        refine br_f n4 ⟨v, ?_⟩
        rw [eF]
        exact od_may1 (br_f z (nm_r (nI_1 f) p))
      have gY : ∀ (post : Int32 → Prop) (J : Int32 → Prop), wY_dominance_12 post J (nI a) (nI ca) st er (nI cc) ck (nI oc) (nI fc) fm fk ft pT rt dY sc so sa sb oC oO oF fB fP fR fV fL (d + 1) (nI (f + 1)) → wY_dominance_12 post J (nI a) (nI ca) st er (nI cc) ck (nI oc) (nI fc) fm fk ft pT rt dY sc so sa sb oC oO oF fB fP fR fV fL (d + 1 + 1) (nI f) :=
        fun post J p => br_f n4 ⟨v, nm_r eF (br_t od_n1 (nm_r (nI_1 f) p))⟩
      rcases ih (f + 1) (by omega) with ⟨kX, kY⟩ | ⟨kX, kY⟩
      · exact Or.inl ⟨fun post J p => gX post J (kX post J p), fun post J p => gY post J (kY post J p)⟩
      · exact Or.inr ⟨fun post J p => gX post J (kX post J p), fun post J p => gY post J (kY post J p)⟩
    · rw [h] at eF
      have t0 : ¬ nI t < 0 := nI_pos (by omega)
      have vt := od_v3 (w := t) (by omega)
      have eo : oO (nI t * 3).toNatClampNeg = oO (t * 3) := od_i3x (by omega)
      obtain ⟨r, rX, rY⟩ := od_inside (ca := ca) (cc := cc) (oc := oc) (fc := fc) (st := st) (er := er) (ck := ck) (fm := fm) (fk := fk) (ft := ft) (rt := rt) (dX := dX) (pT := pT) (dY := dY) (sc := sc) (so := so) (sa := sa) (sb := sb) (oC := oC) (oO := oO) (oF := oF) (fB := fB) (fP := fP) (fR := fR) (fV := fV) (fL := fL) hoc hO (oO (t * 3)) ha
      by_cases hr : r = 0
      · refine Or.inr ⟨fun post J p => br_f n4 ⟨v, ?_⟩, fun post J p => br_f n4 ⟨v, nm_r eF (br_f t0 ⟨vt, ?_⟩)⟩⟩
        · rw [eF]; exact od_may2 (by omega) (rX _ (br_t hr (br_t rfl p)))
        · rw [eo]; exact rY _ (br_t hr p)
      · have gX : ∀ (post : Int32 → Prop) (J : Int32 → Prop), wX_isDominated_12 post J (nI a) (nI ca) st er ck (nI cc) (nI oc) (nI fc) fm fk ft rt dX sc so sa sb oC oO oF fB fP fR fV fL (d + 1) (nI (f + 1)) → wX_isDominated_12 post J (nI a) (nI ca) st er ck (nI cc) (nI oc) (nI fc) fm fk ft rt dX sc so sa sb oC oO oF fB fP fR fV fL (d + 1 + 1) (nI f) := by
          intro post J p
          refine br_f n4 ⟨v, ?_⟩
          rw [eF]
          exact od_may2 (by omega) (rX _ (br_f hr (br_f z (nm_r (nI_1 f) p))))
        have gY : ∀ (post : Int32 → Prop) (J : Int32 → Prop), wY_dominance_12 post J (nI a) (nI ca) st er (nI cc) ck (nI oc) (nI fc) fm fk ft pT rt dY sc so sa sb oC oO oF fB fP fR fV fL (d + 1) (nI (f + 1)) → wY_dominance_12 post J (nI a) (nI ca) st er (nI cc) ck (nI oc) (nI fc) fm fk ft pT rt dY sc so sa sb oC oO oF fB fP fR fV fL (d + 1 + 1) (nI f) := by
          intro post J p
          refine br_f n4 ⟨v, nm_r eF (br_f t0 ⟨vt, ?_⟩)⟩
          rw [eo]; exact rY _ (br_f hr (nm_r (nI_1 f) p))
        rcases ih (f + 1) (by omega) with ⟨kX, kY⟩ | ⟨kX, kY⟩
        · exact Or.inl ⟨fun post J p => gX post J (kX post J p), fun post J p => gY post J (kY post J p)⟩
        · exact Or.inr ⟨fun post J p => gX post J (kX post J p), fun post J p => gY post J (kY post J p)⟩
/-- one cell of a frame: one verdict on both sides -/
theorem od_cell (hoc : oc ≤ 32) (hfc : fc ≤ 8) (hH : od_H cc oc oC oO oF) (hF : od_F cc oc fc sc fB fP fR fV fL) {f v d : Nat} (hf : f < fc) (hv : v < 8) :
    ((∀ (post : Int32 → Prop) (J : Int32 → Prop), wX_isDominated_61 post J (nI f) (nI ca) st er ck (nI cc) (nI oc) (nI fc) fm fk ft rt dX sc so sa sb oC oO oF fB fP fR fV fL (d + 1) (nI (v + 1)) → wX_isDominated_61 post J (nI f) (nI ca) st er ck (nI cc) (nI oc) (nI fc) fm fk ft rt dX sc so sa sb oC oO oF fB fP fR fV fL (d + 1 + 1) (nI v)) ∧ (∀ (post : Int32 → Prop) (J : Int32 → Prop), wY_dominance_81 post J (nI f) (fR f) (nI ca) st er (nI cc) ck (nI oc) (nI fc) fm fk ft pT rt dY sc so sa sb oC oO oF fB fP fR fV fL (d + 1) (nI (v + 1)) → wY_dominance_81 post J (nI f) (fR f) (nI ca) st er (nI cc) ck (nI oc) (nI fc) fm fk ft pT rt dY sc so sa sb oC oO oF fB fP fR fV fL (d + 1 + 1) (nI v))) ∨
    ((∀ (post : Int32 → Prop) (J : Int32 → Prop), post 0 → wX_isDominated_61 post J (nI f) (nI ca) st er ck (nI cc) (nI oc) (nI fc) fm fk ft rt dX sc so sa sb oC oO oF fB fP fR fV fL (d + 1 + 1) (nI v)) ∧ (∀ (post : Int32 → Prop) (J : Int32 → Prop), post 0 → wY_dominance_81 post J (nI f) (fR f) (nI ca) st er (nI cc) ck (nI oc) (nI fc) fm fk ft pT rt dY sc so sa sb oC oO oF fB fP fR fV fL (d + 1 + 1) (nI v))) := by
  have hO : ∀ w, w < oc → od_R w (oO (w * 3)) := fun w hw => (hH w hw).2.1 0 (by decide)
  have z : ¬ (1 : Int32) = 0 := by decide
  have n8 : ¬ (8 : Int32) ≤ nI v := nI_ge (b := 8) hv (by decide)
  have vf : vp_in (nI f) 8 := vp_in_nI (by omega) (by decide)
  have ef : fR (nI f).toNatClampNeg = fR f := by rw [nI_clamp (by omega)]
  have vl : vp_in (nI f * 8 + nI v) 64 := by rw [od_i8]; exact vp_in_nI (by omega) (by decide)
  have el : fL (nI f * 8 + nI v).toNatClampNeg = fL (f * 8 + v) := by rw [od_i8, nI_clamp (by omega)]
  obtain ⟨b, pc, n, -, -, -, -, -, h0, h1, hL⟩ := hF f hf
  rcases hL v hv with h | ⟨t, ht, h⟩
  · rw [h] at el
    refine Or.inl ⟨fun post J p => br_f n8 ⟨vf, vl, ?_⟩, fun post J p => br_f n8 ⟨vl, nm_r el (br_f od_n0 (nm_r (nI_1 v) p))⟩⟩
    rw [el]; exact od_may1 (br_f z (nm_r (nI_1 v) p))
  · rw [h] at el
    have t0 : (0 : Int32) ≤ nI t := nI_pos' (by omega)
    have vt := od_v3 (w := t) (by omega)
    have eo : oO (nI t * 3).toNatClampNeg = oO (t * 3) := od_i3x (by omega)
    by_cases f0 : f = 0
    · have eR := (h0 f0).2
      subst f0
      by_cases e : oO (t * 3) = -1
      · refine Or.inl ⟨fun post J p => br_f n8 ⟨vf, vl, ?_⟩, fun post J p => br_f n8 ⟨vl, nm_r el (br_t t0 (br_t rfl ⟨vt, ?_⟩))⟩⟩
        · rw [el, ef, eR]; exact od_may2 (by omega) (br_t e (br_f z (br_f z (nm_r (nI_1 v) p))))
        · rw [eo]; exact br_t e (br_t (by decide) (nm_r (nI_1 v) p))
      · refine Or.inr ⟨fun post J p => br_f n8 ⟨vf, vl, ?_⟩, fun post J p => br_f n8 ⟨vl, nm_r el (br_t t0 (br_t rfl ⟨vt, ?_⟩))⟩⟩
        · rw [el, ef, eR]; exact od_may2 (by omega) (br_f e ⟨1, br_f (by decide) (br_t rfl (br_t rfl (br_t rfl p)))⟩)
        · rw [eo]; exact br_f e p
    · obtain ⟨-, ⟨w, hw, eR⟩, -⟩ := h1 (by omega)
      have g0 : ¬ nI f = 0 := od_ne (k := 0) f0 (by omega) (by decide)
      have g1 : ¬ nI f ≤ 0 := nI_nle (by omega) (by omega)
      have g2 : ¬ nI w < 0 := nI_pos (by omega)
      obtain ⟨r, rX, rY⟩ := od_inside (ca := ca) (cc := cc) (oc := oc) (fc := fc) (st := st) (er := er) (ck := ck) (fm := fm) (fk := fk) (ft := ft) (rt := rt) (dX := dX) (pT := pT) (dY := dY) (sc := sc) (so := so) (sa := sa) (sb := sb) (oC := oC) (oO := oO) (oF := oF) (fB := fB) (fP := fP) (fR := fR) (fV := fV) (fL := fL) hoc hO (oO (t * 3)) hw
      by_cases hr : r = 0
      · refine Or.inr ⟨fun post J p => br_f n8 ⟨vf, vl, ?_⟩, fun post J p => ?_⟩
        · rw [el, ef, eR]; exact od_may2 (by omega) (rX _ (br_t hr (br_t rfl p)))
        · rw [eR]
          refine br_f n8 ⟨vl, nm_r el (br_t t0 (br_f g0 (br_f g1 (br_f g2 ⟨vt, ?_⟩))))⟩
          rw [eo]; exact rY _ (br_t hr p)
      · refine Or.inl ⟨fun post J p => br_f n8 ⟨vf, vl, ?_⟩, fun post J p => ?_⟩
        · rw [el, ef, eR]; exact od_may2 (by omega) (rX _ (br_f hr (br_f z (nm_r (nI_1 v) p))))
        · rw [eR] at p ⊢
          refine br_f n8 ⟨vl, nm_r el (br_t t0 (br_f g0 (br_f g1 (br_f g2 ⟨vt, ?_⟩))))⟩
          rw [eo]; exact rY _ (br_f hr (nm_r (nI_1 v) p))
theorem od_dom2 (hoc : oc ≤ 32) (hfc : fc ≤ 8) (hH : od_H cc oc oC oO oF) (hF : od_F cc oc fc sc fB fP fR fV fL) {f : Nat} (hf : f < fc) : ∀ d v, v + d = 8 →
    ((∀ (post : Int32 → Prop) (J : Int32 → Prop), J (nI (f + 1)) → wX_isDominated_61 post J (nI f) (nI ca) st er ck (nI cc) (nI oc) (nI fc) fm fk ft rt dX sc so sa sb oC oO oF fB fP fR fV fL (d + 1) (nI v)) ∧ (∀ (post : Int32 → Prop) (J : Int32 → Prop), J (nI (f + 1)) → wY_dominance_81 post J (nI f) (fR f) (nI ca) st er (nI cc) ck (nI oc) (nI fc) fm fk ft pT rt dY sc so sa sb oC oO oF fB fP fR fV fL (d + 1) (nI v))) ∨
    ((∀ (post : Int32 → Prop) (J : Int32 → Prop), post 0 → wX_isDominated_61 post J (nI f) (nI ca) st er ck (nI cc) (nI oc) (nI fc) fm fk ft rt dX sc so sa sb oC oO oF fB fP fR fV fL (d + 1) (nI v)) ∧ (∀ (post : Int32 → Prop) (J : Int32 → Prop), post 0 → wY_dominance_81 post J (nI f) (fR f) (nI ca) st er (nI cc) ck (nI oc) (nI fc) fm fk ft pT rt dY sc so sa sb oC oO oF fB fP fR fV fL (d + 1) (nI v))) := by
  intro d
  induction d with
  | zero =>
    intro v hv
    obtain rfl : v = 8 := by omega
    exact Or.inl ⟨fun post J p => br_t (by decide) (nm_r (nI_1 f) p), fun post J p => br_t (by decide) (nm_r (nI_1 f) p)⟩
  | succ d ih =>
    intro v hv
    rcases od_cell (ca := ca) (cc := cc) (oc := oc) (fc := fc) (st := st) (er := er) (ck := ck) (fm := fm) (fk := fk) (ft := ft) (rt := rt) (dX := dX) (pT := pT) (dY := dY) (sc := sc) (so := so) (sa := sa) (sb := sb) (oC := oC) (oO := oO) (oF := oF) (fB := fB) (fP := fP) (fR := fR) (fV := fV) (fL := fL) (d := d) (v := v) hoc hfc hH hF hf (by omega) with ⟨gX, gY⟩ | h
    · rcases ih (v + 1) (by omega) with ⟨kX, kY⟩ | ⟨kX, kY⟩
      · exact Or.inl ⟨fun post J p => gX post J (kX post J p), fun post J p => gY post J (kY post J p)⟩
      · exact Or.inr ⟨fun post J p => gX post J (kX post J p), fun post J p => gY post J (kY post J p)⟩
    · exact Or.inr h
theorem od_dom3 (hoc : oc ≤ 32) (hfc : fc ≤ 8) (hH : od_H cc oc oC oO oF) (hF : od_F cc oc fc sc fB fP fR fV fL) : ∀ d f, f + d = fc →
    ∃ r : Int32, (∀ post : Int32 → Prop, post r → wX_isDominated_51 post (nI ca) st er ck (nI cc) (nI oc) (nI fc) fm fk ft rt dX sc so sa sb oC oO oF fB fP fR fV fL (d + 1) (nI f)) ∧ (∀ post : Int32 → Prop, post r → wY_dominance_64 post (nI ca) st er (nI cc) ck (nI oc) (nI fc) fm fk ft pT rt dY sc so sa sb oC oO oF fB fP fR fV fL (d + 1) (nI f)) := by
  intro d
  induction d with
  | zero =>
    intro f hf
    have l : nI fc ≤ nI f := nI_le (by omega) (by omega)
    exact ⟨1, fun post p => br_t l p, fun post p => br_t l p⟩
  | succ d ih =>
    intro f hf
    have l : ¬ nI fc ≤ nI f := nI_ge (by omega) (by omega)
    have vf : vp_in (nI f) 8 := vp_in_nI (by omega) (by decide)
    have ef : fR (nI f).toNatClampNeg = fR f := by rw [nI_clamp (by omega)]
    rcases od_dom2 (ca := ca) (cc := cc) (oc := oc) (fc := fc) (st := st) (er := er) (ck := ck) (fm := fm) (fk := fk) (ft := ft) (rt := rt) (dX := dX) (pT := pT) (dY := dY) (sc := sc) (so := so) (sa := sa) (sb := sb) (oC := oC) (oO := oO) (oF := oF) (fB := fB) (fP := fP) (fR := fR) (fV := fV) (fL := fL) hoc hfc hH hF (f := f) (by omega) 8 0 rfl with ⟨kX, kY⟩ | ⟨kX, kY⟩
    · obtain ⟨r, rX, rY⟩ := ih (f + 1) (by omega)
      exact ⟨r, fun post p => br_f l ⟨9, kX post _ (rX post p)⟩, fun post p => br_f l ⟨vf, nm_r ef ⟨9, kY post _ (rY post p)⟩⟩⟩
    · exact ⟨0, fun post p => br_f l ⟨9, kX post _ p⟩, fun post p => br_f l ⟨vf, nm_r ef ⟨9, kY post _ p⟩⟩⟩
theorem od_dom4 (hoc : oc ≤ 32) (hfc : fc ≤ 8) (hH : od_H cc oc oC oO oF) (hF : od_F cc oc fc sc fB fP fR fV fL) : ∀ d a, a + d = oc →
    ∃ r : Int32, (∀ post : Int32 → Prop, post r → wX_isDominated_2 post (nI ca) st er ck (nI cc) (nI oc) (nI fc) fm fk ft rt dX sc so sa sb oC oO oF fB fP fR fV fL (d + 1) (nI a)) ∧ (∀ post : Int32 → Prop, post r → wY_dominance_2 post (nI ca) st er (nI cc) ck (nI oc) (nI fc) fm fk ft pT rt dY sc so sa sb oC oO oF fB fP fR fV fL (d + 1) (nI a)) := by
  intro d
  induction d with
  | zero =>
    intro a ha
    have l : nI oc ≤ nI a := nI_le (by omega) (by omega)
    obtain ⟨r, rX, rY⟩ := od_dom3 (ca := ca) (cc := cc) (oc := oc) (fc := fc) (st := st) (er := er) (ck := ck) (fm := fm) (fk := fk) (ft := ft) (rt := rt) (dX := dX) (pT := pT) (dY := dY) (sc := sc) (so := so) (sa := sa) (sb := sb) (oC := oC) (oO := oO) (oF := oF) (fB := fB) (fP := fP) (fR := fR) (fV := fV) (fL := fL) hoc hfc hH hF fc 0 (by omega)
    exact ⟨r, fun post p => br_t l ⟨fc + 1, rX post p⟩, fun post p => br_t l ⟨fc + 1, rY post p⟩⟩
  | succ d ih =>
    intro a ha
    have l : ¬ nI oc ≤ nI a := nI_ge (by omega) (by omega)
    rcases od_dom1 (ca := ca) (cc := cc) (oc := oc) (fc := fc) (st := st) (er := er) (ck := ck) (fm := fm) (fk := fk) (ft := ft) (rt := rt) (dX := dX) (pT := pT) (dY := dY) (sc := sc) (so := so) (sa := sa) (sb := sb) (oC := oC) (oO := oO) (oF := oF) (fB := fB) (fP := fP) (fR := fR) (fV := fV) (fL := fL) hoc hH (a := a) (by omega) 4 0 rfl with ⟨kX, kY⟩ | ⟨kX, kY⟩
    · obtain ⟨r, rX, rY⟩ := ih (a + 1) (by omega)
      exact ⟨r, fun post p => br_f l ⟨5, kX post _ (rX post p)⟩, fun post p => br_f l ⟨5, kY post _ (rY post p)⟩⟩
    · exact ⟨0, fun post p => br_f l ⟨5, kX post _ p⟩, fun post p => br_f l ⟨5, kY post _ p⟩⟩
theorem od_dom (hoc : oc ≤ 32) (hfc : fc ≤ 8) (hH : od_H cc oc oC oO oF) (hF : od_F cc oc fc sc fB fP fR fV fL) :
    ∃ r : Int32, (∀ post : Int32 → Prop, post r → wpX_isDominated post (nI ca, st, er, ck, nI cc, nI oc, nI fc, fm, fk, ft, rt, dX, sc, so, sa, sb, oC, oO, oF, fB, fP, fR, fV, fL)) ∧ (∀ post : Int32 → Prop, post r → wpY_dominance post (nI ca, st, er, nI cc, ck, nI oc, nI fc, fm, fk, ft, pT, rt, dY, sc, so, sa, sb, oC, oO, oF, fB, fP, fR, fV, fL)) := by
  obtain ⟨r, rX, rY⟩ := od_dom4 (ca := ca) (cc := cc) (oc := oc) (fc := fc) (st := st) (er := er) (ck := ck) (fm := fm) (fk := fk) (ft := ft) (rt := rt) (dX := dX) (pT := pT) (dY := dY) (sc := sc) (so := so) (sa := sa) (sb := sb) (oC := oC) (oO := oO) (oF := oF) (fB := fB) (fP := fP) (fR := fR) (fV := fV) (fL := fL) hoc hfc hH hF oc 0 (by omega)
  exact ⟨r, fun post p => ⟨oc + 1, rX post p⟩, fun post p => ⟨oc + 1, rY post p⟩⟩
