variable {ca cc oc fc : Nat} {st er ck : Int32} {fm fk ft rt dX pT dY sc so sa sb oC oO oF fB fP fR fV fL : Nat → Int32}
variable {oc' fc' : Nat} {oC' oO' oF' fB' fP' fR' fV' fL' : Nat → Int32}
/-! after a statement: the dominance test, or a status that ends the run -/
theorem od_go1 (hA : od_All ca cc oc' fc' 1 ck fm fk dX pT dY sc so sa sb oC' oO' oF' fB' fP' fR' fV' fL')
    (hX : ∀ Q : SX → Prop, Q (nI ca, 1, er, ck, nI cc, nI oc', nI fc', fm, fk, ft, rt, dX, sc, so, sa, sb, oC', oO', oF', fB', fP', fR', fV', fL') → wpX_execute Q (nI ca, 1, er, ck, nI cc, nI oc, nI fc, fm, fk, ft, rt, dX, sc, so, sa, sb, oC, oO, oF, fB, fP, fR, fV, fL))
    (hY : ∀ post : SY → Prop, wY_step_689 post (nI ca) 1 er (nI cc) ck (nI oc') (nI fc') fm fk ft pT rt dY sc so sa sb oC' oO' oF' fB' fP' fR' fV' fL' → wpY_step post (nI ca, 1, er, nI cc, ck, nI oc, nI fc, fm, fk, ft, pT, rt, dY, sc, so, sa, sb, oC, oO, oF, fB, fP, fR, fV, fL)) : (∃ (st' : Int32) (oc' fc' : Nat) (oC' oO' oF' fB' fP' fR' fV' fL' : Nat → Int32), od_All ca cc oc' fc' st' ck fm fk dX pT dY sc so sa sb oC' oO' oF' fB' fP' fR' fV' fL' ∧ ¬ st' = 0 ∧ (∀ post : SX → Prop, post (nI ca, st', er, ck, nI cc, nI oc', nI fc', fm, fk, ft, rt, dX, sc, so, sa, sb, oC', oO', oF', fB', fP', fR', fV', fL') → wpX_step post (nI ca, 1, er, ck, nI cc, nI oc, nI fc, fm, fk, ft, rt, dX, sc, so, sa, sb, oC, oO, oF, fB, fP, fR, fV, fL)) ∧ (∀ post : SY → Prop, post (nI ca, st', er, nI cc, ck, nI oc', nI fc', fm, fk, ft, pT, rt, dY, sc, so, sa, sb, oC', oO', oF', fB', fP', fR', fV', fL') → wpY_step post (nI ca, 1, er, nI cc, ck, nI oc, nI fc, fm, fk, ft, pT, rt, dY, sc, so, sa, sb, oC, oO, oF, fB, fP, fR, fV, fL))) := by
  obtain ⟨hP, hca, hoc, hfc, h0, hM⟩ := hA
  have hM := hM (by decide)
  obtain ⟨r, rX, rY⟩ := od_dom (ca := ca) (cc := cc) (oc := oc') (fc := fc') (st := 1) (er := er) (ck := ck) (fm := fm) (fk := fk) (ft := ft) (rt := rt) (dX := dX) (pT := pT) (dY := dY) (sc := sc) (so := so) (sa := sa) (sb := sb) (oC := oC') (oO := oO') (oF := oF') (fB := fB') (fP := fP') (fR := fR') (fV := fV') (fL := fL') (by omega) hfc hM.2.2.1 hM.2.2.2
  by_cases hr : r = 0
  · refine ⟨6, oc', fc', oC', oO', oF', fB', fP', fR', fV', fL', ⟨hP, hca, hoc, hfc, fun h => absurd h (by decide), fun _ => hM⟩, by decide, fun post p => ?_, fun post p => hY post (rY _ (br_t hr p))⟩
    unfold wpX_step
    exact hX _ (br_t rfl (rX _ (br_t hr p)))
  · refine ⟨1, oc', fc', oC', oO', oF', fB', fP', fR', fV', fL', ⟨hP, hca, hoc, hfc, fun h => absurd h (by decide), fun _ => hM⟩, by decide, fun post p => ?_, fun post p => hY post (rY _ (br_f hr p))⟩
    unfold wpX_step
    exact hX _ (br_t rfl (rX _ (br_f hr p)))
theorem od_go2 {s' : Int32} (hA : od_All ca cc oc fc 1 ck fm fk dX pT dY sc so sa sb oC oO oF fB fP fR fV fL) (h0 : ¬ s' = 0) (h1 : ¬ s' = 1)
    (hX : ∀ Q : SX → Prop, Q (nI ca, s', er, ck, nI cc, nI oc, nI fc, fm, fk, ft, rt, dX, sc, so, sa, sb, oC, oO, oF, fB, fP, fR, fV, fL) → wpX_execute Q (nI ca, 1, er, ck, nI cc, nI oc, nI fc, fm, fk, ft, rt, dX, sc, so, sa, sb, oC, oO, oF, fB, fP, fR, fV, fL))
    (hY : ∀ post : SY → Prop, post (nI ca, s', er, nI cc, ck, nI oc, nI fc, fm, fk, ft, pT, rt, dY, sc, so, sa, sb, oC, oO, oF, fB, fP, fR, fV, fL) → wpY_step post (nI ca, 1, er, nI cc, ck, nI oc, nI fc, fm, fk, ft, pT, rt, dY, sc, so, sa, sb, oC, oO, oF, fB, fP, fR, fV, fL)) : (∃ (st' : Int32) (oc' fc' : Nat) (oC' oO' oF' fB' fP' fR' fV' fL' : Nat → Int32), od_All ca cc oc' fc' st' ck fm fk dX pT dY sc so sa sb oC' oO' oF' fB' fP' fR' fV' fL' ∧ ¬ st' = 0 ∧ (∀ post : SX → Prop, post (nI ca, st', er, ck, nI cc, nI oc', nI fc', fm, fk, ft, rt, dX, sc, so, sa, sb, oC', oO', oF', fB', fP', fR', fV', fL') → wpX_step post (nI ca, 1, er, ck, nI cc, nI oc, nI fc, fm, fk, ft, rt, dX, sc, so, sa, sb, oC, oO, oF, fB, fP, fR, fV, fL)) ∧ (∀ post : SY → Prop, post (nI ca, st', er, nI cc, ck, nI oc', nI fc', fm, fk, ft, pT, rt, dY, sc, so, sa, sb, oC', oO', oF', fB', fP', fR', fV', fL') → wpY_step post (nI ca, 1, er, nI cc, ck, nI oc, nI fc, fm, fk, ft, pT, rt, dY, sc, so, sa, sb, oC, oO, oF, fB, fP, fR, fV, fL))) := by
  obtain ⟨hP, hca, hoc, hfc, -, hM⟩ := hA
  refine ⟨s', oc, fc, oC, oO, oF, fB, fP, fR, fV, fL, ⟨hP, hca, hoc, hfc, fun h => absurd h h0, fun _ => hM (by decide)⟩, h0, fun post p => ?_, fun post p => hY post p⟩
  unfold wpX_step
  exact hX _ (br_f h1 p)
/-! frames -/
theorem od_R_upd {g : Nat → Int32} {k i : Nat} {x : Int32} (hx : od_R oc x) (h : od_R oc (g i)) : od_R oc (upd g k x i) := by
  unfold upd
  split
  · exact hx
  · exact h
theorem od_R_le {a b : Nat} {x : Int32} (h : od_R a x) (hab : a ≤ b) : od_R b x := by
  rcases h with h | ⟨w, hw, e⟩
  · exact Or.inl h
  · exact Or.inr ⟨w, by omega, e⟩
theorem od_v64 {f v : Nat} (hf : f < 8) (hv : v < 8) : vp_in (nI f * 8 + nI v) 64 := by rw [od_i8]; exact vp_in_nI (by omega) (by decide)
theorem od_e64 {g : Nat → Int32} {f v : Nat} (hf : f < 8) (hv : v < 8) : g (nI f * 8 + nI v).toNatClampNeg = g (f * 8 + v) := by rw [od_i8, nI_clamp (by omega)]
theorem od_u64 {g : Nat → Int32} {f v : Nat} {x : Int32} (hf : f < 8) (hv : v < 8) : upd g (nI f * 8 + nI v).toNatClampNeg x = upd g (f * 8 + v) x := by rw [od_i8, nI_clamp (by omega)]
theorem od_w64 {f v : Nat} (hf : f < 8) (hv : v < 8) : vp_in (nI (f * 8) + nI v) 64 := by rw [nI_add]; exact vp_in_nI (by omega) (by decide)
theorem od_g64 {g : Nat → Int32} {f v : Nat} (hf : f < 8) (hv : v < 8) : g (nI (f * 8) + nI v).toNatClampNeg = g (f * 8 + v) := by rw [nI_add, nI_clamp (by omega)]
theorem od_t64 {g : Nat → Int32} {f v : Nat} {x : Int32} (hf : f < 8) (hv : v < 8) : upd g (nI (f * 8) + nI v).toNatClampNeg x = upd g (f * 8 + v) x := by rw [nI_add, nI_clamp (by omega)]
theorem od_ef {g : Nat → Int32} {f : Nat} (hf : f < 2 ^ 31) : g (nI f).toNatClampNeg = g f := by rw [nI_clamp hf]
theorem od_uf {g : Nat → Int32} {f : Nat} {x : Int32} (hf : f < 2 ^ 31) : upd g (nI f).toNatClampNeg x = upd g f x := by rw [nI_clamp hf]
/-- a frame with its body, next statement and number of statements named -/
def od_Fw (cc oc : Nat) (sc fB fP fR fV fL : Nat → Int32) (f b p n : Nat) : Prop := fB f = nI b ∧ fP f = nI p ∧ n ≤ 16 ∧ sc b = nI n ∧ p ≤ n ∧ (f = 0 → b = 8 ∧ fR f = -1) ∧ (0 < f → b < cc ∧ (∃ w, w < oc ∧ fR f = nI w) ∧ (∃ v, v < 8 ∧ fV f = nI v)) ∧ (∀ v, v < 8 → od_R oc (fL (f * 8 + v)))
/-- the top frame's value and next statement -/
theorem od_F_asg {f a b pc n : Nat} {x : Int32} (hF : od_F cc oc (f + 1) sc fB fP fR fV fL) (hw : od_Fw cc oc sc fB fP fR fV fL f b pc n) (hp : pc < n) (hx : od_R oc x) :
    od_F cc oc (f + 1) sc fB (upd fP f (nI (pc + 1))) fR fV (upd fL (f * 8 + a) x) := by
  intro j hj
  by_cases e : j = f
  · subst e
    obtain ⟨e1, e2, e3, e4, e5, e6, e7, e8⟩ := hw
    exact ⟨b, pc + 1, n, e1, pk_us, e3, e4, by omega, e6, e7, fun v hv => od_R_upd hx (e8 v hv)⟩
  · obtain ⟨b', p', n', e1, e2, e3, e4, e5, e6, e7, e8⟩ := hF j hj
    exact ⟨b', p', n', e1, (pk_un e).trans e2, e3, e4, e5, e6, e7, fun v hv => od_R_upd hx (e8 v hv)⟩
theorem od_F_pc {f b pc n : Nat} (hF : od_F cc oc (f + 1) sc fB fP fR fV fL) (hw : od_Fw cc oc sc fB fP fR fV fL f b pc n) (hp : pc < n) :
    od_F cc oc (f + 1) sc fB (upd fP f (nI (pc + 1))) fR fV fL := by
  intro j hj
  by_cases e : j = f
  · subst e
    obtain ⟨e1, e2, e3, e4, e5, e6, e7, e8⟩ := hw
    exact ⟨b, pc + 1, n, e1, pk_us, e3, e4, by omega, e6, e7, e8⟩
  · obtain ⟨b', p', n', e1, e2, e3, e4, e5, e6, e7, e8⟩ := hF j hj
    exact ⟨b', p', n', e1, (pk_un e).trans e2, e3, e4, e5, e6, e7, e8⟩
theorem od_F_pop {f k : Nat} {x : Int32} (hF : od_F cc oc (f + 1 + 1) sc fB fP fR fV fL) (hx : od_R oc x) : od_F cc oc (f + 1) sc fB fP fR fV (upd fL k x) := by
  intro j hj
  obtain ⟨b', p', n', e1, e2, e3, e4, e5, e6, e7, e8⟩ := hF j (by omega)
  exact ⟨b', p', n', e1, e2, e3, e4, e5, e6, e7, fun v hv => od_R_upd hx (e8 v hv)⟩
theorem od_F_oc {a b : Nat} (hF : od_F cc a fc sc fB fP fR fV fL) (h : a ≤ b) : od_F cc b fc sc fB fP fR fV fL := by
  intro j hj
  obtain ⟨b', p', n', e1, e2, e3, e4, e5, e6, e7, e8⟩ := hF j hj
  refine ⟨b', p', n', e1, e2, e3, e4, e5, e6, fun h0 => ?_, fun v hv => od_R_le (e8 v hv) h⟩
  obtain ⟨q1, ⟨w, hw, q2⟩, q3⟩ := e7 h0
  exact ⟨q1, ⟨w, by omega, q2⟩, q3⟩
theorem od_xassign {Q : SX → Prop} {f a pc : Nat} {x : Int32} (hf : f < 8) (ha : a < 8) (ep : fP f = nI pc) (p : Q (nI ca, st, er, ck, nI cc, nI oc, nI (f + 1), fm, fk, ft, rt, dX, sc, so, sa, sb, oC, oO, oF, fB, upd fP f (nI (pc + 1)), fR, fV, upd fL (f * 8 + a) x)) : wpX_assign Q (nI ca, st, er, ck, nI cc, nI oc, nI (f + 1), fm, fk, ft, rt, dX, sc, so, sa, sb, oC, oO, oF, fB, fP, fR, fV, fL) (nI a) x := by
  have v : vp_in (nI f) 8 := vp_in_nI hf (by decide)
  have e : upd fP (nI f).toNatClampNeg (fP (nI f).toNatClampNeg + 1) = upd fP f (nI (pc + 1)) := by rw [nI_clamp (by omega), ep, nI_1]
  exact nm_r (nI_pred f) ⟨od_v64 hf ha, nm_r (od_u64 hf ha) ⟨v, v, nm_r e p⟩⟩
/-- X's road to the statement -/
theorem od_xpop {Q : SX → Prop} {g v : Nat} {x : Int32} (hg : g + 1 < 8) (hv : v < 8) (ev : fV (g + 1) = nI v) (p : Q (nI ca, st, er, ck, nI cc, nI oc, nI (g + 1), fm, fk, ft, rt, dX, sc, so, sa, sb, oC, oO, oF, fB, fP, fR, fV, upd fL (g * 8 + v) x)) : wpX_popFrame Q (nI ca, st, er, ck, nI cc, nI oc, nI (g + 1 + 1), fm, fk, ft, rt, dX, sc, so, sa, sb, oC, oO, oF, fB, fP, fR, fV, fL) x := by
  have ve : fV (nI (g + 1)).toNatClampNeg = nI v := by rw [nI_clamp (by omega)]; exact ev
  refine nm_r (nI_pred (g + 1)) (nm_r (nI_pred g) (nm_r (nI_pred (g + 1)) ⟨vp_in_nI hg (by decide), ?_⟩))
  rw [ve]
  exact ⟨od_v64 (by omega) hv, nm_r (od_u64 (by omega) hv) p⟩
theorem od_ypop {Q : SY → Prop} {g v : Nat} {x : Int32} (hg : g + 1 < 8) (hv : v < 8) (ev : fV (g + 1) = nI v) (p : Q (nI ca, st, er, nI cc, ck, nI oc, nI (g + 1), fm, fk, ft, pT, rt, dY, sc, so, sa, sb, oC, oO, oF, fB, fP, fR, fV, upd fL (g * 8 + v) x)) : wpY_popWith Q (nI ca, st, er, nI cc, ck, nI oc, nI (g + 1 + 1), fm, fk, ft, pT, rt, dY, sc, so, sa, sb, oC, oO, oF, fB, fP, fR, fV, fL) x := by
  have e1 : nI (g + 1 + 1) - 1 = nI (g + 1) := nI_pred (g + 1)
  have ve : fV (nI (g + 1 + 1) - 1).toNatClampNeg = nI v := by rw [e1, nI_clamp (by omega)]; exact ev
  refine br_t (nI_lt (a := 1) (by omega) (by omega)) ⟨by rw [e1]; exact vp_in_nI hg (by decide), nm_r ve (nm_r e1 (br_f (nI_pos (by omega)) (br_f (nI_ge (b := 8) hv (by decide)) ?_)))⟩
  rw [nI_pred g]
  exact ⟨od_v64 (by omega) hv, nm_r (od_u64 (by omega) hv) p⟩
