variable {ca cc oc fc : Nat} {st er ck : Int32} {fm fk ft rt dX pT dY sc so sa sb oC oO oF fB fP fR fV fL : Nat → Int32}
/-- owners are older than what they own -/
def od_O (oc : Nat) (u : Nat → Int32) : Prop := ∀ w, w < oc → ∀ j, j < 3 → od_R w (u (w * 3 + j))
theorem od_own0 {R : Int32} {post : Int32 → Prop} (p : post (-1)) : wpX_ownerValue post (nI ca, st, er, ck, nI cc, nI oc, nI fc, fm, fk, ft, rt, dX, sc, so, sa, sb, oC, oO, oF, fB, fP, fR, fV, fL) 0 R := br_c (fun _ => p) (fun _ => br_t (by decide) p)
theorem od_own {a : Nat} (ha : a ≤ 4) {R : Int32} (hR : od_R oc R) (hoc : oc ≤ 32) (hO : od_O oc oO) :
    ∃ r : Int32, od_R oc r ∧ (∀ post : Int32 → Prop, post r → wpX_ownerValue post (nI ca, st, er, ck, nI cc, nI oc, nI fc, fm, fk, ft, rt, dX, sc, so, sa, sb, oC, oO, oF, fB, fP, fR, fV, fL) (nI a) R) ∧ (∀ post : Int32 → Prop, post r → wpY_val post (nI ca, st, er, nI cc, ck, nI oc, nI fc, fm, fk, ft, pT, rt, dY, sc, so, sa, sb, oC, oO, oF, fB, fP, fR, fV, fL) R (nI a)) := by
  rcases hR with rfl | ⟨w, hw, rfl⟩
  · refine ⟨-1, Or.inl rfl, fun post p => br_t rfl p, fun post p => ?_⟩
    by_cases h : a = 0
    · subst h; exact br_t rfl p
    · exact br_f (od_ne (k := 0) h (by omega) (by decide)) (br_f od_n0 p)
  · have nR : ¬ nI w = -1 := od_ne1 (by omega)
    have pR : (0 : Int32) ≤ nI w := nI_pos' (by omega)
    have v0 : vp_in (nI w * 3) 96 := od_v3 (by omega)
    have e0 : oO (nI w * 3).toNatClampNeg = oO (w * 3) := od_i3x (by omega)
    have v1 : vp_in (nI w * 3 + 1) 96 := by rw [od_i31]; exact vp_in_nI (by omega) (by decide)
    have e1 : oO (nI w * 3 + 1).toNatClampNeg = oO (w * 3 + 1) := by rw [od_i31, nI_clamp (by omega)]
    have v2 : vp_in (nI w * 3 + 2) 96 := by rw [od_i32]; exact vp_in_nI (by omega) (by decide)
    have e2 : oO (nI w * 3 + 2).toNatClampNeg = oO (w * 3 + 2) := by rw [od_i32, nI_clamp (by omega)]
    rcases (show a = 0 ∨ a = 1 ∨ a = 2 ∨ a = 3 ∨ a = 4 by omega) with rfl | rfl | rfl | rfl | rfl
    · exact ⟨-1, Or.inl rfl, fun post p => br_f nR (br_t (by decide) p), fun post p => br_t rfl p⟩
    · refine ⟨oO (w * 3), od_R_le (hO w hw 0 (by decide)) (by omega), fun post p => ?_, fun post p => ?_⟩
      · rw [← e0] at p
        exact br_f nR (br_f (by decide) (br_f (by decide) (br_t (by decide) ⟨v0, p⟩)))
      · rw [← e0] at p
        exact br_f (by decide) (br_t pR (br_f (by decide) (br_t (by decide) ⟨v0, p⟩)))
    · exact ⟨nI w, Or.inr ⟨w, hw, rfl⟩, fun post p => br_f nR (br_f (by decide) (br_f (by decide) (br_f (by decide) (br_t (by decide) p)))), fun post p => br_f (by decide) (br_t pR (br_t (by decide) p))⟩
    · refine ⟨oO (w * 3 + 1), od_R_le (hO w hw 1 (by decide)) (by omega), fun post p => ?_, fun post p => ?_⟩
      · rw [← e1] at p
        exact br_f nR (br_f (by decide) (br_f (by decide) (br_f (by decide) (br_f (by decide) (br_t (by decide) ⟨v1, p⟩)))))
      · rw [← e1] at p
        exact br_f (by decide) (br_t pR (br_f (by decide) (br_f (by decide) (br_t (by decide) ⟨v1, p⟩))))
    · refine ⟨oO (w * 3 + 2), od_R_le (hO w hw 2 (by decide)) (by omega), fun post p => ?_, fun post p => ?_⟩
      · rw [← e2] at p
        exact br_f nR (br_f (by decide) (br_f (by decide) (br_f (by decide) (br_f (by decide) (br_f (by decide) (br_t (by decide) ⟨v2, p⟩))))))
      · rw [← e2] at p
        exact br_f (by decide) (br_t pR (br_f (by decide) (br_f (by decide) (br_f (by decide) ⟨v2, p⟩))))
/-- the three owners of the new object -/
theorem od_new1 {f pc a t c m : Nat} {R : Int32} (hoc : oc < 32) (hR : od_R oc R) (ht : t < 65536) (hc : c < 8) (hm : m ≤ 2) (em : fm c = nI m) (hs : ∀ i, i ≤ m → od_sl t i ≤ 4) : ∀ d i (u : Nat → Int32), i + d = 3 → od_O oc u → (∀ j, j < i → od_R oc (u (oc * 3 + j))) →
    ∃ u' : Nat → Int32, od_O oc u' ∧ (∀ j, j < 3 → od_R oc (u' (oc * 3 + j))) ∧
      (∀ Q : SX → Prop, (∃ q, wX_stepNew_111 Q (nI a) (nI oc) (nI ca) st er ck (nI cc) (nI oc) (nI fc) q 0 fm fk ft rt dX sc so sa sb oC u' oF fB fP fR fV fL) → wX_stepNew_52 Q (nI a) (nI t) (nI oc) (nI c) R (nI ca) st er ck (nI cc) (nI oc) (nI fc) (d + 1) (nI i) fm fk ft rt dX sc so sa sb oC u oF fB fP fR fV fL) ∧
      (∀ post : SY → Prop, (∃ q, wY_step_235 post (nI f) (nI pc) (nI (f * 8)) (nI a) (nI oc) (nI ca) st er (nI cc) ck (nI oc) (nI fc) q 0 fm fk ft pT rt dY sc so sa sb oC u' oF fB fP fR fV fL) → wY_step_167 post (nI f) (nI pc) R (nI (f * 8)) (nI a) (nI t) (nI oc) (nI c) (nI ca) st er (nI cc) ck (nI oc) (nI fc) (d + 1) (nI i) fm fk ft pT rt dY sc so sa sb oC u oF fB fP fR fV fL) := by
  have vc : vp_in (nI c) 8 := vp_in_nI hc (by decide)
  have ef : fm (nI c).toNatClampNeg = nI m := (od_ef (by omega)).trans em
  intro d
  induction d with
  | zero =>
    intro i u hi hO hN
    obtain rfl : i = 3 := by omega
    exact ⟨u, hO, hN, fun Q p => br_t (by decide) p, fun post p => br_t (by decide) p⟩
  | succ d ih =>
    intro i u hi hO hN
    have n3 : ¬ (3 : Int32) ≤ nI i := nI_ge (b := 3) (by omega) (by decide)
    have v : vp_in (nI oc * 3 + nI i) 96 := by rw [od_i3]; exact vp_in_nI (by omega) (by decide)
    have eu : ∀ x : Int32, upd u (nI oc * 3 + nI i).toNatClampNeg x = upd u (oc * 3 + i) x := fun x => by rw [od_i3, nI_clamp (by omega)]
    have nO : ∀ x : Int32, od_O oc (upd u (oc * 3 + i) x) := fun x w hw j hj => by rw [pk_un (by omega)]; exact hO w hw j hj
    have nN : ∀ x : Int32, od_R oc x → ∀ j, j < i + 1 → od_R oc (upd u (oc * 3 + i) x (oc * 3 + j)) := by
      intro x hx j hj
      by_cases e : j = i
      · subst e; rw [pk_us]; exact hx
      · rw [pk_un (by omega)]; exact hN j (by omega)
    by_cases hmi : m < i
    · have l : fm (nI c).toNatClampNeg < nI i := by rw [ef]; exact nI_lt hmi (by omega)
      obtain ⟨u', h1, h2, kX, kY⟩ := ih (i + 1) (upd u (oc * 3 + i) (-1)) (by omega) (nO _) (nN _ (Or.inl rfl))
      exact ⟨u', h1, h2, fun Q p => br_f n3 ⟨vc, br_t l (od_own0 ⟨v, nm_r (eu _) (nm_r (nI_1 i) (kX Q p))⟩)⟩, fun post p => br_f n3 ⟨vc, br_t l ⟨v, nm_r (eu _) (nm_r (nI_1 i) (kY post p))⟩⟩⟩
    · have l : ¬ fm (nI c).toNatClampNeg < nI i := by rw [ef]; exact nI_nlt (by omega) (by omega)
      have es := od_slot (n := t) (i := i) (by omega) (by omega)
      obtain ⟨r, hr, rX, rY⟩ := od_own (ca := ca) (cc := cc) (oc := oc) (fc := fc) (st := st) (er := er) (ck := ck) (fm := fm) (fk := fk) (ft := ft) (rt := rt) (dX := dX) (pT := pT) (dY := dY) (sc := sc) (so := so) (sa := sa) (sb := sb) (oC := oC) (oO := u) (oF := oF) (fB := fB) (fP := fP) (fR := fR) (fV := fV) (fL := fL) (hs i (by omega)) hR (by omega) hO
      obtain ⟨u', h1, h2, kX, kY⟩ := ih (i + 1) (upd u (oc * 3 + i) r) (by omega) (nO _) (nN _ hr)
      exact ⟨u', h1, h2, fun Q p => br_f n3 ⟨vc, br_f l (od_xs' es (rX _ ⟨v, nm_r (eu _) (nm_r (nI_1 i) (kX Q p))⟩))⟩, fun post p => br_f n3 ⟨vc, br_f l (nm_r es (rY _ ⟨v, nm_r (eu _) (nm_r (nI_1 i) (kY post p))⟩))⟩⟩
theorem od_new2x {Q : SX → Prop} {f a pc : Nat} (hoc : oc < 32) (hf : f < 8) (ha : a < 8) (ep : fP f = nI pc) (p : Q (nI ca, st, er, ck, nI cc, nI (oc + 1), nI (f + 1), fm, fk, ft, rt, dX, sc, so, sa, sb, oC, oO, od_fill oF (oc * 4) 4, fB, upd fP f (nI (pc + 1)), fR, fV, upd fL (f * 8 + a) (nI oc))) : ∀ d i, i + d = 4 → wX_stepNew_111 Q (nI a) (nI oc) (nI ca) st er ck (nI cc) (nI oc) (nI (f + 1)) (d + 1) (nI i) fm fk ft rt dX sc so sa sb oC oO (od_fill oF (oc * 4) i) fB fP fR fV fL := by
  intro d
  induction d with
  | zero =>
    intro i hi
    obtain rfl : i = 4 := by omega
    exact br_t (by decide) (nm_r (nI_1 oc) (od_xassign hf ha ep p))
  | succ d ih =>
    intro i hi
    have e : upd (od_fill oF (oc * 4) i) (nI oc * 4 + nI i).toNatClampNeg (-1) = od_fill oF (oc * 4) (i + 1) := by rw [od_i4, nI_clamp (by omega)]; rfl
    exact br_f (nI_ge (b := 4) (by omega) (by decide)) ⟨od_v4 hoc (by omega), nm_r e (nm_r (nI_1 i) (ih (i + 1) (by omega)))⟩
theorem od_new2y {post : SY → Prop} {f a pc : Nat} (hoc : oc < 32) (hf : f < 8) (ha : a < 8) (p : wY_step_689 post (nI ca) st er (nI cc) ck (nI (oc + 1)) (nI (f + 1)) fm fk ft pT rt dY sc so sa sb oC oO (od_fill oF (oc * 4) 4) fB (upd fP f (nI (pc + 1))) fR fV (upd fL (f * 8 + a) (nI oc))) : ∀ d i, i + d = 4 → wY_step_235 post (nI f) (nI pc) (nI (f * 8)) (nI a) (nI oc) (nI ca) st er (nI cc) ck (nI oc) (nI (f + 1)) (d + 1) (nI i) fm fk ft pT rt dY sc so sa sb oC oO (od_fill oF (oc * 4) i) fB fP fR fV fL := by
  intro d
  induction d with
  | zero =>
    intro i hi
    obtain rfl : i = 4 := by omega
    have gN : upd fP (nI f).toNatClampNeg (nI pc + 1) = upd fP f (nI (pc + 1)) := by rw [nI_clamp (by omega), nI_1]
    exact br_t (by decide) (nm_r (nI_1 oc) ⟨od_w64 hf ha, nm_r (od_t64 hf ha) ⟨vp_in_nI hf (by decide), nm_r gN p⟩⟩)
  | succ d ih =>
    intro i hi
    have e : upd (od_fill oF (oc * 4) i) (nI oc * 4 + nI i).toNatClampNeg (-1) = od_fill oF (oc * 4) (i + 1) := by rw [od_i4, nI_clamp (by omega)]; rfl
    exact br_f (nI_ge (b := 4) (by omega) (by decide)) ⟨od_v4 hoc (by omega), nm_r e (nm_r (nI_1 i) (ih (i + 1) (by omega)))⟩
theorem od_Fw_oc {x y f b pc n : Nat} (h : od_Fw cc x sc fB fP fR fV fL f b pc n) (hxy : x ≤ y) : od_Fw cc y sc fB fP fR fV fL f b pc n := by
  obtain ⟨e1, e2, e3, e4, e5, e6, e7, e8⟩ := h
  refine ⟨e1, e2, e3, e4, e5, e6, fun h0 => ?_, fun v hv => od_R_le (e8 v hv) hxy⟩
  obtain ⟨q1, ⟨w, hw, q2⟩, q3⟩ := e7 h0
  exact ⟨q1, ⟨w, by omega, q2⟩, q3⟩
theorem od_H_new {c : Nat} {u' : Nat → Int32} (hH : od_H cc oc oC oO oF) (hc : c < cc) (h1 : od_O oc u') (h2 : ∀ j, j < 3 → od_R oc (u' (oc * 3 + j))) : od_H cc (oc + 1) (upd oC oc (nI c)) u' (od_fill oF (oc * 4) 4) := by
  intro o ho
  by_cases e : o = oc
  · subst e
    exact ⟨⟨c, hc, pk_us⟩, h2, fun f hf => Or.inl (od_fill_in _ _ 4 _ (by omega) (by omega))⟩
  · obtain ⟨⟨c', hc', e'⟩, -, q3⟩ := hH o (by omega)
    refine ⟨⟨c', hc', (pk_un e).trans e'⟩, h1 o (by omega), fun f hf => ?_⟩
    rw [od_fill_out _ _ 4 _ (by omega)]
    exact od_R_le (q3 f hf) (by omega)
theorem od_new {f b pc n a : Nat} (hA : od_All ca cc oc (f + 1) 1 ck fm fk dX pT dY sc so sa sb oC oO oF fB fP fR fV fL) (hw : od_Fw cc oc sc fB fP fR fV fL f b pc n) (hp : pc < n) (ha : a < 8) (eA : sa (b * 16 + pc) = nI a) (eO : so (b * 16 + pc) = 1) {t m : Nat} (ht : t < 65536) (eX : sb (b * 16 + pc) = nI t) (hc : t % 16 < cc) (hm : m ≤ 2) (em : fm (t % 16) = nI m) (hs : ∀ i, i ≤ m → od_sl t i ≤ 4) : (∃ (st' : Int32) (oc' fc' : Nat) (oC' oO' oF' fB' fP' fR' fV' fL' : Nat → Int32), od_All ca cc oc' fc' st' ck fm fk dX pT dY sc so sa sb oC' oO' oF' fB' fP' fR' fV' fL' ∧ ¬ st' = 0 ∧ (∀ post : SX → Prop, post (nI ca, st', er, ck, nI cc, nI oc', nI fc', fm, fk, ft, rt, dX, sc, so, sa, sb, oC', oO', oF', fB', fP', fR', fV', fL') → wpX_step post (nI ca, 1, er, ck, nI cc, nI oc, nI (f + 1), fm, fk, ft, rt, dX, sc, so, sa, sb, oC, oO, oF, fB, fP, fR, fV, fL)) ∧ (∀ post : SY → Prop, post (nI ca, st', er, nI cc, ck, nI oc', nI fc', fm, fk, ft, pT, rt, dY, sc, so, sa, sb, oC', oO', oF', fB', fP', fR', fV', fL') → wpY_step post (nI ca, 1, er, nI cc, ck, nI oc, nI (f + 1), fm, fk, ft, pT, rt, dY, sc, so, sa, sb, oC, oO, oF, fB, fP, fR, fV, fL))) := by
  obtain ⟨hP, hca, hoc, hfc, -, hM⟩ := id hA
  obtain ⟨hC, -, hH, hF⟩ := hM (by decide)
  have hcc := hP.2.1
  have hf : f < 8 := by omega
  obtain ⟨w1, w2, w3, w4, w5, w6, w7, w8⟩ := id hw
  have hb : b ≤ 8 := by
    by_cases h : f = 0
    · exact Nat.le_of_eq (w6 h).1
    · exact Nat.le_trans (Nat.le_of_lt (w7 (Nat.pos_of_ne_zero h)).1) hcc
  have vf : vp_in (nI f) 8 := vp_in_nI hf (by decide)
  have f0 : (0 : Int32) ≤ nI f := nI_pos' (by omega)
  have vb : vp_in (nI b) 9 := vp_in_nI (by omega) (by decide)
  have v : vp_in (nI (b * 16 + pc)) 144 := vp_in_nI (by omega) (by decide)
  have ec := nI_clamp (n := b * 16 + pc) (by omega)
  have gB : fB (nI f).toNatClampNeg = nI b := (od_ef (by omega)).trans w1
  have gP : fP (nI f).toNatClampNeg = nI pc := (od_ef (by omega)).trans w2
  have gS : sc (nI b).toNatClampNeg = nI n := (od_ef (by omega)).trans w4
  have gR : fR (nI f).toNatClampNeg = fR f := od_ef (by omega)
  have lt' : nI pc < sc (nI b).toNatClampNeg := by rw [gS]; exact nI_lt hp (by omega)
  have lt : fP (nI f).toNatClampNeg < sc (nI b).toNatClampNeg := by rw [gP]; exact lt'
  have e3 : nI b * 16 + fP (nI f).toNatClampNeg = nI (b * 16 + pc) := by rw [gP, od_i16]
  have gA : sa (nI (b * 16 + pc)).toNatClampNeg = nI a := by rw [ec]; exact eA
  have gA7 : sa (nI (b * 16 + pc)).toNatClampNeg &&& 7 = nI a := by rw [gA]; exact od_and7' ha
  have gO : so (nI (b * 16 + pc)).toNatClampNeg = _ := (congrArg so ec).trans eO
  have gX : sb (nI (b * 16 + pc)).toNatClampNeg = _ := (congrArg sb ec).trans eX
  have gN : upd fP (nI f).toNatClampNeg (nI pc + 1) = upd fP f (nI (pc + 1)) := by rw [nI_clamp (by omega), nI_1]
  by_cases hfull : oc < ca
  · have l : nI oc < nI ca := nI_lt hfull (by omega)
    have h32 : oc < 32 := by omega
    have hR : od_R oc (fR f) := by
      by_cases h : f = 0
      · exact Or.inl (w6 h).2
      · exact Or.inr (w7 (Nat.pos_of_ne_zero h)).2.1
    obtain ⟨u', h1, h2, kX, kY⟩ := od_new1 (ca := ca) (cc := cc) (oc := oc) (fc := f + 1) (st := 1) (er := er) (ck := ck) (fm := fm) (fk := fk) (ft := ft) (rt := rt) (dX := dX) (pT := pT) (dY := dY) (sc := sc) (so := so) (sa := sa) (sb := sb) (oC := upd oC oc (nI (t % 16))) (oF := oF) (fB := fB) (fP := fP) (fR := fR) (fV := fV) (fL := fL) (f := f) (pc := pc) (a := a) h32 hR ht (c := t % 16) (by omega) hm em hs 3 0 oO rfl (fun w hw j hj => (hH w hw).2.1 j hj) (fun j hj => absurd hj (Nat.not_lt_zero _))
    refine od_go1 (fc := f + 1) (fc' := f + 1) (oc' := oc + 1) (oC' := upd oC oc (nI (t % 16))) (oO' := u') (oF' := od_fill oF (oc * 4) 4) (fB' := fB) (fR' := fR) (fV' := fV) (fP' := upd fP f (nI (pc + 1))) (fL' := upd fL (f * 8 + a) (nI oc)) ⟨hP, hca, by omega, hfc, fun h => absurd h (by decide), fun _ => ⟨hC, by omega, od_H_new hH hc h1 h2, od_F_asg (od_F_oc hF (by omega)) (od_Fw_oc hw (by omega)) hp (Or.inr ⟨oc, by omega, rfl⟩)⟩⟩ ?_ ?_
    · intro Q p
      refine nm_r (nI_pred f) ⟨vf, nm_r gB ⟨vf, vb, br_t lt ⟨vf, nm_r e3 ⟨v, nm_r gA ⟨v, nm_r gX ⟨v, nm_r gO ?_⟩⟩⟩⟩⟩⟩
      refine br_f (by decide) (br_f (by decide) (br_t rfl (br_t l (nm_r (od_and15 (by omega)) ⟨by rw [nI_pred f]; exact vf, nm_r (e' := fR f) (by rw [nI_pred f]; exact gR) ⟨vp_in_nI h32 (by decide), nm_r (od_uf (by omega)) ⟨4, kX _ ⟨5, od_new2x h32 hf ha w2 p 4 0 rfl⟩⟩⟩⟩))))
    · intro post p
      refine nm_r (nI_pred f) (br_t f0 ⟨vf, nm_r gB ⟨vf, nm_r gP ⟨vf, nm_r gR (nm_r (od_m8 f) ⟨vb, br_t lt' (nm_r (od_i16 b pc) ⟨v, nm_r gO ⟨v, nm_r gA7 ⟨v, nm_r gX ?_⟩⟩⟩)⟩)⟩⟩⟩)
      have e7 : nI t &&& 7 = nI (t % 16) := by rw [od_and7 (by omega), show t % 8 = t % 16 by omega]
      exact nm_e (nm_e (br_t rfl (br_t l (nm_r e7 ⟨vp_in_nI h32 (by decide), nm_r (od_uf (by omega)) ⟨4, kY _ ⟨5, od_new2y h32 hf ha p 4 0 rfl⟩⟩⟩))))
  · have l : ¬ nI oc < nI ca := nI_nlt (by omega) (by omega)
    refine od_go2 (fc := f + 1) (s' := 5) hA (by decide) (by decide) ?_ ?_
    · intro Q p
      refine nm_r (nI_pred f) ⟨vf, nm_r gB ⟨vf, vb, br_t lt ⟨vf, nm_r e3 ⟨v, nm_r gA ⟨v, nm_r gX ⟨v, nm_r gO ?_⟩⟩⟩⟩⟩⟩
      exact br_f (by decide) (br_f (by decide) (br_t rfl (br_f l p)))
    · intro post p
      refine nm_r (nI_pred f) (br_t f0 ⟨vf, nm_r gB ⟨vf, nm_r gP ⟨vf, nm_r gR (nm_r (od_m8 f) ⟨vb, br_t lt' (nm_r (od_i16 b pc) ⟨v, nm_r gO ⟨v, nm_r gA7 ⟨v, nm_r gX ?_⟩⟩⟩)⟩)⟩⟩⟩)
      exact nm_e (nm_e (br_t rfl (br_f l p)))
