variable {ca cc oc fc : Nat} {st er ck : Int32} {fm fk ft rt dX pT dY sc so sa sb oC oO oF fB fP fR fV fL : Nat → Int32}
theorem od_call2 {post : SY → Prop} {f q h : Nat} (hf : f + 1 < 8) (hq : q < 8) (p : wY_step_689 post (nI ca) st er (nI cc) ck (nI oc) (nI (f + 1 + 1)) fm fk ft pT rt dY sc so sa sb oC oO oF fB fP fR fV (upd (upd (od_fill fL ((f + 1) * 8) 8) ((f + 1) * 8) (nI h)) ((f + 1) * 8 + 1) (upd (od_fill fL ((f + 1) * 8) 8) ((f + 1) * 8) (nI h) (f * 8 + q)))) : ∀ d i, i + d = 8 →
    wY_step_601 post (nI (f * 8)) (nI q) (nI h) (nI (f + 1)) (nI ((f + 1) * 8)) (nI ca) st er (nI cc) ck (nI oc) (nI (f + 1)) (d + 1) (nI i) fm fk ft pT rt dY sc so sa sb oC oO oF fB fP fR fV (od_fill fL ((f + 1) * 8) i) := by
  intro d
  induction d with
  | zero =>
    intro i hi
    obtain rfl : i = 8 := by omega
    have e1 : nI ((f + 1) * 8) + 1 = nI ((f + 1) * 8 + 1) := nI_1 _
    refine br_t (by decide) ⟨vp_in_nI (by omega) (by decide), nm_r (od_uf (by omega)) ⟨od_w64 (by omega) hq, ?_⟩⟩
    rw [e1]
    exact ⟨vp_in_nI (by omega) (by decide), nm_r ((od_uf (by omega)).trans (congrArg _ (od_g64 (by omega) hq))) (nm_r (nI_1 (f + 1)) p)⟩
  | succ d ih =>
    intro i hi
    have e : upd (od_fill fL ((f + 1) * 8) i) (nI ((f + 1) * 8) + nI i).toNatClampNeg (-1) = od_fill fL ((f + 1) * 8) (i + 1) := by rw [nI_add, nI_clamp (by omega)]; rfl
    exact br_f (nI_ge (b := 8) (by omega) (by decide)) ⟨od_w64 hf (by omega), nm_r e (nm_r (nI_1 i) (ih (i + 1) (by omega)))⟩
theorem od_F_call {f b pc n a h c q : Nat} (hsc : ∀ c, ∃ n, n ≤ 16 ∧ sc c = nI n) (hF : od_F cc oc (f + 1) sc fB fP fR fV fL) (hw : od_Fw cc oc sc fB fP fR fV fL f b pc n) (hp : pc < n) (ha : a < 8) (hq : q < 8) (hh : h < oc) (hc : c < cc) (ec : oC h = nI c) :
    od_F cc oc (f + 1 + 1) sc (upd fB (f + 1) (oC h)) (upd (upd fP f (nI (pc + 1))) (f + 1) 0) (upd fR (f + 1) (nI h)) (upd fV (f + 1) (nI a)) (upd (upd (od_fill fL ((f + 1) * 8) 8) ((f + 1) * 8) (nI h)) ((f + 1) * 8 + 1) (upd (od_fill fL ((f + 1) * 8) 8) ((f + 1) * 8) (nI h) (f * 8 + q))) := by
  have rh : od_R oc (nI h) := Or.inr ⟨h, hh, rfl⟩
  have rq : od_R oc (upd (od_fill fL ((f + 1) * 8) 8) ((f + 1) * 8) (nI h) (f * 8 + q)) := by
    refine od_R_upd rh ?_
    rw [od_fill_out _ _ 8 _ (by omega)]
    exact hw.2.2.2.2.2.2.2 q hq
  intro j hj
  by_cases e : j = f + 1
  · subst e
    obtain ⟨m, hm, em⟩ := hsc c
    refine ⟨c, 0, m, pk_us.trans ec, pk_us, hm, em, Nat.zero_le _, fun h => absurd h (Nat.succ_ne_zero f), fun _ => ⟨hc, ⟨h, hh, pk_us⟩, ⟨a, ha, pk_us⟩⟩, fun v hv => od_R_upd rq (od_R_upd rh (Or.inl (od_fill_in _ _ 8 _ (by omega) (by omega))))⟩
  · obtain ⟨b', p', n', e1, e2, e3, e4, e5, e6, e7, e8⟩ := od_F_pc hF hw hp j (by omega)
    refine ⟨b', p', n', (pk_un e).trans e1, (pk_un e).trans e2, e3, e4, e5, ?_, ?_, fun v hv => od_R_upd rq (od_R_upd rh ?_)⟩
    · rw [pk_un e]; exact e6
    · rw [pk_un e, pk_un e]; exact e7
    · rw [od_fill_out _ _ 8 _ (by omega)]; exact e8 v hv
theorem od_call {f b pc n a : Nat} (hA : od_All ca cc oc (f + 1) 1 ck fm fk dX pT dY sc so sa sb oC oO oF fB fP fR fV fL) (hw : od_Fw cc oc sc fB fP fR fV fL f b pc n) (hp : pc < n) (ha : a < 8) (eA : sa (b * 16 + pc) = nI a) (eO : so (b * 16 + pc) = 5) {y : Nat} (hy : y < 64) (eX : sb (b * 16 + pc) = nI y) : (∃ (st' : Int32) (oc' fc' : Nat) (oC' oO' oF' fB' fP' fR' fV' fL' : Nat → Int32), od_All ca cc oc' fc' st' ck fm fk dX pT dY sc so sa sb oC' oO' oF' fB' fP' fR' fV' fL' ∧ ¬ st' = 0 ∧ (∀ post : SX → Prop, post (nI ca, st', er, ck, nI cc, nI oc', nI fc', fm, fk, ft, rt, dX, sc, so, sa, sb, oC', oO', oF', fB', fP', fR', fV', fL') → wpX_step post (nI ca, 1, er, ck, nI cc, nI oc, nI (f + 1), fm, fk, ft, rt, dX, sc, so, sa, sb, oC, oO, oF, fB, fP, fR, fV, fL)) ∧ (∀ post : SY → Prop, post (nI ca, st', er, nI cc, ck, nI oc', nI fc', fm, fk, ft, pT, rt, dY, sc, so, sa, sb, oC', oO', oF', fB', fP', fR', fV', fL') → wpY_step post (nI ca, 1, er, nI cc, ck, nI oc, nI (f + 1), fm, fk, ft, pT, rt, dY, sc, so, sa, sb, oC, oO, oF, fB, fP, fR, fV, fL))) := by
  obtain ⟨hP, hca, hoc, hfc, -, hM⟩ := id hA
  obtain ⟨hC, -, hH, hF⟩ := hM (by decide)
  have hcc := hP.2.1
  have hf : f < 8 := by omega
  obtain ⟨w1, w2, w3, w4, w5, w6, w7, w8⟩ := id hw
  have hb : b ≤ 8 := by
    by_cases h : f = 0
    · exact Nat.le_of_eq (w6 h).1
    · exact Nat.le_trans (Nat.le_of_lt (w7 (Nat.pos_of_ne_zero h)).1) hcc
  have vf : vp_in (nI f) 8 := vp_in_nI hf (by decide)
  have f0 : (0 : Int32) ≤ nI f := nI_pos' (by omega)
  have vb : vp_in (nI b) 9 := vp_in_nI (by omega) (by decide)
  have v : vp_in (nI (b * 16 + pc)) 144 := vp_in_nI (by omega) (by decide)
  have ec := nI_clamp (n := b * 16 + pc) (by omega)
  have gB : fB (nI f).toNatClampNeg = nI b := (od_ef (by omega)).trans w1
  have gP : fP (nI f).toNatClampNeg = nI pc := (od_ef (by omega)).trans w2
  have gS : sc (nI b).toNatClampNeg = nI n := (od_ef (by omega)).trans w4
  have gR : fR (nI f).toNatClampNeg = fR f := od_ef (by omega)
  have lt' : nI pc < sc (nI b).toNatClampNeg := by rw [gS]; exact nI_lt hp (by omega)
  have lt : fP (nI f).toNatClampNeg < sc (nI b).toNatClampNeg := by rw [gP]; exact lt'
  have e3 : nI b * 16 + fP (nI f).toNatClampNeg = nI (b * 16 + pc) := by rw [gP, od_i16]
  have gA : sa (nI (b * 16 + pc)).toNatClampNeg = nI a := by rw [ec]; exact eA
  have gA7 : sa (nI (b * 16 + pc)).toNatClampNeg &&& 7 = nI a := by rw [gA]; exact od_and7' ha
  have gO : so (nI (b * 16 + pc)).toNatClampNeg = _ := (congrArg so ec).trans eO
  have gX : sb (nI (b * 16 + pc)).toNatClampNeg = _ := (congrArg sb ec).trans eX
  have gN : upd fP (nI f).toNatClampNeg (nI pc + 1) = upd fP f (nI (pc + 1)) := by rw [nI_clamp (by omega), nI_1]
  have h8 : y % 8 < 8 := by omega
  have hq : y / 8 < 8 := by omega
  have z8 : ¬ (8 : Int32) = 0 := by decide
  rcases w8 (y % 8) h8 with eh | ⟨h, hh, eh⟩
  · refine od_go2 (fc := f + 1) (s' := 3) hA (by decide) (by decide) ?_ ?_
    · intro Q p
      refine nm_r (nI_pred f) ⟨vf, nm_r gB ⟨vf, vb, br_t lt ⟨vf, nm_r e3 ⟨v, nm_r gA ⟨v, nm_r gX ⟨v, nm_r gO ?_⟩⟩⟩⟩⟩⟩
      refine br_f (by decide) (br_f (by decide) (br_f (by decide) (br_f (by decide) (br_f (by decide) (br_f (by decide) (br_t rfl ⟨z8, z8, ?_⟩))))))
      rw [od_rm (by omega), od_dv (by omega)]
      exact nm_r (nI_pred f) ⟨od_v64 hf h8, nm_r ((od_e64 (g := fL) hf h8).trans eh) (br_t rfl p)⟩
    · intro post p
      refine nm_r (nI_pred f) (br_t f0 ⟨vf, nm_r gB ⟨vf, nm_r gP ⟨vf, nm_r gR (nm_r (od_m8 f) ⟨vb, br_t lt' (nm_r (od_i16 b pc) ⟨v, nm_r gO ⟨v, nm_r gA7 ⟨v, nm_r gX ?_⟩⟩⟩)⟩)⟩⟩⟩)
      exact nm_r (od_and7 (by omega)) (nm_r (od_b7 (by omega)) (br_f (by decide) (br_f (by decide) (br_f (by decide) (br_f (by decide) (br_f (by decide) (br_t rfl ⟨od_w64 hf h8, nm_r ((od_g64 (g := fL) hf h8).trans eh) (br_f od_n0 p)⟩)))))))
  · have h32 : h < 32 := by omega
    have nh : ¬ nI h = -1 := od_ne1 (by omega)
    have ph : (0 : Int32) ≤ nI h := nI_pos' (by omega)
    by_cases hd : f + 1 < 8
    · have l : nI (f + 1) < 8 := nI_lt (b := 8) hd (by decide)
      have vn : vp_in (nI (f + 1)) 8 := vp_in_nI hd (by decide)
      obtain ⟨c, hc, ec'⟩ := (hH h hh).1
      refine od_go1 (fc := f + 1) (fc' := f + 1 + 1) (oc' := oc) (oC' := oC) (oO' := oO) (oF' := oF) (fB' := upd fB (f + 1) (oC h)) (fR' := upd fR (f + 1) (nI h)) (fV' := upd fV (f + 1) (nI a)) (fP' := upd (upd fP f (nI (pc + 1))) (f + 1) 0) (fL' := upd (upd (od_fill fL ((f + 1) * 8) 8) ((f + 1) * 8) (nI h)) ((f + 1) * 8 + 1) (upd (od_fill fL ((f + 1) * 8) 8) ((f + 1) * 8) (nI h) (f * 8 + y / 8))) ⟨hP, hca, hoc, by omega, fun h => absurd h (by decide), fun _ => ⟨hC, by omega, hH, od_F_call hP.2.2.2.2.1 hF hw hp ha hq hh hc ec'⟩⟩ ?_ ?_
      · intro Q p
        refine nm_r (nI_pred f) ⟨vf, nm_r gB ⟨vf, vb, br_t lt ⟨vf, nm_r e3 ⟨v, nm_r gA ⟨v, nm_r gX ⟨v, nm_r gO ?_⟩⟩⟩⟩⟩⟩
        refine br_f (by decide) (br_f (by decide) (br_f (by decide) (br_f (by decide) (br_f (by decide) (br_f (by decide) (br_t rfl ⟨z8, z8, ?_⟩))))))
        rw [od_rm (by omega), od_dv (by omega)]
        refine nm_r (nI_pred f) ⟨od_v64 hf h8, nm_r ((od_e64 (g := fL) hf h8).trans eh) (br_f nh (br_t l ⟨vf, vf, nm_r (e' := upd fP f (nI (pc + 1))) ?_ ⟨vp_in_nI h32 (by decide), ?_⟩⟩))⟩
        · rw [gP]; exact gN
        · rw [od_ef (g := oC) (f := h) (by omega)]
          refine od_push (f := f + 1) hd (nm_r (nI_pred (f + 1)) ?_)
          rw [od_i80, od_i81]
          exact ⟨vp_in_nI (by omega) (by decide), nm_r (od_uf (by omega)) ⟨od_v64 hf hq, vp_in_nI (by omega) (by decide), nm_r ((od_uf (by omega)).trans (congrArg _ (od_e64 hf hq))) p⟩⟩
      · intro post p
        refine nm_r (nI_pred f) (br_t f0 ⟨vf, nm_r gB ⟨vf, nm_r gP ⟨vf, nm_r gR (nm_r (od_m8 f) ⟨vb, br_t lt' (nm_r (od_i16 b pc) ⟨v, nm_r gO ⟨v, nm_r gA7 ⟨v, nm_r gX ?_⟩⟩⟩)⟩)⟩⟩⟩)
        refine nm_r (od_and7 (by omega)) (nm_r (od_b7 (by omega)) (br_f (by decide) (br_f (by decide) (br_f (by decide) (br_f (by decide) (br_f (by decide) (br_t rfl ⟨od_w64 hf h8, nm_r ((od_g64 (g := fL) hf h8).trans eh) (br_t ph (br_t l ⟨vf, nm_r gN (nm_r (od_m8 (f + 1)) ⟨vp_in_nI h32 (by decide), vn, ?_⟩)⟩))⟩)))))))
        rw [od_ef (g := oC) (f := h) (by omega)]
        exact nm_r (od_uf (by omega)) ⟨vn, nm_r (od_uf (by omega)) ⟨vn, nm_r (od_uf (by omega)) ⟨vn, nm_r (od_uf (by omega)) ⟨9, od_call2 hd hq p 8 0 rfl⟩⟩⟩⟩
    · have l : ¬ nI (f + 1) < 8 := nI_nlt (b := 8) (by omega) (by omega)
      refine od_go2 (fc := f + 1) (s' := 4) hA (by decide) (by decide) ?_ ?_
      · intro Q p
        refine nm_r (nI_pred f) ⟨vf, nm_r gB ⟨vf, vb, br_t lt ⟨vf, nm_r e3 ⟨v, nm_r gA ⟨v, nm_r gX ⟨v, nm_r gO ?_⟩⟩⟩⟩⟩⟩
        refine br_f (by decide) (br_f (by decide) (br_f (by decide) (br_f (by decide) (br_f (by decide) (br_f (by decide) (br_t rfl ⟨z8, z8, ?_⟩))))))
        rw [od_rm (by omega), od_dv (by omega)]
        exact nm_r (nI_pred f) ⟨od_v64 hf h8, nm_r ((od_e64 (g := fL) hf h8).trans eh) (br_f nh (br_f l p))⟩
      · intro post p
        refine nm_r (nI_pred f) (br_t f0 ⟨vf, nm_r gB ⟨vf, nm_r gP ⟨vf, nm_r gR (nm_r (od_m8 f) ⟨vb, br_t lt' (nm_r (od_i16 b pc) ⟨v, nm_r gO ⟨v, nm_r gA7 ⟨v, nm_r gX ?_⟩⟩⟩)⟩)⟩⟩⟩)
        exact nm_r (od_and7 (by omega)) (nm_r (od_b7 (by omega)) (br_f (by decide) (br_f (by decide) (br_f (by decide) (br_f (by decide) (br_f (by decide) (br_t rfl ⟨od_w64 hf h8, nm_r ((od_g64 (g := fL) hf h8).trans eh) (br_t ph (br_f l p))⟩)))))))
theorem od_end {f b pc n : Nat} (hA : od_All ca cc oc (f + 1) 1 ck fm fk dX pT dY sc so sa sb oC oO oF fB fP fR fV fL) (hw : od_Fw cc oc sc fB fP fR fV fL f b pc n) (hp : ¬ pc < n) (hf1 : 0 < f) : (∃ (st' : Int32) (oc' fc' : Nat) (oC' oO' oF' fB' fP' fR' fV' fL' : Nat → Int32), od_All ca cc oc' fc' st' ck fm fk dX pT dY sc so sa sb oC' oO' oF' fB' fP' fR' fV' fL' ∧ ¬ st' = 0 ∧ (∀ post : SX → Prop, post (nI ca, st', er, ck, nI cc, nI oc', nI fc', fm, fk, ft, rt, dX, sc, so, sa, sb, oC', oO', oF', fB', fP', fR', fV', fL') → wpX_step post (nI ca, 1, er, ck, nI cc, nI oc, nI (f + 1), fm, fk, ft, rt, dX, sc, so, sa, sb, oC, oO, oF, fB, fP, fR, fV, fL)) ∧ (∀ post : SY → Prop, post (nI ca, st', er, nI cc, ck, nI oc', nI fc', fm, fk, ft, pT, rt, dY, sc, so, sa, sb, oC', oO', oF', fB', fP', fR', fV', fL') → wpY_step post (nI ca, 1, er, nI cc, ck, nI oc, nI (f + 1), fm, fk, ft, pT, rt, dY, sc, so, sa, sb, oC, oO, oF, fB, fP, fR, fV, fL))) := by
  obtain ⟨hP, hca, hoc, hfc, -, hM⟩ := id hA
  obtain ⟨hC, -, hH, hF⟩ := hM (by decide)
  have hcc := hP.2.1
  have hf : f < 8 := by omega
  obtain ⟨w1, w2, w3, w4, w5, w6, w7, w8⟩ := id hw
  obtain ⟨hbc, -, ⟨r, hr, er'⟩⟩ := w7 hf1
  have vf : vp_in (nI f) 8 := vp_in_nI hf (by decide)
  have f0 : (0 : Int32) ≤ nI f := nI_pos' (by omega)
  have vb : vp_in (nI b) 9 := vp_in_nI (by omega) (by decide)
  have b8 : ¬ nI b = 8 := od_ne (k := 8) (by omega) (by omega) (by decide)
  have gB : fB (nI f).toNatClampNeg = nI b := (od_ef (by omega)).trans w1
  have gP : fP (nI f).toNatClampNeg = nI pc := (od_ef (by omega)).trans w2
  have gS : sc (nI b).toNatClampNeg = nI n := (od_ef (by omega)).trans w4
  have gR : fR (nI f).toNatClampNeg = fR f := od_ef (by omega)
  have lt' : ¬ nI pc < sc (nI b).toNatClampNeg := by rw [gS]; exact nI_nlt (by omega) (by omega)
  have lt : ¬ fP (nI f).toNatClampNeg < sc (nI b).toNatClampNeg := by rw [gP]; exact lt'
  obtain ⟨g, rfl⟩ : ∃ g, f = g + 1 := ⟨f - 1, by omega⟩
  refine od_go1 (fc := g + 1 + 1) (fc' := g + 1) (oc' := oc) (oC' := oC) (oO' := oO) (oF' := oF) (fB' := fB) (fR' := fR) (fV' := fV) (fP' := fP) (fL' := upd fL (g * 8 + r) (-1)) ⟨hP, hca, hoc, by omega, fun h => absurd h (by decide), fun _ => ⟨hC, by omega, hH, od_F_pop hF (Or.inl rfl)⟩⟩ ?_ ?_
  · intro Q p
    exact nm_r (nI_pred (g + 1)) ⟨vf, nm_r gB ⟨vf, vb, br_f lt (od_xpop hf hr er' p)⟩⟩
  · intro post p
    exact nm_r (nI_pred (g + 1)) (br_t f0 ⟨vf, nm_r gB ⟨vf, nm_r gP ⟨vf, nm_r gR (nm_r (od_m8 (g + 1)) ⟨vb, br_f lt' (br_f b8 (od_ypop hf hr er' p))⟩)⟩⟩⟩)
/-- one step -/
theorem od_stepF {f b pc n : Nat} (hA : od_All ca cc oc (f + 1) 1 ck fm fk dX pT dY sc so sa sb oC oO oF fB fP fR fV fL) (hw : od_Fw cc oc sc fB fP fR fV fL f b pc n) (hfin : f = 0 → pc < n) : (∃ (st' : Int32) (oc' fc' : Nat) (oC' oO' oF' fB' fP' fR' fV' fL' : Nat → Int32), od_All ca cc oc' fc' st' ck fm fk dX pT dY sc so sa sb oC' oO' oF' fB' fP' fR' fV' fL' ∧ ¬ st' = 0 ∧ (∀ post : SX → Prop, post (nI ca, st', er, ck, nI cc, nI oc', nI fc', fm, fk, ft, rt, dX, sc, so, sa, sb, oC', oO', oF', fB', fP', fR', fV', fL') → wpX_step post (nI ca, 1, er, ck, nI cc, nI oc, nI (f + 1), fm, fk, ft, rt, dX, sc, so, sa, sb, oC, oO, oF, fB, fP, fR, fV, fL)) ∧ (∀ post : SY → Prop, post (nI ca, st', er, nI cc, ck, nI oc', nI fc', fm, fk, ft, pT, rt, dY, sc, so, sa, sb, oC', oO', oF', fB', fP', fR', fV', fL') → wpY_step post (nI ca, 1, er, nI cc, ck, nI oc, nI (f + 1), fm, fk, ft, pT, rt, dY, sc, so, sa, sb, oC, oO, oF, fB, fP, fR, fV, fL))) := by
  have hcc := hA.1.2.1
  by_cases hp : pc < n
  · have hb : b < cc ∨ b = 8 := by
      by_cases h : f = 0
      · exact Or.inr (hw.2.2.2.2.2.1 h).1
      · exact Or.inl (hw.2.2.2.2.2.2.1 (Nat.pos_of_ne_zero h)).1
    have hC := (hA.2.2.2.2.2 (by decide)).1
    obtain ⟨a, ha, eA, hk⟩ := hC b pc n hb hw.2.2.2.1 hw.2.2.1 hp
    rcases hk with ⟨eO, t, m, ht, eX, hc, hm, em, hs⟩ | ⟨eO, y, hy, eX⟩ | ⟨eO, y, hy, eX⟩ | ⟨eO, y, hy, eX⟩ | ⟨eO, y, hy, eX⟩ | eO | ⟨eO, hb8⟩
    · exact od_new hA hw hp ha eA eO ht eX hc hm em hs
    · exact od_moveV hA hw hp ha eA eO hy eX
    · exact od_load hA hw hp ha eA eO hy eX
    · exact od_store hA hw hp ha eA eO hy eX
    · exact od_call hA hw hp ha eA eO hy eX
    · exact od_moveN hA hw hp ha eA eO rfl
    · exact od_ret hA hw hp ha eA eO hb8 rfl
  · exact od_end hA hw hp (Nat.pos_of_ne_zero (fun h => hp (hfin h)))
