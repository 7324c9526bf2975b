variable {ca cc oc fc : Nat} {st er ck : Int32} {fm fk ft rt dX pT dY sc so sa sb oC oO oF fB fP fR fV fL : Nat → Int32}
theorem od_moveN {f b pc n a : Nat} (hA : od_All ca cc oc (f + 1) 1 ck fm fk dX pT dY sc so sa sb oC oO oF fB fP fR fV fL) (hw : od_Fw cc oc sc fB fP fR fV fL f b pc n) (hp : pc < n) (ha : a < 8) (eA : sa (b * 16 + pc) = nI a) (eO : so (b * 16 + pc) = 6) {B : Int32} (eX : sb (b * 16 + pc) = B) : (∃ (st' : Int32) (oc' fc' : Nat) (oC' oO' oF' fB' fP' fR' fV' fL' : Nat → Int32), od_All ca cc oc' fc' st' ck fm fk dX pT dY sc so sa sb oC' oO' oF' fB' fP' fR' fV' fL' ∧ ¬ st' = 0 ∧ (∀ post : SX → Prop, post (nI ca, st', er, ck, nI cc, nI oc', nI fc', fm, fk, ft, rt, dX, sc, so, sa, sb, oC', oO', oF', fB', fP', fR', fV', fL') → wpX_step post (nI ca, 1, er, ck, nI cc, nI oc, nI (f + 1), fm, fk, ft, rt, dX, sc, so, sa, sb, oC, oO, oF, fB, fP, fR, fV, fL)) ∧ (∀ post : SY → Prop, post (nI ca, st', er, nI cc, ck, nI oc', nI fc', fm, fk, ft, pT, rt, dY, sc, so, sa, sb, oC', oO', oF', fB', fP', fR', fV', fL') → wpY_step post (nI ca, 1, er, nI cc, ck, nI oc, nI (f + 1), fm, fk, ft, pT, rt, dY, sc, so, sa, sb, oC, oO, oF, fB, fP, fR, fV, fL))) := by
  obtain ⟨hP, hca, hoc, hfc, -, hM⟩ := id hA
  obtain ⟨hC, -, hH, hF⟩ := hM (by decide)
  have hcc := hP.2.1
  have hf : f < 8 := by omega
  obtain ⟨w1, w2, w3, w4, w5, w6, w7, w8⟩ := id hw
  have hb : b ≤ 8 := by
    by_cases h : f = 0
    · exact Nat.le_of_eq (w6 h).1
    · exact Nat.le_trans (Nat.le_of_lt (w7 (Nat.pos_of_ne_zero h)).1) hcc
  have vf : vp_in (nI f) 8 := vp_in_nI hf (by decide)
  have f0 : (0 : Int32) ≤ nI f := nI_pos' (by omega)
  have vb : vp_in (nI b) 9 := vp_in_nI (by omega) (by decide)
  have v : vp_in (nI (b * 16 + pc)) 144 := vp_in_nI (by omega) (by decide)
  have ec := nI_clamp (n := b * 16 + pc) (by omega)
  have gB : fB (nI f).toNatClampNeg = nI b := (od_ef (by omega)).trans w1
  have gP : fP (nI f).toNatClampNeg = nI pc := (od_ef (by omega)).trans w2
  have gS : sc (nI b).toNatClampNeg = nI n := (od_ef (by omega)).trans w4
  have gR : fR (nI f).toNatClampNeg = fR f := od_ef (by omega)
  have lt' : nI pc < sc (nI b).toNatClampNeg := by rw [gS]; exact nI_lt hp (by omega)
  have lt : fP (nI f).toNatClampNeg < sc (nI b).toNatClampNeg := by rw [gP]; exact lt'
  have e3 : nI b * 16 + fP (nI f).toNatClampNeg = nI (b * 16 + pc) := by rw [gP, od_i16]
  have gA : sa (nI (b * 16 + pc)).toNatClampNeg = nI a := by rw [ec]; exact eA
  have gA7 : sa (nI (b * 16 + pc)).toNatClampNeg &&& 7 = nI a := by rw [gA]; exact od_and7' ha
  have gO : so (nI (b * 16 + pc)).toNatClampNeg = _ := (congrArg so ec).trans eO
  have gX : sb (nI (b * 16 + pc)).toNatClampNeg = _ := (congrArg sb ec).trans eX
  have gN : upd fP (nI f).toNatClampNeg (nI pc + 1) = upd fP f (nI (pc + 1)) := by rw [nI_clamp (by omega), nI_1]
  refine od_go1 (fc := f + 1) (fc' := f + 1) (oc' := oc) (oC' := oC) (oO' := oO) (oF' := oF) (fB' := fB) (fR' := fR) (fV' := fV) (fP' := upd fP f (nI (pc + 1))) (fL' := upd fL (f * 8 + a) (-1)) ⟨hP, hca, hoc, hfc, fun h => absurd h (by decide), fun _ => ⟨hC, by omega, hH, od_F_asg hF hw hp (Or.inl rfl)⟩⟩ ?_ ?_
  · intro Q p
    refine nm_r (nI_pred f) ⟨vf, nm_r gB ⟨vf, vb, br_t lt ⟨vf, nm_r e3 ⟨v, nm_r gA ⟨v, nm_r gX ⟨v, nm_r gO ?_⟩⟩⟩⟩⟩⟩
    exact br_f (by decide) (br_f (by decide) (br_f (by decide) (br_f (by decide) (br_f (by decide) (br_f (by decide) (br_f (by decide) (br_t rfl (od_xassign hf ha w2 p))))))))
  · intro post p
    refine nm_r (nI_pred f) (br_t f0 ⟨vf, nm_r gB ⟨vf, nm_r gP ⟨vf, nm_r gR (nm_r (od_m8 f) ⟨vb, br_t lt' (nm_r (od_i16 b pc) ⟨v, nm_r gO ⟨v, nm_r gA7 ⟨v, nm_r gX ?_⟩⟩⟩)⟩)⟩⟩⟩)
    exact nm_e (nm_e (br_f (by decide) (br_f (by decide) (br_t rfl ⟨od_w64 hf ha, nm_r (od_t64 hf ha) ⟨vf, nm_r gN p⟩⟩))))
theorem od_moveV {f b pc n a : Nat} (hA : od_All ca cc oc (f + 1) 1 ck fm fk dX pT dY sc so sa sb oC oO oF fB fP fR fV fL) (hw : od_Fw cc oc sc fB fP fR fV fL f b pc n) (hp : pc < n) (ha : a < 8) (eA : sa (b * 16 + pc) = nI a) (eO : so (b * 16 + pc) = 2) {y : Nat} (hy : y < 8) (eX : sb (b * 16 + pc) = nI y) : (∃ (st' : Int32) (oc' fc' : Nat) (oC' oO' oF' fB' fP' fR' fV' fL' : Nat → Int32), od_All ca cc oc' fc' st' ck fm fk dX pT dY sc so sa sb oC' oO' oF' fB' fP' fR' fV' fL' ∧ ¬ st' = 0 ∧ (∀ post : SX → Prop, post (nI ca, st', er, ck, nI cc, nI oc', nI fc', fm, fk, ft, rt, dX, sc, so, sa, sb, oC', oO', oF', fB', fP', fR', fV', fL') → wpX_step post (nI ca, 1, er, ck, nI cc, nI oc, nI (f + 1), fm, fk, ft, rt, dX, sc, so, sa, sb, oC, oO, oF, fB, fP, fR, fV, fL)) ∧ (∀ post : SY → Prop, post (nI ca, st', er, nI cc, ck, nI oc', nI fc', fm, fk, ft, pT, rt, dY, sc, so, sa, sb, oC', oO', oF', fB', fP', fR', fV', fL') → wpY_step post (nI ca, 1, er, nI cc, ck, nI oc, nI (f + 1), fm, fk, ft, pT, rt, dY, sc, so, sa, sb, oC, oO, oF, fB, fP, fR, fV, fL))) := by
  obtain ⟨hP, hca, hoc, hfc, -, hM⟩ := id hA
  obtain ⟨hC, -, hH, hF⟩ := hM (by decide)
  have hcc := hP.2.1
  have hf : f < 8 := by omega
  obtain ⟨w1, w2, w3, w4, w5, w6, w7, w8⟩ := id hw
  have hb : b ≤ 8 := by
    by_cases h : f = 0
    · exact Nat.le_of_eq (w6 h).1
    · exact Nat.le_trans (Nat.le_of_lt (w7 (Nat.pos_of_ne_zero h)).1) hcc
  have vf : vp_in (nI f) 8 := vp_in_nI hf (by decide)
  have f0 : (0 : Int32) ≤ nI f := nI_pos' (by omega)
  have vb : vp_in (nI b) 9 := vp_in_nI (by omega) (by decide)
  have v : vp_in (nI (b * 16 + pc)) 144 := vp_in_nI (by omega) (by decide)
  have ec := nI_clamp (n := b * 16 + pc) (by omega)
  have gB : fB (nI f).toNatClampNeg = nI b := (od_ef (by omega)).trans w1
  have gP : fP (nI f).toNatClampNeg = nI pc := (od_ef (by omega)).trans w2
  have gS : sc (nI b).toNatClampNeg = nI n := (od_ef (by omega)).trans w4
  have gR : fR (nI f).toNatClampNeg = fR f := od_ef (by omega)
  have lt' : nI pc < sc (nI b).toNatClampNeg := by rw [gS]; exact nI_lt hp (by omega)
  have lt : fP (nI f).toNatClampNeg < sc (nI b).toNatClampNeg := by rw [gP]; exact lt'
  have e3 : nI b * 16 + fP (nI f).toNatClampNeg = nI (b * 16 + pc) := by rw [gP, od_i16]
  have gA : sa (nI (b * 16 + pc)).toNatClampNeg = nI a := by rw [ec]; exact eA
  have gA7 : sa (nI (b * 16 + pc)).toNatClampNeg &&& 7 = nI a := by rw [gA]; exact od_and7' ha
  have gO : so (nI (b * 16 + pc)).toNatClampNeg = _ := (congrArg so ec).trans eO
  have gX : sb (nI (b * 16 + pc)).toNatClampNeg = _ := (congrArg sb ec).trans eX
  have gN : upd fP (nI f).toNatClampNeg (nI pc + 1) = upd fP f (nI (pc + 1)) := by rw [nI_clamp (by omega), nI_1]
  refine od_go1 (fc := f + 1) (fc' := f + 1) (oc' := oc) (oC' := oC) (oO' := oO) (oF' := oF) (fB' := fB) (fR' := fR) (fV' := fV) (fP' := upd fP f (nI (pc + 1))) (fL' := upd fL (f * 8 + a) (fL (f * 8 + y))) ⟨hP, hca, hoc, hfc, fun h => absurd h (by decide), fun _ => ⟨hC, by omega, hH, od_F_asg hF hw hp (w8 y hy)⟩⟩ ?_ ?_
  · intro Q p
    refine nm_r (nI_pred f) ⟨vf, nm_r gB ⟨vf, vb, br_t lt ⟨vf, nm_r e3 ⟨v, nm_r gA ⟨v, nm_r gX ⟨v, nm_r gO ?_⟩⟩⟩⟩⟩⟩
    refine br_f (by decide) (br_f (by decide) (br_f (by decide) (br_t rfl ⟨od_v64 hf hy, ?_⟩)))
    rw [od_e64 (g := fL) hf hy]
    exact od_xassign hf ha w2 p
  · intro post p
    refine nm_r (nI_pred f) (br_t f0 ⟨vf, nm_r gB ⟨vf, nm_r gP ⟨vf, nm_r gR (nm_r (od_m8 f) ⟨vb, br_t lt' (nm_r (od_i16 b pc) ⟨v, nm_r gO ⟨v, nm_r gA7 ⟨v, nm_r gX ?_⟩⟩⟩)⟩)⟩⟩⟩)
    have E : upd fL (nI (f * 8) + nI a).toNatClampNeg (fL (nI (f * 8) + nI y).toNatClampNeg) = upd fL (f * 8 + a) (fL (f * 8 + y)) := by rw [od_t64 hf ha, od_g64 (g := fL) hf hy]
    exact nm_r (od_and7' hy) (nm_e (br_f (by decide) (br_t rfl ⟨od_w64 hf hy, od_w64 hf ha, nm_r E ⟨vf, nm_r gN p⟩⟩)))
theorem od_b7 {y : Nat} (hy : y < 64) : (nI y >>> ((3 : Int32) &&& 31)) &&& 7 = nI (y / 8) := by rw [od_q (by omega)]; exact od_and7' (by omega)
theorem od_b3 {q : Nat} (hq : q < 4) : nI q &&& 3 = nI q := by rw [od_and3 (by omega), Nat.mod_eq_of_lt hq]
theorem od_v4 {h q : Nat} (hh : h < 32) (hq : q < 4) : vp_in (nI h * 4 + nI q) 128 := by rw [od_i4]; exact vp_in_nI (by omega) (by decide)
theorem od_e4 {g : Nat → Int32} {h q : Nat} (hh : h < 32) (hq : q < 4) : g (nI h * 4 + nI q).toNatClampNeg = g (h * 4 + q) := by rw [od_i4, nI_clamp (by omega)]
theorem od_u4 {g : Nat → Int32} {h q : Nat} {x : Int32} (hh : h < 32) (hq : q < 4) : upd g (nI h * 4 + nI q).toNatClampNeg x = upd g (h * 4 + q) x := by rw [od_i4, nI_clamp (by omega)]
theorem od_H_upd {k : Nat} {x : Int32} (hH : od_H cc oc oC oO oF) (hx : od_R oc x) : od_H cc oc oC oO (upd oF k x) := fun o ho =>
  ⟨(hH o ho).1, (hH o ho).2.1, fun f hf => od_R_upd hx ((hH o ho).2.2 f hf)⟩
theorem od_load {f b pc n a : Nat} (hA : od_All ca cc oc (f + 1) 1 ck fm fk dX pT dY sc so sa sb oC oO oF fB fP fR fV fL) (hw : od_Fw cc oc sc fB fP fR fV fL f b pc n) (hp : pc < n) (ha : a < 8) (eA : sa (b * 16 + pc) = nI a) (eO : so (b * 16 + pc) = 3) {y : Nat} (hy : y < 32) (eX : sb (b * 16 + pc) = nI y) : (∃ (st' : Int32) (oc' fc' : Nat) (oC' oO' oF' fB' fP' fR' fV' fL' : Nat → Int32), od_All ca cc oc' fc' st' ck fm fk dX pT dY sc so sa sb oC' oO' oF' fB' fP' fR' fV' fL' ∧ ¬ st' = 0 ∧ (∀ post : SX → Prop, post (nI ca, st', er, ck, nI cc, nI oc', nI fc', fm, fk, ft, rt, dX, sc, so, sa, sb, oC', oO', oF', fB', fP', fR', fV', fL') → wpX_step post (nI ca, 1, er, ck, nI cc, nI oc, nI (f + 1), fm, fk, ft, rt, dX, sc, so, sa, sb, oC, oO, oF, fB, fP, fR, fV, fL)) ∧ (∀ post : SY → Prop, post (nI ca, st', er, nI cc, ck, nI oc', nI fc', fm, fk, ft, pT, rt, dY, sc, so, sa, sb, oC', oO', oF', fB', fP', fR', fV', fL') → wpY_step post (nI ca, 1, er, nI cc, ck, nI oc, nI (f + 1), fm, fk, ft, pT, rt, dY, sc, so, sa, sb, oC, oO, oF, fB, fP, fR, fV, fL))) := by
  obtain ⟨hP, hca, hoc, hfc, -, hM⟩ := id hA
  obtain ⟨hC, -, hH, hF⟩ := hM (by decide)
  have hcc := hP.2.1
  have hf : f < 8 := by omega
  obtain ⟨w1, w2, w3, w4, w5, w6, w7, w8⟩ := id hw
  have hb : b ≤ 8 := by
    by_cases h : f = 0
    · exact Nat.le_of_eq (w6 h).1
    · exact Nat.le_trans (Nat.le_of_lt (w7 (Nat.pos_of_ne_zero h)).1) hcc
  have vf : vp_in (nI f) 8 := vp_in_nI hf (by decide)
  have f0 : (0 : Int32) ≤ nI f := nI_pos' (by omega)
  have vb : vp_in (nI b) 9 := vp_in_nI (by omega) (by decide)
  have v : vp_in (nI (b * 16 + pc)) 144 := vp_in_nI (by omega) (by decide)
  have ec := nI_clamp (n := b * 16 + pc) (by omega)
  have gB : fB (nI f).toNatClampNeg = nI b := (od_ef (by omega)).trans w1
  have gP : fP (nI f).toNatClampNeg = nI pc := (od_ef (by omega)).trans w2
  have gS : sc (nI b).toNatClampNeg = nI n := (od_ef (by omega)).trans w4
  have gR : fR (nI f).toNatClampNeg = fR f := od_ef (by omega)
  have lt' : nI pc < sc (nI b).toNatClampNeg := by rw [gS]; exact nI_lt hp (by omega)
  have lt : fP (nI f).toNatClampNeg < sc (nI b).toNatClampNeg := by rw [gP]; exact lt'
  have e3 : nI b * 16 + fP (nI f).toNatClampNeg = nI (b * 16 + pc) := by rw [gP, od_i16]
  have gA : sa (nI (b * 16 + pc)).toNatClampNeg = nI a := by rw [ec]; exact eA
  have gA7 : sa (nI (b * 16 + pc)).toNatClampNeg &&& 7 = nI a := by rw [gA]; exact od_and7' ha
  have gO : so (nI (b * 16 + pc)).toNatClampNeg = _ := (congrArg so ec).trans eO
  have gX : sb (nI (b * 16 + pc)).toNatClampNeg = _ := (congrArg sb ec).trans eX
  have gN : upd fP (nI f).toNatClampNeg (nI pc + 1) = upd fP f (nI (pc + 1)) := by rw [nI_clamp (by omega), nI_1]
  have h8 : y % 8 < 8 := by omega
  have hq : y / 8 < 4 := by omega
  have z8 : ¬ (8 : Int32) = 0 := by decide
  rcases w8 (y % 8) h8 with eh | ⟨h, hh, eh⟩
  · refine od_go2 (fc := f + 1) (s' := 3) hA (by decide) (by decide) ?_ ?_
    · intro Q p
      refine nm_r (nI_pred f) ⟨vf, nm_r gB ⟨vf, vb, br_t lt ⟨vf, nm_r e3 ⟨v, nm_r gA ⟨v, nm_r gX ⟨v, nm_r gO ?_⟩⟩⟩⟩⟩⟩
      refine br_f (by decide) (br_f (by decide) (br_f (by decide) (br_f (by decide) (br_t rfl ⟨z8, z8, ?_⟩))))
      rw [od_rm (by omega)]
      refine ⟨by rw [nI_pred f]; exact od_v64 hf h8, nm_r (e' := -1) (by rw [nI_pred f, od_e64 (g := fL) hf h8]; exact eh) (br_t rfl p)⟩
    · intro post p
      refine nm_r (nI_pred f) (br_t f0 ⟨vf, nm_r gB ⟨vf, nm_r gP ⟨vf, nm_r gR (nm_r (od_m8 f) ⟨vb, br_t lt' (nm_r (od_i16 b pc) ⟨v, nm_r gO ⟨v, nm_r gA7 ⟨v, nm_r gX ?_⟩⟩⟩)⟩)⟩⟩⟩)
      exact nm_r (od_and7 (by omega)) (nm_r (od_b7 (by omega)) (br_f (by decide) (br_f (by decide) (br_f (by decide) (br_t rfl ⟨od_w64 hf h8, nm_r ((od_g64 (g := fL) hf h8).trans eh) (br_f od_n0 p)⟩)))))
  · have h32 : h < 32 := by omega
    refine od_go1 (fc := f + 1) (fc' := f + 1) (oc' := oc) (oC' := oC) (oO' := oO) (oF' := oF) (fB' := fB) (fR' := fR) (fV' := fV) (fP' := upd fP f (nI (pc + 1))) (fL' := upd fL (f * 8 + a) (oF (h * 4 + y / 8))) ⟨hP, hca, hoc, hfc, fun h => absurd h (by decide), fun _ => ⟨hC, by omega, hH, od_F_asg hF hw hp ((hH h hh).2.2 _ hq)⟩⟩ ?_ ?_
    · intro Q p
      refine nm_r (nI_pred f) ⟨vf, nm_r gB ⟨vf, vb, br_t lt ⟨vf, nm_r e3 ⟨v, nm_r gA ⟨v, nm_r gX ⟨v, nm_r gO ?_⟩⟩⟩⟩⟩⟩
      refine br_f (by decide) (br_f (by decide) (br_f (by decide) (br_f (by decide) (br_t rfl ⟨z8, z8, ?_⟩))))
      rw [od_rm (by omega), od_dv (by omega)]
      refine ⟨by rw [nI_pred f]; exact od_v64 hf h8, nm_r (e' := nI h) (by rw [nI_pred f, od_e64 (g := fL) hf h8]; exact eh) (br_f (od_ne1 (by omega)) ⟨od_v4 h32 hq, ?_⟩)⟩
      rw [od_e4 (g := oF) h32 hq]
      exact od_xassign hf ha w2 p
    · intro post p
      refine nm_r (nI_pred f) (br_t f0 ⟨vf, nm_r gB ⟨vf, nm_r gP ⟨vf, nm_r gR (nm_r (od_m8 f) ⟨vb, br_t lt' (nm_r (od_i16 b pc) ⟨v, nm_r gO ⟨v, nm_r gA7 ⟨v, nm_r gX ?_⟩⟩⟩)⟩)⟩⟩⟩)
      refine nm_r (od_and7 (by omega)) (nm_r (od_b7 (by omega)) (br_f (by decide) (br_f (by decide) (br_f (by decide) (br_t rfl ⟨od_w64 hf h8, nm_r ((od_g64 (g := fL) hf h8).trans eh) (br_t (nI_pos' (by omega)) ?_)⟩)))))
      rw [od_b3 hq, od_e4 (g := oF) h32 hq]
      exact ⟨od_v4 h32 hq, od_w64 hf ha, nm_r (od_t64 hf ha) ⟨vf, nm_r gN p⟩⟩
theorem od_store {f b pc n a : Nat} (hA : od_All ca cc oc (f + 1) 1 ck fm fk dX pT dY sc so sa sb oC oO oF fB fP fR fV fL) (hw : od_Fw cc oc sc fB fP fR fV fL f b pc n) (hp : pc < n) (ha : a < 8) (eA : sa (b * 16 + pc) = nI a) (eO : so (b * 16 + pc) = 4) {y : Nat} (hy : y < 32) (eX : sb (b * 16 + pc) = nI y) : (∃ (st' : Int32) (oc' fc' : Nat) (oC' oO' oF' fB' fP' fR' fV' fL' : Nat → Int32), od_All ca cc oc' fc' st' ck fm fk dX pT dY sc so sa sb oC' oO' oF' fB' fP' fR' fV' fL' ∧ ¬ st' = 0 ∧ (∀ post : SX → Prop, post (nI ca, st', er, ck, nI cc, nI oc', nI fc', fm, fk, ft, rt, dX, sc, so, sa, sb, oC', oO', oF', fB', fP', fR', fV', fL') → wpX_step post (nI ca, 1, er, ck, nI cc, nI oc, nI (f + 1), fm, fk, ft, rt, dX, sc, so, sa, sb, oC, oO, oF, fB, fP, fR, fV, fL)) ∧ (∀ post : SY → Prop, post (nI ca, st', er, nI cc, ck, nI oc', nI fc', fm, fk, ft, pT, rt, dY, sc, so, sa, sb, oC', oO', oF', fB', fP', fR', fV', fL') → wpY_step post (nI ca, 1, er, nI cc, ck, nI oc, nI (f + 1), fm, fk, ft, pT, rt, dY, sc, so, sa, sb, oC, oO, oF, fB, fP, fR, fV, fL))) := by
  obtain ⟨hP, hca, hoc, hfc, -, hM⟩ := id hA
  obtain ⟨hC, -, hH, hF⟩ := hM (by decide)
  have hcc := hP.2.1
  have hf : f < 8 := by omega
  obtain ⟨w1, w2, w3, w4, w5, w6, w7, w8⟩ := id hw
  have hb : b ≤ 8 := by
    by_cases h : f = 0
    · exact Nat.le_of_eq (w6 h).1
    · exact Nat.le_trans (Nat.le_of_lt (w7 (Nat.pos_of_ne_zero h)).1) hcc
  have vf : vp_in (nI f) 8 := vp_in_nI hf (by decide)
  have f0 : (0 : Int32) ≤ nI f := nI_pos' (by omega)
  have vb : vp_in (nI b) 9 := vp_in_nI (by omega) (by decide)
  have v : vp_in (nI (b * 16 + pc)) 144 := vp_in_nI (by omega) (by decide)
  have ec := nI_clamp (n := b * 16 + pc) (by omega)
  have gB : fB (nI f).toNatClampNeg = nI b := (od_ef (by omega)).trans w1
  have gP : fP (nI f).toNatClampNeg = nI pc := (od_ef (by omega)).trans w2
  have gS : sc (nI b).toNatClampNeg = nI n := (od_ef (by omega)).trans w4
  have gR : fR (nI f).toNatClampNeg = fR f := od_ef (by omega)
  have lt' : nI pc < sc (nI b).toNatClampNeg := by rw [gS]; exact nI_lt hp (by omega)
  have lt : fP (nI f).toNatClampNeg < sc (nI b).toNatClampNeg := by rw [gP]; exact lt'
  have e3 : nI b * 16 + fP (nI f).toNatClampNeg = nI (b * 16 + pc) := by rw [gP, od_i16]
  have gA : sa (nI (b * 16 + pc)).toNatClampNeg = nI a := by rw [ec]; exact eA
  have gA7 : sa (nI (b * 16 + pc)).toNatClampNeg &&& 7 = nI a := by rw [gA]; exact od_and7' ha
  have gO : so (nI (b * 16 + pc)).toNatClampNeg = _ := (congrArg so ec).trans eO
  have gX : sb (nI (b * 16 + pc)).toNatClampNeg = _ := (congrArg sb ec).trans eX
  have gN : upd fP (nI f).toNatClampNeg (nI pc + 1) = upd fP f (nI (pc + 1)) := by rw [nI_clamp (by omega), nI_1]
  have h8 : y % 8 < 8 := by omega
  have hq : y / 8 < 4 := by omega
  have z8 : ¬ (8 : Int32) = 0 := by decide
  rcases w8 a ha with eh | ⟨h, hh, eh⟩
  · refine od_go2 (fc := f + 1) (s' := 3) hA (by decide) (by decide) ?_ ?_
    · intro Q p
      refine nm_r (nI_pred f) ⟨vf, nm_r gB ⟨vf, vb, br_t lt ⟨vf, nm_r e3 ⟨v, nm_r gA ⟨v, nm_r gX ⟨v, nm_r gO ?_⟩⟩⟩⟩⟩⟩
      refine br_f (by decide) (br_f (by decide) (br_f (by decide) (br_f (by decide) (br_f (by decide) (br_t rfl ⟨z8, z8, ?_⟩)))))
      exact nm_r (nI_pred f) ⟨od_v64 hf ha, nm_r ((od_e64 (g := fL) hf ha).trans eh) (br_t rfl p)⟩
    · intro post p
      refine nm_r (nI_pred f) (br_t f0 ⟨vf, nm_r gB ⟨vf, nm_r gP ⟨vf, nm_r gR (nm_r (od_m8 f) ⟨vb, br_t lt' (nm_r (od_i16 b pc) ⟨v, nm_r gO ⟨v, nm_r gA7 ⟨v, nm_r gX ?_⟩⟩⟩)⟩)⟩⟩⟩)
      exact nm_r (od_and7 (by omega)) (nm_r (od_b7 (by omega)) (br_f (by decide) (br_f (by decide) (br_f (by decide) (br_f (by decide) (br_t rfl ⟨od_w64 hf ha, nm_r ((od_g64 (g := fL) hf ha).trans eh) (br_f od_n0 p)⟩))))))
  · have h32 : h < 32 := by omega
    refine od_go1 (fc := f + 1) (fc' := f + 1) (oc' := oc) (oC' := oC) (oO' := oO) (oF' := upd oF (h * 4 + y / 8) (fL (f * 8 + y % 8))) (fB' := fB) (fR' := fR) (fV' := fV) (fP' := upd fP f (nI (pc + 1))) (fL' := fL) ⟨hP, hca, hoc, hfc, fun h => absurd h (by decide), fun _ => ⟨hC, by omega, od_H_upd hH (w8 _ h8), od_F_pc hF hw hp⟩⟩ ?_ ?_
    · intro Q p
      refine nm_r (nI_pred f) ⟨vf, nm_r gB ⟨vf, vb, br_t lt ⟨vf, nm_r e3 ⟨v, nm_r gA ⟨v, nm_r gX ⟨v, nm_r gO ?_⟩⟩⟩⟩⟩⟩
      refine br_f (by decide) (br_f (by decide) (br_f (by decide) (br_f (by decide) (br_f (by decide) (br_t rfl ⟨z8, z8, ?_⟩)))))
      rw [od_rm (by omega), od_dv (by omega)]
      refine nm_r (nI_pred f) ⟨od_v64 hf ha, nm_r ((od_e64 (g := fL) hf ha).trans eh) (br_f (od_ne1 (by omega)) ⟨od_v64 hf h8, od_v4 h32 hq, nm_r ((od_u4 h32 hq).trans (congrArg _ (od_e64 (g := fL) hf h8))) ⟨vf, vf, nm_r ?_ p⟩⟩)⟩
      rw [gP]; exact gN
    · intro post p
      refine nm_r (nI_pred f) (br_t f0 ⟨vf, nm_r gB ⟨vf, nm_r gP ⟨vf, nm_r gR (nm_r (od_m8 f) ⟨vb, br_t lt' (nm_r (od_i16 b pc) ⟨v, nm_r gO ⟨v, nm_r gA7 ⟨v, nm_r gX ?_⟩⟩⟩)⟩)⟩⟩⟩)
      refine nm_r (od_and7 (by omega)) (nm_r (od_b7 (by omega)) (br_f (by decide) (br_f (by decide) (br_f (by decide) (br_f (by decide) (br_t rfl ⟨od_w64 hf ha, nm_r ((od_g64 (g := fL) hf ha).trans eh) (br_t (nI_pos' (by omega)) ⟨od_w64 hf h8, ?_⟩)⟩))))))
      rw [od_b3 hq]
      exact ⟨od_v4 h32 hq, nm_r ((od_u4 h32 hq).trans (congrArg _ (od_g64 (g := fL) hf h8))) ⟨vf, nm_r gN p⟩⟩
theorem od_ret {f b pc n a : Nat} (hA : od_All ca cc oc (f + 1) 1 ck fm fk dX pT dY sc so sa sb oC oO oF fB fP fR fV fL) (hw : od_Fw cc oc sc fB fP fR fV fL f b pc n) (hp : pc < n) (ha : a < 8) (eA : sa (b * 16 + pc) = nI a) (eO : so (b * 16 + pc) = 7) (hb8 : b ≠ 8) {B : Int32} (eX : sb (b * 16 + pc) = B) : (∃ (st' : Int32) (oc' fc' : Nat) (oC' oO' oF' fB' fP' fR' fV' fL' : Nat → Int32), od_All ca cc oc' fc' st' ck fm fk dX pT dY sc so sa sb oC' oO' oF' fB' fP' fR' fV' fL' ∧ ¬ st' = 0 ∧ (∀ post : SX → Prop, post (nI ca, st', er, ck, nI cc, nI oc', nI fc', fm, fk, ft, rt, dX, sc, so, sa, sb, oC', oO', oF', fB', fP', fR', fV', fL') → wpX_step post (nI ca, 1, er, ck, nI cc, nI oc, nI (f + 1), fm, fk, ft, rt, dX, sc, so, sa, sb, oC, oO, oF, fB, fP, fR, fV, fL)) ∧ (∀ post : SY → Prop, post (nI ca, st', er, nI cc, ck, nI oc', nI fc', fm, fk, ft, pT, rt, dY, sc, so, sa, sb, oC', oO', oF', fB', fP', fR', fV', fL') → wpY_step post (nI ca, 1, er, nI cc, ck, nI oc, nI (f + 1), fm, fk, ft, pT, rt, dY, sc, so, sa, sb, oC, oO, oF, fB, fP, fR, fV, fL))) := by
  obtain ⟨hP, hca, hoc, hfc, -, hM⟩ := id hA
  obtain ⟨hC, -, hH, hF⟩ := hM (by decide)
  have hcc := hP.2.1
  have hf : f < 8 := by omega
  obtain ⟨w1, w2, w3, w4, w5, w6, w7, w8⟩ := id hw
  have hb : b ≤ 8 := by
    by_cases h : f = 0
    · exact Nat.le_of_eq (w6 h).1
    · exact Nat.le_trans (Nat.le_of_lt (w7 (Nat.pos_of_ne_zero h)).1) hcc
  have vf : vp_in (nI f) 8 := vp_in_nI hf (by decide)
  have f0 : (0 : Int32) ≤ nI f := nI_pos' (by omega)
  have vb : vp_in (nI b) 9 := vp_in_nI (by omega) (by decide)
  have v : vp_in (nI (b * 16 + pc)) 144 := vp_in_nI (by omega) (by decide)
  have ec := nI_clamp (n := b * 16 + pc) (by omega)
  have gB : fB (nI f).toNatClampNeg = nI b := (od_ef (by omega)).trans w1
  have gP : fP (nI f).toNatClampNeg = nI pc := (od_ef (by omega)).trans w2
  have gS : sc (nI b).toNatClampNeg = nI n := (od_ef (by omega)).trans w4
  have gR : fR (nI f).toNatClampNeg = fR f := od_ef (by omega)
  have lt' : nI pc < sc (nI b).toNatClampNeg := by rw [gS]; exact nI_lt hp (by omega)
  have lt : fP (nI f).toNatClampNeg < sc (nI b).toNatClampNeg := by rw [gP]; exact lt'
  have e3 : nI b * 16 + fP (nI f).toNatClampNeg = nI (b * 16 + pc) := by rw [gP, od_i16]
  have gA : sa (nI (b * 16 + pc)).toNatClampNeg = nI a := by rw [ec]; exact eA
  have gA7 : sa (nI (b * 16 + pc)).toNatClampNeg &&& 7 = nI a := by rw [gA]; exact od_and7' ha
  have gO : so (nI (b * 16 + pc)).toNatClampNeg = _ := (congrArg so ec).trans eO
  have gX : sb (nI (b * 16 + pc)).toNatClampNeg = _ := (congrArg sb ec).trans eX
  have gN : upd fP (nI f).toNatClampNeg (nI pc + 1) = upd fP f (nI (pc + 1)) := by rw [nI_clamp (by omega), nI_1]
  have hf1 : 0 < f := Nat.pos_of_ne_zero (fun h => hb8 (w6 h).1)
  obtain ⟨-, -, ⟨r, hr, er'⟩⟩ := w7 hf1
  have hR := w8 a ha
  obtain ⟨g, rfl⟩ : ∃ g, f = g + 1 := ⟨f - 1, by omega⟩
  refine od_go1 (fc := g + 1 + 1) (fc' := g + 1) (oc' := oc) (oC' := oC) (oO' := oO) (oF' := oF) (fB' := fB) (fR' := fR) (fV' := fV) (fP' := fP) (fL' := upd fL (g * 8 + r) (fL ((g + 1) * 8 + a))) ⟨hP, hca, hoc, by omega, fun h => absurd h (by decide), fun _ => ⟨hC, by omega, hH, od_F_pop hF hR⟩⟩ ?_ ?_
  · intro Q p
    refine nm_r (nI_pred (g + 1)) ⟨vf, nm_r gB ⟨vf, vb, br_t lt ⟨vf, nm_r e3 ⟨v, nm_r gA ⟨v, nm_r gX ⟨v, nm_r gO ?_⟩⟩⟩⟩⟩⟩
    refine br_f (by decide) (br_t (by decide) ⟨od_v64 hf ha, ?_⟩)
    rw [od_e64 (g := fL) hf ha]
    exact od_xpop hf hr er' p
  · intro post p
    refine nm_r (nI_pred (g + 1)) (br_t f0 ⟨vf, nm_r gB ⟨vf, nm_r gP ⟨vf, nm_r gR (nm_r (od_m8 (g + 1)) ⟨vb, br_t lt' (nm_r (od_i16 b pc) ⟨v, nm_r gO ⟨v, nm_r gA7 ⟨v, nm_r gX ?_⟩⟩⟩)⟩)⟩⟩⟩)
    refine nm_e (nm_e (br_f (by decide) (br_f (by decide) (br_f (by decide) (br_f (by decide) (br_f (by decide) (br_f (by decide) (br_t rfl ⟨od_w64 hf ha, ?_⟩))))))))
    rw [od_g64 (g := fL) hf ha]
    exact od_ypop hf hr er' p
