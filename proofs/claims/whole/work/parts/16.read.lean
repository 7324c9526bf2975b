variable {ca cc oc fc : Nat} {st er ck : Int32} {fm fk ft rt dX pT dY sc so sa sb oC oO oF fB fP fR fV fL : Nat → Int32}
theorem od_s4 {a : Nat} (h : 4 ≤ a) : nI a - 4 = nI (a - 4) := pk_sub (b := 4) h
theorem od_s8 {a : Nat} (h : 8 ≤ a) : nI a - 8 = nI (a - 8) := pk_sub (b := 8) h
theorem od_s13 {a : Nat} (h : 4 ≤ a) : nI a - 1 - 3 = nI (a - 4) := by
  rw [od_s1 (by omega)]
  show nI (a - 1) - nI 3 = _
  rw [pk_sub (by omega), show a - 1 - 3 = a - 4 by omega]
theorem od_getObject {k : Nat} (v1 v2 : Int32) (h : od_All ca cc oc fc st ck fm fk dX pT dY sc so sa sb oC oO oF fB fP fR fV fL) :
    wpX_getObject (fun r => wpY_getObject (fun r' => r' = r ∧ i_Rel k (nI ca, st, er, ck, nI cc, nI oc, nI fc, fm, fk, ft, rt, dX, sc, so, sa, sb, oC, oO, oF, fB, fP, fR, fV, fL) (nI ca, st, er, nI cc, ck, nI oc, nI fc, fm, fk, ft, pT, rt, dY, sc, so, sa, sb, oC, oO, oF, fB, fP, fR, fV, fL)) (nI ca, st, er, nI cc, ck, nI oc, nI fc, fm, fk, ft, pT, rt, dY, sc, so, sa, sb, oC, oO, oF, fB, fP, fR, fV, fL) v1 v2) (nI ca, st, er, ck, nI cc, nI oc, nI fc, fm, fk, ft, rt, dX, sc, so, sa, sb, oC, oO, oF, fB, fP, fR, fV, fL) v1 v2 := by
  have kk : i_Rel k (nI ca, st, er, ck, nI cc, nI oc, nI fc, fm, fk, ft, rt, dX, sc, so, sa, sb, oC, oO, oF, fB, fP, fR, fV, fL) (nI ca, st, er, nI cc, ck, nI oc, nI fc, fm, fk, ft, pT, rt, dY, sc, so, sa, sb, oC, oO, oF, fB, fP, fR, fV, fL) := od_mk h
  obtain ⟨hP, hca, hoc, -⟩ := h
  by_cases h0 : v1 < 0
  · exact br_t h0 (br_t h0 ⟨rfl, kk⟩)
  obtain ⟨o, ho, rfl⟩ := nI_of h0
  by_cases h1 : o < oc
  · have l1 : ¬ nI oc ≤ nI o := nI_ge h1 (by omega)
    by_cases w0 : v2 < 0
    · exact br_f h0 (br_f l1 (br_t w0 (br_f h0 (br_f l1 (br_t w0 ⟨rfl, kk⟩)))))
    obtain ⟨w, hw, rfl⟩ := nI_of w0
    by_cases w7 : w ≤ 7
    · have l7 : nI w ≤ 7 := nI_le (b := 7) w7 (by decide)
      by_cases e0 : w = 0
      · subst e0
        have v : vp_in (nI o) 32 := vp_in_nI (by omega) (by decide)
        exact br_f h0 (br_f l1 (br_f w0 (br_t l7 (br_t rfl ⟨v, br_f h0 (br_f l1 (br_f w0 (br_t l7 (br_t rfl ⟨v, rfl, kk⟩))))⟩))))
      have n0 : ¬ nI w = 0 := od_ne (k := 0) e0 (by omega) (by decide)
      by_cases w3 : 3 < w
      · have l3 : (3 : Int32) < nI w := nI_lt (a := 3) w3 (by omega)
        have vX : vp_in (nI o * 4 + nI w - 1 - 3) 128 := by rw [od_i4, od_s13 (by omega)]; exact vp_in_nI (by omega) (by decide)
        have eX : nI o * 4 + nI w - 1 - 3 = nI o * 4 + nI w - 4 := by rw [od_i4, od_s13 (by omega), od_s4 (by omega)]
        exact br_f h0 (br_f l1 (br_f w0 (br_t l7 (br_f n0 (br_t l3 ⟨vX, br_f h0 (br_f l1 (br_f w0 (br_t l7 (br_f n0 (br_t l3 ⟨eX ▸ vX, by rw [eX], kk⟩)))))⟩)))))
      · have l3 : ¬ (3 : Int32) < nI w := nI_nlt (a := 3) (by omega) (by decide)
        have vX : vp_in (nI o * 3 + nI w - 1) 96 := by rw [od_i3, od_s1 (by omega)]; exact vp_in_nI (by omega) (by decide)
        exact br_f h0 (br_f l1 (br_f w0 (br_t l7 (br_f n0 (br_f l3 ⟨vX, br_f h0 (br_f l1 (br_f w0 (br_t l7 (br_f n0 (br_f l3 ⟨vX, rfl, kk⟩)))))⟩)))))
    · have l7 : ¬ nI w ≤ 7 := nI_ge (a := 7) (by omega) hw
      exact br_f h0 (br_f l1 (br_f w0 (br_f l7 (br_f h0 (br_f l1 (br_f w0 (br_f l7 ⟨rfl, kk⟩)))))))
  · have l1 : nI oc ≤ nI o := nI_le (by omega) ho
    exact br_f h0 (br_t l1 (br_f h0 (br_t l1 ⟨rfl, kk⟩)))
theorem od_getFrameCount {k : Nat} (h : od_All ca cc oc fc st ck fm fk dX pT dY sc so sa sb oC oO oF fB fP fR fV fL) :
    wpX_getFrameCount (fun r => wpY_getFrameCount (fun r' => r' = r ∧ i_Rel k (nI ca, st, er, ck, nI cc, nI oc, nI fc, fm, fk, ft, rt, dX, sc, so, sa, sb, oC, oO, oF, fB, fP, fR, fV, fL) (nI ca, st, er, nI cc, ck, nI oc, nI fc, fm, fk, ft, pT, rt, dY, sc, so, sa, sb, oC, oO, oF, fB, fP, fR, fV, fL)) (nI ca, st, er, nI cc, ck, nI oc, nI fc, fm, fk, ft, pT, rt, dY, sc, so, sa, sb, oC, oO, oF, fB, fP, fR, fV, fL)) (nI ca, st, er, ck, nI cc, nI oc, nI fc, fm, fk, ft, rt, dX, sc, so, sa, sb, oC, oO, oF, fB, fP, fR, fV, fL) := by
  have kk : i_Rel k (nI ca, st, er, ck, nI cc, nI oc, nI fc, fm, fk, ft, rt, dX, sc, so, sa, sb, oC, oO, oF, fB, fP, fR, fV, fL) (nI ca, st, er, nI cc, ck, nI oc, nI fc, fm, fk, ft, pT, rt, dY, sc, so, sa, sb, oC, oO, oF, fB, fP, fR, fV, fL) := od_mk h
  obtain ⟨hP, hca, hoc, hfc, h00, -⟩ := h
  refine br_c (fun e => ⟨?_, kk⟩) (fun _ => ⟨rfl, kk⟩)
  rw [(h00 e).2]; rfl
theorem od_getFrame {k : Nat} (v1 v2 : Int32) (h : od_All ca cc oc fc st ck fm fk dX pT dY sc so sa sb oC oO oF fB fP fR fV fL) :
    wpX_getFrame (fun r => wpY_getFrame (fun r' => r' = r ∧ i_Rel k (nI ca, st, er, ck, nI cc, nI oc, nI fc, fm, fk, ft, rt, dX, sc, so, sa, sb, oC, oO, oF, fB, fP, fR, fV, fL) (nI ca, st, er, nI cc, ck, nI oc, nI fc, fm, fk, ft, pT, rt, dY, sc, so, sa, sb, oC, oO, oF, fB, fP, fR, fV, fL)) (nI ca, st, er, nI cc, ck, nI oc, nI fc, fm, fk, ft, pT, rt, dY, sc, so, sa, sb, oC, oO, oF, fB, fP, fR, fV, fL) v1 v2) (nI ca, st, er, ck, nI cc, nI oc, nI fc, fm, fk, ft, rt, dX, sc, so, sa, sb, oC, oO, oF, fB, fP, fR, fV, fL) v1 v2 := by
  have kk : i_Rel k (nI ca, st, er, ck, nI cc, nI oc, nI fc, fm, fk, ft, rt, dX, sc, so, sa, sb, oC, oO, oF, fB, fP, fR, fV, fL) (nI ca, st, er, nI cc, ck, nI oc, nI fc, fm, fk, ft, pT, rt, dY, sc, so, sa, sb, oC, oO, oF, fB, fP, fR, fV, fL) := od_mk h
  obtain ⟨hP, hca, hoc, hfc, h00, -⟩ := h
  by_cases h0 : v1 < 0
  · exact br_t h0 (br_c (fun _ => ⟨rfl, kk⟩) (fun _ => br_t h0 ⟨rfl, kk⟩))
  obtain ⟨o, ho, rfl⟩ := nI_of h0
  by_cases h1 : o < fc
  · have hs : ¬ st = 0 := fun e => by have := (h00 e).2; omega
    have l1 : ¬ nI fc ≤ nI o := nI_ge h1 (by omega)
    have v : vp_in (nI o) 8 := vp_in_nI (by omega) (by decide)
    by_cases w0 : v2 < 0
    · exact br_f h0 (br_f l1 (br_t w0 (br_f hs (br_f h0 (br_f l1 (br_t w0 ⟨rfl, kk⟩))))))
    obtain ⟨w, hw, rfl⟩ := nI_of w0
    by_cases w12 : w < 12
    · have l12 : nI w < 12 := nI_lt (b := 12) w12 (by decide)
      have l11 : nI w ≤ 11 := nI_le (b := 11) (by omega) (by decide)
      by_cases w3 : 3 < w
      · have l3 : (3 : Int32) < nI w := nI_lt (a := 3) w3 (by omega)
        have vX : vp_in (nI o * 8 + nI w - 4) 64 := by rw [od_i8, od_s4 (by omega)]; exact vp_in_nI (by omega) (by decide)
        exact br_f h0 (br_f l1 (br_f w0 (br_t l12 (br_f w0 (br_t l3 ⟨vX, br_f hs (br_f h0 (br_f l1 (br_f w0 (br_t l11 (br_f (od_ne (k := 0) (by omega) (by omega) (by decide)) (br_f (od_ne (k := 1) (by omega) (by omega) (by decide)) (br_f (od_ne (k := 2) (by omega) (by omega) (by decide)) (br_f (od_ne (k := 3) (by omega) (by omega) (by decide)) ⟨vX, rfl, kk⟩))))))))⟩)))))
      · have l3 : ¬ (3 : Int32) < nI w := nI_nlt (a := 3) (by omega) (by decide)
        rcases (show w = 0 ∨ w = 1 ∨ w = 2 ∨ w = 3 by omega) with rfl | rfl | rfl | rfl
        · exact br_f h0 (br_f l1 (br_f w0 (br_t l12 (br_f w0 (br_f l3 (br_t rfl ⟨v, br_f hs (br_f h0 (br_f l1 (br_f w0 (br_t l11 (br_t rfl ⟨v, rfl, kk⟩)))))⟩))))))
        · exact br_f h0 (br_f l1 (br_f w0 (br_t l12 (br_f w0 (br_f l3 (br_f (by decide) (br_t rfl ⟨v, br_f hs (br_f h0 (br_f l1 (br_f w0 (br_t l11 (br_f (by decide) (br_t rfl ⟨v, rfl, kk⟩))))))⟩)))))))
        · exact br_f h0 (br_f l1 (br_f w0 (br_t l12 (br_f w0 (br_f l3 (br_f (by decide) (br_f (by decide) (br_t rfl ⟨v, br_f hs (br_f h0 (br_f l1 (br_f w0 (br_t l11 (br_f (by decide) (br_f (by decide) (br_t rfl ⟨v, rfl, kk⟩)))))))⟩))))))))
        · exact br_f h0 (br_f l1 (br_f w0 (br_t l12 (br_f w0 (br_f l3 (br_f (by decide) (br_f (by decide) (br_f (by decide) (br_t rfl ⟨v, br_f hs (br_f h0 (br_f l1 (br_f w0 (br_t l11 (br_f (by decide) (br_f (by decide) (br_f (by decide) (br_t rfl ⟨v, rfl, kk⟩))))))))⟩)))))))))
    · have l12 : ¬ nI w < 12 := nI_nlt (b := 12) (by omega) hw
      have l11 : ¬ nI w ≤ 11 := nI_ge (a := 11) (by omega) hw
      exact br_f h0 (br_f l1 (br_f w0 (br_f l12 (br_f hs (br_f h0 (br_f l1 (br_f w0 (br_f l11 ⟨rfl, kk⟩))))))))
  · have l1 : nI fc ≤ nI o := nI_le (by omega) ho
    exact br_f h0 (br_t l1 (br_c (fun _ => ⟨rfl, kk⟩) (fun _ => br_f h0 (br_t l1 ⟨rfl, kk⟩))))
theorem od_getDecl {k : Nat} (v1 v2 : Int32) (h : od_All ca cc oc fc st ck fm fk dX pT dY sc so sa sb oC oO oF fB fP fR fV fL) :
    wpX_getDecl (fun r => wpY_getDecl (fun r' => r' = r ∧ i_Rel k (nI ca, st, er, ck, nI cc, nI oc, nI fc, fm, fk, ft, rt, dX, sc, so, sa, sb, oC, oO, oF, fB, fP, fR, fV, fL) (nI ca, st, er, nI cc, ck, nI oc, nI fc, fm, fk, ft, pT, rt, dY, sc, so, sa, sb, oC, oO, oF, fB, fP, fR, fV, fL)) (nI ca, st, er, nI cc, ck, nI oc, nI fc, fm, fk, ft, pT, rt, dY, sc, so, sa, sb, oC, oO, oF, fB, fP, fR, fV, fL) v1 v2) (nI ca, st, er, ck, nI cc, nI oc, nI fc, fm, fk, ft, rt, dX, sc, so, sa, sb, oC, oO, oF, fB, fP, fR, fV, fL) v1 v2 := by
  have kk : i_Rel k (nI ca, st, er, ck, nI cc, nI oc, nI fc, fm, fk, ft, rt, dX, sc, so, sa, sb, oC, oO, oF, fB, fP, fR, fV, fL) (nI ca, st, er, nI cc, ck, nI oc, nI fc, fm, fk, ft, pT, rt, dY, sc, so, sa, sb, oC, oO, oF, fB, fP, fR, fV, fL) := od_mk h
  obtain ⟨hP, -⟩ := h
  have hcc := hP.2.1
  have hfk := hP.2.2.2.1
  have hd1 := hP.2.2.2.2.2.2.1
  unfold wpX_getDecl
  rcases od_bcase v1 hcc with ⟨b, hb, rfl⟩ | hv
  · have hb8 : b ≤ 8 := by omega
    have vb : vp_in (nI b) 9 := vp_in_nI (by omega) (by decide)
    refine od_xB1 hb hcc (br_f (by decide) ?_)
    by_cases w0 : v2 < 0
    · have a8 : v2 < 8 := Int32.lt_trans w0 (by decide)
      have a4 : v2 < 4 := Int32.lt_trans w0 (by decide)
      have n16 : ¬ v2 = 16 := fun e => by rw [e] at w0; exact absurd w0 (by decide)
      have fY : ∀ r : Int32, r = -2 → wpY_getDecl (fun r' => r' = r ∧ i_Rel k (nI ca, st, er, ck, nI cc, nI oc, nI fc, fm, fk, ft, rt, dX, sc, so, sa, sb, oC, oO, oF, fB, fP, fR, fV, fL) (nI ca, st, er, nI cc, ck, nI oc, nI fc, fm, fk, ft, pT, rt, dY, sc, so, sa, sb, oC, oO, oF, fB, fP, fR, fV, fL)) (nI ca, st, er, nI cc, ck, nI oc, nI fc, fm, fk, ft, pT, rt, dY, sc, so, sa, sb, oC, oO, oF, fB, fP, fR, fV, fL) (nI b) v2 := by
        intro r hr
        unfold wpY_getDecl
        refine od_yB1 hb hcc (br_f (by decide) (br_f n16 (br_t a8 ?_)))
        exact br_c (fun _ => ⟨hr.symm, kk⟩) (fun _ => br_t w0 ⟨hr.symm, kk⟩)
      refine br_t a8 (br_f n16 ?_)
      exact br_c (fun _ => fY _ rfl) (fun _ => br_t w0 (br_t a4 (fY _ rfl)))
    obtain ⟨i, hi, rfl⟩ := nI_of w0
    by_cases i8 : i < 8
    · have a8 : nI i < 8 := nI_lt (b := 8) i8 (by decide)
      have a7 : nI i ≤ 7 := nI_le (b := 7) (by omega) (by decide)
      have n16 : ¬ nI i = 16 := od_ne (k := 16) (by omega) (by omega) (by decide)
      have fY : ∀ r : Int32, wY_getDecl_46 (fun r' => r' = r ∧ i_Rel k (nI ca, st, er, ck, nI cc, nI oc, nI fc, fm, fk, ft, rt, dX, sc, so, sa, sb, oC, oO, oF, fB, fP, fR, fV, fL) (nI ca, st, er, nI cc, ck, nI oc, nI fc, fm, fk, ft, pT, rt, dY, sc, so, sa, sb, oC, oO, oF, fB, fP, fR, fV, fL)) (nI b) (nI i) (nI ca) st er (nI cc) ck (nI oc) (nI fc) fm fk ft pT rt dY sc so sa sb oC oO oF fB fP fR fV fL → wpY_getDecl (fun r' => r' = r ∧ i_Rel k (nI ca, st, er, ck, nI cc, nI oc, nI fc, fm, fk, ft, rt, dX, sc, so, sa, sb, oC, oO, oF, fB, fP, fR, fV, fL) (nI ca, st, er, nI cc, ck, nI oc, nI fc, fm, fk, ft, pT, rt, dY, sc, so, sa, sb, oC, oO, oF, fB, fP, fR, fV, fL)) (nI ca, st, er, nI cc, ck, nI oc, nI fc, fm, fk, ft, pT, rt, dY, sc, so, sa, sb, oC, oO, oF, fB, fP, fR, fV, fL) (nI b) (nI i) := by
        intro r p
        unfold wpY_getDecl
        exact od_yB1 hb hcc (br_f (by decide) (br_f n16 (br_t a8 p)))
      refine br_t a8 (br_f n16 ?_)
      by_cases e8 : b = 8
      · subst e8
        exact br_t rfl (fY _ (br_t rfl ⟨rfl, kk⟩))
      · have n8 : ¬ nI b = 8 := od_ne (k := 8) e8 (by omega) (by decide)
        have vc : vp_in (nI b) 8 := vp_in_nI (by omega) (by decide)
        refine br_f n8 (br_f w0 ⟨vc, ?_⟩)
        obtain ⟨n, hn, en⟩ := hfk b
        have ek : fk (nI b).toNatClampNeg = nI n := (od_ef (by omega)).trans en
        by_cases hin : i < n
        · have l : ¬ fk (nI b).toNatClampNeg ≤ nI i := by rw [ek]; exact nI_ge hin (by omega)
          have v32 : vp_in (nI b * 4 + nI i) 32 := by rw [od_i4]; exact vp_in_nI (by omega) (by decide)
          exact br_f l ⟨v32, fY _ (br_f n8 (br_f w0 (br_t a7 (br_f (nI_ge (b := 4) (by omega) (by decide)) ⟨vc, br_f l ⟨v32, rfl, kk⟩⟩))))⟩
        · have l : fk (nI b).toNatClampNeg ≤ nI i := by rw [ek]; exact nI_le (by omega) hi
          refine br_t l ?_
          by_cases i4 : i < 4
          · exact br_t (nI_lt (b := 4) i4 (by decide)) (fY _ (br_f n8 (br_f w0 (br_t a7 (br_f (nI_ge (b := 4) i4 (by decide)) ⟨vc, br_t l ⟨rfl, kk⟩⟩)))))
          · have l4 : (4 : Int32) ≤ nI i := nI_le (a := 4) (by omega) hi
            refine br_f (nI_nlt (b := 4) (by omega) hi) (br_f (nI_nlt (a := 7) (by omega) (by decide)) ?_)
            rcases (show i = 4 ∨ i = 5 ∨ i = 6 ∨ i = 7 by omega) with rfl | rfl | rfl | rfl
            · have v1 : vp_in (nI b * 8 + 1) 72 := by rw [od_i81]; exact vp_in_nI (by omega) (by decide)
              have e1 : pT (nI b).toNatClampNeg = dX (nI b * 8 + 1).toNatClampNeg := by
                rw [od_i81, nI_clamp (by omega), nI_clamp (by omega)]; exact (hd1 b (by omega)).symm
              exact br_t rfl ⟨v1, fY _ (br_f n8 (br_f w0 (br_t a7 (br_t l4 (br_t rfl ⟨vc, e1, kk⟩)))))⟩
            · exact br_f (by decide) (br_t rfl ⟨vc, fY _ (br_f n8 (br_f w0 (br_t a7 (br_t l4 (br_f (by decide) (br_t rfl ⟨vc, rfl, kk⟩))))))⟩)
            · exact br_f (by decide) (br_f (by decide) (br_t rfl ⟨vc, fY _ (br_f n8 (br_f w0 (br_t a7 (br_t l4 (br_f (by decide) (br_f (by decide) (br_t rfl ⟨vc, rfl, kk⟩)))))))⟩))
            · exact br_f (by decide) (br_f (by decide) (br_f (by decide) (br_t rfl ⟨vc, fY _ (br_f n8 (br_f w0 (br_t a7 (br_t l4 (br_f (by decide) (br_f (by decide) (br_f (by decide) ⟨vc, rfl, kk⟩)))))))⟩)))
    · have a8 : ¬ nI i < 8 := nI_nlt (b := 8) (by omega) hi
      refine br_f a8 ?_
      by_cases i16 : i < 16
      · have l16 : ¬ (16 : Int32) ≤ nI i := nI_ge (b := 16) i16 (by decide)
        have l15 : ¬ (15 : Int32) < nI i := nI_nlt (a := 15) (by omega) (by decide)
        have n16 : ¬ nI i = 16 := od_ne (k := 16) (by omega) (by omega) (by decide)
        have e8 : nI b * 8 + nI i - 8 = nI (b * 8 + (i - 8)) := by rw [od_i8, od_s8 (by omega), show b * 8 + i - 8 = b * 8 + (i - 8) by omega]
        refine br_f l16 ?_
        rw [e8, nI_clamp (by omega)]
        refine ⟨vp_in_nI (by omega) (by decide), ?_⟩
        unfold wpY_getDecl
        refine od_yB1 hb hcc (br_f (by decide) (br_f n16 (br_f a8 (br_f l15 ?_))))
        rw [od_s8 (by omega)]
        exact od_decl hP hb (by omega) ⟨rfl, kk⟩
      · have l16 : (16 : Int32) ≤ nI i := nI_le (a := 16) (by omega) hi
        have l15 : (15 : Int32) < nI i := nI_lt (a := 15) (by omega) hi
        refine br_t l16 ?_
        by_cases e16 : i = 16
        · subst e16
          refine br_t rfl ⟨vb, ?_⟩
          unfold wpY_getDecl
          exact od_yB1 hb hcc (br_f (by decide) (br_t rfl ⟨vb, rfl, kk⟩))
        · have n16 : ¬ nI i = 16 := od_ne (k := 16) e16 (by omega) (by decide)
          have a7 : ¬ nI i ≤ 7 := nI_ge (a := 7) (by omega) hi
          have fY : ∀ r : Int32, r = -2 → wpY_getDecl (fun r' => r' = r ∧ i_Rel k (nI ca, st, er, ck, nI cc, nI oc, nI fc, fm, fk, ft, rt, dX, sc, so, sa, sb, oC, oO, oF, fB, fP, fR, fV, fL) (nI ca, st, er, nI cc, ck, nI oc, nI fc, fm, fk, ft, pT, rt, dY, sc, so, sa, sb, oC, oO, oF, fB, fP, fR, fV, fL)) (nI ca, st, er, nI cc, ck, nI oc, nI fc, fm, fk, ft, pT, rt, dY, sc, so, sa, sb, oC, oO, oF, fB, fP, fR, fV, fL) (nI b) (nI i) := by
            intro r hr
            unfold wpY_getDecl
            refine od_yB1 hb hcc (br_f (by decide) (br_f n16 (br_f a8 (br_t l15 ?_))))
            exact br_c (fun _ => ⟨hr.symm, kk⟩) (fun _ => br_f w0 (br_f a7 ⟨hr.symm, kk⟩))
          refine br_f n16 ?_
          by_cases e8 : b = 8
          · subst e8; exact br_t rfl (fY _ rfl)
          · have n8 : ¬ nI b = 8 := od_ne (k := 8) e8 (by omega) (by decide)
            have vc : vp_in (nI b) 8 := vp_in_nI (by omega) (by decide)
            obtain ⟨n, hn, en⟩ := hfk b
            have l : fk (nI b).toNatClampNeg ≤ nI i := by rw [od_ef (g := fk) (f := b) (by omega), en]; exact nI_le (by omega) hi
            exact br_f n8 (br_f w0 ⟨vc, br_t l (br_f (nI_nlt (b := 4) (by omega) hi) (br_t (nI_lt (a := 7) (by omega) hi) (fY _ rfl)))⟩)
  · refine od_xB0 hv (br_t rfl ?_)
    unfold wpY_getDecl
    exact od_yB0 hv (br_t rfl ⟨rfl, kk⟩)
theorem od_getStmt {k : Nat} (v1 v2 v3 : Int32) (h : od_All ca cc oc fc st ck fm fk dX pT dY sc so sa sb oC oO oF fB fP fR fV fL) :
    wpX_getStmt (fun r => wpY_getStmt (fun r' => r' = r ∧ i_Rel k (nI ca, st, er, ck, nI cc, nI oc, nI fc, fm, fk, ft, rt, dX, sc, so, sa, sb, oC, oO, oF, fB, fP, fR, fV, fL) (nI ca, st, er, nI cc, ck, nI oc, nI fc, fm, fk, ft, pT, rt, dY, sc, so, sa, sb, oC, oO, oF, fB, fP, fR, fV, fL)) (nI ca, st, er, nI cc, ck, nI oc, nI fc, fm, fk, ft, pT, rt, dY, sc, so, sa, sb, oC, oO, oF, fB, fP, fR, fV, fL) v1 v2 v3) (nI ca, st, er, ck, nI cc, nI oc, nI fc, fm, fk, ft, rt, dX, sc, so, sa, sb, oC, oO, oF, fB, fP, fR, fV, fL) v1 v2 v3 := by
  have kk : i_Rel k (nI ca, st, er, ck, nI cc, nI oc, nI fc, fm, fk, ft, rt, dX, sc, so, sa, sb, oC, oO, oF, fB, fP, fR, fV, fL) (nI ca, st, er, nI cc, ck, nI oc, nI fc, fm, fk, ft, pT, rt, dY, sc, so, sa, sb, oC, oO, oF, fB, fP, fR, fV, fL) := od_mk h
  obtain ⟨hP, -⟩ := h
  have hcc := hP.2.1
  have hsc := hP.2.2.2.2.1
  unfold wpX_getStmt
  rcases od_bcase v1 hcc with ⟨b, hb, rfl⟩ | hv
  · have hb8 : b ≤ 8 := by omega
    have vb : vp_in (nI b) 9 := vp_in_nI (by omega) (by decide)
    obtain ⟨n, hn, en⟩ := hsc b
    have ek : sc (nI b).toNatClampNeg = nI n := (od_ef (by omega)).trans en
    refine od_xB1 hb hcc (br_f (by decide) ?_)
    by_cases w0 : v2 < 0
    · refine br_t w0 ?_
      unfold wpY_getStmt
      exact od_yB1 hb hcc (br_f (by decide) (br_t w0 ⟨rfl, kk⟩))
    obtain ⟨i, hi, rfl⟩ := nI_of w0
    refine br_f w0 ⟨vb, ?_⟩
    by_cases hin : i < n
    · have l1 : nI i < sc (nI b).toNatClampNeg := by rw [ek]; exact nI_lt hin (by omega)
      have l2 : ¬ sc (nI b).toNatClampNeg ≤ nI i := by rw [ek]; exact nI_ge hin (by omega)
      have fY : ∀ r : Int32, ((v3 < 0 → r = -2) ∧ (¬ v3 < 0 → ((v3 ≤ 2 → ((v3 = 0 → so (b * 16 + i) = r) ∧ (¬ v3 = 0 → ((v3 = 1 → sa (b * 16 + i) = r) ∧ (¬ v3 = 1 → sb (b * 16 + i) = r))))) ∧ (¬ v3 ≤ 2 → r = -2)))) → wpY_getStmt (fun r' => r' = r ∧ i_Rel k (nI ca, st, er, ck, nI cc, nI oc, nI fc, fm, fk, ft, rt, dX, sc, so, sa, sb, oC, oO, oF, fB, fP, fR, fV, fL) (nI ca, st, er, nI cc, ck, nI oc, nI fc, fm, fk, ft, pT, rt, dY, sc, so, sa, sb, oC, oO, oF, fB, fP, fR, fV, fL)) (nI ca, st, er, nI cc, ck, nI oc, nI fc, fm, fk, ft, pT, rt, dY, sc, so, sa, sb, oC, oO, oF, fB, fP, fR, fV, fL) (nI b) (nI i) v3 := by
        intro r ⟨q1, q2⟩
        have v : vp_in (nI (b * 16 + i)) 144 := vp_in_nI (by omega) (by decide)
        have ec : (nI (b * 16 + i)).toNatClampNeg = b * 16 + i := nI_clamp (by omega)
        unfold wpY_getStmt
        refine od_yB1 hb hcc (br_f (by decide) (br_f w0 ⟨vb, br_f l2 (br_c (fun z => ⟨(q1 z).symm, kk⟩) (fun z => br_c (fun z2 => nm_r (od_i16 b i) ?_) (fun z2 => ⟨((q2 z).2 z2).symm, kk⟩)))⟩))
        obtain ⟨q3, q4⟩ := (q2 z).1 z2
        rw [ec]
        exact br_c (fun z3 => ⟨v, q3 z3, kk⟩) (fun z3 => br_c (fun z4 => ⟨v, (q4 z3).1 z4, kk⟩) (fun z4 => ⟨v, (q4 z3).2 z4, kk⟩))
      have v : vp_in (nI (b * 16 + i)) 144 := vp_in_nI (by omega) (by decide)
      have ec : (nI (b * 16 + i)).toNatClampNeg = b * 16 + i := nI_clamp (by omega)
      refine br_t l1 (nm_r (od_i16 b i) ?_)
      rw [ec]
      by_cases p0 : v3 < 0
      · exact br_t p0 (fY _ (br_t p0 rfl))
      obtain ⟨j, hj, rfl⟩ := nI_of p0
      by_cases j2 : 2 < j
      · exact br_f p0 (br_t (nI_lt (a := 2) j2 hj) (fY _ (br_f p0 (br_f (nI_ge (a := 2) j2 hj) rfl))))
      · have m2 : ¬ (2 : Int32) < nI j := nI_nlt (a := 2) (by omega) (by decide)
        have m2' : nI j ≤ 2 := nI_le (b := 2) (by omega) (by decide)
        rcases (show j = 0 ∨ j = 1 ∨ j = 2 by omega) with rfl | rfl | rfl
        · exact br_f p0 (br_f m2 (br_t rfl ⟨v, fY _ (br_f p0 (br_t m2' (br_t rfl rfl)))⟩))
        · exact br_f p0 (br_f m2 (br_f (by decide) (br_t rfl ⟨v, fY _ (br_f p0 (br_t m2' (br_f (by decide) (br_t rfl rfl))))⟩)))
        · exact br_f p0 (br_f m2 (br_f (by decide) (br_f (by decide) (br_t rfl ⟨v, fY _ (br_f p0 (br_t m2' (br_f (by decide) (br_f (by decide) rfl))))⟩))))
    · have l1 : ¬ nI i < sc (nI b).toNatClampNeg := by rw [ek]; exact nI_nlt (by omega) hi
      have l2 : sc (nI b).toNatClampNeg ≤ nI i := by rw [ek]; exact nI_le (by omega) hi
      refine br_f l1 ?_
      unfold wpY_getStmt
      exact od_yB1 hb hcc (br_f (by decide) (br_f w0 ⟨vb, br_t l2 ⟨rfl, kk⟩⟩))
  · refine od_xB0 hv (br_t rfl ?_)
    unfold wpY_getStmt
    exact od_yB0 hv (br_t rfl ⟨rfl, kk⟩)
theorem od_vc0 (k0 : Int32) : wpX_init (fun u => wpY_init (fun v => i_Rel 1 u v) k0) k0 := by
  have fin : ∀ n : Nat, n ≤ 32 → i_Rel 1 (nI n, 0, -1, 0, nI 0, nI 0, nI 0, fun _ => 0, fun _ => 0, fun _ => 0, fun _ => 0, fun _ => 0, fun _ => 0, fun _ => 0, fun _ => 0, fun _ => 0, fun _ => 0, fun _ => 0, fun _ => 0, fun _ => 0, fun _ => 0, fun _ => 0, fun _ => 0, fun _ => 0) (nI n, 0, -1, nI 0, 0, nI 0, nI 0, fun _ => 0, fun _ => 0, fun _ => 0, fun _ => 0, fun _ => 0, fun _ => 0, fun _ => 0, fun _ => 0, fun _ => 0, fun _ => 0, fun _ => 0, fun _ => 0, fun _ => 0, fun _ => 0, fun _ => 0, fun _ => 0, fun _ => 0, fun _ => 0) := by
    intro n hn
    exact od_mk ⟨⟨Or.inl rfl, by decide, fun _ => ⟨0, by decide, rfl⟩, fun _ => ⟨0, by decide, rfl⟩, fun _ => ⟨0, by decide, rfl⟩, fun c _ hc => absurd hc (Nat.not_lt_zero c), fun _ _ => rfl, fun _ _ _ _ => rfl, fun _ _ => rfl⟩, hn, Nat.zero_le _, by decide, fun _ => ⟨rfl, rfl⟩, fun e => absurd rfl e⟩
  by_cases h4 : (4 : Int32) ≤ k0
  · by_cases h32 : k0 ≤ 32
    · have g : ¬ k0 < 0 := fun h => absurd (Int32.lt_of_le_of_lt h4 h) (by decide)
      obtain ⟨n, hn, rfl⟩ := nI_of g
      have n32 : n ≤ 32 := by
        by_cases q : n ≤ 32
        · exact q
        · exact absurd h32 (nI_ge (a := 32) (by omega) hn)
      exact br_t h4 (br_t h32 (br_t h4 (br_t h32 (fin n n32))))
    · exact br_t h4 (br_f h32 (br_t h4 (br_f h32 (fin 32 (Nat.le_refl _)))))
  · exact br_f h4 (br_t (by decide) (br_f h4 (fin 4 (by decide))))
