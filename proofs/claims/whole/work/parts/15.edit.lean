variable {ca cc oc fc : Nat} {st er ck : Int32} {fm fk ft rt dX pT dY sc so sa sb oC oO oF fB fP fR fV fL : Nat → Int32}
theorem od_xC1 {c : Nat} {post : Int32 → Prop} (hc : c < cc) (hcc : cc ≤ 8) (p : post 1) : wpX_isClass post (nI ca, st, er, ck, nI cc, nI oc, nI fc, fm, fk, ft, rt, dX, sc, so, sa, sb, oC, oO, oF, fB, fP, fR, fV, fL) (nI c) := br_f (nI_pos (by omega)) (br_f (nI_ge hc (by omega)) p)
/-- a number that names a class, or does not -/
theorem od_ccase (x : Int32) (hcc : cc ≤ 8) : (∃ c, c < cc ∧ x = nI c) ∨ (x < 0 ∨ (¬ x < 0 ∧ nI cc ≤ x ∧ ¬ x < nI cc)) := by
  by_cases h : x < 0
  · exact Or.inr (Or.inl h)
  · obtain ⟨j, hj, rfl⟩ := nI_of h
    by_cases q : j < cc
    · exact Or.inl ⟨j, q, rfl⟩
    · exact Or.inr (Or.inr ⟨h, nI_le (by omega) hj, nI_nlt (by omega) hj⟩)
theorem od_xC0 {x : Int32} {post : Int32 → Prop} (h : x < 0 ∨ (¬ x < 0 ∧ nI cc ≤ x ∧ ¬ x < nI cc)) (p : post 0) : wpX_isClass post (nI ca, st, er, ck, nI cc, nI oc, nI fc, fm, fk, ft, rt, dX, sc, so, sa, sb, oC, oO, oF, fB, fP, fR, fV, fL) x := by
  rcases h with h | ⟨h, h', -⟩
  · exact br_t h p
  · exact br_f h (br_t h' p)
theorem od_xB1 {b : Nat} {post : Int32 → Prop} (hb : b < cc ∨ b = 8) (hcc : cc ≤ 8) (p : post 1) : wpX_isBody post (nI ca, st, er, ck, nI cc, nI oc, nI fc, fm, fk, ft, rt, dX, sc, so, sa, sb, oC, oO, oF, fB, fP, fR, fV, fL) (nI b) := by
  rcases hb with hb | rfl
  · exact br_f (od_ne (k := 8) (by omega) (by omega) (by decide)) (od_xC1 hb hcc (br_f (by decide) p))
  · exact br_t rfl p
theorem od_yB1 {b : Nat} {post : Int32 → Prop} (hb : b < cc ∨ b = 8) (hcc : cc ≤ 8) (p : post 1) : wpY_validBody post (nI ca, st, er, nI cc, ck, nI oc, nI fc, fm, fk, ft, pT, rt, dY, sc, so, sa, sb, oC, oO, oF, fB, fP, fR, fV, fL) (nI b) := by
  rcases hb with hb | rfl
  · exact br_f (od_ne (k := 8) (by omega) (by omega) (by decide)) (br_f (nI_pos (by omega)) (br_f (nI_ge hb (by omega)) p))
  · exact br_t rfl p
theorem od_bcase (x : Int32) (hcc : cc ≤ 8) : (∃ b, (b < cc ∨ b = 8) ∧ x = nI b) ∨ (¬ x = 8 ∧ (x < 0 ∨ (¬ x < 0 ∧ nI cc ≤ x ∧ ¬ x < nI cc))) := by
  by_cases h8 : x = 8
  · exact Or.inl ⟨8, Or.inr rfl, h8⟩
  · rcases od_ccase x hcc with ⟨c, hc, e⟩ | h
    · exact Or.inl ⟨c, Or.inl hc, e⟩
    · exact Or.inr ⟨h8, h⟩
theorem od_xB0 {x : Int32} {post : Int32 → Prop} (h : ¬ x = 8 ∧ (x < 0 ∨ (¬ x < 0 ∧ nI cc ≤ x ∧ ¬ x < nI cc))) (p : post 0) : wpX_isBody post (nI ca, st, er, ck, nI cc, nI oc, nI fc, fm, fk, ft, rt, dX, sc, so, sa, sb, oC, oO, oF, fB, fP, fR, fV, fL) x := br_f h.1 (od_xC0 h.2 (br_t rfl p))
theorem od_yB0 {x : Int32} {post : Int32 → Prop} (h : ¬ x = 8 ∧ (x < 0 ∨ (¬ x < 0 ∧ nI cc ≤ x ∧ ¬ x < nI cc))) (p : post 0) : wpY_validBody post (nI ca, st, er, nI cc, ck, nI oc, nI fc, fm, fk, ft, pT, rt, dY, sc, so, sa, sb, oC, oO, oF, fB, fP, fR, fV, fL) x := by
  rcases h with ⟨h8, h | ⟨h, h', -⟩⟩
  · exact br_f h8 (br_t h p)
  · exact br_f h8 (br_f h (br_t h' p))
/-- a state before compile -/
theorem od_ed (hP : od_P ck cc fm fk dX pT dY sc) (hca : ca ≤ 32) (h : oc ≤ ca) (h' : fc ≤ 8) (h0 : (0 : Int32) = 0 → oc = 0 ∧ fc = 0) : od_All ca cc oc fc 0 ck fm fk dX pT dY sc so sa sb oC oO oF fB fP fR fV fL :=
  ⟨hP, hca, h, h', h0, fun e => absurd rfl e⟩
theorem od_addClass {k : Nat} (v1 : Int32) (h : od_All ca cc oc fc st ck fm fk dX pT dY sc so sa sb oC oO oF fB fP fR fV fL) :
    wpX_addClass (fun r u' => wpY_addClass (fun r' v' => r' = r ∧ i_Rel k u' v') (nI ca, st, er, nI cc, ck, nI oc, nI fc, fm, fk, ft, pT, rt, dY, sc, so, sa, sb, oC, oO, oF, fB, fP, fR, fV, fL) v1) (nI ca, st, er, ck, nI cc, nI oc, nI fc, fm, fk, ft, rt, dX, sc, so, sa, sb, oC, oO, oF, fB, fP, fR, fV, fL) v1 := by
  by_cases hs : st = 0
  · subst hs
    by_cases h0 : v1 < 0
    · exact br_t rfl (br_t h0 (br_t rfl (br_t h0 ⟨rfl, od_mk h⟩)))
    obtain ⟨j, hj, rfl⟩ := nI_of h0
    by_cases h2 : 2 < j
    · have l : (2 : Int32) < nI j := nI_lt (a := 2) h2 hj
      exact br_t rfl (br_f h0 (br_t l (br_t rfl (br_f h0 (br_t l ⟨rfl, od_mk h⟩)))))
    have l : ¬ (2 : Int32) < nI j := nI_nlt (a := 2) (by omega) (by decide)
    obtain ⟨hP, hca, hoc, hfc, h00, hM⟩ := id h
    obtain ⟨hck, hcc, hfm, hfk, hsc, hd0, hd1, hd2, hd8⟩ := hP
    by_cases h8 : cc < 8
    · have l8 : nI cc < 8 := nI_lt (b := 8) h8 (by decide)
      have vc : vp_in (nI cc) 8 := vp_in_nI h8 (by decide)
      have hP' : od_P ck (cc + 1) (upd fm cc (nI j)) fk (upd dX (cc * 8) (nI (od_self cc j))) pT dY sc := by
        refine ⟨hck, by omega, fun c => ?_, hfk, hsc, fun c n hc hn en => ?_, fun c hc => ?_, fun c v hv hv' => ?_, fun v hv => ?_⟩
        · by_cases e : c = cc
          · subst e; exact ⟨j, by omega, pk_us⟩
          · rw [pk_un e]; exact hfm c
        · by_cases e : c = cc
          · subst e
            rw [pk_us] at en ⊢
            rw [od_inj en hj (by omega)]
          · rw [pk_un e] at en
            rw [pk_un (by omega)]
            exact hd0 c n (by omega) hn en
        · rw [pk_un (by omega)]; exact hd1 c hc
        · rw [pk_un (by omega)]; exact hd2 c v hv hv'
        · rw [pk_un (by omega)]; exact hd8 v hv
      refine br_t rfl (br_f h0 (br_f l (br_t l8 (nm_r (nI_1 cc) ⟨vc, nm_r (od_uf (by omega)) (od_xself h8 (n := j) (by omega) pk_us ?_)⟩))))
      rw [od_i80]
      exact ⟨vp_in_nI (by omega) (by decide), nm_r (od_uf (by omega)) (br_t rfl (br_f h0 (br_f l (br_t l8 ⟨vc, nm_r (od_uf (by omega)) (nm_r (nI_1 cc) ⟨nI_pred cc, od_mk (od_ed hP' hca hoc hfc h00)⟩)⟩))))⟩
    · have l8 : ¬ nI cc < 8 := nI_nlt (b := 8) (by omega) (by omega)
      exact br_t rfl (br_f h0 (br_f l (br_f l8 (br_t rfl (br_f h0 (br_f l (br_f l8 ⟨rfl, od_mk h⟩)))))))
  · exact br_f hs (br_f hs ⟨rfl, od_mk h⟩)
theorem od_addField {k : Nat} (v1 v2 : Int32) (h : od_All ca cc oc fc st ck fm fk dX pT dY sc so sa sb oC oO oF fB fP fR fV fL) :
    wpX_addField (fun r u' => wpY_addField (fun r' v' => r' = r ∧ i_Rel k u' v') (nI ca, st, er, nI cc, ck, nI oc, nI fc, fm, fk, ft, pT, rt, dY, sc, so, sa, sb, oC, oO, oF, fB, fP, fR, fV, fL) v1 v2) (nI ca, st, er, ck, nI cc, nI oc, nI fc, fm, fk, ft, rt, dX, sc, so, sa, sb, oC, oO, oF, fB, fP, fR, fV, fL) v1 v2 := by
  by_cases hs : st = 0
  · subst hs
    obtain ⟨hP, hca, hoc, hfc, h00, hM⟩ := id h
    obtain ⟨hck, hcc, hfm, hfk, hsc, hd⟩ := hP
    rcases od_ccase v1 hcc with ⟨c, hc, rfl⟩ | hv
    · have vc : vp_in (nI c) 8 := vp_in_nI (by omega) (by decide)
      have h0 : ¬ nI c < 0 := nI_pos (by omega)
      have h1 : ¬ nI cc ≤ nI c := nI_ge hc (by omega)
      obtain ⟨n, hn, en⟩ := hfk c
      have ek : fk (nI c).toNatClampNeg = nI n := (od_ef (by omega)).trans en
      by_cases h4 : n < 4
      · have l : fk (nI c).toNatClampNeg < 4 := by rw [ek]; exact nI_lt (b := 4) h4 (by decide)
        have v32 : vp_in (nI c * 4 + nI n) 32 := by rw [od_i4]; exact vp_in_nI (by omega) (by decide)
        have eu : upd ft (nI c * 4 + nI n).toNatClampNeg v2 = upd ft (c * 4 + n) v2 := by rw [od_i4, nI_clamp (by omega)]
        have ef : upd fk (nI c).toNatClampNeg (fk (nI c).toNatClampNeg + 1) = upd fk c (nI (n + 1)) := by rw [ek, nI_1, nI_clamp (by omega)]
        have ey : upd fk c (nI (n + 1)) (nI c).toNatClampNeg - 1 = nI n := by rw [nI_clamp (by omega), pk_us, nI_pred]
        have hP' : od_P ck cc fm (upd fk c (nI (n + 1))) dX pT dY sc := by
          refine ⟨hck, hcc, hfm, fun c' => ?_, hsc, hd⟩
          by_cases e : c' = c
          · subst e; exact ⟨n + 1, by omega, pk_us⟩
          · rw [pk_un e]; exact hfk c'
        refine br_t rfl (od_xC1 hc hcc (br_f (by decide) ⟨vc, br_t l ⟨vc, nm_r ek ⟨v32, nm_r eu ⟨vc, vc, nm_r ef (br_t rfl (br_f h0 (br_f h1 ⟨vc, br_t l ⟨vc, ?_⟩⟩)))⟩⟩⟩⟩))
        rw [ek]
        refine ⟨v32, nm_r eu ⟨vc, vc, ?_⟩⟩
        rw [← ek]
        exact nm_r ef ⟨vc, ey.trans ek.symm, od_mk (od_ed hP' hca hoc hfc h00)⟩
      · have l : ¬ fk (nI c).toNatClampNeg < 4 := by rw [ek]; exact nI_nlt (b := 4) (by omega) (by omega)
        exact br_t rfl (od_xC1 hc hcc (br_f (by decide) ⟨vc, br_f l (br_t rfl (br_f h0 (br_f h1 ⟨vc, br_f l ⟨rfl, od_mk h⟩⟩)))⟩))
    · refine br_t rfl (od_xC0 hv (br_t rfl (br_t rfl ?_)))
      rcases hv with hv | ⟨hv, hv', -⟩
      · exact br_t hv ⟨rfl, od_mk h⟩
      · exact br_f hv (br_t hv' ⟨rfl, od_mk h⟩)
  · exact br_f hs (br_f hs ⟨rfl, od_mk h⟩)
theorem od_setSig {k : Nat} (v1 v2 v3 : Int32) (h : od_All ca cc oc fc st ck fm fk dX pT dY sc so sa sb oC oO oF fB fP fR fV fL) :
    wpX_setSignature (fun r u' => wpY_setSignature (fun r' v' => r' = r ∧ i_Rel k u' v') (nI ca, st, er, nI cc, ck, nI oc, nI fc, fm, fk, ft, pT, rt, dY, sc, so, sa, sb, oC, oO, oF, fB, fP, fR, fV, fL) v1 v2 v3) (nI ca, st, er, ck, nI cc, nI oc, nI fc, fm, fk, ft, rt, dX, sc, so, sa, sb, oC, oO, oF, fB, fP, fR, fV, fL) v1 v2 v3 := by
  by_cases hs : st = 0
  · subst hs
    obtain ⟨hP, hca, hoc, hfc, h00, hM⟩ := id h
    obtain ⟨hck, hcc, hfm, hfk, hsc, hd0, hd1, hd2, hd8⟩ := hP
    rcases od_ccase v1 hcc with ⟨c, hc, rfl⟩ | hv
    · have vc : vp_in (nI c) 8 := vp_in_nI (by omega) (by decide)
      have h0 : ¬ nI c < 0 := nI_pos (by omega)
      have h1 : nI c < nI cc := nI_lt hc (by omega)
      have v1' : vp_in (nI c * 8 + 1) 72 := by rw [od_i81]; exact vp_in_nI (by omega) (by decide)
      have eu : upd dX (nI c * 8 + 1).toNatClampNeg v2 = upd dX (c * 8 + 1) v2 := by rw [od_i81, nI_clamp (by omega)]
      have hP' : od_P ck cc fm fk (upd dX (c * 8 + 1) v2) (upd pT c v2) dY sc := by
        refine ⟨hck, hcc, hfm, hfk, hsc, fun c' n hc' hn en => ?_, fun c' hc' => ?_, fun c' v hv hv' => ?_, fun v hv => ?_⟩
        · rw [pk_un (by omega)]; exact hd0 c' n hc' hn en
        · by_cases e : c' = c
          · subst e; rw [pk_us, pk_us]
          · rw [pk_un (by omega), pk_un e]; exact hd1 c' hc'
        · rw [pk_un (by omega)]; exact hd2 c' v hv hv'
        · rw [pk_un (by omega)]; exact hd8 v hv
      exact br_t rfl (od_xC1 hc hcc (br_f (by decide) ⟨v1', nm_r eu ⟨vc, nm_r (od_uf (by omega)) (br_t rfl (br_f h0 (br_t h1 ⟨vc, nm_r (od_uf (by omega)) ⟨vc, nm_r (od_uf (by omega)) ⟨rfl, od_mk (od_ed hP' hca hoc hfc h00)⟩⟩⟩)))⟩⟩))
    · refine br_t rfl (od_xC0 hv (br_t rfl (br_t rfl ?_)))
      rcases hv with hv | ⟨hv, -, hv'⟩
      · exact br_t hv ⟨rfl, od_mk h⟩
      · exact br_f hv (br_f hv' ⟨rfl, od_mk h⟩)
  · exact br_f hs (br_f hs ⟨rfl, od_mk h⟩)
theorem od_setLocal {k : Nat} (v1 v2 v3 : Int32) (h : od_All ca cc oc fc st ck fm fk dX pT dY sc so sa sb oC oO oF fB fP fR fV fL) :
    wpX_setLocal (fun r u' => wpY_setLocal (fun r' v' => r' = r ∧ i_Rel k u' v') (nI ca, st, er, nI cc, ck, nI oc, nI fc, fm, fk, ft, pT, rt, dY, sc, so, sa, sb, oC, oO, oF, fB, fP, fR, fV, fL) v1 v2 v3) (nI ca, st, er, ck, nI cc, nI oc, nI fc, fm, fk, ft, rt, dX, sc, so, sa, sb, oC, oO, oF, fB, fP, fR, fV, fL) v1 v2 v3 := by
  by_cases hs : st = 0
  · subst hs
    obtain ⟨hP, hca, hoc, hfc, h00, hM⟩ := id h
    obtain ⟨hck, hcc, hfm, hfk, hsc, hd0, hd1, hd2, hd8⟩ := hP
    rcases od_bcase v1 hcc with ⟨b, hb, rfl⟩ | hv
    · have hb8 : b ≤ 8 := by omega
      have put : ∀ v, v < 8 → (b = 8 ∨ 2 ≤ v) → i_Rel k (nI ca, 0, er, ck, nI cc, nI oc, nI fc, fm, fk, ft, rt, upd dX (b * 8 + v) v3, sc, so, sa, sb, oC, oO, oF, fB, fP, fR, fV, fL) (nI ca, 0, er, nI cc, ck, nI oc, nI fc, fm, fk, ft, pT, rt, upd dY (b * 8 + v) v3, sc, so, sa, sb, oC, oO, oF, fB, fP, fR, fV, fL) := by
        intro v hv hbv
        have hP' : od_P ck cc fm fk (upd dX (b * 8 + v) v3) pT (upd dY (b * 8 + v) v3) sc := by
          refine ⟨hck, hcc, hfm, hfk, hsc, fun c' n hc' hn en => ?_, fun c' hc' => ?_, fun c' v' q q' => ?_, fun v' q => ?_⟩
          · rw [pk_un (by omega)]; exact hd0 c' n hc' hn en
          · rw [pk_un (by omega)]; exact hd1 c' hc'
          · unfold upd; split
            · rfl
            · exact hd2 c' v' q q'
          · unfold upd; split
            · rfl
            · exact hd8 v' q
        exact od_mk (od_ed hP' hca hoc hfc h00)
      have kk : i_Rel k (nI ca, 0, er, ck, nI cc, nI oc, nI fc, fm, fk, ft, rt, dX, sc, so, sa, sb, oC, oO, oF, fB, fP, fR, fV, fL) (nI ca, 0, er, nI cc, ck, nI oc, nI fc, fm, fk, ft, pT, rt, dY, sc, so, sa, sb, oC, oO, oF, fB, fP, fR, fV, fL) := od_mk h
      have vv : ∀ v, v < 8 → vp_in (nI b * 8 + nI v) 72 := fun v hv => od_v8 (by omega)
      have uu : ∀ (g : Nat → Int32) v, v < 8 → upd g (nI b * 8 + nI v).toNatClampNeg v3 = upd g (b * 8 + v) v3 := fun g v hv => by rw [od_i8, nI_clamp (by omega)]
      by_cases h0 : v2 < 0
      · have yy : wpY_setLocal (fun r' v' => r' = 0 ∧ i_Rel k (nI ca, 0, er, ck, nI cc, nI oc, nI fc, fm, fk, ft, rt, dX, sc, so, sa, sb, oC, oO, oF, fB, fP, fR, fV, fL) v') (nI ca, 0, er, nI cc, ck, nI oc, nI fc, fm, fk, ft, pT, rt, dY, sc, so, sa, sb, oC, oO, oF, fB, fP, fR, fV, fL) (nI b) v2 v3 := br_t rfl (od_yB1 hb hcc (br_f (by decide) (br_t h0 ⟨rfl, kk⟩)))
        refine br_t rfl (od_xB1 hb hcc (br_f (by decide) ?_))
        by_cases e8 : b = 8
        · subst e8; exact br_t rfl (br_t h0 yy)
        · exact br_f (od_ne (k := 8) e8 (by omega) (by decide)) (br_t (Int32.lt_trans h0 (by decide)) yy)
      obtain ⟨v, hv, rfl⟩ := nI_of h0
      by_cases v8 : v < 8
      · have l1 : nI v < 8 := nI_lt (b := 8) v8 (by decide)
        have l2 : ¬ (7 : Int32) < nI v := nI_nlt (a := 7) (by omega) (by decide)
        by_cases e8 : b = 8
        · subst e8
          refine br_t rfl (od_xB1 hb hcc (br_f (by decide) (br_t rfl (br_f h0 (br_t l1 ⟨vv v v8, nm_r (uu _ v v8) ?_⟩)))))
          exact br_t rfl (od_yB1 hb hcc (br_f (by decide) (br_f h0 (br_f l2 (br_t rfl ⟨vv v v8, nm_r (uu _ v v8) ⟨rfl, put v v8 (Or.inl rfl)⟩⟩)))))
        · have n8 : ¬ nI b = 8 := od_ne (k := 8) e8 (by omega) (by decide)
          by_cases h2 : 2 ≤ v
          · have m1 : ¬ nI v < 2 := nI_nlt (b := 2) h2 hv
            have m2 : (2 : Int32) ≤ nI v := nI_le (a := 2) h2 hv
            refine br_t rfl (od_xB1 hb hcc (br_f (by decide) (br_f n8 (br_f m1 (br_t l1 ⟨vv v v8, nm_r (uu _ v v8) ?_⟩)))))
            exact br_t rfl (od_yB1 hb hcc (br_f (by decide) (br_f h0 (br_f l2 (br_f n8 (br_t m2 ⟨vv v v8, nm_r (uu _ v v8) ⟨rfl, put v v8 (Or.inr h2)⟩⟩))))))
          · have m1 : nI v < 2 := nI_lt (b := 2) (by omega) (by decide)
            have m2 : ¬ (2 : Int32) ≤ nI v := nI_ge (b := 2) (by omega) (by decide)
            exact br_t rfl (od_xB1 hb hcc (br_f (by decide) (br_f n8 (br_t m1 (br_t rfl (od_yB1 hb hcc (br_f (by decide) (br_f h0 (br_f l2 (br_f n8 (br_f m2 ⟨rfl, kk⟩)))))))))))
      · have l1 : ¬ nI v < 8 := nI_nlt (b := 8) (by omega) hv
        have l2 : (7 : Int32) < nI v := nI_lt (a := 7) (by omega) hv
        have yy : wpY_setLocal (fun r' v' => r' = 0 ∧ i_Rel k (nI ca, 0, er, ck, nI cc, nI oc, nI fc, fm, fk, ft, rt, dX, sc, so, sa, sb, oC, oO, oF, fB, fP, fR, fV, fL) v') (nI ca, 0, er, nI cc, ck, nI oc, nI fc, fm, fk, ft, pT, rt, dY, sc, so, sa, sb, oC, oO, oF, fB, fP, fR, fV, fL) (nI b) (nI v) v3 := br_t rfl (od_yB1 hb hcc (br_f (by decide) (br_f h0 (br_t l2 ⟨rfl, kk⟩))))
        refine br_t rfl (od_xB1 hb hcc (br_f (by decide) ?_))
        by_cases e8 : b = 8
        · subst e8; exact br_t rfl (br_f h0 (br_f l1 yy))
        · exact br_f (od_ne (k := 8) e8 (by omega) (by decide)) (br_f (nI_nlt (b := 2) (by omega) hv) (br_f l1 yy))
    · exact br_t rfl (od_xB0 hv (br_t rfl (br_t rfl (od_yB0 hv (br_t rfl ⟨rfl, od_mk h⟩)))))
  · exact br_f hs (br_f hs ⟨rfl, od_mk h⟩)
theorem od_addStmt {k : Nat} (v1 v2 v3 v4 : Int32) (h : od_All ca cc oc fc st ck fm fk dX pT dY sc so sa sb oC oO oF fB fP fR fV fL) :
    wpX_addStmt (fun r u' => wpY_addStmt (fun r' v' => r' = r ∧ i_Rel k u' v') (nI ca, st, er, nI cc, ck, nI oc, nI fc, fm, fk, ft, pT, rt, dY, sc, so, sa, sb, oC, oO, oF, fB, fP, fR, fV, fL) v1 v2 v3 v4) (nI ca, st, er, ck, nI cc, nI oc, nI fc, fm, fk, ft, rt, dX, sc, so, sa, sb, oC, oO, oF, fB, fP, fR, fV, fL) v1 v2 v3 v4 := by
  by_cases hs : st = 0
  · subst hs
    obtain ⟨hP, hca, hoc, hfc, h00, hM⟩ := id h
    obtain ⟨hck, hcc, hfm, hfk, hsc, hd⟩ := hP
    rcases od_bcase v1 hcc with ⟨b, hb, rfl⟩ | hv
    · have hb8 : b ≤ 8 := by omega
      have vb : vp_in (nI b) 9 := vp_in_nI (by omega) (by decide)
      obtain ⟨n, hn, en⟩ := hsc b
      have ek : sc (nI b).toNatClampNeg = nI n := (od_ef (by omega)).trans en
      by_cases h16 : n < 16
      · have l : sc (nI b).toNatClampNeg < 16 := by rw [ek]; exact nI_lt (b := 16) h16 (by decide)
        have v144 : vp_in (nI (b * 16 + n)) 144 := vp_in_nI (by omega) (by decide)
        have u144 : ∀ (g : Nat → Int32) (x : Int32), upd g (nI (b * 16 + n)).toNatClampNeg x = upd g (b * 16 + n) x := fun g x => od_uf (by omega)
        have ef : upd sc (nI b).toNatClampNeg (sc (nI b).toNatClampNeg + 1) = upd sc b (nI (n + 1)) := by rw [ek, nI_1, nI_clamp (by omega)]
        have ey : upd sc b (nI (n + 1)) (nI b).toNatClampNeg - 1 = sc (nI b).toNatClampNeg := by rw [ek, nI_clamp (by omega), pk_us, nI_pred]
        have e5 : nI b * 16 + sc (nI b).toNatClampNeg = nI (b * 16 + n) := by rw [ek, od_i16]
        have hP' : od_P ck cc fm fk dX pT dY (upd sc b (nI (n + 1))) := by
          refine ⟨hck, hcc, hfm, hfk, fun c' => ?_, hd⟩
          by_cases e : c' = b
          · subst e; exact ⟨n + 1, by omega, pk_us⟩
          · rw [pk_un e]; exact hsc c'
        exact br_t rfl (od_xB1 hb hcc (br_f (by decide) ⟨vb, br_t l ⟨vb, nm_e (nm_r e5 ⟨v144, nm_r (u144 _ _) ⟨v144, nm_r (u144 _ _) ⟨v144, nm_r (u144 _ _) ⟨vb, vb, nm_r ef
          (br_t rfl (od_yB1 hb hcc (br_f (by decide) ⟨vb, br_t l ⟨vb, nm_r e5 ⟨v144, nm_r (u144 _ _) ⟨v144, nm_r (u144 _ _) ⟨v144, nm_r (u144 _ _) ⟨vb, vb, nm_r ef ⟨vb, ey, od_mk (od_ed hP' hca hoc hfc h00)⟩⟩⟩⟩⟩⟩⟩)))⟩⟩⟩⟩)⟩⟩))
      · have l : ¬ sc (nI b).toNatClampNeg < 16 := by rw [ek]; exact nI_nlt (b := 16) (by omega) (by omega)
        exact br_t rfl (od_xB1 hb hcc (br_f (by decide) ⟨vb, br_f l (br_t rfl (od_yB1 hb hcc (br_f (by decide) ⟨vb, br_f l ⟨rfl, od_mk h⟩⟩)))⟩))
    · exact br_t rfl (od_xB0 hv (br_t rfl (br_t rfl (od_yB0 hv (br_t rfl ⟨rfl, od_mk h⟩)))))
  · exact br_f hs (br_f hs ⟨rfl, od_mk h⟩)
