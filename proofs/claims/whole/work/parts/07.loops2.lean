variable {ca cc oc fc : Nat} {st er ck : Int32} {fm fk ft rt dX pT dY sc so sa sb oC oO oF fB fP fR fV fL : Nat → Int32}
theorem od_asc (x y z : Int32) : x + y + z = x + (y + z) := Int32.add_assoc x y z
/-- a body's locals -/
theorem od_locb (hP : od_P ck cc fm fk dX pT dY sc) {b i : Nat} (hb : b < cc ∨ b = 8) : ∀ d v, v + d = 8 → (b = 8 ∨ 2 ≤ v) →
    ((∀ g, v ≤ g → g < 8 → od_T cc fm (dX (b * 8 + g))) ∧ (∀ (post : Int32 → SX → Prop) (J : Int32 → Prop), J (nI (i + 1)) → wX_checkLocals_34 post J (nI i) (nI b) (nI ca) st er ck (nI cc) (nI oc) (nI fc) fm fk ft rt dX sc so sa sb oC oO oF fB fP fR fV fL (d + 1) (nI v)) ∧
      (∀ (post : Int32 → SY → Prop) (J : Int32 → Int32 → Int32 → Prop) (l : Int32), (∀ l', J 0 l' (nI (i + 1))) → wY_compile_202 post J (nI i) (nI b) (nI ca) st er (nI cc) ck (nI oc) (nI fc) fm fk ft pT rt dY sc so sa sb oC oO oF fB fP fR fV fL (d + 1) 0 l (nI v))) ∨
    (∃ r l' : Int32, ¬ r = 0 ∧ (∀ (post : Int32 → SX → Prop) (J : Int32 → Prop), post r (nI ca, st, l', ck, nI cc, nI oc, nI fc, fm, fk, ft, rt, dX, sc, so, sa, sb, oC, oO, oF, fB, fP, fR, fV, fL) → wX_checkLocals_34 post J (nI i) (nI b) (nI ca) st er ck (nI cc) (nI oc) (nI fc) fm fk ft rt dX sc so sa sb oC oO oF fB fP fR fV fL (d + 1) (nI v)) ∧
      (∀ (post : Int32 → SY → Prop) (J : Int32 → Int32 → Int32 → Prop) (l : Int32), J r l' (nI (i + 1)) → wY_compile_202 post J (nI i) (nI b) (nI ca) st er (nI cc) ck (nI oc) (nI fc) fm fk ft pT rt dY sc so sa sb oC oO oF fB fP fR fV fL (d + 1) 0 l (nI v))) := by
  have hck := hP.1
  have hcc := hP.2.1
  have hfm := hP.2.2.1
  have hd2 := hP.2.2.2.2.2.2.2.1
  have hd8 := hP.2.2.2.2.2.2.2.2
  intro d
  induction d with
  | zero =>
    intro v h _
    obtain rfl : v = 8 := by omega
    exact Or.inl ⟨fun g h1 h2 => by omega, fun post J p => br_t (by decide) (nm_r (nI_1 i) p), fun post J l p => br_t (by decide) (nm_r (nI_1 i) (p l))⟩
  | succ d ih =>
    intro v h h2
    have n8 : ¬ (8 : Int32) ≤ nI v := nI_ge (b := 8) (by omega) (by decide)
    have hv : b * 8 + v < 72 := by omega
    have ed : dX (b * 8 + v) = dY (b * 8 + v) := by
      by_cases e : b = 8
      · subst e; exact hd8 v (by omega)
      · exact hd2 b v (by omega) (by omega)
    have eX : dX (nI b * 8 + nI v).toNatClampNeg = dX (b * 8 + v) := od_e8 hv rfl
    have eY : dY (nI b * 8 + nI v).toNatClampNeg = dX (b * 8 + v) := od_e8 hv ed.symm
    obtain ⟨r, rT, rX, rY⟩ := od_type (ca := ca) (cc := cc) (oc := oc) (fc := fc) (st := st) (er := er) (ck := ck) (fm := fm) (fk := fk) (ft := ft) (rt := rt) (dX := dX) (pT := pT) (dY := dY) (sc := sc) (so := so) (sa := sa) (sb := sb) (oC := oC) (oO := oO) (oF := oF) (fB := fB) (fP := fP) (fR := fR) (fV := fV) (fL := fL) (b := b) (dX (b * 8 + v)) hcc hfm (by omega) hck
    rw [← eX] at rX
    rw [← eY] at rY
    by_cases hr : r = 0
    · subst hr
      rcases ih (v + 1) (by omega) (by omega) with ⟨t0, kX, kY⟩ | ⟨r, l', hr, kX, kY⟩
      · refine Or.inl ⟨fun g g1 g2 => ?_, fun post J p => br_f n8 ⟨od_v8 hv, rX _ (br_t rfl (nm_r (nI_1 v) (kX post J p)))⟩, fun post J l p => br_f n8 (br_t rfl ⟨od_v8 hv, rY _ (nm_e (nm_r (nI_1 v) (kY post J _ p)))⟩)⟩
        by_cases e : g = v
        · subst e; exact rT rfl
        · exact t0 g (by omega) g2
      · exact Or.inr ⟨r, l', hr, fun post J p => br_f n8 ⟨od_v8 hv, rX _ (br_t rfl (nm_r (nI_1 v) (kX post J p)))⟩, fun post J l p => br_f n8 (br_t rfl ⟨od_v8 hv, rY _ (nm_e (nm_r (nI_1 v) (kY post J _ p)))⟩)⟩
    · exact Or.inr ⟨r, nI b * 32 + (8 + nI v), hr, fun post J p => br_f n8 ⟨od_v8 hv, rX _ (br_f hr (od_xerr p))⟩, fun post J l p => br_f n8 (br_t rfl ⟨od_v8 hv, rY _ (nm_r (od_asc _ _ _) (nm_e (od_yE202 hr _ p)))⟩)⟩
theorem od_locs (hP : od_P ck cc fm fk dX pT dY sc) {b i : Nat} (hb : b < cc ∨ b = 8) :
    ((∀ g, (b = 8 ∨ 2 ≤ g) → g < 8 → od_T cc fm (dX (b * 8 + g))) ∧ (∀ (post : Int32 → SX → Prop) (J : Int32 → Prop), J (nI (i + 1)) → wX_checkLocals_24 post J (nI i) (nI b) (nI ca) st er ck (nI cc) (nI oc) (nI fc) fm fk ft rt dX sc so sa sb oC oO oF fB fP fR fV fL) ∧
      (∀ (post : Int32 → SY → Prop) (J : Int32 → Int32 → Int32 → Prop) (l : Int32), (∀ l', J 0 l' (nI (i + 1))) → wY_compile_186 post J 0 l (nI i) (nI b) (nI ca) st er (nI cc) ck (nI oc) (nI fc) fm fk ft pT rt dY sc so sa sb oC oO oF fB fP fR fV fL)) ∨
    (∃ r l' : Int32, ¬ r = 0 ∧ (∀ (post : Int32 → SX → Prop) (J : Int32 → Prop), post r (nI ca, st, l', ck, nI cc, nI oc, nI fc, fm, fk, ft, rt, dX, sc, so, sa, sb, oC, oO, oF, fB, fP, fR, fV, fL) → wX_checkLocals_24 post J (nI i) (nI b) (nI ca) st er ck (nI cc) (nI oc) (nI fc) fm fk ft rt dX sc so sa sb oC oO oF fB fP fR fV fL) ∧
      (∀ (post : Int32 → SY → Prop) (J : Int32 → Int32 → Int32 → Prop) (l : Int32), J r l' (nI (i + 1)) → wY_compile_186 post J 0 l (nI i) (nI b) (nI ca) st er (nI cc) ck (nI oc) (nI fc) fm fk ft pT rt dY sc so sa sb oC oO oF fB fP fR fV fL)) := by
  have hcc := hP.2.1
  by_cases e : b = 8
  · subst e
    rcases od_locb (ca := ca) (cc := cc) (oc := oc) (fc := fc) (st := st) (er := er) (ck := ck) (fm := fm) (fk := fk) (ft := ft) (rt := rt) (dX := dX) (pT := pT) (dY := dY) (sc := sc) (so := so) (sa := sa) (sb := sb) (oC := oC) (oO := oO) (oF := oF) (fB := fB) (fP := fP) (fR := fR) (fV := fV) (fL := fL) hP (i := i) hb 8 0 rfl (Or.inl rfl) with ⟨t0, kX, kY⟩ | ⟨r, l', hr, kX, kY⟩
    · exact Or.inl ⟨fun g _ h => t0 g (Nat.zero_le _) h, fun post J p => br_t rfl ⟨9, kX post J p⟩, fun post J l p => br_t rfl ⟨9, kY post J l p⟩⟩
    · exact Or.inr ⟨r, l', hr, fun post J p => br_t rfl ⟨9, kX post J p⟩, fun post J l p => br_t rfl ⟨9, kY post J l p⟩⟩
  · have n8 : ¬ nI b = 8 := od_ne (k := 8) e (by omega) (by decide)
    rcases od_locb (ca := ca) (cc := cc) (oc := oc) (fc := fc) (st := st) (er := er) (ck := ck) (fm := fm) (fk := fk) (ft := ft) (rt := rt) (dX := dX) (pT := pT) (dY := dY) (sc := sc) (so := so) (sa := sa) (sb := sb) (oC := oC) (oO := oO) (oF := oF) (fB := fB) (fP := fP) (fR := fR) (fV := fV) (fL := fL) hP (i := i) hb 6 2 rfl (Or.inr (Nat.le_refl _)) with ⟨t0, kX, kY⟩ | ⟨r, l', hr, kX, kY⟩
    · exact Or.inl ⟨fun g h2 h => t0 g (by omega) h, fun post J p => br_f n8 ⟨7, kX post J p⟩, fun post J l p => br_f n8 ⟨7, kY post J l p⟩⟩
    · exact Or.inr ⟨r, l', hr, fun post J p => br_f n8 ⟨7, kX post J p⟩, fun post J l p => br_f n8 ⟨7, kY post J l p⟩⟩
/-- the i-th body: the classes, then main -/
def od_body (cc i : Nat) : Nat := if i < cc then i else 8
theorem od_body_in (i : Nat) : od_body cc i < cc ∨ od_body cc i = 8 := by
  unfold od_body
  split
  · exact Or.inl (by assumption)
  · exact Or.inr rfl
theorem od_loc (hP : od_P ck cc fm fk dX pT dY sc) : ∀ d i, i + d = cc + 1 →
    ((∀ j, i ≤ j → j ≤ cc → ∀ g, (od_body cc j = 8 ∨ 2 ≤ g) → g < 8 → od_T cc fm (dX (od_body cc j * 8 + g))) ∧ (∀ post : Int32 → SX → Prop, post 0 (nI ca, st, er, ck, nI cc, nI oc, nI fc, fm, fk, ft, rt, dX, sc, so, sa, sb, oC, oO, oF, fB, fP, fR, fV, fL) → wX_checkLocals_2 post (nI ca) st er ck (nI cc) (nI oc) (nI fc) fm fk ft rt dX sc so sa sb oC oO oF fB fP fR fV fL (d + 1) (nI i)) ∧
      (∀ (post : Int32 → SY → Prop) (l : Int32), (∀ l', ∃ n, wY_compile_260 post (nI ca) st er (nI cc) ck (nI oc) (nI fc) fm fk ft pT rt dY sc so sa sb oC oO oF fB fP fR fV fL n 0 l' 0) → wY_compile_157 post (nI ca) st er (nI cc) ck (nI oc) (nI fc) fm fk ft pT rt dY sc so sa sb oC oO oF fB fP fR fV fL (d + 1) 0 l (nI i))) ∨
    (∃ r l' : Int32, ¬ r = 0 ∧ (∀ post : Int32 → SX → Prop, post r (nI ca, st, l', ck, nI cc, nI oc, nI fc, fm, fk, ft, rt, dX, sc, so, sa, sb, oC, oO, oF, fB, fP, fR, fV, fL) → wX_checkLocals_2 post (nI ca) st er ck (nI cc) (nI oc) (nI fc) fm fk ft rt dX sc so sa sb oC oO oF fB fP fR fV fL (d + 1) (nI i)) ∧
      (∀ (post : Int32 → SY → Prop) (l : Int32), post r (nI ca, st, l', nI cc, ck, nI oc, nI fc, fm, fk, ft, pT, rt, dY, sc, so, sa, sb, oC, oO, oF, fB, fP, fR, fV, fL) → wY_compile_157 post (nI ca) st er (nI cc) ck (nI oc) (nI fc) fm fk ft pT rt dY sc so sa sb oC oO oF fB fP fR fV fL (d + 1) 0 l (nI i))) := by
  have hcc := hP.2.1
  intro d
  induction d with
  | zero =>
    intro i h
    have l1 : nI cc < nI i := nI_lt (by omega) (by omega)
    exact Or.inl ⟨fun j h1 h2 => by omega, fun post p => br_t l1 p, fun post l p => br_t l1 (p l)⟩
  | succ d ih =>
    intro i h
    have l1 : ¬ nI cc < nI i := nI_nlt (by omega) (by omega)
    have fX : ∀ post : Int32 → SX → Prop, wX_checkLocals_24 post (wX_checkLocals_2 post (nI ca) st er ck (nI cc) (nI oc) (nI fc) fm fk ft rt dX sc so sa sb oC oO oF fB fP fR fV fL (d + 1)) (nI i) (nI (od_body cc i)) (nI ca) st er ck (nI cc) (nI oc) (nI fc) fm fk ft rt dX sc so sa sb oC oO oF fB fP fR fV fL → wX_checkLocals_2 post (nI ca) st er ck (nI cc) (nI oc) (nI fc) fm fk ft rt dX sc so sa sb oC oO oF fB fP fR fV fL (d + 1 + 1) (nI i) := by
      intro post p
      by_cases e : i < cc
      · rw [show od_body cc i = i from if_pos e] at p
        exact br_f l1 (br_f (nI_ge e (by omega)) p)
      · rw [show od_body cc i = 8 from if_neg e] at p
        exact br_f l1 (br_t (nI_le (by omega) (by omega)) p)
    have fY : ∀ (post : Int32 → SY → Prop) (l : Int32), wY_compile_186 post (wY_compile_157 post (nI ca) st er (nI cc) ck (nI oc) (nI fc) fm fk ft pT rt dY sc so sa sb oC oO oF fB fP fR fV fL (d + 1)) 0 l (nI i) (nI (od_body cc i)) (nI ca) st er (nI cc) ck (nI oc) (nI fc) fm fk ft pT rt dY sc so sa sb oC oO oF fB fP fR fV fL → wY_compile_157 post (nI ca) st er (nI cc) ck (nI oc) (nI fc) fm fk ft pT rt dY sc so sa sb oC oO oF fB fP fR fV fL (d + 1 + 1) 0 l (nI i) := by
      intro post l p
      by_cases e : i < cc
      · rw [show od_body cc i = i from if_pos e] at p
        exact br_f l1 (br_t rfl (br_f (nI_ge e (by omega)) p))
      · rw [show od_body cc i = 8 from if_neg e] at p
        exact br_f l1 (br_t rfl (br_t (nI_le (by omega) (by omega)) p))
    rcases od_locs (ca := ca) (cc := cc) (oc := oc) (fc := fc) (st := st) (er := er) (ck := ck) (fm := fm) (fk := fk) (ft := ft) (rt := rt) (dX := dX) (pT := pT) (dY := dY) (sc := sc) (so := so) (sa := sa) (sb := sb) (oC := oC) (oO := oO) (oF := oF) (fB := fB) (fP := fP) (fR := fR) (fV := fV) (fL := fL) hP (i := i) (od_body_in (cc := cc) i) with ⟨t0, kX, kY⟩ | ⟨r, l', hr, kX, kY⟩
    · rcases ih (i + 1) (by omega) with ⟨t, jX, jY⟩ | ⟨r, l', hr, jX, jY⟩
      · refine Or.inl ⟨fun j h1 h2 => ?_, fun post p => fX post (kX post _ (jX post p)), fun post l p => fY post l (kY post _ l (fun l' => jY post l' p))⟩
        by_cases e : j = i
        · subst e; exact t0
        · exact t j (by omega) h2
      · exact Or.inr ⟨r, l', hr, fun post p => fX post (kX post _ (jX post p)), fun post l p => fY post l (kY post _ l (fun l' => jY post l' p))⟩
    · exact Or.inr ⟨r, l', hr, fun post p => fX post (kX post _ p), fun post l p => fY post l (kY post _ l (od_yE157 hr _ p))⟩
/-- a body's statements -/
theorem od_stb (hP : od_P ck cc fm fk dX pT dY sc) (hV : od_V cc fm fk ft rt dX) {b i n : Nat} (hb : b < cc ∨ b = 8) (hn : n ≤ 16) (en : sc b = nI n) : ∀ d s, s + d = n →
    ((∀ g, s ≤ g → g < n → od_ok cc fm b (so (b * 16 + g)) (sa (b * 16 + g)) (sb (b * 16 + g))) ∧ (∀ (post : Int32 → SX → Prop) (J : Int32 → Prop), J (nI (i + 1)) → wX_checkStatements_27 post J (nI i) (nI b) (nI ca) st er ck (nI cc) (nI oc) (nI fc) fm fk ft rt dX sc so sa sb oC oO oF fB fP fR fV fL (d + 1) (nI s)) ∧
      (∀ (post : Int32 → SY → Prop) (J : Int32 → Int32 → Int32 → Prop) (l : Int32), (∀ l', J 0 l' (nI (i + 1))) → wY_compile_294 post J (nI i) (nI b) (nI ca) st er (nI cc) ck (nI oc) (nI fc) fm fk ft pT rt dY sc so sa sb oC oO oF fB fP fR fV fL (d + 1) 0 l (nI s))) ∨
    (∃ r l' : Int32, ¬ r = 0 ∧ (∀ (post : Int32 → SX → Prop) (J : Int32 → Prop), post r (nI ca, st, l', ck, nI cc, nI oc, nI fc, fm, fk, ft, rt, dX, sc, so, sa, sb, oC, oO, oF, fB, fP, fR, fV, fL) → wX_checkStatements_27 post J (nI i) (nI b) (nI ca) st er ck (nI cc) (nI oc) (nI fc) fm fk ft rt dX sc so sa sb oC oO oF fB fP fR fV fL (d + 1) (nI s)) ∧
      (∀ (post : Int32 → SY → Prop) (J : Int32 → Int32 → Int32 → Prop) (l : Int32), J r l' (nI (i + 1)) → wY_compile_294 post J (nI i) (nI b) (nI ca) st er (nI cc) ck (nI oc) (nI fc) fm fk ft pT rt dY sc so sa sb oC oO oF fB fP fR fV fL (d + 1) 0 l (nI s))) := by
  have hcc := hP.2.1
  have hb9 : b < 9 := by omega
  have vb : vp_in (nI b) 9 := vp_in_nI hb9 (by decide)
  have es : sc (nI b).toNatClampNeg = nI n := by rw [nI_clamp (by omega)]; exact en
  intro d
  induction d with
  | zero =>
    intro s h
    have l1 : sc (nI b).toNatClampNeg ≤ nI s := by rw [es]; exact nI_le (by omega) (by omega)
    exact Or.inl ⟨fun g h1 h2 => by omega, fun post J p => ⟨vb, br_t l1 (nm_r (nI_1 i) p)⟩, fun post J l p => ⟨vb, br_t l1 (nm_r (nI_1 i) (p l))⟩⟩
  | succ d ih =>
    intro s h
    have l1 : ¬ sc (nI b).toNatClampNeg ≤ nI s := by rw [es]; exact nI_ge (by omega) (by omega)
    obtain ⟨r, r0, rX, rY⟩ := od_stm (ca := ca) (cc := cc) (oc := oc) (fc := fc) (st := st) (er := er) (ck := ck) (fm := fm) (fk := fk) (ft := ft) (rt := rt) (dX := dX) (pT := pT) (dY := dY) (sc := sc) (so := so) (sa := sa) (sb := sb) (oC := oC) (oO := oO) (oF := oF) (fB := fB) (fP := fP) (fR := fR) (fV := fV) (fL := fL) hP hV hb (s := s) (by omega)
    by_cases hr : r = 0
    · subst hr
      rcases ih (s + 1) (by omega) with ⟨t0, kX, kY⟩ | ⟨r, l', hr, kX, kY⟩
      · refine Or.inl ⟨fun g g1 g2 => ?_, fun post J p => ⟨vb, br_f l1 (nm_r (od_i16 b s) (rX (fun r => wX_checkStatements_68 post J _ (nI i) (nI b) (nI s) r (nI ca) st er ck (nI cc) (nI oc) (nI fc) fm fk ft rt dX sc so sa sb oC oO oF fB fP fR fV fL) (br_t rfl (nm_r (nI_1 s) (kX post J p)))))⟩, fun post J l p => ⟨vb, br_f l1 (br_t rfl (rY _ (nm_e (nm_r (nI_1 s) (kY post J _ p)))))⟩⟩
        by_cases e : g = s
        · subst e; exact r0 rfl
        · exact t0 g (by omega) g2
      · exact Or.inr ⟨r, l', hr, fun post J p => ⟨vb, br_f l1 (nm_r (od_i16 b s) (rX (fun r => wX_checkStatements_68 post J _ (nI i) (nI b) (nI s) r (nI ca) st er ck (nI cc) (nI oc) (nI fc) fm fk ft rt dX sc so sa sb oC oO oF fB fP fR fV fL) (br_t rfl (nm_r (nI_1 s) (kX post J p)))))⟩, fun post J l p => ⟨vb, br_f l1 (br_t rfl (rY _ (nm_e (nm_r (nI_1 s) (kY post J _ p)))))⟩⟩
    · exact Or.inr ⟨r, nI b * 32 + (16 + nI s), hr, fun post J p => ⟨vb, br_f l1 (nm_r (od_i16 b s) (rX (fun r => wX_checkStatements_68 post J _ (nI i) (nI b) (nI s) r (nI ca) st er ck (nI cc) (nI oc) (nI fc) fm fk ft rt dX sc so sa sb oC oO oF fB fP fR fV fL) (br_f hr (od_xerr p))))⟩, fun post J l p => ⟨vb, br_f l1 (br_t rfl (rY _ (nm_r (od_asc _ _ _) (nm_e (od_yE294 hb9 hr _ p)))))⟩⟩
theorem od_st (hP : od_P ck cc fm fk dX pT dY sc) (hV : od_V cc fm fk ft rt dX) : ∀ d i, i + d = cc + 1 →
    ((∀ j, i ≤ j → j ≤ cc → ∀ g n, sc (od_body cc j) = nI n → n ≤ 16 → g < n → od_ok cc fm (od_body cc j) (so (od_body cc j * 16 + g)) (sa (od_body cc j * 16 + g)) (sb (od_body cc j * 16 + g))) ∧ (∀ post : Int32 → SX → Prop, post 0 (nI ca, st, er, ck, nI cc, nI oc, nI fc, fm, fk, ft, rt, dX, sc, so, sa, sb, oC, oO, oF, fB, fP, fR, fV, fL) → wX_checkStatements_2 post (nI ca) st er ck (nI cc) (nI oc) (nI fc) fm fk ft rt dX sc so sa sb oC oO oF fB fP fR fV fL (d + 1) (nI i)) ∧
      (∀ (post : Int32 → SY → Prop) (l : Int32), (∀ l', wY_compile_343 post 0 l' (nI ca) st er (nI cc) ck (nI oc) (nI fc) fm fk ft pT rt dY sc so sa sb oC oO oF fB fP fR fV fL) → wY_compile_260 post (nI ca) st er (nI cc) ck (nI oc) (nI fc) fm fk ft pT rt dY sc so sa sb oC oO oF fB fP fR fV fL (d + 1) 0 l (nI i))) ∨
    (∃ r l' : Int32, ¬ r = 0 ∧ (∀ post : Int32 → SX → Prop, post r (nI ca, st, l', ck, nI cc, nI oc, nI fc, fm, fk, ft, rt, dX, sc, so, sa, sb, oC, oO, oF, fB, fP, fR, fV, fL) → wX_checkStatements_2 post (nI ca) st er ck (nI cc) (nI oc) (nI fc) fm fk ft rt dX sc so sa sb oC oO oF fB fP fR fV fL (d + 1) (nI i)) ∧
      (∀ (post : Int32 → SY → Prop) (l : Int32), post r (nI ca, st, l', nI cc, ck, nI oc, nI fc, fm, fk, ft, pT, rt, dY, sc, so, sa, sb, oC, oO, oF, fB, fP, fR, fV, fL) → wY_compile_260 post (nI ca) st er (nI cc) ck (nI oc) (nI fc) fm fk ft pT rt dY sc so sa sb oC oO oF fB fP fR fV fL (d + 1) 0 l (nI i))) := by
  have hcc := hP.2.1
  have hsc := hP.2.2.2.2.1
  intro d
  induction d with
  | zero =>
    intro i h
    have l1 : nI cc < nI i := nI_lt (by omega) (by omega)
    exact Or.inl ⟨fun j h1 h2 => by omega, fun post p => br_t l1 p, fun post l p => br_t l1 (p l)⟩
  | succ d ih =>
    intro i h
    have l1 : ¬ nI cc < nI i := nI_nlt (by omega) (by omega)
    have fX : ∀ post : Int32 → SX → Prop, (∃ q, wX_checkStatements_27 post (wX_checkStatements_2 post (nI ca) st er ck (nI cc) (nI oc) (nI fc) fm fk ft rt dX sc so sa sb oC oO oF fB fP fR fV fL (d + 1)) (nI i) (nI (od_body cc i)) (nI ca) st er ck (nI cc) (nI oc) (nI fc) fm fk ft rt dX sc so sa sb oC oO oF fB fP fR fV fL q (nI 0)) → wX_checkStatements_2 post (nI ca) st er ck (nI cc) (nI oc) (nI fc) fm fk ft rt dX sc so sa sb oC oO oF fB fP fR fV fL (d + 1 + 1) (nI i) := by
      intro post p
      by_cases e : i < cc
      · rw [show od_body cc i = i from if_pos e] at p
        exact br_f l1 (br_f (nI_ge e (by omega)) p)
      · rw [show od_body cc i = 8 from if_neg e] at p
        exact br_f l1 (br_t (nI_le (by omega) (by omega)) p)
    have fY : ∀ (post : Int32 → SY → Prop) (l : Int32), (∃ q, wY_compile_294 post (wY_compile_260 post (nI ca) st er (nI cc) ck (nI oc) (nI fc) fm fk ft pT rt dY sc so sa sb oC oO oF fB fP fR fV fL (d + 1)) (nI i) (nI (od_body cc i)) (nI ca) st er (nI cc) ck (nI oc) (nI fc) fm fk ft pT rt dY sc so sa sb oC oO oF fB fP fR fV fL q 0 l (nI 0)) → wY_compile_260 post (nI ca) st er (nI cc) ck (nI oc) (nI fc) fm fk ft pT rt dY sc so sa sb oC oO oF fB fP fR fV fL (d + 1 + 1) 0 l (nI i) := by
      intro post l p
      by_cases e : i < cc
      · rw [show od_body cc i = i from if_pos e] at p
        exact br_f l1 (br_t rfl (br_f (nI_ge e (by omega)) p))
      · rw [show od_body cc i = 8 from if_neg e] at p
        exact br_f l1 (br_t rfl (br_t (nI_le (by omega) (by omega)) p))
    obtain ⟨n, hn, en⟩ := hsc (od_body cc i)
    rcases od_stb (ca := ca) (cc := cc) (oc := oc) (fc := fc) (st := st) (er := er) (ck := ck) (fm := fm) (fk := fk) (ft := ft) (rt := rt) (dX := dX) (pT := pT) (dY := dY) (sc := sc) (so := so) (sa := sa) (sb := sb) (oC := oC) (oO := oO) (oF := oF) (fB := fB) (fP := fP) (fR := fR) (fV := fV) (fL := fL) hP hV (i := i) (od_body_in (cc := cc) i) hn en n 0 (by omega) with ⟨t0, kX, kY⟩ | ⟨r, l', hr, kX, kY⟩
    · rcases ih (i + 1) (by omega) with ⟨t, jX, jY⟩ | ⟨r, l', hr, jX, jY⟩
      · refine Or.inl ⟨fun j h1 h2 => ?_, fun post p => fX post ⟨n + 1, kX post _ (jX post p)⟩, fun post l p => fY post l ⟨n + 1, kY post _ l (fun l' => jY post l' p)⟩⟩
        by_cases e : j = i
        · subst e
          intro g n' en' hn' hg
          obtain rfl := od_inj (en'.symm.trans en) (by omega) (by omega)
          exact t0 g (Nat.zero_le _) hg
        · exact t j (by omega) h2
      · exact Or.inr ⟨r, l', hr, fun post p => fX post ⟨n + 1, kX post _ (jX post p)⟩, fun post l p => fY post l ⟨n + 1, kY post _ l (fun l' => jY post l' p)⟩⟩
    · exact Or.inr ⟨r, l', hr, fun post p => fX post ⟨n + 1, kX post _ p⟩, fun post l p => fY post l ⟨n + 1, kY post _ l (od_yE260 hr _ p)⟩⟩
