variable {ca cc oc fc : Nat} {st er ck : Int32} {fm fk ft rt dX pT dY sc so sa sb oC oO oF fB fP fR fV fL : Nat → Int32}
theorem od_ne {a k : Nat} (h : a ≠ k) (ha : a < 2 ^ 31) (hk : k < 2 ^ 31) : ¬ nI a = nI k := fun e => h (od_inj e ha hk)
/-- the self type's word of class c with n formals -/
def od_self (c n : Nat) : Nat := c + 16 + (if 1 ≤ n then 768 else 0) + (if 2 ≤ n then 16384 else 0)
/-- a word that names a type, as far as the machine needs it -/
def od_T (cc : Nat) (fm : Nat → Int32) (t : Int32) : Prop := ∃ n m, n < 65536 ∧ t = nI n ∧ n % 16 < cc ∧ m ≤ 2 ∧ fm (n % 16) = nI m ∧ ∀ i, i ≤ m → od_sl n i ≤ 4
theorem od_out (a b : Int32) : ∃ r : Int32, (∀ post : Int32 → Prop, post r → wpX_isOutside post (nI ca, st, er, ck, nI cc, nI oc, nI fc, fm, fk, ft, rt, dX, sc, so, sa, sb, oC, oO, oF, fB, fP, fR, fV, fL) a b) ∧ (∀ post : Int32 → Prop, post r → wpY_outside post (nI ca, st, er, nI cc, ck, nI oc, nI fc, fm, fk, ft, pT, rt, dY, sc, so, sa, sb, oC, oO, oF, fB, fP, fR, fV, fL) a b) := by
  have z : ¬ (1 : Int32) = 0 := by decide
  by_cases h1 : a = b
  · exact ⟨1, fun _ p => br_t h1 p, fun _ p => br_t h1 p⟩
  by_cases h2 : a = 0
  · exact ⟨1, fun _ p => br_f h1 (br_t h2 p), fun _ p => br_f h1 (br_t h2 p)⟩
  by_cases h3 : a = 3
  · have a1 : ¬ a = 1 := by rw [h3]; decide
    by_cases b2 : b = 2
    · exact ⟨1, fun _ p => br_f h1 (br_f h2 (br_t h3 (br_t b2 (br_f a1 (br_f z p))))), fun _ p => br_f h1 (br_f h2 (br_t b2 (br_f a1 (br_t h3 p))))⟩
    by_cases b1 : b = 1
    · exact ⟨1, fun _ p => br_f h1 (br_f h2 (br_t h3 (br_f b2 (br_t b1 (br_f z p))))), fun _ p => br_f h1 (br_f h2 (br_f b2 (br_t b1 (br_t h3 p))))⟩
    · exact ⟨0, fun _ p => br_f h1 (br_f h2 (br_t h3 (br_f b2 (br_f b1 p)))), fun _ p => br_f h1 (br_f h2 (br_f b2 (br_f b1 p)))⟩
  by_cases h4 : a = 4
  · have a1 : ¬ a = 1 := by rw [h4]; decide
    by_cases b2 : b = 2
    · exact ⟨1, fun _ p => br_f h1 (br_f h2 (br_f h3 (br_t h4 (br_t b2 (br_f a1 (br_f z p)))))), fun _ p => br_f h1 (br_f h2 (br_t b2 (br_f a1 (br_f h3 (br_t h4 p)))))⟩
    by_cases b1 : b = 1
    · exact ⟨1, fun _ p => br_f h1 (br_f h2 (br_f h3 (br_t h4 (br_f b2 (br_t b1 (br_f z p)))))), fun _ p => br_f h1 (br_f h2 (br_f b2 (br_t b1 (br_f h3 (br_t h4 p)))))⟩
    · exact ⟨0, fun _ p => br_f h1 (br_f h2 (br_f h3 (br_t h4 (br_f b2 (br_f b1 p))))), fun _ p => br_f h1 (br_f h2 (br_f b2 (br_f b1 p)))⟩
  by_cases b2 : b = 2
  · have b1 : ¬ b = 1 := by rw [b2]; decide
    by_cases a1 : a = 1
    · exact ⟨1, fun _ p => br_f h1 (br_f h2 (br_f h3 (br_f h4 (br_t b2 (br_t a1 p))))), fun _ p => br_f h1 (br_f h2 (br_t b2 (br_t a1 p)))⟩
    · exact ⟨0, fun _ p => br_f h1 (br_f h2 (br_f h3 (br_f h4 (br_t b2 (br_f a1 (br_t rfl p)))))), fun _ p => br_f h1 (br_f h2 (br_t b2 (br_f a1 (br_f h3 (br_f h4 (br_f b1 p))))))⟩
  by_cases b1 : b = 1
  · exact ⟨0, fun _ p => br_f h1 (br_f h2 (br_f h3 (br_f h4 (br_f b2 (br_t b1 (br_t rfl p)))))), fun _ p => br_f h1 (br_f h2 (br_f b2 (br_t b1 (br_f h3 (br_f h4 p)))))⟩
  · exact ⟨0, fun _ p => br_f h1 (br_f h2 (br_f h3 (br_f h4 (br_f b2 (br_f b1 p))))), fun _ p => br_f h1 (br_f h2 (br_f b2 (br_f b1 p)))⟩
theorem od_allow {a b : Nat} (ha : a ≤ 4) (hb : b < 8 ∨ b = 8) : ∃ r : Int32, (∀ post : Int32 → Prop, post r → wpX_isAllowed post (nI ca, st, er, ck, nI cc, nI oc, nI fc, fm, fk, ft, rt, dX, sc, so, sa, sb, oC, oO, oF, fB, fP, fR, fV, fL) (nI a) (nI b)) ∧ (∀ post : Int32 → Prop, post r → wpY_allowed post (nI ca, st, er, nI cc, ck, nI oc, nI fc, fm, fk, ft, pT, rt, dY, sc, so, sa, sb, oC, oO, oF, fB, fP, fR, fV, fL) (nI a) (nI b)) := by
  rcases hb with hb | rfl
  · have h8 : ¬ nI b = 8 := od_ne (k := 8) (by omega) (by omega) (by decide)
    have hi : vp_in (nI b) 8 := vp_in_nI hb (by decide)
    have ec : (nI b).toNatClampNeg = b := nI_clamp (by omega)
    have ea : nI b &&& 7 = nI b := od_and7' hb
    rcases (show a = 0 ∨ a = 1 ∨ a = 2 ∨ a = 3 ∨ a = 4 by omega) with rfl | rfl | rfl | rfl | rfl
    · exact ⟨1, fun _ p => br_f h8 (br_f (by decide) (br_f (by decide) p)), fun _ p => br_f h8 (br_f (by decide) p)⟩
    · exact ⟨1, fun _ p => br_f h8 (br_f (by decide) (br_f (by decide) p)), fun _ p => br_f h8 (br_f (by decide) p)⟩
    · exact ⟨1, fun _ p => br_f h8 (br_f (by decide) (br_f (by decide) p)), fun _ p => br_f h8 (br_f (by decide) p)⟩
    · by_cases hx : fm b < 1
      · refine ⟨0, fun _ p => br_f h8 (br_t (by decide) ⟨hi, ?_⟩), fun _ p => br_f h8 (br_t (by decide) (br_t (by decide) ?_))⟩
        · rw [ec]; exact br_t hx p
        · rw [ea, ec]; exact ⟨hi, br_t hx p⟩
      · refine ⟨1, fun _ p => br_f h8 (br_t (by decide) ⟨hi, ?_⟩), fun _ p => br_f h8 (br_t (by decide) (br_t (by decide) ?_))⟩
        · rw [ec]; exact br_f hx p
        · rw [ea, ec]; exact ⟨hi, br_f hx p⟩
    · by_cases hx : fm b < 2
      · refine ⟨0, fun _ p => br_f h8 (br_f (by decide) (br_t (by decide) ⟨hi, ?_⟩)), fun _ p => br_f h8 (br_t (by decide) (br_f (by decide) (br_t (by decide) ?_)))⟩
        · rw [ec]; exact br_t hx p
        · rw [ea, ec]; exact ⟨hi, br_t hx p⟩
      · refine ⟨1, fun _ p => br_f h8 (br_f (by decide) (br_t (by decide) ⟨hi, ?_⟩)), fun _ p => br_f h8 (br_t (by decide) (br_f (by decide) (br_t (by decide) ?_)))⟩
        · rw [ec]; exact br_f hx p
        · rw [ea, ec]; exact ⟨hi, br_f hx p⟩
  · by_cases h0 : a = 0
    · subst h0
      exact ⟨1, fun _ p => br_t rfl (br_t rfl p), fun _ p => br_t rfl (br_t rfl p)⟩
    · have e : ¬ nI a = 0 := od_ne (k := 0) h0 (by omega) (by decide)
      exact ⟨0, fun _ p => br_t rfl (br_f e p), fun _ p => br_t rfl (br_f e p)⟩
/-- the three slots in range -/
theorem od_enc {n m : Nat} (hn : n < 65536) (hm : m ≤ 2) : ∀ d i, i + d = 3 →
    ((∀ j, i ≤ j → j ≤ m → od_sl n j ≤ 4) ∧ (∀ post : Int32 → Prop, post 1 → wX_isEncoded_35 post (nI n) (nI m) (nI ca) st er ck (nI cc) (nI oc) (nI fc) fm fk ft rt dX sc so sa sb oC oO oF fB fP fR fV fL (d + 1) (nI i)) ∧
      (∀ (post : Int32 → Prop) (b : Int32), (∃ q, wY_valid_98 post (nI n) b (nI m) (nI ca) st er (nI cc) ck (nI oc) (nI fc) fm fk ft pT rt dY sc so sa sb oC oO oF fB fP fR fV fL q 0) → wY_valid_41 post (nI n) b (nI m) (nI ca) st er (nI cc) ck (nI oc) (nI fc) fm fk ft pT rt dY sc so sa sb oC oO oF fB fP fR fV fL (d + 1) (nI i))) ∨
    ((∀ post : Int32 → Prop, post 0 → wX_isEncoded_35 post (nI n) (nI m) (nI ca) st er ck (nI cc) (nI oc) (nI fc) fm fk ft rt dX sc so sa sb oC oO oF fB fP fR fV fL (d + 1) (nI i)) ∧
      (∀ (post : Int32 → Prop) (b : Int32), post 1 → wY_valid_41 post (nI n) b (nI m) (nI ca) st er (nI cc) ck (nI oc) (nI fc) fm fk ft pT rt dY sc so sa sb oC oO oF fB fP fR fV fL (d + 1) (nI i))) := by
  intro d
  induction d with
  | zero =>
    intro i hi
    have h3 : (3 : Int32) ≤ nI i := nI_le (a := 3) (by omega) (by omega)
    exact Or.inl ⟨fun j h1 h2 => by omega, fun _ p => br_t h3 p, fun _ _ p => br_t h3 p⟩
  | succ d ih =>
    intro i hi
    have h3 : ¬ (3 : Int32) ≤ nI i := nI_ge (b := 3) (by omega) (by decide)
    have es := od_slot (n := n) (i := i) (by omega) (by omega)
    have hl := od_sl_lt n i
    by_cases hmi : m < i
    · have c1 : nI m < nI i := nI_lt hmi (by omega)
      have c2 : ¬ nI i ≤ nI m := nI_ge hmi (by omega)
      by_cases ho : od_sl n i = 0
      · have s0 : (nI n >>> ((4 + 4 * nI i) &&& 31)) &&& 15 ≤ 0 := by rw [es, ho]; decide
        have s1 : (nI n >>> ((4 + 4 * nI i) &&& 31)) &&& 15 = 0 := by rw [es, ho]; decide
        have kX : ∀ post : Int32 → Prop, wX_isEncoded_35 post (nI n) (nI m) (nI ca) st er ck (nI cc) (nI oc) (nI fc) fm fk ft rt dX sc so sa sb oC oO oF fB fP fR fV fL (d + 1) (nI (i + 1)) → wX_isEncoded_35 post (nI n) (nI m) (nI ca) st er ck (nI cc) (nI oc) (nI fc) fm fk ft rt dX sc so sa sb oC oO oF fB fP fR fV fL (d + 1 + 1) (nI i) :=
          fun post p => br_f h3 (br_t c1 (br_t s0 (nm_r (nI_1 i) p)))
        have kY : ∀ (post : Int32 → Prop) (b : Int32), wY_valid_41 post (nI n) b (nI m) (nI ca) st er (nI cc) ck (nI oc) (nI fc) fm fk ft pT rt dY sc so sa sb oC oO oF fB fP fR fV fL (d + 1) (nI (i + 1)) → wY_valid_41 post (nI n) b (nI m) (nI ca) st er (nI cc) ck (nI oc) (nI fc) fm fk ft pT rt dY sc so sa sb oC oO oF fB fP fR fV fL (d + 1 + 1) (nI i) :=
          fun post b p => br_f h3 (nm_e (br_t c1 (br_f c2 (br_t s1 (nm_r (nI_1 i) p)))))
        rcases ih (i + 1) (by omega) with ⟨a1, a2, a3⟩ | ⟨a2, a3⟩
        · exact Or.inl ⟨fun j h1 h2 => by omega, fun post p => kX post (a2 post p), fun post b p => kY post b (a3 post b p)⟩
        · exact Or.inr ⟨fun post p => kX post (a2 post p), fun post b p => kY post b (a3 post b p)⟩
      · have s0 : ¬ (nI n >>> ((4 + 4 * nI i) &&& 31)) &&& 15 ≤ 0 := by rw [es]; exact nI_nle (by omega) (by omega)
        have s1 : ¬ (nI n >>> ((4 + 4 * nI i) &&& 31)) &&& 15 = 0 := by rw [es]; exact nI_ne0 (by omega) (by omega)
        exact Or.inr ⟨fun post p => br_f h3 (br_t c1 (br_f s0 p)), fun post b p => br_f h3 (nm_e (br_t c1 (br_f c2 (br_f s1 p))))⟩
    · have c1 : ¬ nI m < nI i := nI_nlt (by omega) (by omega)
      have c2 : nI i ≤ nI m := nI_le (by omega) (by omega)
      by_cases ho : od_sl n i ≤ 4
      · have s0 : (nI n >>> ((4 + 4 * nI i) &&& 31)) &&& 15 ≤ 4 := by rw [es]; exact nI_le (b := 4) ho (by decide)
        have kX : ∀ post : Int32 → Prop, wX_isEncoded_35 post (nI n) (nI m) (nI ca) st er ck (nI cc) (nI oc) (nI fc) fm fk ft rt dX sc so sa sb oC oO oF fB fP fR fV fL (d + 1) (nI (i + 1)) → wX_isEncoded_35 post (nI n) (nI m) (nI ca) st er ck (nI cc) (nI oc) (nI fc) fm fk ft rt dX sc so sa sb oC oO oF fB fP fR fV fL (d + 1 + 1) (nI i) :=
          fun post p => br_f h3 (br_f c1 (br_t s0 (nm_r (nI_1 i) p)))
        have kY : ∀ (post : Int32 → Prop) (b : Int32), wY_valid_41 post (nI n) b (nI m) (nI ca) st er (nI cc) ck (nI oc) (nI fc) fm fk ft pT rt dY sc so sa sb oC oO oF fB fP fR fV fL (d + 1) (nI (i + 1)) → wY_valid_41 post (nI n) b (nI m) (nI ca) st er (nI cc) ck (nI oc) (nI fc) fm fk ft pT rt dY sc so sa sb oC oO oF fB fP fR fV fL (d + 1 + 1) (nI i) :=
          fun post b p => br_f h3 (nm_e (br_f c1 (br_t s0 (br_t c2 (nm_r (nI_1 i) p)))))
        rcases ih (i + 1) (by omega) with ⟨a1, a2, a3⟩ | ⟨a2, a3⟩
        · refine Or.inl ⟨fun j h1 h2 => ?_, fun post p => kX post (a2 post p), fun post b p => kY post b (a3 post b p)⟩
          by_cases e : j = i
          · subst e; exact ho
          · exact a1 j (by omega) h2
        · exact Or.inr ⟨fun post p => kX post (a2 post p), fun post b p => kY post b (a3 post b p)⟩
      · have s0 : ¬ (nI n >>> ((4 + 4 * nI i) &&& 31)) &&& 15 ≤ 4 := by rw [es]; exact nI_ge (a := 4) (by omega) (by omega)
        exact Or.inr ⟨fun post p => br_f h3 (br_f c1 (br_f s0 p)), fun post b p => br_f h3 (nm_e (br_f c1 (br_f s0 p)))⟩
theorem od_xs {post : Int32 → Prop} {t i : Int32} (h : post ((t >>> ((4 + 4 * i) &&& 31)) &&& 15)) : wpX_slot post (nI ca, st, er, ck, nI cc, nI oc, nI fc, fm, fk, ft, rt, dX, sc, so, sa, sb, oC, oO, oF, fB, fP, fR, fV, fL) t i := h
/-- the arguments' slots outside the owner's -/
theorem od_wf {n m : Nat} (hn : n < 65536) (hm : m ≤ 2) (w : Int32) (hc : ck = 1) : ∀ d i, i + d = m + 1 →
    ∃ r : Int32, (∀ post : Int32 → Prop, post r → wX_checkType_67 post (nI n) (nI m) w (nI ca) st er ck (nI cc) (nI oc) (nI fc) fm fk ft rt dX sc so sa sb oC oO oF fB fP fR fV fL (d + 1) (nI i)) ∧ (∀ post : Int32 → Prop, post r → wY_valid_155 post (nI n) (nI m) w (nI ca) st er (nI cc) ck (nI oc) (nI fc) fm fk ft pT rt dY sc so sa sb oC oO oF fB fP fR fV fL (d + 1) (nI i)) := by
  have hk : ¬ ck = 0 := by rw [hc]; decide
  intro d
  induction d with
  | zero =>
    intro i hi
    have c1 : nI m < nI i := nI_lt (by omega) (by omega)
    exact ⟨0, fun _ p => br_f hk (br_t c1 p), fun _ p => br_t c1 p⟩
  | succ d ih =>
    intro i hi
    have c1 : ¬ nI m < nI i := nI_nlt (by omega) (by omega)
    obtain ⟨q, qX, qY⟩ := od_out (ca := ca) (cc := cc) (oc := oc) (fc := fc) (st := st) (er := er) (ck := ck) (fm := fm) (fk := fk) (ft := ft) (rt := rt) (dX := dX) (pT := pT) (dY := dY) (sc := sc) (so := so) (sa := sa) (sb := sb) (oC := oC) (oO := oO) (oF := oF) (fB := fB) (fP := fP) (fR := fR) (fV := fV) (fL := fL) ((nI n >>> ((4 + 4 * nI i) &&& 31)) &&& 15) w
    by_cases hq : q = 0
    · exact ⟨3, fun _ p => br_f hk (br_f c1 (od_xs (qX _ (br_t hq p)))), fun _ p => br_f c1 (nm_e (qY _ (br_t hq p)))⟩
    · obtain ⟨r, rX, rY⟩ := ih (i + 1) (by omega)
      exact ⟨r, fun post p => br_f hk (br_f c1 (od_xs (qX _ (br_f hq (nm_r (nI_1 i) (rX post p)))))), fun post p => br_f c1 (nm_e (qY _ (br_f hq (nm_r (nI_1 i) (rY post p)))))⟩
/-- the slots allowed in the body, then od_wf -/
theorem od_ctx {n m b : Nat} (hn : n < 65536) (hm : m ≤ 2) (hb : b < 8 ∨ b = 8) (hk : ck = 0 ∨ ck = 1) (hs : ∀ j, j ≤ m → od_sl n j ≤ 4) : ∀ d i, i + d = m + 1 →
    ∃ r : Int32, (∀ post : Int32 → Prop, post r → wX_checkType_23 post (nI n) (nI b) (nI m) (nI ca) st er ck (nI cc) (nI oc) (nI fc) fm fk ft rt dX sc so sa sb oC oO oF fB fP fR fV fL (d + 1) (nI i)) ∧ (∀ post : Int32 → Prop, post r → wY_valid_98 post (nI n) (nI b) (nI m) (nI ca) st er (nI cc) ck (nI oc) (nI fc) fm fk ft pT rt dY sc so sa sb oC oO oF fB fP fR fV fL (d + 1) (nI i)) := by
  intro d
  induction d with
  | zero =>
    intro i hi
    have c1 : nI m < nI i := nI_lt (by omega) (by omega)
    rcases hk with hk | hk
    · have h1 : ¬ ck = 1 := by rw [hk]; decide
      exact ⟨0, fun _ p => br_t c1 ⟨1, br_t hk p⟩, fun _ p => br_t c1 (br_f h1 p)⟩
    · obtain ⟨r, rX, rY⟩ := od_wf (ca := ca) (cc := cc) (oc := oc) (fc := fc) (st := st) (er := er) (ck := ck) (fm := fm) (fk := fk) (ft := ft) (rt := rt) (dX := dX) (pT := pT) (dY := dY) (sc := sc) (so := so) (sa := sa) (sb := sb) (oC := oC) (oO := oO) (oF := oF) (fB := fB) (fP := fP) (fR := fR) (fV := fV) (fL := fL) hn hm ((nI n >>> ((4 : Int32) &&& 31)) &&& 15) hk m 1 (by omega)
      refine ⟨r, fun post p => br_t c1 ⟨m + 1, ?_⟩, fun post p => br_t c1 (br_t hk (nm_e ⟨m + 1, rY post p⟩))⟩
      exact rX post p
  | succ d ih =>
    intro i hi
    have c1 : ¬ nI m < nI i := nI_nlt (by omega) (by omega)
    have es := od_slot (n := n) (i := i) (by omega) (by omega)
    obtain ⟨q, qX, qY⟩ := od_allow (ca := ca) (cc := cc) (oc := oc) (fc := fc) (st := st) (er := er) (ck := ck) (fm := fm) (fk := fk) (ft := ft) (rt := rt) (dX := dX) (pT := pT) (dY := dY) (sc := sc) (so := so) (sa := sa) (sb := sb) (oC := oC) (oO := oO) (oF := oF) (fB := fB) (fP := fP) (fR := fR) (fV := fV) (fL := fL) (hs i (by omega)) hb
    rw [← es] at qX qY
    by_cases hq : q = 0
    · exact ⟨2, fun _ p => br_f c1 (od_xs (qX _ (br_t hq p))), fun _ p => br_f c1 (nm_e (qY _ (br_t hq p)))⟩
    · obtain ⟨r, rX, rY⟩ := ih (i + 1) (by omega)
      exact ⟨r, fun post p => br_f c1 (od_xs (qX _ (br_f hq (nm_r (nI_1 i) (rX post p))))), fun post p => br_f c1 (nm_e (qY _ (br_f hq (nm_r (nI_1 i) (rY post p)))))⟩
/-- a type's check: one answer on both sides -/
theorem od_type {b : Nat} (t : Int32) (hc : cc ≤ 8) (hf : ∀ c, ∃ n, n ≤ 2 ∧ fm c = nI n) (hb : b < 8 ∨ b = 8) (hk : ck = 0 ∨ ck = 1) :
    ∃ r : Int32, (r = 0 → od_T cc fm t) ∧ (∀ post : Int32 → Prop, post r → wpX_checkType post (nI ca, st, er, ck, nI cc, nI oc, nI fc, fm, fk, ft, rt, dX, sc, so, sa, sb, oC, oO, oF, fB, fP, fR, fV, fL) t (nI b)) ∧ (∀ post : Int32 → Prop, post r → wpY_valid post (nI ca, st, er, nI cc, ck, nI oc, nI fc, fm, fk, ft, pT, rt, dY, sc, so, sa, sb, oC, oO, oF, fB, fP, fR, fV, fL) t (nI b)) := by
  have z1 : ¬ (1 : Int32) = 0 := by decide
  by_cases h0 : t < 0
  · exact ⟨1, fun e => absurd e z1, fun _ p => br_t h0 (br_t rfl p), fun _ p => br_t h0 p⟩
  obtain ⟨n, hn, rfl⟩ := nI_of h0
  by_cases h1 : n < 65536
  · have g1 : ¬ (65535 : Int32) < nI n := nI_nlt (a := 65535) (by omega) (by decide)
    have g2 : nI n ≤ (65535 : Int32) := nI_le (b := 65535) (by omega) (by decide)
    have e15 : nI n &&& 15 = nI (n % 16) := od_and15 (by omega)
    have hl : n % 16 < 16 := Nat.mod_lt _ (by decide)
    by_cases h2 : n % 16 < cc
    · have l1 : nI n &&& 15 < nI cc := by rw [e15]; exact nI_lt h2 (by omega)
      have i1 : vp_in (nI n &&& 15) 8 := by rw [e15]; exact vp_in_nI (by omega) (by decide)
      have e1 : (nI n &&& 15).toNatClampNeg = n % 16 := by rw [e15]; exact nI_clamp (by omega)
      have e7 : (nI n &&& 15) &&& 7 = nI n &&& 15 := by rw [e15]; exact od_and7' (by omega)
      obtain ⟨m, hm, em⟩ := hf (n % 16)
      have ef : fm (nI n &&& 15).toNatClampNeg = nI m := by rw [e1]; exact em
      have i7 : vp_in ((nI n &&& 15) &&& 7) 8 := by rw [e7]; exact i1
      have ef7 : fm ((nI n &&& 15) &&& 7).toNatClampNeg = nI m := by rw [e7]; exact ef
      rcases od_enc (ca := ca) (cc := cc) (oc := oc) (fc := fc) (st := st) (er := er) (ck := ck) (fm := fm) (fk := fk) (ft := ft) (rt := rt) (dX := dX) (pT := pT) (dY := dY) (sc := sc) (so := so) (sa := sa) (sb := sb) (oC := oC) (oO := oO) (oF := oF) (fB := fB) (fP := fP) (fR := fR) (fV := fV) (fL := fL) h1 hm 3 0 rfl with ⟨a1, a2, a3⟩ | ⟨a2, a3⟩
      · obtain ⟨r, rX, rY⟩ := od_ctx (ca := ca) (cc := cc) (oc := oc) (fc := fc) (st := st) (er := er) (ck := ck) (fm := fm) (fk := fk) (ft := ft) (rt := rt) (dX := dX) (pT := pT) (dY := dY) (sc := sc) (so := so) (sa := sa) (sb := sb) (oC := oC) (oO := oO) (oF := oF) (fB := fB) (fP := fP) (fR := fR) (fV := fV) (fL := fL) h1 hm hb hk (fun j h => a1 j (Nat.zero_le _) h) (m + 1) 0 (by omega)
        exact ⟨r, fun _ => ⟨n, m, h1, rfl, h2, hm, em, fun j h => a1 j (Nat.zero_le _) h⟩,
          fun post p => br_f h0 (br_f g1 (br_t l1 ⟨i1, nm_r ef ⟨4, a2 _ (br_f z1 ⟨i1, nm_r ef ⟨m + 2, rX post p⟩⟩)⟩⟩)),
          fun post p => br_f h0 (br_t g2 (nm_e (br_t l1 ⟨i7, nm_r ef7 ⟨4, a3 post _ ⟨m + 2, rY post p⟩⟩⟩)))⟩
      · exact ⟨1, fun e => absurd e z1, fun post p => br_f h0 (br_f g1 (br_t l1 ⟨i1, nm_r ef ⟨4, a2 _ (br_t rfl p)⟩⟩)),
          fun post p => br_f h0 (br_t g2 (nm_e (br_t l1 ⟨i7, nm_r ef7 ⟨4, a3 post _ p⟩⟩)))⟩
    · have l1 : ¬ nI n &&& 15 < nI cc := by rw [e15]; exact nI_nlt (by omega) (by omega)
      exact ⟨1, fun e => absurd e z1, fun _ p => br_f h0 (br_f g1 (br_f l1 (br_t rfl p))), fun _ p => br_f h0 (br_t g2 (nm_e (br_f l1 p)))⟩
  · have g1 : (65535 : Int32) < nI n := nI_lt (a := 65535) (by omega) hn
    have g2 : ¬ nI n ≤ (65535 : Int32) := nI_ge (a := 65535) (by omega) hn
    exact ⟨1, fun e => absurd e z1, fun _ p => br_f h0 (br_t g1 (br_t rfl p)), fun _ p => br_f h0 (br_f g2 p)⟩
