variable {ca cc oc fc : Nat} {st er ck : Int32} {fm fk ft rt dX pT dY sc so sa sb oC oO oF fB fP fR fV fL : Nat → Int32}
theorem od_xerr {Q : Int32 → SX → Prop} {r x i : Int32} (p : Q r (nI ca, st, x * 32 + i, ck, nI cc, nI oc, nI fc, fm, fk, ft, rt, dX, sc, so, sa, sb, oC, oO, oF, fB, fP, fR, fV, fL)) : wpX_errorIn Q (nI ca, st, er, ck, nI cc, nI oc, nI fc, fm, fk, ft, rt, dX, sc, so, sa, sb, oC, oO, oF, fB, fP, fR, fV, fL) x i r := nm_e p
section
variable {post : Int32 → SY → Prop} {r l : Int32} {n : Nat}
theorem od_yE260 (hr : ¬ r = 0) (x : Int32) (p : post r (nI ca, st, l, nI cc, ck, nI oc, nI fc, fm, fk, ft, pT, rt, dY, sc, so, sa, sb, oC, oO, oF, fB, fP, fR, fV, fL)) : wY_compile_260 post (nI ca) st er (nI cc) ck (nI oc) (nI fc) fm fk ft pT rt dY sc so sa sb oC oO oF fB fP fR fV fL (n + 1) r l x := by
  by_cases h : nI cc < x
  · exact br_t h (br_f hr p)
  · exact br_f h (br_f hr (br_f hr p))
theorem od_yE157 (hr : ¬ r = 0) (x : Int32) (p : post r (nI ca, st, l, nI cc, ck, nI oc, nI fc, fm, fk, ft, pT, rt, dY, sc, so, sa, sb, oC, oO, oF, fB, fP, fR, fV, fL)) : wY_compile_157 post (nI ca) st er (nI cc) ck (nI oc) (nI fc) fm fk ft pT rt dY sc so sa sb oC oO oF fB fP fR fV fL (n + 1) r l x := by
  by_cases h : nI cc < x
  · exact br_t h ⟨1, od_yE260 hr 0 p⟩
  · exact br_f h (br_f hr ⟨1, od_yE260 hr 0 p⟩)
theorem od_yE30 (hr : ¬ r = 0) (x : Int32) (p : post r (nI ca, st, l, nI cc, ck, nI oc, nI fc, fm, fk, ft, pT, rt, dY, sc, so, sa, sb, oC, oO, oF, fB, fP, fR, fV, fL)) : wY_compile_30 post (nI ca) st er (nI cc) ck (nI oc) (nI fc) fm fk ft pT rt dY sc so sa sb oC oO oF fB fP fR fV fL (n + 1) r l x := by
  by_cases h : nI cc ≤ x
  · exact br_t h ⟨1, od_yE157 hr 0 p⟩
  · exact br_f h (br_f hr ⟨1, od_yE157 hr 0 p⟩)
theorem od_yE46 {J : Int32 → Int32 → Int32 → Prop} {c : Nat} (hr : ¬ r = 0) (x : Int32) (p : J r l (nI (c + 1))) : wY_compile_46 post J (nI c) (nI ca) st er (nI cc) ck (nI oc) (nI fc) fm fk ft pT rt dY sc so sa sb oC oO oF fB fP fR fV fL (n + 1) r l x := by
  by_cases h : (6 : Int32) ≤ x
  · exact br_t h (nm_r (nI_1 c) p)
  · exact br_f h (br_f hr (nm_r (nI_1 c) p))
theorem od_yE202 {J : Int32 → Int32 → Int32 → Prop} {i b : Nat} (hr : ¬ r = 0) (x : Int32) (p : J r l (nI (i + 1))) : wY_compile_202 post J (nI i) (nI b) (nI ca) st er (nI cc) ck (nI oc) (nI fc) fm fk ft pT rt dY sc so sa sb oC oO oF fB fP fR fV fL (n + 1) r l x := by
  by_cases h : (8 : Int32) ≤ x
  · exact br_t h (nm_r (nI_1 i) p)
  · exact br_f h (br_f hr (nm_r (nI_1 i) p))
theorem od_yE294 {J : Int32 → Int32 → Int32 → Prop} {i b : Nat} (hb : b < 9) (hr : ¬ r = 0) (x : Int32) (p : J r l (nI (i + 1))) : wY_compile_294 post J (nI i) (nI b) (nI ca) st er (nI cc) ck (nI oc) (nI fc) fm fk ft pT rt dY sc so sa sb oC oO oF fB fP fR fV fL (n + 1) r l x := by
  refine ⟨vp_in_nI hb (by decide), ?_⟩
  by_cases h : sc (nI b).toNatClampNeg ≤ x
  · exact br_t h (nm_r (nI_1 i) p)
  · exact br_f h (br_f hr (nm_r (nI_1 i) p))
end
/-- the parameter and the result of a class -/
theorem od_sigt (hP : od_P ck cc fm fk dX pT dY sc) {c nf : Nat} (hc : c < cc) (hnf : nf ≤ 4) (enf : fk c = nI nf) :
    (od_T cc fm (dX (c * 8 + 1)) ∧ od_T cc fm (rt c) ∧ (∀ (post : Int32 → SX → Prop) (J : Int32 → Prop) (n : Nat), J (nI (c + 1)) → wX_checkSignatures_12 post J (nI c) (nI ca) st er ck (nI cc) (nI oc) (nI fc) fm fk ft rt dX sc so sa sb oC oO oF fB fP fR fV fL (n + 1) (nI nf)) ∧
      (∀ (post : Int32 → SY → Prop) (J : Int32 → Int32 → Int32 → Prop) (l : Int32), (∀ l', J 0 l' (nI (c + 1))) → wY_compile_46 post J (nI c) (nI ca) st er (nI cc) ck (nI oc) (nI fc) fm fk ft pT rt dY sc so sa sb oC oO oF fB fP fR fV fL 3 0 l (nI 4))) ∨
    (∃ r l' : Int32, ¬ r = 0 ∧ (∀ (post : Int32 → SX → Prop) (J : Int32 → Prop) (n : Nat), post r (nI ca, st, l', ck, nI cc, nI oc, nI fc, fm, fk, ft, rt, dX, sc, so, sa, sb, oC, oO, oF, fB, fP, fR, fV, fL) → wX_checkSignatures_12 post J (nI c) (nI ca) st er ck (nI cc) (nI oc) (nI fc) fm fk ft rt dX sc so sa sb oC oO oF fB fP fR fV fL (n + 1) (nI nf)) ∧
      (∀ (post : Int32 → SY → Prop) (J : Int32 → Int32 → Int32 → Prop) (l : Int32), J r l' (nI (c + 1)) → wY_compile_46 post J (nI c) (nI ca) st er (nI cc) ck (nI oc) (nI fc) fm fk ft pT rt dY sc so sa sb oC oO oF fB fP fR fV fL 3 0 l (nI 4))) := by
  have hck := hP.1
  have hcc := hP.2.1
  have hfm := hP.2.2.1
  have hd1 := hP.2.2.2.2.2.2.1
  have vc : vp_in (nI c) 8 := vp_in_nI (by omega) (by decide)
  have ecc : (nI c).toNatClampNeg = c := nI_clamp (by omega)
  have efk : fk (nI c).toNatClampNeg ≤ nI nf := by rw [ecc, enf]; exact nI_le (Nat.le_refl _) (by omega)
  have v1 : vp_in (nI c * 8 + 1) 72 := by rw [od_i81]; exact vp_in_nI (by omega) (by decide)
  have e1 : dX (nI c * 8 + 1).toNatClampNeg = dX (c * 8 + 1) := by rw [od_i81, nI_clamp (by omega)]
  have eR : rt (nI c).toNatClampNeg = rt c := by rw [ecc]
  have eP : pT (nI c).toNatClampNeg = dX (c * 8 + 1) := by rw [ecc]; exact (hd1 c (by omega)).symm
  obtain ⟨r, rT, rX, rY⟩ := od_type (ca := ca) (cc := cc) (oc := oc) (fc := fc) (st := st) (er := er) (ck := ck) (fm := fm) (fk := fk) (ft := ft) (rt := rt) (dX := dX) (pT := pT) (dY := dY) (sc := sc) (so := so) (sa := sa) (sb := sb) (oC := oC) (oO := oO) (oF := oF) (fB := fB) (fP := fP) (fR := fR) (fV := fV) (fL := fL) (b := c) (dX (c * 8 + 1)) hcc hfm (by omega) hck
  obtain ⟨q, qT, qX, qY⟩ := od_type (ca := ca) (cc := cc) (oc := oc) (fc := fc) (st := st) (er := er) (ck := ck) (fm := fm) (fk := fk) (ft := ft) (rt := rt) (dX := dX) (pT := pT) (dY := dY) (sc := sc) (so := so) (sa := sa) (sb := sb) (oC := oC) (oO := oO) (oF := oF) (fB := fB) (fP := fP) (fR := fR) (fV := fV) (fL := fL) (b := c) (rt c) hcc hfm (by omega) hck
  rw [← e1] at rX
  rw [← eP] at rY
  rw [← eR] at qX qY
  have y4 : ∀ (post : Int32 → SY → Prop) (J : Int32 → Int32 → Int32 → Prop) (l : Int32), wY_compile_46 post J (nI c) (nI ca) st er (nI cc) ck (nI oc) (nI fc) fm fk ft pT rt dY sc so sa sb oC oO oF fB fP fR fV fL 2 r (nI c * 32 + nI 4) (nI 5) → wY_compile_46 post J (nI c) (nI ca) st er (nI cc) ck (nI oc) (nI fc) fm fk ft pT rt dY sc so sa sb oC oO oF fB fP fR fV fL 3 0 l (nI 4) :=
    fun post J l p => br_f (by decide) (br_t rfl (br_t (by decide) (br_t (by decide) (br_t rfl ⟨vc, rY _ (nm_e (nm_r (nI_1 4) p))⟩))))
  have y5 : ∀ (post : Int32 → SY → Prop) (J : Int32 → Int32 → Int32 → Prop) (l : Int32), wY_compile_46 post J (nI c) (nI ca) st er (nI cc) ck (nI oc) (nI fc) fm fk ft pT rt dY sc so sa sb oC oO oF fB fP fR fV fL 1 q (nI c * 32 + nI 5) (nI 6) → wY_compile_46 post J (nI c) (nI ca) st er (nI cc) ck (nI oc) (nI fc) fm fk ft pT rt dY sc so sa sb oC oO oF fB fP fR fV fL 2 0 l (nI 5) :=
    fun post J l p => br_f (by decide) (br_t rfl (br_t (by decide) (br_t (by decide) (br_f (by decide) ⟨vc, qY _ (nm_e (nm_r (nI_1 5) p))⟩))))
  by_cases hr : r = 0
  · subst hr
    by_cases hq : q = 0
    · subst hq
      exact Or.inl ⟨rT rfl, qT rfl, fun post J n p => ⟨vc, br_t efk ⟨v1, rX _ (br_t rfl ⟨vc, qX _ (br_t rfl (nm_r (nI_1 c) p))⟩)⟩⟩,
        fun post J l p => y4 post J l (y5 post J _ (br_t (by decide) (nm_r (nI_1 c) (p _))))⟩
    · exact Or.inr ⟨q, nI c * 32 + nI 5, hq, fun post J n p => ⟨vc, br_t efk ⟨v1, rX _ (br_t rfl ⟨vc, qX _ (br_f hq (od_xerr p))⟩)⟩⟩,
        fun post J l p => y4 post J l (y5 post J _ (od_yE46 hq _ p))⟩
  · exact Or.inr ⟨r, nI c * 32 + nI 4, hr, fun post J n p => ⟨vc, br_t efk ⟨v1, rX _ (br_f hr (od_xerr p))⟩⟩,
      fun post J l p => y4 post J l (od_yE46 hr _ p)⟩
theorem od_skip {c nf : Nat} {post : Int32 → SY → Prop} {J : Int32 → Int32 → Int32 → Prop} {l : Int32} (hc : c < 8) (enf : fk c = nI nf) (hnf : nf ≤ 4) (p : wY_compile_46 post J (nI c) (nI ca) st er (nI cc) ck (nI oc) (nI fc) fm fk ft pT rt dY sc so sa sb oC oO oF fB fP fR fV fL 3 0 l (nI 4)) :
    ∀ e f, f + e = 4 → nf ≤ f → wY_compile_46 post J (nI c) (nI ca) st er (nI cc) ck (nI oc) (nI fc) fm fk ft pT rt dY sc so sa sb oC oO oF fB fP fR fV fL (3 + e) 0 l (nI f) := by
  intro e
  induction e with
  | zero =>
    intro f hf _
    obtain rfl : f = 4 := by omega
    exact p
  | succ e ih =>
    intro f hf hn
    have efk : ¬ nI f < fk (nI c).toNatClampNeg := by rw [nI_clamp (by omega), enf]; exact nI_nlt (by omega) (by omega)
    exact br_f (nI_ge (b := 6) (by omega) (by decide)) (br_t rfl (br_f (nI_ge (b := 4) (by omega) (by decide)) ⟨vp_in_nI hc (by decide), br_f efk (nm_r (nI_1 f) (ih (f + 1) (by omega) (by omega)))⟩))
theorem od_sigc (hP : od_P ck cc fm fk dX pT dY sc) {c nf : Nat} (hc : c < cc) (hnf : nf ≤ 4) (enf : fk c = nI nf) : ∀ d f, f + d = nf →
    ((∀ g, f ≤ g → g < nf → od_T cc fm (ft (c * 4 + g))) ∧ od_T cc fm (dX (c * 8 + 1)) ∧ od_T cc fm (rt c) ∧ (∀ (post : Int32 → SX → Prop) (J : Int32 → Prop), J (nI (c + 1)) → wX_checkSignatures_12 post J (nI c) (nI ca) st er ck (nI cc) (nI oc) (nI fc) fm fk ft rt dX sc so sa sb oC oO oF fB fP fR fV fL (d + 1) (nI f)) ∧
      (∀ (post : Int32 → SY → Prop) (J : Int32 → Int32 → Int32 → Prop) (l : Int32), (∀ l', J 0 l' (nI (c + 1))) → ∀ n, n + f = 6 → wY_compile_46 post J (nI c) (nI ca) st er (nI cc) ck (nI oc) (nI fc) fm fk ft pT rt dY sc so sa sb oC oO oF fB fP fR fV fL (n + 1) 0 l (nI f))) ∨
    (∃ r l' : Int32, ¬ r = 0 ∧ (∀ (post : Int32 → SX → Prop) (J : Int32 → Prop), post r (nI ca, st, l', ck, nI cc, nI oc, nI fc, fm, fk, ft, rt, dX, sc, so, sa, sb, oC, oO, oF, fB, fP, fR, fV, fL) → wX_checkSignatures_12 post J (nI c) (nI ca) st er ck (nI cc) (nI oc) (nI fc) fm fk ft rt dX sc so sa sb oC oO oF fB fP fR fV fL (d + 1) (nI f)) ∧
      (∀ (post : Int32 → SY → Prop) (J : Int32 → Int32 → Int32 → Prop) (l : Int32), J r l' (nI (c + 1)) → ∀ n, n + f = 6 → wY_compile_46 post J (nI c) (nI ca) st er (nI cc) ck (nI oc) (nI fc) fm fk ft pT rt dY sc so sa sb oC oO oF fB fP fR fV fL (n + 1) 0 l (nI f))) := by
  have hck := hP.1
  have hcc := hP.2.1
  have hfm := hP.2.2.1
  have vc : vp_in (nI c) 8 := vp_in_nI (by omega) (by decide)
  have ecc : (nI c).toNatClampNeg = c := nI_clamp (by omega)
  intro d
  induction d with
  | zero =>
    intro f hf
    obtain rfl : f = nf := by omega
    have fu : ∀ n, n + f = 6 → n + 1 = 3 + (4 - f) := fun n h => by omega
    rcases od_sigt (ca := ca) (cc := cc) (oc := oc) (fc := fc) (st := st) (er := er) (ck := ck) (fm := fm) (fk := fk) (ft := ft) (rt := rt) (dX := dX) (pT := pT) (dY := dY) (sc := sc) (so := so) (sa := sa) (sb := sb) (oC := oC) (oO := oO) (oF := oF) (fB := fB) (fP := fP) (fR := fR) (fV := fV) (fL := fL) hP hc hnf enf with ⟨t1, t2, kX, kY⟩ | ⟨r, l', hr, kX, kY⟩
    · refine Or.inl ⟨fun g h1 h2 => by omega, t1, t2, fun post J p => kX post J 0 p, fun post J l p n hn => ?_⟩
      rw [fu n hn]
      exact od_skip (by omega) enf hnf (kY post J l p) (4 - f) f (by omega) (Nat.le_refl _)
    · refine Or.inr ⟨r, l', hr, fun post J p => kX post J 0 p, fun post J l p n hn => ?_⟩
      rw [fu n hn]
      exact od_skip (by omega) enf hnf (kY post J l p) (4 - f) f (by omega) (Nat.le_refl _)
  | succ d ih =>
    intro f hf
    have efk : ¬ fk (nI c).toNatClampNeg ≤ nI f := by rw [ecc, enf]; exact nI_ge (by omega) (by omega)
    have efl : nI f < fk (nI c).toNatClampNeg := by rw [ecc, enf]; exact nI_lt (by omega) (by omega)
    have v32 : vp_in (nI c * 4 + nI f) 32 := by rw [od_i4]; exact vp_in_nI (by omega) (by decide)
    have eft : ft (nI c * 4 + nI f).toNatClampNeg = ft (c * 4 + f) := by rw [od_i4, nI_clamp (by omega)]
    have n6 : ¬ (6 : Int32) ≤ nI f := nI_ge (b := 6) (by omega) (by decide)
    have n4 : ¬ (4 : Int32) ≤ nI f := nI_ge (b := 4) (by omega) (by decide)
    obtain ⟨r, rT, rX, rY⟩ := od_type (ca := ca) (cc := cc) (oc := oc) (fc := fc) (st := st) (er := er) (ck := ck) (fm := fm) (fk := fk) (ft := ft) (rt := rt) (dX := dX) (pT := pT) (dY := dY) (sc := sc) (so := so) (sa := sa) (sb := sb) (oC := oC) (oO := oO) (oF := oF) (fB := fB) (fP := fP) (fR := fR) (fV := fV) (fL := fL) (b := c) (ft (c * 4 + f)) hcc hfm (by omega) hck
    rw [← eft] at rX rY
    by_cases hr : r = 0
    · subst hr
      rcases ih (f + 1) (by omega) with ⟨t0, t1, t2, kX, kY⟩ | ⟨r, l', hr, kX, kY⟩
      · refine Or.inl ⟨fun g h1 h2 => ?_, t1, t2, fun post J p => ⟨vc, br_f efk ⟨v32, rX _ (br_t rfl (nm_r (nI_1 f) (kX post J p)))⟩⟩, fun post J l p n hn => ?_⟩
        · by_cases e : g = f
          · subst e; exact rT rfl
          · exact t0 g (by omega) h2
        · obtain ⟨n', rfl⟩ : ∃ n', n = n' + 1 := ⟨n - 1, by omega⟩
          exact br_f n6 (br_t rfl (br_f n4 ⟨vc, br_t efl (br_f n4 ⟨v32, rY _ (nm_e (nm_r (nI_1 f) (kY post J _ p n' (by omega))))⟩)⟩))
      · refine Or.inr ⟨r, l', hr, fun post J p => ⟨vc, br_f efk ⟨v32, rX _ (br_t rfl (nm_r (nI_1 f) (kX post J p)))⟩⟩, fun post J l p n hn => ?_⟩
        obtain ⟨n', rfl⟩ : ∃ n', n = n' + 1 := ⟨n - 1, by omega⟩
        exact br_f n6 (br_t rfl (br_f n4 ⟨vc, br_t efl (br_f n4 ⟨v32, rY _ (nm_e (nm_r (nI_1 f) (kY post J _ p n' (by omega))))⟩)⟩))
    · refine Or.inr ⟨r, nI c * 32 + nI f, hr, fun post J p => ⟨vc, br_f efk ⟨v32, rX _ (br_f hr (od_xerr p))⟩⟩, fun post J l p n hn => ?_⟩
      obtain ⟨n', rfl⟩ : ∃ n', n = n' + 1 := ⟨n - 1, by omega⟩
      exact br_f n6 (br_t rfl (br_f n4 ⟨vc, br_t efl (br_f n4 ⟨v32, rY _ (nm_e (nm_e (od_yE46 hr _ p)))⟩)⟩))
/-- what the first loop finds of a class -/
def od_G (cc : Nat) (fm fk ft rt dX : Nat → Int32) (c : Nat) : Prop := (∀ f n, fk c = nI n → n ≤ 4 → f < n → od_T cc fm (ft (c * 4 + f))) ∧ od_T cc fm (dX (c * 8 + 1)) ∧ od_T cc fm (rt c)
theorem od_sig (hP : od_P ck cc fm fk dX pT dY sc) : ∀ d c, c + d = cc →
    ((∀ c', c ≤ c' → c' < cc → od_G cc fm fk ft rt dX c') ∧ (∀ post : Int32 → SX → Prop, post 0 (nI ca, st, er, ck, nI cc, nI oc, nI fc, fm, fk, ft, rt, dX, sc, so, sa, sb, oC, oO, oF, fB, fP, fR, fV, fL) → wX_checkSignatures_2 post (nI ca) st er ck (nI cc) (nI oc) (nI fc) fm fk ft rt dX sc so sa sb oC oO oF fB fP fR fV fL (d + 1) (nI c)) ∧
      (∀ (post : Int32 → SY → Prop) (l : Int32), (∀ l', ∃ n, wY_compile_157 post (nI ca) st er (nI cc) ck (nI oc) (nI fc) fm fk ft pT rt dY sc so sa sb oC oO oF fB fP fR fV fL n 0 l' 0) → wY_compile_30 post (nI ca) st er (nI cc) ck (nI oc) (nI fc) fm fk ft pT rt dY sc so sa sb oC oO oF fB fP fR fV fL (d + 1) 0 l (nI c))) ∨
    (∃ r l' : Int32, ¬ r = 0 ∧ (∀ post : Int32 → SX → Prop, post r (nI ca, st, l', ck, nI cc, nI oc, nI fc, fm, fk, ft, rt, dX, sc, so, sa, sb, oC, oO, oF, fB, fP, fR, fV, fL) → wX_checkSignatures_2 post (nI ca) st er ck (nI cc) (nI oc) (nI fc) fm fk ft rt dX sc so sa sb oC oO oF fB fP fR fV fL (d + 1) (nI c)) ∧
      (∀ (post : Int32 → SY → Prop) (l : Int32), post r (nI ca, st, l', nI cc, ck, nI oc, nI fc, fm, fk, ft, pT, rt, dY, sc, so, sa, sb, oC, oO, oF, fB, fP, fR, fV, fL) → wY_compile_30 post (nI ca) st er (nI cc) ck (nI oc) (nI fc) fm fk ft pT rt dY sc so sa sb oC oO oF fB fP fR fV fL (d + 1) 0 l (nI c))) := by
  have hcc := hP.2.1
  have hfk := hP.2.2.2.1
  intro d
  induction d with
  | zero =>
    intro c h
    have l1 : nI cc ≤ nI c := nI_le (by omega) (by omega)
    exact Or.inl ⟨fun c' h1 h2 => by omega, fun post p => br_t l1 p, fun post l p => br_t l1 (p l)⟩
  | succ d ih =>
    intro c h
    have l1 : ¬ nI cc ≤ nI c := nI_ge (by omega) (by omega)
    obtain ⟨nf, hnf, enf⟩ := hfk c
    rcases od_sigc (ca := ca) (cc := cc) (oc := oc) (fc := fc) (st := st) (er := er) (ck := ck) (fm := fm) (fk := fk) (ft := ft) (rt := rt) (dX := dX) (pT := pT) (dY := dY) (sc := sc) (so := so) (sa := sa) (sb := sb) (oC := oC) (oO := oO) (oF := oF) (fB := fB) (fP := fP) (fR := fR) (fV := fV) (fL := fL) hP (c := c) (by omega) hnf enf nf 0 (by omega) with ⟨t0, t1, t2, kX, kY⟩ | ⟨r, l', hr, kX, kY⟩
    · have g : od_G cc fm fk ft rt dX c := ⟨fun f n e hn hf => t0 f (Nat.zero_le _) (by have := od_inj (e.symm.trans enf) (by omega) (by omega); omega), t1, t2⟩
      rcases ih (c + 1) (by omega) with ⟨t, jX, jY⟩ | ⟨r, l', hr, jX, jY⟩
      · refine Or.inl ⟨fun c' h1 h2 => ?_, fun post p => br_f l1 ⟨nf + 1, kX post _ (jX post p)⟩, fun post l p => br_f l1 (br_t rfl ⟨7, kY post _ l (fun l' => jY post l' p) 6 rfl⟩)⟩
        by_cases e : c' = c
        · subst e; exact g
        · exact t c' (by omega) h2
      · exact Or.inr ⟨r, l', hr, fun post p => br_f l1 ⟨nf + 1, kX post _ (jX post p)⟩, fun post l p => br_f l1 (br_t rfl ⟨7, kY post _ l (fun l' => jY post l' p) 6 rfl⟩)⟩
    · exact Or.inr ⟨r, l', hr, fun post p => br_f l1 ⟨nf + 1, kX post _ p⟩, fun post l p => br_f l1 (br_t rfl ⟨7, kY post _ l (od_yE30 hr _ p) 6 rfl⟩)⟩
