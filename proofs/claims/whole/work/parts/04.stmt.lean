variable {ca cc oc fc : Nat} {st er ck : Int32} {fm fk ft rt dX pT dY sc so sa sb oC oO oF fB fP fR fV fL : Nat → Int32}
/-- a statement as a compiled body holds it -/
def od_ok (cc : Nat) (fm : Nat → Int32) (b : Nat) (o a x : Int32) : Prop :=
  ∃ a', a' < 8 ∧ a = nI a' ∧ ((o = 1 ∧ od_T cc fm x) ∨ (o = 2 ∧ ∃ y, y < 8 ∧ x = nI y) ∨ (o = 3 ∧ ∃ y, y < 32 ∧ x = nI y) ∨ (o = 4 ∧ ∃ y, y < 32 ∧ x = nI y) ∨ (o = 5 ∧ ∃ y, y < 64 ∧ x = nI y) ∨ o = 6 ∨ (o = 7 ∧ b ≠ 8))
/-- all declared types are types -/
def od_V (cc : Nat) (fm fk ft rt dX : Nat → Int32) : Prop :=
  (∀ b v, (b < cc ∨ b = 8) → v < 8 → od_T cc fm (dX (b * 8 + v))) ∧ (∀ c f n, c < cc → fk c = nI n → n ≤ 4 → f < n → od_T cc fm (ft (c * 4 + f))) ∧ (∀ c, c < cc → od_T cc fm (rt c))
theorem od_ge1 {x : Int32} (h : ¬ x < 1) : ∃ o : Nat, 1 ≤ o ∧ o < 2 ^ 31 ∧ x = nI o := by
  have z : ¬ x < 0 := fun z => h (Int32.lt_trans z (by decide))
  obtain ⟨j, hj, rfl⟩ := nI_of z
  by_cases e : j = 0
  · subst e; exact absurd (by decide) h
  · exact ⟨j, by omega, hj, rfl⟩
theorem od_m6 {post : Int32 → Prop} (p : post 6) : post (-(-6)) := by
  rw [show (-(-6) : Int32) = 6 from by decide]; exact p
theorem od_t2 {b o a : Nat} (hb : b ≤ 8) (ha : a < 8) (h7 : o ≤ 7) :
    ((b = 8 → o ≠ 7) ∧ (∀ Q : Int32 → Prop, Q 0 → wX_checkOperands_108 Q (nI b) (nI o) (nI a) (nI ca) st er ck (nI cc) (nI oc) (nI fc) fm fk ft rt dX sc so sa sb oC oO oF fB fP fR fV fL) ∧ (∀ (post : Int32 → Prop) (B : Int32), wY_checkStmt_151 post (nI b) (nI o) (nI a) B (nI ca) st er (nI cc) ck (nI oc) (nI fc) fm fk ft pT rt dY sc so sa sb oC oO oF fB fP fR fV fL → wY_checkStmt_110 post (nI b) (nI o) (nI a) B (nI ca) st er (nI cc) ck (nI oc) (nI fc) fm fk ft pT rt dY sc so sa sb oC oO oF fB fP fR fV fL)) ∨
    ((∀ Q : Int32 → Prop, Q 4 → wX_checkOperands_108 Q (nI b) (nI o) (nI a) (nI ca) st er ck (nI cc) (nI oc) (nI fc) fm fk ft rt dX sc so sa sb oC oO oF fB fP fR fV fL) ∧ (∀ (post : Int32 → Prop) (B : Int32), post 4 → wY_checkStmt_110 post (nI b) (nI o) (nI a) B (nI ca) st er (nI cc) ck (nI oc) (nI fc) fm fk ft pT rt dY sc so sa sb oC oO oF fB fP fR fV fL)) := by
  have z : ¬ (1 : Int32) = 0 := by decide
  by_cases hb8 : b = 8
  · subst hb8
    by_cases h : o = 7
    · subst h
      exact Or.inr ⟨fun Q p => br_t rfl (br_t rfl p), fun post B p => br_t rfl (br_t rfl p)⟩
    · have n7 : ¬ nI o = 7 := od_ne (k := 7) h (by omega) (by decide)
      exact Or.inl ⟨fun _ => h, fun Q p => br_t rfl (br_f n7 p), fun post B p => br_t rfl (br_f n7 (br_t rfl p))⟩
  · have b8 : ¬ nI b = 8 := od_ne (k := 8) hb8 (by omega) (by decide)
    by_cases h4 : o = 4
    · subst h4
      by_cases a0 : a = 0
      · subst a0
        exact Or.inl ⟨fun h => absurd h hb8, fun Q p => br_f b8 (br_t rfl (br_t rfl (br_t rfl p))), fun post B p => br_f b8 (br_f b8 (br_t rfl (br_t rfl p)))⟩
      · have na : ¬ nI a = 0 := od_ne (k := 0) a0 (by omega) (by decide)
        exact Or.inl ⟨fun h => absurd h hb8, fun Q p => br_f b8 (br_t rfl (br_f na p)), fun post B p => br_f b8 (br_f b8 (br_f na p))⟩
    have n4 : ¬ nI o = 4 := od_ne (k := 4) h4 (by omega) (by decide)
    by_cases h : o = 7
    · subst h
      by_cases a0 : a = 0
      · subst a0
        exact Or.inl ⟨fun h => absurd h hb8, fun Q p => br_f b8 (br_f n4 (br_t rfl (br_t rfl (br_t rfl p)))), fun post B p => br_f b8 (br_f b8 (br_t rfl (br_f n4 (br_t rfl p))))⟩
      · have na : ¬ nI a = 0 := od_ne (k := 0) a0 (by omega) (by decide)
        exact Or.inl ⟨fun h => absurd h hb8, fun Q p => br_f b8 (br_f n4 (br_t rfl (br_f na p))), fun post B p => br_f b8 (br_f b8 (br_f na p))⟩
    have n7 : ¬ nI o = 7 := od_ne (k := 7) h (by omega) (by decide)
    by_cases a0 : a = 0
    · subst a0
      exact Or.inr ⟨fun Q p => br_f b8 (br_f n4 (br_f n7 (br_t rfl (br_f z p)))), fun post B p => br_f b8 (br_f b8 (br_t rfl (br_f n4 (br_f n7 p))))⟩
    · have na : ¬ nI a = 0 := od_ne (k := 0) a0 (by omega) (by decide)
      exact Or.inl ⟨fun h => absurd h hb8, fun Q p => br_f b8 (br_f n4 (br_f n7 (br_f na p))), fun post B p => br_f b8 (br_f b8 (br_f na p))⟩
theorem od_t1 {b o a : Nat} (B : Int32) (hb : b ≤ 8) (ha : a < 8) (h7 : o ≤ 7) :
    ((b = 8 → o ≠ 7) ∧ ((o = 3 ∨ o = 4 ∨ o = 5) → ∃ y, y < 64 ∧ B = nI y) ∧ (∀ Q : Int32 → Prop, Q 0 → wX_checkOperands_67 Q (nI b) (nI o) (nI a) B (nI ca) st er ck (nI cc) (nI oc) (nI fc) fm fk ft rt dX sc so sa sb oC oO oF fB fP fR fV fL) ∧ (∀ post : Int32 → Prop, wY_checkStmt_151 post (nI b) (nI o) (nI a) B (nI ca) st er (nI cc) ck (nI oc) (nI fc) fm fk ft pT rt dY sc so sa sb oC oO oF fB fP fR fV fL → wY_checkStmt_78 post (nI b) (nI o) (nI a) B (nI ca) st er (nI cc) ck (nI oc) (nI fc) fm fk ft pT rt dY sc so sa sb oC oO oF fB fP fR fV fL)) ∨
    ((∀ Q : Int32 → Prop, Q 4 → wX_checkOperands_67 Q (nI b) (nI o) (nI a) B (nI ca) st er ck (nI cc) (nI oc) (nI fc) fm fk ft rt dX sc so sa sb oC oO oF fB fP fR fV fL) ∧ (∀ post : Int32 → Prop, post 4 → wY_checkStmt_78 post (nI b) (nI o) (nI a) B (nI ca) st er (nI cc) ck (nI oc) (nI fc) fm fk ft pT rt dY sc so sa sb oC oO oF fB fP fR fV fL)) := by
  have z : ¬ (1 : Int32) = 0 := by decide
  by_cases hp : o = 3 ∨ o = 4 ∨ o = 5
  · have eX : ∀ Q : Int32 → Prop, wX_checkOperands_87 Q (nI b) (nI o) (nI a) B 1 (nI ca) st er ck (nI cc) (nI oc) (nI fc) fm fk ft rt dX sc so sa sb oC oO oF fB fP fR fV fL → wX_checkOperands_67 Q (nI b) (nI o) (nI a) B (nI ca) st er ck (nI cc) (nI oc) (nI fc) fm fk ft rt dX sc so sa sb oC oO oF fB fP fR fV fL := by
      intro Q p
      rcases hp with rfl | rfl | rfl
      · exact br_t rfl p
      · exact br_f (by decide) (br_t rfl p)
      · exact br_f (by decide) (br_f (by decide) (br_t rfl p))
    have eY : ∀ post : Int32 → Prop, wY_checkStmt_96 post (nI b) (nI o) (nI a) B (nI ca) st er (nI cc) ck (nI oc) (nI fc) fm fk ft pT rt dY sc so sa sb oC oO oF fB fP fR fV fL → wY_checkStmt_78 post (nI b) (nI o) (nI a) B (nI ca) st er (nI cc) ck (nI oc) (nI fc) fm fk ft pT rt dY sc so sa sb oC oO oF fB fP fR fV fL := by
      intro Q p
      rcases hp with rfl | rfl | rfl
      · exact br_t rfl p
      · exact br_f (by decide) (br_t rfl p)
      · exact br_f (by decide) (br_f (by decide) (br_t rfl p))
    by_cases h0 : B < 0
    · exact Or.inr ⟨fun Q p => eX Q (br_f z (br_t h0 p)), fun post p => eY post (br_t h0 p)⟩
    obtain ⟨y, hy, rfl⟩ := nI_of h0
    by_cases h64 : y < 64
    · have l1 : nI y < 64 := nI_lt (b := 64) h64 (by decide)
      have l2 : nI y ≤ 63 := nI_le (b := 63) (by omega) (by decide)
      rcases od_t2 (ca := ca) (cc := cc) (oc := oc) (fc := fc) (st := st) (er := er) (ck := ck) (fm := fm) (fk := fk) (ft := ft) (rt := rt) (dX := dX) (pT := pT) (dY := dY) (sc := sc) (so := so) (sa := sa) (sb := sb) (oC := oC) (oO := oO) (oF := oF) (fB := fB) (fP := fP) (fR := fR) (fV := fV) (fL := fL) hb ha h7 with ⟨g, kX, kY⟩ | ⟨kX, kY⟩
      · exact Or.inl ⟨g, fun _ => ⟨y, h64, rfl⟩, fun Q p => eX Q (br_f z (br_f h0 (br_t l1 (kX Q p)))), fun post p => eY post (br_f h0 (br_t l2 (kY post _ p)))⟩
      · exact Or.inr ⟨fun Q p => eX Q (br_f z (br_f h0 (br_t l1 (kX Q p)))), fun post p => eY post (br_f h0 (br_t l2 (kY post _ p)))⟩
    · have l1 : ¬ nI y < 64 := nI_nlt (b := 64) (by omega) (by omega)
      have l2 : ¬ nI y ≤ 63 := nI_ge (a := 63) (by omega) (by omega)
      exact Or.inr ⟨fun Q p => eX Q (br_f z (br_f h0 (br_f l1 p))), fun post p => eY post (br_f h0 (br_f l2 p))⟩
  · have n3 : ¬ nI o = 3 := od_ne (k := 3) (by omega) (by omega) (by decide)
    have n4 : ¬ nI o = 4 := od_ne (k := 4) (by omega) (by omega) (by decide)
    have n5 : ¬ nI o = 5 := od_ne (k := 5) (by omega) (by omega) (by decide)
    rcases od_t2 (ca := ca) (cc := cc) (oc := oc) (fc := fc) (st := st) (er := er) (ck := ck) (fm := fm) (fk := fk) (ft := ft) (rt := rt) (dX := dX) (pT := pT) (dY := dY) (sc := sc) (so := so) (sa := sa) (sb := sb) (oC := oC) (oO := oO) (oF := oF) (fB := fB) (fP := fP) (fR := fR) (fV := fV) (fL := fL) hb ha h7 with ⟨g, kX, kY⟩ | ⟨kX, kY⟩
    · exact Or.inl ⟨g, fun h => absurd h hp, fun Q p => br_f n3 (br_f n4 (br_f n5 (br_t rfl (kX Q p)))), fun post p => br_f n3 (br_f n4 (br_f n5 (kY post _ p)))⟩
    · exact Or.inr ⟨fun Q p => br_f n3 (br_f n4 (br_f n5 (br_t rfl (kX Q p)))), fun post p => br_f n3 (br_f n4 (br_f n5 (kY post _ p)))⟩
theorem od_op {b s : Nat} (hb : b ≤ 8) (hs : s < 16) :
    (∃ o a, 1 ≤ o ∧ o ≤ 7 ∧ a < 8 ∧ so (b * 16 + s) = nI o ∧ sa (b * 16 + s) = nI a ∧ (b = 8 → o ≠ 7) ∧ (o = 2 → ∃ y, y < 8 ∧ sb (b * 16 + s) = nI y) ∧ ((o = 3 ∨ o = 4 ∨ o = 5) → ∃ y, y < 64 ∧ sb (b * 16 + s) = nI y) ∧
      (∀ Q : Int32 → Prop, Q 0 → wpX_checkOperands Q (nI ca, st, er, ck, nI cc, nI oc, nI fc, fm, fk, ft, rt, dX, sc, so, sa, sb, oC, oO, oF, fB, fP, fR, fV, fL) (nI b) (nI (b * 16 + s))) ∧ (∀ post : Int32 → Prop, wY_checkStmt_151 post (nI b) (nI o) (nI a) (sb (b * 16 + s)) (nI ca) st er (nI cc) ck (nI oc) (nI fc) fm fk ft pT rt dY sc so sa sb oC oO oF fB fP fR fV fL → wpY_checkStmt post (nI ca, st, er, nI cc, ck, nI oc, nI fc, fm, fk, ft, pT, rt, dY, sc, so, sa, sb, oC, oO, oF, fB, fP, fR, fV, fL) (nI b) (nI s))) ∨
    ((∀ Q : Int32 → Prop, Q 4 → wpX_checkOperands Q (nI ca, st, er, ck, nI cc, nI oc, nI fc, fm, fk, ft, rt, dX, sc, so, sa, sb, oC, oO, oF, fB, fP, fR, fV, fL) (nI b) (nI (b * 16 + s))) ∧ (∀ post : Int32 → Prop, post 4 → wpY_checkStmt post (nI ca, st, er, nI cc, ck, nI oc, nI fc, fm, fk, ft, pT, rt, dY, sc, so, sa, sb, oC, oO, oF, fB, fP, fR, fV, fL) (nI b) (nI s))) := by
  have v : vp_in (nI (b * 16 + s)) 144 := vp_in_nI (by omega) (by decide)
  have ec : (nI (b * 16 + s)).toNatClampNeg = b * 16 + s := nI_clamp (by omega)
  obtain ⟨O, eO⟩ : ∃ O, so (b * 16 + s) = O := ⟨_, rfl⟩
  obtain ⟨A, eA⟩ : ∃ A, sa (b * 16 + s) = A := ⟨_, rfl⟩
  obtain ⟨B, eB⟩ : ∃ B, sb (b * 16 + s) = B := ⟨_, rfl⟩
  have fO : so (nI (b * 16 + s)).toNatClampNeg = O := by rw [ec]; exact eO
  have fA : sa (nI (b * 16 + s)).toNatClampNeg = A := by rw [ec]; exact eA
  have fB' : sb (nI (b * 16 + s)).toNatClampNeg = B := by rw [ec]; exact eB
  have e16 := od_i16 b s
  by_cases h1 : O < 1
  · exact Or.inr ⟨fun Q p => ⟨v, nm_r fO ⟨v, nm_r fA ⟨v, nm_r fB' (br_t h1 p)⟩⟩⟩, fun post p => nm_r e16 ⟨v, nm_r fO ⟨v, nm_r fA ⟨v, nm_r fB' (br_t h1 p)⟩⟩⟩⟩
  obtain ⟨o, ho1, ho, rfl⟩ := od_ge1 h1
  by_cases h7 : 7 < o
  · have g7 : (7 : Int32) < nI o := nI_lt (a := 7) h7 ho
    exact Or.inr ⟨fun Q p => ⟨v, nm_r fO ⟨v, nm_r fA ⟨v, nm_r fB' (br_f h1 (br_t g7 p))⟩⟩⟩, fun post p => nm_r e16 ⟨v, nm_r fO ⟨v, nm_r fA ⟨v, nm_r fB' (br_f h1 (br_t g7 p))⟩⟩⟩⟩
  have g7 : ¬ (7 : Int32) < nI o := nI_nlt (a := 7) (by omega) (by decide)
  by_cases a0 : A < 0
  · exact Or.inr ⟨fun Q p => ⟨v, nm_r fO ⟨v, nm_r fA ⟨v, nm_r fB' (br_f h1 (br_f g7 (br_t a0 p)))⟩⟩⟩, fun post p => nm_r e16 ⟨v, nm_r fO ⟨v, nm_r fA ⟨v, nm_r fB' (br_f h1 (br_f g7 (br_t a0 p)))⟩⟩⟩⟩
  obtain ⟨a, ha, rfl⟩ := nI_of a0
  by_cases a8 : a < 8
  · have l1 : nI a < 8 := nI_lt (b := 8) a8 (by decide)
    have l2 : nI a ≤ 7 := nI_le (b := 7) (by omega) (by decide)
    by_cases o2 : o = 2
    · subst o2
      by_cases b0 : B < 0
      · exact Or.inr ⟨fun Q p => ⟨v, nm_r fO ⟨v, nm_r fA ⟨v, nm_r fB' (br_f h1 (br_f g7 (br_f a0 (br_t l1 (br_t rfl (br_t b0 p))))))⟩⟩⟩, fun post p => nm_r e16 ⟨v, nm_r fO ⟨v, nm_r fA ⟨v, nm_r fB' (br_f h1 (br_f g7 (br_f a0 (br_t l2 (br_t rfl (br_t b0 p))))))⟩⟩⟩⟩
      obtain ⟨y, hy, rfl⟩ := nI_of b0
      by_cases y8 : y < 8
      · have m1 : nI y < 8 := nI_lt (b := 8) y8 (by decide)
        have m2 : nI y ≤ 7 := nI_le (b := 7) (by omega) (by decide)
        rcases od_t1 (ca := ca) (cc := cc) (oc := oc) (fc := fc) (st := st) (er := er) (ck := ck) (fm := fm) (fk := fk) (ft := ft) (rt := rt) (dX := dX) (pT := pT) (dY := dY) (sc := sc) (so := so) (sa := sa) (sb := sb) (oC := oC) (oO := oO) (oF := oF) (fB := fB) (fP := fP) (fR := fR) (fV := fV) (fL := fL) (o := 2) (nI y) hb a8 (by decide) with ⟨g, g', kX, kY⟩ | ⟨kX, kY⟩
        · exact Or.inl ⟨2, a, by omega, by omega, a8, eO, eA, g, fun _ => ⟨y, y8, eB⟩, fun h => absurd h (by decide), fun Q p => ⟨v, nm_r fO ⟨v, nm_r fA ⟨v, nm_r fB' (br_f h1 (br_f g7 (br_f a0 (br_t l1 (br_t rfl (br_f b0 (br_t m1 (kX Q p))))))))⟩⟩⟩, fun post p => nm_r e16 ⟨v, nm_r fO ⟨v, nm_r fA ⟨v, nm_r fB' (br_f h1 (br_f g7 (br_f a0 (br_t l2 (br_t rfl (br_f b0 (br_t m2 (kY post (eB ▸ p)))))))))⟩⟩⟩⟩
        · exact Or.inr ⟨fun Q p => ⟨v, nm_r fO ⟨v, nm_r fA ⟨v, nm_r fB' (br_f h1 (br_f g7 (br_f a0 (br_t l1 (br_t rfl (br_f b0 (br_t m1 (kX Q p))))))))⟩⟩⟩, fun post p => nm_r e16 ⟨v, nm_r fO ⟨v, nm_r fA ⟨v, nm_r fB' (br_f h1 (br_f g7 (br_f a0 (br_t l2 (br_t rfl (br_f b0 (br_t m2 (kY post p))))))))⟩⟩⟩⟩
      · have m1 : ¬ nI y < 8 := nI_nlt (b := 8) (by omega) (by omega)
        have m2 : ¬ nI y ≤ 7 := nI_ge (a := 7) (by omega) (by omega)
        exact Or.inr ⟨fun Q p => ⟨v, nm_r fO ⟨v, nm_r fA ⟨v, nm_r fB' (br_f h1 (br_f g7 (br_f a0 (br_t l1 (br_t rfl (br_f b0 (br_f m1 p)))))))⟩⟩⟩, fun post p => nm_r e16 ⟨v, nm_r fO ⟨v, nm_r fA ⟨v, nm_r fB' (br_f h1 (br_f g7 (br_f a0 (br_t l2 (br_t rfl (br_f b0 (br_f m2 p)))))))⟩⟩⟩⟩
    · have n2 : ¬ nI o = 2 := od_ne (k := 2) o2 (by omega) (by decide)
      rcases od_t1 (ca := ca) (cc := cc) (oc := oc) (fc := fc) (st := st) (er := er) (ck := ck) (fm := fm) (fk := fk) (ft := ft) (rt := rt) (dX := dX) (pT := pT) (dY := dY) (sc := sc) (so := so) (sa := sa) (sb := sb) (oC := oC) (oO := oO) (oF := oF) (fB := fB) (fP := fP) (fR := fR) (fV := fV) (fL := fL) B hb a8 (o := o) (by omega) with ⟨g, g', kX, kY⟩ | ⟨kX, kY⟩
      · refine Or.inl ⟨o, a, by omega, by omega, a8, eO, eA, g, fun h => absurd h o2, fun h => ?_, fun Q p => ⟨v, nm_r fO ⟨v, nm_r fA ⟨v, nm_r fB' (br_f h1 (br_f g7 (br_f a0 (br_t l1 (br_f n2 (kX Q p))))))⟩⟩⟩, fun post p => nm_r e16 ⟨v, nm_r fO ⟨v, nm_r fA ⟨v, nm_r fB' (br_f h1 (br_f g7 (br_f a0 (br_t l2 (br_f n2 (kY post (eB ▸ p)))))))⟩⟩⟩⟩
        rw [eB]; exact g' h
      · exact Or.inr ⟨fun Q p => ⟨v, nm_r fO ⟨v, nm_r fA ⟨v, nm_r fB' (br_f h1 (br_f g7 (br_f a0 (br_t l1 (br_f n2 (kX Q p))))))⟩⟩⟩, fun post p => nm_r e16 ⟨v, nm_r fO ⟨v, nm_r fA ⟨v, nm_r fB' (br_f h1 (br_f g7 (br_f a0 (br_t l2 (br_f n2 (kY post p))))))⟩⟩⟩⟩
  · have l1 : ¬ nI a < 8 := nI_nlt (b := 8) (by omega) (by omega)
    have l2 : ¬ nI a ≤ 7 := nI_ge (a := 7) (by omega) (by omega)
    exact Or.inr ⟨fun Q p => ⟨v, nm_r fO ⟨v, nm_r fA ⟨v, nm_r fB' (br_f h1 (br_f g7 (br_f a0 (br_f l1 p))))⟩⟩⟩, fun post p => nm_r e16 ⟨v, nm_r fO ⟨v, nm_r fA ⟨v, nm_r fB' (br_f h1 (br_f g7 (br_f a0 (br_f l2 p))))⟩⟩⟩⟩
theorem od_fld (hP : od_P ck cc fm fk dX pT dY sc) (hV : od_V cc fm fk ft rt dX) {b h q : Nat} (hb : b < cc ∨ b = 8) (hh : h < 8) (hq : q < 8) (z : Int32) :
    ∃ c, c < cc ∧ dX (b * 8 + h) &&& 15 = nI c ∧ ∃ r : Int32, (r = 0 → q < 4) ∧ (∀ post : Int32 → Prop, post r → wpX_checkField post (nI ca, st, er, ck, nI cc, nI oc, nI fc, fm, fk, ft, rt, dX, sc, so, sa, sb, oC, oO, oF, fB, fP, fR, fV, fL) (nI b) (nI h) (nI q) z) ∧
      (∀ post : Int32 → Prop, post r → vp_in (nI c) 8 ∧ ((nI q < fk (nI c).toNatClampNeg → (vp_in ((nI c * 4) + nI q) 32 ∧ (wpY_subst (fun r_218 => (((0 ≤ r_218 → (wpY_match (fun r_245 => (post r_245)) (nI ca, st, er, nI cc, ck, nI oc, nI fc, fm, fk, ft, pT, rt, dY, sc, so, sa, sb, oC, oO, oF, fB, fP, fR, fV, fL) r_218 z)) ∧ (¬ 0 ≤ r_218 → (post (-r_218)))))) (nI ca, st, er, nI cc, ck, nI oc, nI fc, fm, fk, ft, pT, rt, dY, sc, so, sa, sb, oC, oO, oF, fB, fP, fR, fV, fL) (ft ((nI c * 4) + nI q).toNatClampNeg) (nI b) (nI h)))) ∧ (¬ nI q < fk (nI c).toNatClampNeg → (post 4)))) := by
  have hck := hP.1
  have hcc := hP.2.1
  have hfk := hP.2.2.2.1
  have hD := hV.1 b h hb hh
  obtain ⟨D, m, hDl, eD, hc, hm, em, hs⟩ := hV.1 b h hb hh
  have e15 : dX (b * 8 + h) &&& 15 = nI (D % 16) := by rw [eD]; exact od_and15 (by omega)
  refine ⟨D % 16, hc, e15, ?_⟩
  generalize D % 16 = c at *
  have hv : b * 8 + h < 72 := by omega
  have f15 : dX (nI b * 8 + nI h).toNatClampNeg &&& 15 = nI c := by rw [od_e8 (f := dX) hv rfl]; exact e15
  have vc : vp_in (nI c) 8 := vp_in_nI (by omega) (by decide)
  obtain ⟨n, hn, en⟩ := hfk c
  have efk : fk (nI c).toNatClampNeg = nI n := by rw [nI_clamp (by omega)]; exact en
  by_cases hqn : q < n
  · have l : nI q < fk (nI c).toNatClampNeg := by rw [efk]; exact nI_lt hqn (by omega)
    have v32 : vp_in (nI c * 4 + nI q) 32 := by rw [od_i4]; exact vp_in_nI (by omega) (by decide)
    have eft : ft (nI c * 4 + nI q).toNatClampNeg = ft (c * 4 + q) := by rw [od_i4, nI_clamp (by omega)]
    rcases od_subst (ca := ca) (cc := cc) (oc := oc) (fc := fc) (st := st) (er := er) (ck := ck) (fm := fm) (fk := fk) (ft := ft) (rt := rt) (dX := dX) (pT := pT) (dY := dY) (sc := sc) (so := so) (sa := sa) (sb := sb) (oC := oC) (oO := oO) (oF := oF) (fB := fB) (fP := fP) (fR := fR) (fV := fV) (fL := fL) hP hb hh (hV.2.1 c q n hc en hn hqn) hD with ⟨w, hw, wX, wY⟩ | ⟨wX, wY⟩
    · obtain ⟨r, rX, rY⟩ := od_match (ca := ca) (cc := cc) (oc := oc) (fc := fc) (st := st) (er := er) (ck := ck) (fm := fm) (fk := fk) (ft := ft) (rt := rt) (dX := dX) (pT := pT) (dY := dY) (sc := sc) (so := so) (sa := sa) (sb := sb) (oC := oC) (oO := oO) (oF := oF) (fB := fB) (fP := fP) (fR := fR) (fV := fV) (fL := fL) (s := w) (by omega) hck z
      refine ⟨r, fun _ => by omega, fun post p => ⟨od_v8 hv, nm_r f15 ⟨vc, br_t l ⟨v32, ?_⟩⟩⟩, fun post p => ⟨vc, br_t l ⟨v32, ?_⟩⟩⟩
      · rw [eft]; exact wX _ (rX _ p)
      · rw [eft]; exact wY _ (br_t (nI_pos' (by omega)) (rY _ p))
    · refine ⟨6, fun e => absurd e (by decide), fun post p => ⟨od_v8 hv, nm_r f15 ⟨vc, br_t l ⟨v32, ?_⟩⟩⟩, fun post p => ⟨vc, br_t l ⟨v32, ?_⟩⟩⟩
      · rw [eft]; exact wX _ (br_t rfl p)
      · rw [eft]; exact wY _ (br_f (by decide) (od_m6 p))
  · have l : ¬ nI q < fk (nI c).toNatClampNeg := by rw [efk]; exact nI_nlt (by omega) (by omega)
    exact ⟨4, fun e => absurd e (by decide), fun post p => ⟨od_v8 hv, nm_r f15 ⟨vc, br_f l p⟩⟩, fun post p => ⟨vc, br_f l p⟩⟩
