variable {ca cc oc fc : Nat} {st er ck : Int32} {fm fk ft rt dX pT dY sc so sa sb oC oO oF fB fP fR fV fL : Nat → Int32}
/-- what every state keeps of its program -/
def od_P (ck : Int32) (cc : Nat) (fm fk dX pT dY sc : Nat → Int32) : Prop :=
  (ck = 0 ∨ ck = 1) ∧ cc ≤ 8 ∧ (∀ c, ∃ n, n ≤ 2 ∧ fm c = nI n) ∧ (∀ c, ∃ n, n ≤ 4 ∧ fk c = nI n) ∧ (∀ c, ∃ n, n ≤ 16 ∧ sc c = nI n) ∧
  (∀ c n, c < cc → n ≤ 2 → fm c = nI n → dX (c * 8) = nI (od_self c n)) ∧ (∀ c, c < 8 → dX (c * 8 + 1) = pT c) ∧
  (∀ c v, 2 ≤ v → v < 8 → dX (c * 8 + v) = dY (c * 8 + v)) ∧ (∀ v, v < 8 → dX (64 + v) = dY (64 + v))
theorem od_self0 (c : Nat) : nI c + 16 = nI (od_self c 0) := nI_add c 16
theorem od_self1 (c : Nat) : nI c + 16 + 768 = nI (od_self c 1) := by
  show nI c + nI 16 + nI 768 = _
  rw [nI_add, nI_add]; rfl
theorem od_self2 (c : Nat) : nI c + 16 + 768 + 16384 = nI (od_self c 2) := by
  show nI c + nI 16 + nI 768 + nI 16384 = _
  rw [nI_add, nI_add, nI_add]; rfl
theorem od_yself {c n : Nat} (hc : c < 8) (hn : n ≤ 2) (hf : fm c = nI n) {post : Int32 → Prop} (p : post (nI (od_self c n))) : wpY_selfType post (nI ca, st, er, nI cc, ck, nI oc, nI fc, fm, fk, ft, pT, rt, dY, sc, so, sa, sb, oC, oO, oF, fB, fP, fR, fV, fL) (nI c) := by
  have ea : nI c &&& 7 = nI c := od_and7' hc
  have ef : fm (nI c &&& 7).toNatClampNeg = nI n := by rw [ea, nI_clamp (by omega)]; exact hf
  refine ⟨by rw [ea]; exact vp_in_nI hc (by decide), nm_r ef ?_⟩
  rcases (show n = 0 ∨ n = 1 ∨ n = 2 by omega) with rfl | rfl | rfl
  · refine br_t (by decide) (br_t (by decide) ?_)
    rw [Int32.add_zero, Int32.add_zero, od_self0]; exact p
  · refine br_f (by decide) (br_t (by decide) ?_)
    rw [Int32.add_zero, od_self1]; exact p
  · refine br_f (by decide) (br_f (by decide) ?_)
    rw [od_self2]; exact p
theorem od_xself {c n : Nat} (hc : c < 8) (hn : n ≤ 2) (hf : fm c = nI n) {post : Int32 → Prop} (p : post (nI (od_self c n))) : wpX_selfType post (nI ca, st, er, ck, nI cc, nI oc, nI fc, fm, fk, ft, rt, dX, sc, so, sa, sb, oC, oO, oF, fB, fP, fR, fV, fL) (nI c) := by
  have ef : fm (nI c).toNatClampNeg = nI n := by rw [nI_clamp (by omega)]; exact hf
  have hi : vp_in (nI c) 8 := vp_in_nI hc (by decide)
  refine nm_e ⟨hi, ?_⟩
  rw [ef]
  rcases (show n = 0 ∨ n = 1 ∨ n = 2 by omega) with rfl | rfl | rfl
  · refine br_t (by decide) ⟨hi, ?_⟩
    rw [ef]
    refine br_t (by decide) ?_
    rw [od_self0]; exact p
  · refine br_f (by decide) (nm_e ⟨hi, ?_⟩)
    rw [ef]
    refine br_t (by decide) ?_
    rw [od_self1]; exact p
  · refine br_f (by decide) (nm_e ⟨hi, ?_⟩)
    rw [ef]
    refine br_f (by decide) (nm_e ?_)
    rw [od_self2]; exact p
theorem od_decl (hP : od_P ck cc fm fk dX pT dY sc) {b v : Nat} (hb : b < cc ∨ b = 8) (hv : v < 8) {post : Int32 → Prop} (p : post (dX (b * 8 + v))) : wpY_declOf post (nI ca, st, er, nI cc, ck, nI oc, nI fc, fm, fk, ft, pT, rt, dY, sc, so, sa, sb, oC, oO, oF, fB, fP, fR, fV, fL) (nI b) (nI v) := by
  obtain ⟨hck, hcc, hfm, hfk, hsc, hd0, hd1, hd2, hd8⟩ := hP
  rcases hb with hb | rfl
  · refine br_f (od_ne (k := 8) (by omega) (by omega) (by decide)) ?_
    have eb : nI b &&& 7 = nI b := od_and7' (by omega)
    have ev : nI v &&& 7 = nI v := od_and7' hv
    by_cases h0 : v = 0
    · subst h0
      obtain ⟨n, hn, en⟩ := hfm b
      rw [Nat.add_zero, hd0 b n hb hn en] at p
      exact br_t rfl (od_yself (by omega) hn en p)
    refine br_f (od_ne (k := 0) h0 (by omega) (by decide)) ?_
    by_cases h1 : v = 1
    · subst h1
      rw [hd1 b (by omega)] at p
      refine br_t rfl ?_
      rw [eb, nI_clamp (by omega)]
      exact ⟨vp_in_nI (by omega) (by decide), p⟩
    refine br_f (od_ne (k := 1) h1 (by omega) (by decide)) ?_
    rw [eb, ev, od_i8, nI_clamp (by omega), ← hd2 b v (by omega) hv]
    exact ⟨vp_in_nI (by omega) (by decide), p⟩
  · refine br_t rfl ?_
    rw [od_and7' hv, od_64a, nI_clamp (by omega), ← hd8 v hv]
    exact ⟨vp_in_nI (by omega) (by decide), p⟩
theorem od_match {s : Nat} (hs : s < 2 ^ 31) (hk : ck = 0 ∨ ck = 1) (t : Int32) : ∃ r : Int32, (∀ post : Int32 → Prop, post r → wpX_match post (nI ca, st, er, ck, nI cc, nI oc, nI fc, fm, fk, ft, rt, dX, sc, so, sa, sb, oC, oO, oF, fB, fP, fR, fV, fL) (nI s) t) ∧ (∀ post : Int32 → Prop, post r → wpY_match post (nI ca, st, er, nI cc, ck, nI oc, nI fc, fm, fk, ft, pT, rt, dY, sc, so, sa, sb, oC, oO, oF, fB, fP, fR, fV, fL) (nI s) t) := by
  have ne := od_ne1 hs
  have z : ¬ (1 : Int32) = 0 := by decide
  rcases hk with hk | hk
  · have h1 : ¬ ck = 1 := by rw [hk]; decide
    by_cases e : nI s &&& 15 = t &&& 15
    · exact ⟨0, fun _ p => br_f ne (br_t hk (br_t e (br_f z p))), fun _ p => br_f h1 (br_t e p)⟩
    · exact ⟨5, fun _ p => br_f ne (br_t hk (br_f e (br_t rfl p))), fun _ p => br_f h1 (br_f e p)⟩
  · have h0 : ¬ ck = 0 := by rw [hk]; decide
    by_cases e : nI s = t
    · exact ⟨0, fun _ p => br_f ne (br_f h0 (br_t e (br_f z p))), fun _ p => br_t hk (br_t e p)⟩
    · exact ⟨5, fun _ p => br_f ne (br_f h0 (br_f e (br_t rfl p))), fun _ p => br_t hk (br_f e p)⟩
theorem od_xs' {post : Int32 → Prop} {t i v : Int32} (e : (t >>> ((4 + 4 * i) &&& 31)) &&& 15 = v) (h : post v) : wpX_slot post (nI ca, st, er, ck, nI cc, nI oc, nI fc, fm, fk, ft, rt, dX, sc, so, sa, sb, oC, oO, oF, fB, fP, fR, fV, fL) t i := by
  show post _
  rw [e]; exact h
section
variable {b y D : Nat} {post : Int32 → Prop}
theorem od_v8 (hv : b * 8 + y < 72) : vp_in (nI b * 8 + nI y) 72 := by rw [od_i8]; exact vp_in_nI hv (by decide)
theorem od_e8 {f : Nat → Int32} {z : Int32} (hv : b * 8 + y < 72) (e : f (b * 8 + y) = z) : f (nI b * 8 + nI y).toNatClampNeg = z := by
  rw [od_i8, nI_clamp (by omega)]; exact e
theorem od_mx0 (hv : b * 8 + y < 72) (p : post 0) : wpX_mapAtom post (nI ca, st, er, ck, nI cc, nI oc, nI fc, fm, fk, ft, rt, dX, sc, so, sa, sb, oC, oO, oF, fB, fP, fR, fV, fL) (nI 0) (nI b) (nI y) := ⟨od_v8 hv, nm_e (br_t (by decide) p)⟩
theorem od_mx5 {a : Nat} (ha : 4 < a) (ha' : a < 16) (hv : b * 8 + y < 72) (p : post 0) : wpX_mapAtom post (nI ca, st, er, ck, nI cc, nI oc, nI fc, fm, fk, ft, rt, dX, sc, so, sa, sb, oC, oO, oF, fB, fP, fR, fV, fL) (nI a) (nI b) (nI y) :=
  ⟨od_v8 hv, nm_e (br_f (nI_nlt (b := 1) (by omega) (by omega)) (br_t (nI_lt (a := 4) ha (by omega)) p))⟩
theorem od_mx1 (hv : b * 8 + y < 72) (hD : D < 65536) (e : dX (b * 8 + y) = nI D) (p : post (nI (od_sl D 0))) : wpX_mapAtom post (nI ca, st, er, ck, nI cc, nI oc, nI fc, fm, fk, ft, rt, dX, sc, so, sa, sb, oC, oO, oF, fB, fP, fR, fV, fL) (nI 1) (nI b) (nI y) := by
  refine ⟨od_v8 hv, nm_r (od_e8 hv e) (br_f (by decide) (br_f (by decide) (br_t (by decide) ?_)))⟩
  rw [od_slot0 (by omega)]; exact p
theorem od_mx3 (hv : b * 8 + y < 72) (hD : D < 65536) (e : dX (b * 8 + y) = nI D) (p : post (nI (od_sl D 1))) : wpX_mapAtom post (nI ca, st, er, ck, nI cc, nI oc, nI fc, fm, fk, ft, rt, dX, sc, so, sa, sb, oC, oO, oF, fB, fP, fR, fV, fL) (nI 3) (nI b) (nI y) := by
  refine ⟨od_v8 hv, nm_r (od_e8 hv e) (br_f (by decide) (br_f (by decide) (br_f (by decide) (br_f (by decide) (br_t (by decide) ?_)))))⟩
  rw [od_slot1 (by omega)]; exact p
theorem od_mx4 (hv : b * 8 + y < 72) (hD : D < 65536) (e : dX (b * 8 + y) = nI D) (p : post (nI (od_sl D 2))) : wpX_mapAtom post (nI ca, st, er, ck, nI cc, nI oc, nI fc, fm, fk, ft, rt, dX, sc, so, sa, sb, oC, oO, oF, fB, fP, fR, fV, fL) (nI 4) (nI b) (nI y) := by
  refine ⟨od_v8 hv, nm_r (od_e8 hv e) (br_f (by decide) (br_f (by decide) (br_f (by decide) (br_f (by decide) (br_f (by decide) (br_t (by decide) ?_))))))⟩
  rw [od_slot2 (by omega)]; exact p
theorem od_mx2 (hv : b * 8 + y < 72) (hb : ¬ nI b = 8) (hy : nI y = 0) (p : post 2) : wpX_mapAtom post (nI ca, st, er, ck, nI cc, nI oc, nI fc, fm, fk, ft, rt, dX, sc, so, sa, sb, oC, oO, oF, fB, fP, fR, fV, fL) (nI 2) (nI b) (nI y) :=
  ⟨od_v8 hv, nm_e (br_f (by decide) (br_f (by decide) (br_f (by decide) (br_t (by decide) (br_f hb (br_t hy p))))))⟩
theorem od_mx2a (hv : b * 8 + y < 72) (hb : nI b = 8) (p : wX_mapAtom_82 post (nI ca) st er ck (nI cc) (nI oc) (nI fc) fm fk ft rt dX sc so sa sb oC oO oF fB fP fR fV fL) : wpX_mapAtom post (nI ca, st, er, ck, nI cc, nI oc, nI fc, fm, fk, ft, rt, dX, sc, so, sa, sb, oC, oO, oF, fB, fP, fR, fV, fL) (nI 2) (nI b) (nI y) :=
  ⟨od_v8 hv, nm_e (br_f (by decide) (br_f (by decide) (br_f (by decide) (br_t (by decide) (br_t hb p)))))⟩
theorem od_mx2b (hv : b * 8 + y < 72) (hb : ¬ nI b = 8) (hy : ¬ nI y = 0) (p : wX_mapAtom_82 post (nI ca) st er ck (nI cc) (nI oc) (nI fc) fm fk ft rt dX sc so sa sb oC oO oF fB fP fR fV fL) : wpX_mapAtom post (nI ca, st, er, ck, nI cc, nI oc, nI fc, fm, fk, ft, rt, dX, sc, so, sa, sb, oC, oO, oF, fB, fP, fR, fV, fL) (nI 2) (nI b) (nI y) :=
  ⟨od_v8 hv, nm_e (br_f (by decide) (br_f (by decide) (br_f (by decide) (br_t (by decide) (br_f hb (br_f hy p))))))⟩
end
theorem od_p16 {i acc M : Nat} (h : acc < 2 ^ (4 + 4 * i)) (hM : M < 16) : acc + M * 2 ^ (4 + 4 * i) < 2 ^ (4 + 4 * (i + 1)) := by
  have e : 2 ^ (4 + 4 * (i + 1)) = 16 * 2 ^ (4 + 4 * i) := by
    rw [show 4 + 4 * (i + 1) = (4 + 4 * i) + 4 by omega, Nat.pow_add]; omega
  rw [e]
  generalize 2 ^ (4 + 4 * i) = P at *
  have : M * P ≤ 15 * P := Nat.mul_le_mul_right P (by omega)
  omega
theorem od_p65 {i acc : Nat} (h : acc < 2 ^ (4 + 4 * i)) (hi : i ≤ 3) : acc < 65536 := by
  rcases (show i = 0 ∨ i = 1 ∨ i = 2 ∨ i = 3 by omega) with rfl | rfl | rfl | rfl <;> simp at h <;> omega
/-- the substitution's loop -/
theorem od_sub {t b y D c m : Nat} (hk : ck = 0 ∨ ck = 1) (ht : t < 65536) (hc : c < 8) (hm : m ≤ 2) (hf : fm c = nI m) (hb : b ≤ 8) (hy : y < 8) (hv : b * 8 + y < 72) (hD : D < 65536) (eD : dX (b * 8 + y) = nI D) :
    ∀ d i acc, i + d = m + 1 → acc < 2 ^ (4 + 4 * i) →
    (∃ w, w < 65536 ∧ (∀ post : Int32 → Prop, post (nI w) → wX_substitute_13 post (nI t) (nI b) (nI y) (nI c) (nI ca) st er ck (nI cc) (nI oc) (nI fc) fm fk ft rt dX sc so sa sb oC oO oF fB fP fR fV fL (d + 1) (nI acc) (nI i)) ∧ (∀ post : Int32 → Prop, post (nI w) → wY_subst_33 post (nI t) (nI b) (nI y) (nI D) (nI m) (nI ca) st er (nI cc) ck (nI oc) (nI fc) fm fk ft pT rt dY sc so sa sb oC oO oF fB fP fR fV fL (d + 1) (nI acc) (nI i))) ∨
    ((∀ post : Int32 → Prop, post (-1) → wX_substitute_13 post (nI t) (nI b) (nI y) (nI c) (nI ca) st er ck (nI cc) (nI oc) (nI fc) fm fk ft rt dX sc so sa sb oC oO oF fB fP fR fV fL (d + 1) (nI acc) (nI i)) ∧ (∀ post : Int32 → Prop, post (-6) → wY_subst_33 post (nI t) (nI b) (nI y) (nI D) (nI m) (nI ca) st er (nI cc) ck (nI oc) (nI fc) fm fk ft pT rt dY sc so sa sb oC oO oF fB fP fR fV fL (d + 1) (nI acc) (nI i))) := by
  have hi8 : vp_in (nI c) 8 := vp_in_nI hc (by decide)
  have ef : fm (nI c).toNatClampNeg = nI m := by rw [nI_clamp (by omega)]; exact hf
  intro d
  induction d with
  | zero =>
    intro i acc hi ha
    have c1 : nI m < nI i := nI_lt (by omega) (by omega)
    have c2 : fm (nI c).toNatClampNeg < nI i := by rw [ef]; exact c1
    exact Or.inl ⟨acc, od_p65 ha (by omega), fun _ p => ⟨hi8, br_t c2 p⟩, fun _ p => br_t c1 p⟩
  | succ d ih =>
    intro i acc hi ha
    have c1 : ¬ nI m < nI i := nI_nlt (by omega) (by omega)
    have c2 : ¬ fm (nI c).toNatClampNeg < nI i := by rw [ef]; exact c1
    have h3 : ¬ (3 : Int32) ≤ nI i := nI_ge (b := 3) (by omega) (by decide)
    have es := od_slot (n := t) (i := i) (by omega) (by omega)
    have hl := od_sl_lt t i
    have ea : ∀ M, M < 16 → nI acc + (nI M <<< ((4 + 4 * nI i) &&& 31)) = nI (acc + M * 2 ^ (4 + 4 * i)) := fun M hM => by rw [od_shl hM (by omega), nI_add]
    have fin : ∀ M, M < 16 →
        (∀ post : Int32 → Prop, post (nI M) → wpX_mapAtom post (nI ca, st, er, ck, nI cc, nI oc, nI fc, fm, fk, ft, rt, dX, sc, so, sa, sb, oC, oO, oF, fB, fP, fR, fV, fL) (nI (od_sl t i)) (nI b) (nI y)) →
        (∀ post : Int32 → Prop, wY_subst_151 post (wY_subst_33 post (nI t) (nI b) (nI y) (nI D) (nI m) (nI ca) st er (nI cc) ck (nI oc) (nI fc) fm fk ft pT rt dY sc so sa sb oC oO oF fB fP fR fV fL (d + 1)) (nI t) (nI b) (nI y) (nI D) (nI m) (nI acc) (nI i) (nI M) (nI ca) st er (nI cc) ck (nI oc) (nI fc) fm fk ft pT rt dY sc so sa sb oC oO oF fB fP fR fV fL → wY_subst_33 post (nI t) (nI b) (nI y) (nI D) (nI m) (nI ca) st er (nI cc) ck (nI oc) (nI fc) fm fk ft pT rt dY sc so sa sb oC oO oF fB fP fR fV fL (d + 1 + 1) (nI acc) (nI i)) →
        (∃ w, w < 65536 ∧ (∀ post : Int32 → Prop, post (nI w) → wX_substitute_13 post (nI t) (nI b) (nI y) (nI c) (nI ca) st er ck (nI cc) (nI oc) (nI fc) fm fk ft rt dX sc so sa sb oC oO oF fB fP fR fV fL (d + 1 + 1) (nI acc) (nI i)) ∧ (∀ post : Int32 → Prop, post (nI w) → wY_subst_33 post (nI t) (nI b) (nI y) (nI D) (nI m) (nI ca) st er (nI cc) ck (nI oc) (nI fc) fm fk ft pT rt dY sc so sa sb oC oO oF fB fP fR fV fL (d + 1 + 1) (nI acc) (nI i))) ∨
        ((∀ post : Int32 → Prop, post (-1) → wX_substitute_13 post (nI t) (nI b) (nI y) (nI c) (nI ca) st er ck (nI cc) (nI oc) (nI fc) fm fk ft rt dX sc so sa sb oC oO oF fB fP fR fV fL (d + 1 + 1) (nI acc) (nI i)) ∧ (∀ post : Int32 → Prop, post (-6) → wY_subst_33 post (nI t) (nI b) (nI y) (nI D) (nI m) (nI ca) st er (nI cc) ck (nI oc) (nI fc) fm fk ft pT rt dY sc so sa sb oC oO oF fB fP fR fV fL (d + 1 + 1) (nI acc) (nI i))) := by
      intro M hM mX mY
      have nM : ¬ nI M = -1 := od_ne1 (by omega)
      rcases ih (i + 1) (acc + M * 2 ^ (4 + 4 * i)) (by omega) (od_p16 ha hM) with ⟨w, hw, wX, wY⟩ | ⟨wX, wY⟩
      · exact Or.inl ⟨w, hw, fun post p => ⟨hi8, br_f c2 (od_xs' es (mX _ (br_f nM (nm_r (ea M hM) (nm_r (nI_1 i) (wX post p))))))⟩, fun post p => mY post (nm_r (ea M hM) (nm_r (nI_1 i) (wY post p)))⟩
      · exact Or.inr ⟨fun post p => ⟨hi8, br_f c2 (od_xs' es (mX _ (br_f nM (nm_r (ea M hM) (nm_r (nI_1 i) (wX post p))))))⟩, fun post p => mY post (nm_r (ea M hM) (nm_r (nI_1 i) (wY post p)))⟩
    generalize od_sl t i = a at *
    have n1 : (1 : Int32) = nI 1 := rfl
    have k4 : ∀ {A B : Prop}, A → B → A := fun a _ => a
    rcases (show a = 0 ∨ a = 1 ∨ a = 2 ∨ a = 3 ∨ a = 4 ∨ 4 < a by omega) with rfl | rfl | rfl | rfl | rfl | h5
    · exact fin 0 (by decide) (fun _ p => od_mx0 hv p) (fun post p => br_f c1 (br_f h3 (nm_r es (br_f (by decide) (br_f (by decide) (br_f (by decide) (br_f (by decide) p)))))))
    · exact fin (od_sl D 0) (od_sl_lt _ _) (fun _ p => od_mx1 hv hD eD p) (fun post p => br_f c1 (br_f h3 (nm_r es (br_t (by decide) (nm_r (od_slot0 (by omega)) p)))))
    · by_cases hb8 : b = 8
      · subst hb8
        rcases hk with hk | hk
        · have h1 : ¬ ck = 1 := by rw [hk]; decide
          exact fin 0 (by decide) (fun _ p => od_mx2a hv rfl (br_t hk p)) (fun post p => br_f c1 (br_f h3 (nm_r es (br_f (by decide) (br_f (by decide) (br_f (by decide) (br_t (by decide) (br_t rfl (br_f h1 p)))))))))
        · have h0 : ¬ ck = 0 := by rw [hk]; decide
          exact Or.inr ⟨fun post p => ⟨hi8, br_f c2 (od_xs' es (od_mx2a hv rfl (br_f h0 (br_t rfl p))))⟩, fun post p => br_f c1 (br_f h3 (nm_r es (br_f (by decide) (br_f (by decide) (br_f (by decide) (br_t (by decide) (br_t rfl (br_t hk p))))))))⟩
      · have b8 : ¬ nI b = 8 := od_ne (k := 8) hb8 (by omega) (by decide)
        by_cases y0 : y = 0
        · have e0 : nI y = 0 := by rw [y0]; rfl
          exact fin 2 (by decide) (fun _ p => od_mx2 hv b8 e0 p) (fun post p => br_f c1 (br_f h3 (nm_r es (br_f (by decide) (br_f (by decide) (br_f (by decide) (br_t (by decide) (br_f b8 (br_t e0 p)))))))))
        · have e0 : ¬ nI y = 0 := od_ne (k := 0) y0 (by omega) (by decide)
          rcases hk with hk | hk
          · have h1 : ¬ ck = 1 := by rw [hk]; decide
            exact fin 0 (by decide) (fun _ p => od_mx2b hv b8 e0 (br_t hk p)) (fun post p => br_f c1 (br_f h3 (nm_r es (br_f (by decide) (br_f (by decide) (br_f (by decide) (br_t (by decide) (br_f b8 (br_f e0 (br_f h1 p))))))))))
          · have h0 : ¬ ck = 0 := by rw [hk]; decide
            exact Or.inr ⟨fun post p => ⟨hi8, br_f c2 (od_xs' es (od_mx2b hv b8 e0 (br_f h0 (br_t rfl p))))⟩, fun post p => br_f c1 (br_f h3 (nm_r es (br_f (by decide) (br_f (by decide) (br_f (by decide) (br_t (by decide) (br_f b8 (br_f e0 (br_t hk p)))))))))⟩
    · exact fin (od_sl D 1) (od_sl_lt _ _) (fun _ p => od_mx3 hv hD eD p) (fun post p => br_f c1 (br_f h3 (nm_r es (br_f (by decide) (br_t (by decide) (nm_r (od_slot1 (by omega)) p))))))
    · exact fin (od_sl D 2) (od_sl_lt _ _) (fun _ p => od_mx4 hv hD eD p) (fun post p => br_f c1 (br_f h3 (nm_r es (br_f (by decide) (br_f (by decide) (br_t (by decide) (nm_r (od_slot2 (by omega)) p)))))))
    · exact fin 0 (by decide) (fun _ p => od_mx5 h5 hl hv p) (fun post p => br_f c1 (br_f h3 (nm_r es (br_f (od_ne (k := 1) (by omega) (by omega) (by decide)) (br_f (od_ne (k := 3) (by omega) (by omega) (by decide)) (br_f (od_ne (k := 4) (by omega) (by omega) (by decide)) (br_f (od_ne (k := 2) (by omega) (by omega) (by decide)) p)))))))
theorem od_subst (hP : od_P ck cc fm fk dX pT dY sc) {b y : Nat} {t : Int32} (hb : b < cc ∨ b = 8) (hy : y < 8) (hT : od_T cc fm t) (hD : od_T cc fm (dX (b * 8 + y))) :
    (∃ w, w < 65536 ∧ (∀ post : Int32 → Prop, post (nI w) → wpX_substitute post (nI ca, st, er, ck, nI cc, nI oc, nI fc, fm, fk, ft, rt, dX, sc, so, sa, sb, oC, oO, oF, fB, fP, fR, fV, fL) t (nI b) (nI y)) ∧ (∀ post : Int32 → Prop, post (nI w) → wpY_subst post (nI ca, st, er, nI cc, ck, nI oc, nI fc, fm, fk, ft, pT, rt, dY, sc, so, sa, sb, oC, oO, oF, fB, fP, fR, fV, fL) t (nI b) (nI y))) ∨
    ((∀ post : Int32 → Prop, post (-1) → wpX_substitute post (nI ca, st, er, ck, nI cc, nI oc, nI fc, fm, fk, ft, rt, dX, sc, so, sa, sb, oC, oO, oF, fB, fP, fR, fV, fL) t (nI b) (nI y)) ∧ (∀ post : Int32 → Prop, post (-6) → wpY_subst post (nI ca, st, er, nI cc, ck, nI oc, nI fc, fm, fk, ft, pT, rt, dY, sc, so, sa, sb, oC, oO, oF, fB, fP, fR, fV, fL) t (nI b) (nI y))) := by
  obtain ⟨n, m, hn, rfl, hc, hm, em, hs⟩ := hT
  obtain ⟨D, m', hDl, eD, hc', hm', em', hs'⟩ := hD
  have hck := hP.1
  have hcc := hP.2.1
  have e15 : nI n &&& 15 = nI (n % 16) := od_and15 (by omega)
  have e7 : nI (n % 16) &&& 7 = nI (n % 16) := od_and7' (by omega)
  have i7 : vp_in (nI (n % 16) &&& 7) 8 := by rw [e7]; exact vp_in_nI (by omega) (by decide)
  have ef7 : fm (nI (n % 16) &&& 7).toNatClampNeg = nI m := by rw [e7, nI_clamp (by omega)]; exact em
  rcases od_sub (ca := ca) (cc := cc) (oc := oc) (fc := fc) (st := st) (er := er) (ck := ck) (fm := fm) (fk := fk) (ft := ft) (rt := rt) (dX := dX) (pT := pT) (dY := dY) (sc := sc) (so := so) (sa := sa) (sb := sb) (oC := oC) (oO := oO) (oF := oF) (fB := fB) (fP := fP) (fR := fR) (fV := fV) (fL := fL) (t := n) (b := b) (y := y) (D := D) (c := n % 16) (m := m) hck hn (by omega) hm em (by omega) hy (by omega) hDl eD (m + 1) 0 (n % 16) (by omega) (by simp; omega) with ⟨w, hw, wX, wY⟩ | ⟨wX, wY⟩
  · refine Or.inl ⟨w, hw, fun post p => nm_r e15 ⟨m + 2, wX post p⟩, fun post p => ?_⟩
    unfold wpY_subst
    refine od_decl hP hb hy ?_
    rw [eD]
    exact nm_r e15 ⟨i7, nm_r ef7 ⟨m + 2, wY post p⟩⟩
  · refine Or.inr ⟨fun post p => nm_r e15 ⟨m + 2, wX post p⟩, fun post p => ?_⟩
    unfold wpY_subst
    refine od_decl hP hb hy ?_
    rw [eD]
    exact nm_r e15 ⟨i7, nm_r ef7 ⟨m + 2, wY post p⟩⟩
