variable {ca cc oc fc : Nat} {st er ck : Int32} {fm fk ft rt dX pT dY sc so sa sb oC oO oF fB fP fR fV fL : Nat → Int32}
/-! the start of the machine -/
theorem od_push1 {Q : SX → Prop} {f : Nat} (hf : f < 8) (p : Q (nI ca, st, er, ck, nI cc, nI oc, nI (f + 1), fm, fk, ft, rt, dX, sc, so, sa, sb, oC, oO, oF, fB, fP, fR, fV, od_fill fL (f * 8) 8)) : ∀ d i, i + d = 8 → wX_pushFrame_41 Q (nI f) (nI ca) st er ck (nI cc) (nI oc) (nI f) (d + 1) (nI i) fm fk ft rt dX sc so sa sb oC oO oF fB fP fR fV (od_fill fL (f * 8) i) := by
  intro d
  induction d with
  | zero =>
    intro i hi
    obtain rfl : i = 8 := by omega
    exact br_t (by decide) (nm_r (nI_1 f) p)
  | succ d ih =>
    intro i hi
    refine br_f (nI_ge (b := 8) (by omega) (by decide)) ⟨by rw [od_i8]; exact vp_in_nI (by omega) (by decide), nm_r (e' := od_fill fL (f * 8) (i + 1)) ?_ (nm_r (nI_1 i) (ih (i + 1) (by omega)))⟩
    rw [od_i8, nI_clamp (by omega)]; rfl
theorem od_push {Q : SX → Prop} {f : Nat} {B R V : Int32} (hf : f < 8) (p : Q (nI ca, st, er, ck, nI cc, nI oc, nI (f + 1), fm, fk, ft, rt, dX, sc, so, sa, sb, oC, oO, oF, upd fB f B, upd fP f 0, upd fR f R, upd fV f V, od_fill fL (f * 8) 8)) : wpX_pushFrame Q (nI ca, st, er, ck, nI cc, nI oc, nI f, fm, fk, ft, rt, dX, sc, so, sa, sb, oC, oO, oF, fB, fP, fR, fV, fL) B R V := by
  have v : vp_in (nI f) 8 := vp_in_nI hf (by decide)
  have e : ∀ (g : Nat → Int32) (x : Int32), upd g (nI f).toNatClampNeg x = upd g f x := fun g x => by rw [nI_clamp (by omega)]
  exact ⟨v, nm_r (e _ _) ⟨v, nm_r (e _ _) ⟨v, nm_r (e _ _) ⟨v, nm_r (e _ _) ⟨9, od_push1 hf p 8 0 rfl⟩⟩⟩⟩⟩
theorem od_xstart {Q : SX → Prop} (p : Q (nI ca, 1, er, ck, nI cc, nI 0, nI 1, fm, fk, ft, rt, dX, sc, so, sa, sb, oC, oO, oF, upd fB 0 8, upd fP 0 0, upd fR 0 (-1), upd fV 0 (-1), od_fill fL 0 8)) : wpX_startMachine Q (nI ca, st, er, ck, nI cc, nI oc, nI fc, fm, fk, ft, rt, dX, sc, so, sa, sb, oC, oO, oF, fB, fP, fR, fV, fL) := by
  unfold wpX_startMachine
  exact od_push (f := 0) (by decide) p
theorem od_ystart1 {Q : SY → Prop} (p : Q (nI ca, 1, er, nI cc, ck, nI 0, nI 1, fm, fk, ft, pT, rt, dY, sc, so, sa, sb, oC, oO, oF, fB, fP, fR, fV, od_fill fL 0 8)) : ∀ d i, i + d = 8 → wY_startMachine_41 Q (nI ca) st er (nI cc) ck (nI 0) (nI 1) (d + 1) (nI i) fm fk ft pT rt dY sc so sa sb oC oO oF fB fP fR fV (od_fill fL 0 i) := by
  intro d
  induction d with
  | zero =>
    intro i hi
    obtain rfl : i = 8 := by omega
    exact br_t (by decide) p
  | succ d ih =>
    intro i hi
    refine br_f (nI_ge (b := 8) (by omega) (by decide)) ⟨vp_in_nI (by omega) (by decide), nm_r (e' := od_fill fL 0 (i + 1)) ?_ (nm_r (nI_1 i) (ih (i + 1) (by omega)))⟩
    rw [nI_clamp (by omega)]
    show _ = upd _ (0 + i) _
    rw [Nat.zero_add]
theorem od_ystart {Q : SY → Prop} (p : Q (nI ca, 1, er, nI cc, ck, nI 0, nI 1, fm, fk, ft, pT, rt, dY, sc, so, sa, sb, oC, oO, oF, upd fB 0 8, upd fP 0 0, upd fR 0 (-1), upd fV 0 (-1), od_fill fL 0 8)) : wpY_startMachine Q (nI ca, st, er, nI cc, ck, nI oc, nI fc, fm, fk, ft, pT, rt, dY, sc, so, sa, sb, oC, oO, oF, fB, fP, fR, fV, fL) :=
  nm_e (nm_e (nm_e (nm_e ⟨9, od_ystart1 p 8 0 rfl⟩)))
/-! the relation -/
/-- null, or an object older than oc -/
def od_R (oc : Nat) (x : Int32) : Prop := x = -1 ∨ ∃ w, w < oc ∧ x = nI w
def od_C (cc : Nat) (fm sc so sa sb : Nat → Int32) : Prop := ∀ b s n, (b < cc ∨ b = 8) → sc b = nI n → n ≤ 16 → s < n → od_ok cc fm b (so (b * 16 + s)) (sa (b * 16 + s)) (sb (b * 16 + s))
def od_H (cc oc : Nat) (oC oO oF : Nat → Int32) : Prop := ∀ o, o < oc → (∃ c, c < cc ∧ oC o = nI c) ∧ (∀ i, i < 3 → od_R o (oO (o * 3 + i))) ∧ (∀ f, f < 4 → od_R oc (oF (o * 4 + f)))
def od_Fr (cc oc : Nat) (sc fB fP fR fV fL : Nat → Int32) (f : Nat) : Prop := ∃ b p n, fB f = nI b ∧ fP f = nI p ∧ n ≤ 16 ∧ sc b = nI n ∧ p ≤ n ∧ (f = 0 → b = 8 ∧ fR f = -1) ∧ (0 < f → b < cc ∧ (∃ w, w < oc ∧ fR f = nI w) ∧ (∃ v, v < 8 ∧ fV f = nI v)) ∧ (∀ v, v < 8 → od_R oc (fL (f * 8 + v)))
def od_F (cc oc fc : Nat) (sc fB fP fR fV fL : Nat → Int32) : Prop := ∀ f, f < fc → od_Fr cc oc sc fB fP fR fV fL f
def od_M (cc oc fc : Nat) (fm sc so sa sb oC oO oF fB fP fR fV fL : Nat → Int32) : Prop := od_C cc fm sc so sa sb ∧ 1 ≤ fc ∧ od_H cc oc oC oO oF ∧ od_F cc oc fc sc fB fP fR fV fL
def od_All (ca cc oc fc : Nat) (st ck : Int32) (fm fk dX pT dY sc so sa sb oC oO oF fB fP fR fV fL : Nat → Int32) : Prop :=
  od_P ck cc fm fk dX pT dY sc ∧ ca ≤ 32 ∧ oc ≤ ca ∧ fc ≤ 8 ∧ (st = 0 → oc = 0 ∧ fc = 0) ∧ (¬ st = 0 → od_M cc oc fc fm sc so sa sb oC oO oF fB fP fR fV fL)
def i_Rel (k : Nat) (u : SX) (v : SY) : Prop := ∃ (ca cc oc fc : Nat) (st er ck : Int32) (fm fk ft rt dX pT dY sc so sa sb oC oO oF fB fP fR fV fL : Nat → Int32),
  u = (nI ca, st, er, ck, nI cc, nI oc, nI fc, fm, fk, ft, rt, dX, sc, so, sa, sb, oC, oO, oF, fB, fP, fR, fV, fL) ∧ v = (nI ca, st, er, nI cc, ck, nI oc, nI fc, fm, fk, ft, pT, rt, dY, sc, so, sa, sb, oC, oO, oF, fB, fP, fR, fV, fL) ∧ od_All ca cc oc fc st ck fm fk dX pT dY sc so sa sb oC oO oF fB fP fR fV fL
theorem od_mk {k : Nat} (h : od_All ca cc oc fc st ck fm fk dX pT dY sc so sa sb oC oO oF fB fP fR fV fL) : i_Rel k (nI ca, st, er, ck, nI cc, nI oc, nI fc, fm, fk, ft, rt, dX, sc, so, sa, sb, oC, oO, oF, fB, fP, fR, fV, fL) (nI ca, st, er, nI cc, ck, nI oc, nI fc, fm, fk, ft, pT, rt, dY, sc, so, sa, sb, oC, oO, oF, fB, fP, fR, fV, fL) :=
  ⟨ca, cc, oc, fc, st, er, ck, fm, fk, ft, rt, dX, pT, dY, sc, so, sa, sb, oC, oO, oF, fB, fP, fR, fV, fL, rfl, rfl, h⟩
theorem od_begin (hP : od_P ck cc fm fk dX pT dY sc) (hC : od_C cc fm sc so sa sb) (hca : ca ≤ 32) : od_All ca cc 0 1 1 ck fm fk dX pT dY sc so sa sb oC oO oF (upd fB 0 8) (upd fP 0 0) (upd fR 0 (-1)) (upd fV 0 (-1)) (od_fill fL 0 8) := by
  refine ⟨hP, hca, Nat.zero_le _, by omega, fun h => absurd h (by decide), fun _ => ⟨hC, Nat.le_refl _, fun o h => by omega, fun f hf => ?_⟩⟩
  obtain rfl : f = 0 := by omega
  obtain ⟨n, hn, en⟩ := hP.2.2.2.2.1 8
  exact ⟨8, 0, n, pk_us, pk_us, hn, en, Nat.zero_le _, fun _ => ⟨rfl, pk_us⟩, fun h => absurd h (by omega), fun v hv => Or.inl (od_fill_in _ _ 8 _ (by omega) (by omega))⟩
theorem od_selfT (hcc : cc ≤ 8) {c n : Nat} (hc : c < cc) (hn : n ≤ 2) (e : fm c = nI n) : od_T cc fm (nI (od_self c n)) := by
  rcases (show n = 0 ∨ n = 1 ∨ n = 2 by omega) with rfl | rfl | rfl
  · have e1 : od_self c 0 = c + 16 := rfl
    have em : (c + 16) % 16 = c := by omega
    rw [e1]
    refine ⟨c + 16, 0, by omega, rfl, by rw [em]; exact hc, by decide, by rw [em]; exact e, fun i hi => ?_⟩
    obtain rfl : i = 0 := by omega
    show (c + 16) / 16 % 16 ≤ 4
    omega
  · have e1 : od_self c 1 = c + 784 := rfl
    have em : (c + 784) % 16 = c := by omega
    rw [e1]
    refine ⟨c + 784, 1, by omega, rfl, by rw [em]; exact hc, by decide, by rw [em]; exact e, fun i hi => ?_⟩
    rcases (show i = 0 ∨ i = 1 by omega) with rfl | rfl
    · show (c + 784) / 16 % 16 ≤ 4
      omega
    · show (c + 784) / 256 % 16 ≤ 4
      omega
  · have e1 : od_self c 2 = c + 17168 := rfl
    have em : (c + 17168) % 16 = c := by omega
    rw [e1]
    refine ⟨c + 17168, 2, by omega, rfl, by rw [em]; exact hc, by decide, by rw [em]; exact e, fun i hi => ?_⟩
    rcases (show i = 0 ∨ i = 1 ∨ i = 2 by omega) with rfl | rfl | rfl
    · show (c + 17168) / 16 % 16 ≤ 4
      omega
    · show (c + 17168) / 256 % 16 ≤ 4
      omega
    · show (c + 17168) / 4096 % 16 ≤ 4
      omega
theorem od_toV (hP : od_P ck cc fm fk dX pT dY sc) (h1 : ∀ c, 0 ≤ c → c < cc → od_G cc fm fk ft rt dX c) (h2 : ∀ j, 0 ≤ j → j ≤ cc → ∀ g, (od_body cc j = 8 ∨ 2 ≤ g) → g < 8 → od_T cc fm (dX (od_body cc j * 8 + g))) : od_V cc fm fk ft rt dX := by
  obtain ⟨hck, hcc, hfm, hfk, hsc, hd0, hd1, hd2, hd8⟩ := hP
  refine ⟨fun b v hb hv => ?_, fun c f n hc e hn hf => (h1 c (Nat.zero_le _) hc).1 f n e hn hf, fun c hc => (h1 c (Nat.zero_le _) hc).2.2⟩
  rcases hb with hb | rfl
  · by_cases v0 : v = 0
    · subst v0
      obtain ⟨n, hn, en⟩ := hfm b
      rw [Nat.add_zero, hd0 b n hb hn en]
      exact od_selfT hcc hb hn en
    · by_cases v1 : v = 1
      · subst v1; exact (h1 b (Nat.zero_le _) hb).2.1
      · have e : od_body cc b = b := if_pos hb
        have := h2 b (Nat.zero_le _) (by omega) v (Or.inr (by omega)) hv
        rw [e] at this; exact this
  · have e : od_body cc cc = 8 := if_neg (Nat.lt_irrefl _)
    have := h2 cc (Nat.zero_le _) (Nat.le_refl _) v (Or.inl e) hv
    rw [e] at this; exact this
theorem od_toC (h : ∀ j, 0 ≤ j → j ≤ cc → ∀ g n, sc (od_body cc j) = nI n → n ≤ 16 → g < n → od_ok cc fm (od_body cc j) (so (od_body cc j * 16 + g)) (sa (od_body cc j * 16 + g)) (sb (od_body cc j * 16 + g))) : od_C cc fm sc so sa sb := by
  intro b s n hb en hn hs
  rcases hb with hb | rfl
  · have e : od_body cc b = b := if_pos hb
    have := h b (Nat.zero_le _) (by omega) s n
    rw [e] at this; exact this en hn hs
  · have e : od_body cc cc = 8 := if_neg (Nat.lt_irrefl _)
    have := h cc (Nat.zero_le _) (Nat.le_refl _) s n
    rw [e] at this; exact this en hn hs
theorem od_comp {k : Nat} {m : Int32} (hm : m = 0 ∨ m = 1) (h : od_All ca cc oc fc 0 ck fm fk dX pT dY sc so sa sb oC oO oF fB fP fR fV fL) :
    wX_compile_29 (fun r u' => wpY_compile (fun r' v' => r' = r ∧ i_Rel k u' v') (nI ca, 0, er, nI cc, ck, nI oc, nI fc, fm, fk, ft, pT, rt, dY, sc, so, sa, sb, oC, oO, oF, fB, fP, fR, fV, fL) m) m (nI ca) 0 er ck (nI cc) (nI oc) (nI fc) fm fk ft rt dX sc so sa sb oC oO oF fB fP fR fV fL := by
  obtain ⟨⟨-, hP'⟩, hca, hoc, hfc, h0, -⟩ := h
  have hP : od_P m cc fm fk dX pT dY sc := ⟨hm, hP'⟩
  have hk : ∀ er, i_Rel k (nI ca, 0, er, m, nI cc, nI oc, nI fc, fm, fk, ft, rt, dX, sc, so, sa, sb, oC, oO, oF, fB, fP, fR, fV, fL) (nI ca, 0, er, nI cc, m, nI oc, nI fc, fm, fk, ft, pT, rt, dY, sc, so, sa, sb, oC, oO, oF, fB, fP, fR, fV, fL) := fun er => od_mk ⟨hP, hca, hoc, hfc, h0, fun h => absurd rfl h⟩
  have m0 : ¬ m < 0 := by rcases hm with rfl | rfl <;> decide
  have m1 : m ≤ 1 := by rcases hm with rfl | rfl <;> decide
  have nar : narrow .boolean (.int m) = .int m := by rcases hm with rfl | rfl <;> rfl
  have fit : fits .boolean (.int m) = true := by rcases hm with rfl | rfl <;> rfl
  rcases od_sig (ca := ca) (cc := cc) (oc := oc) (fc := fc) (st := 0) (er := er) (ck := m) (fm := fm) (fk := fk) (ft := ft) (rt := rt) (dX := dX) (pT := pT) (dY := dY) (sc := sc) (so := so) (sa := sa) (sb := sb) (oC := oC) (oO := oO) (oF := oF) (fB := fB) (fP := fP) (fR := fR) (fV := fV) (fL := fL) hP cc 0 (by omega) with ⟨t1, aX, aY⟩ | ⟨r, l', hr, aX, aY⟩
  · rcases od_loc (ca := ca) (cc := cc) (oc := oc) (fc := fc) (st := 0) (er := er) (ck := m) (fm := fm) (fk := fk) (ft := ft) (rt := rt) (dX := dX) (pT := pT) (dY := dY) (sc := sc) (so := so) (sa := sa) (sb := sb) (oC := oC) (oO := oO) (oF := oF) (fB := fB) (fP := fP) (fR := fR) (fV := fV) (fL := fL) hP (cc + 1) 0 (by omega) with ⟨t2, bX, bY⟩ | ⟨r, l', hr, bX, bY⟩
    · have hV := od_toV hP t1 t2
      rcases od_st (ca := ca) (cc := cc) (oc := oc) (fc := fc) (st := 0) (er := er) (ck := m) (fm := fm) (fk := fk) (ft := ft) (rt := rt) (dX := dX) (pT := pT) (dY := dY) (sc := sc) (so := so) (sa := sa) (sb := sb) (oC := oC) (oO := oO) (oF := oF) (fB := fB) (fP := fP) (fR := fR) (fV := fV) (fL := fL) hP hV (cc + 1) 0 (by omega) with ⟨t3, cX, cY⟩ | ⟨r, l', hr, cX, cY⟩
      · have fin : i_Rel k (nI ca, 1, -1, m, nI cc, nI 0, nI 1, fm, fk, ft, rt, dX, sc, so, sa, sb, oC, oO, oF, upd fB 0 8, upd fP 0 0, upd fR 0 (-1), upd fV 0 (-1), od_fill fL 0 8) (nI ca, 1, -1, nI cc, m, nI 0, nI 1, fm, fk, ft, pT, rt, dY, sc, so, sa, sb, oC, oO, oF, upd fB 0 8, upd fP 0 0, upd fR 0 (-1), upd fV 0 (-1), od_fill fL 0 8) := od_mk (od_begin hP (od_toC t3) hca)
        exact ⟨nar, fit, cc + 1, aX _ (br_t rfl ⟨cc + 2, bX _ (br_t rfl ⟨cc + 2, cX _ (br_t rfl (od_xstart (br_t rfl (br_f m0 (br_t m1 ⟨cc + 1, aY _ _ (fun l' => ⟨cc + 2, bY _ l' (fun l' => ⟨cc + 2, cY _ l' (fun l' => br_t rfl (od_ystart ⟨rfl, fin⟩))⟩)⟩)⟩)))))⟩)⟩)⟩
      · exact ⟨nar, fit, cc + 1, aX _ (br_t rfl ⟨cc + 2, bX _ (br_t rfl ⟨cc + 2, cX _ (br_f hr (br_t rfl (br_f m0 (br_t m1 ⟨cc + 1, aY _ _ (fun l' => ⟨cc + 2, bY _ l' (fun l' => ⟨cc + 2, cY _ l' ⟨rfl, hk _⟩⟩)⟩)⟩))))⟩)⟩)⟩
    · exact ⟨nar, fit, cc + 1, aX _ (br_t rfl ⟨cc + 2, bX _ (br_f hr (br_f hr (br_t rfl (br_f m0 (br_t m1 ⟨cc + 1, aY _ _ (fun l' => ⟨cc + 2, bY _ l' ⟨rfl, hk _⟩⟩)⟩)))))⟩)⟩
  · exact ⟨nar, fit, cc + 1, aX _ (br_f hr (br_f hr (br_f hr (br_t rfl (br_f m0 (br_t m1 ⟨cc + 1, aY _ _ ⟨rfl, hk _⟩⟩))))))⟩
theorem od_compile {k : Nat} (v1 : Int32) (h : od_All ca cc oc fc st ck fm fk dX pT dY sc so sa sb oC oO oF fB fP fR fV fL) :
    wpX_compile (fun r u' => wpY_compile (fun r' v' => r' = r ∧ i_Rel k u' v') (nI ca, st, er, nI cc, ck, nI oc, nI fc, fm, fk, ft, pT, rt, dY, sc, so, sa, sb, oC, oO, oF, fB, fP, fR, fV, fL) v1) (nI ca, st, er, ck, nI cc, nI oc, nI fc, fm, fk, ft, rt, dX, sc, so, sa, sb, oC, oO, oF, fB, fP, fR, fV, fL) v1 := by
  by_cases hs : st = 0
  · subst hs
    by_cases h0 : v1 = 0
    · subst h0
      exact br_t rfl (br_t rfl (br_f (by decide) (od_comp (Or.inl rfl) h)))
    · by_cases h1 : v1 = 1
      · subst h1
        exact br_t rfl (br_f h0 (br_t rfl (br_t rfl (od_comp (Or.inr rfl) h))))
      · refine br_t rfl (br_f h0 (br_f h1 ?_))
        by_cases hn : v1 < 0
        · exact br_t rfl (br_t hn ⟨rfl, od_mk h⟩)
        · obtain ⟨j, hj, rfl⟩ := nI_of hn
          have j2 : 2 ≤ j := by
            rcases (show j = 0 ∨ j = 1 ∨ 2 ≤ j by omega) with rfl | rfl | h
            · exact absurd rfl h0
            · exact absurd rfl h1
            · exact h
          exact br_t rfl (br_f hn (br_f (nI_ge (a := 1) (by omega) hj) ⟨rfl, od_mk h⟩))
  · exact br_f hs (br_f hs ⟨rfl, od_mk h⟩)
