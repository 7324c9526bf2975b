section
/-! stores, numbers: rows of kit/rows (pk_) and own ones -/
theorem pk_us {f : Nat → Int32} {k : Nat} {x : Int32} : upd f k x k = x := if_pos rfl
theorem pk_un {f : Nat → Int32} {k j : Nat} {x : Int32} (h : j ≠ k) : upd f k x j = f j := if_neg h
theorem pk_sub {a b : Nat} (h : b ≤ a) : nI a - nI b = nI (a - b) := by
  obtain ⟨c, rfl⟩ : ∃ c, a = c + b := ⟨a - b, by omega⟩
  rw [← nI_add, Int32.add_sub_cancel, Nat.add_sub_cancel]
theorem pk_m1 (n : Nat) : nI (n + 1) + (-1) = nI n := by
  rw [← nI_1, Int32.add_assoc, show (1 : Int32) + (-1) = 0 from rfl, Int32.add_zero]
theorem pk_mul (a b : Nat) : nI a * nI b = nI (a * b) := (Int32.ofNat_mul a b).symm
theorem pk_div {a d : Nat} (ha : a < 2 ^ 31) (h0 : 0 < d) (hd : d < 2 ^ 31) : nI a / nI d = nI (a / d) := by
  apply Int32.toInt_inj.mp
  rw [lg_idiv_nonneg (by rw [nI_toInt ha]; omega) (by rw [nI_toInt hd]; omega), nI_toInt ha, nI_toInt hd, nI_toInt (Nat.lt_of_le_of_lt (Nat.div_le_self a d) ha)]
  first | rfl | exact (Int.natCast_ediv _ _).symm
theorem pk_rem {a d : Nat} (ha : a < 2 ^ 31) (h0 : 0 < d) (hd : d < 2 ^ 31) : nI a - nI a / nI d * nI d = nI (a % d) := by
  rw [pk_div ha h0 hd, pk_mul, pk_sub (Nat.div_mul_le_self a d)]
  exact congrArg nI (by have := Nat.div_add_mod' a d; omega)
theorem pk_sub_toInt {a b : Nat} (ha : a < 2 ^ 30) (hb : b < 2 ^ 30) : (nI a - nI b).toInt = (a : Int) - b := by
  rw [Int32.toInt_sub, nI_toInt (by omega), nI_toInt (by omega)]
  exact Int.bmod_eq_of_le (by omega) (by omega)
theorem pk_sneg {a b : Nat} (hb : b < 2 ^ 30) (h : a < b) : nI a - nI b < 0 := by
  rw [Int32.lt_iff_toInt_lt, pk_sub_toInt (by omega) hb, show (0 : Int32).toInt = 0 from by decide]
  omega
theorem pk_ix (x : Int32) {n : Nat} (hn : n < 2 ^ 31) : x < 0 ∨ nI n ≤ x ∨ ∃ j : Nat, j < n ∧ x = nI j := by
  by_cases h : x < 0
  · exact Or.inl h
  · obtain ⟨j, hj, rfl⟩ := nI_of h
    by_cases h2 : j < n
    · exact Or.inr (Or.inr ⟨j, h2, rfl⟩)
    · exact Or.inr (Or.inl (nI_le (by omega) hj))
theorem pk_le {x y : Int32} {A B : Prop} (a b : Nat) (f : a ≤ b → A) (g : b < a → B) (hx : x = nI a := by rfl) (hy : y = nI b := by rfl) (ha : a < 2 ^ 31 := by omega) (hb : b < 2 ^ 31 := by omega) : (x ≤ y → A) ∧ (¬ x ≤ y → B) := by
  subst hx hy
  rw [nI_leI ha hb]
  exact ⟨f, fun z => g (by omega)⟩
theorem pk_lt {x y : Int32} {A B : Prop} (a b : Nat) (f : a < b → A) (g : b ≤ a → B) (hx : x = nI a := by rfl) (hy : y = nI b := by rfl) (ha : a < 2 ^ 31 := by omega) (hb : b < 2 ^ 31 := by omega) : (x < y → A) ∧ (¬ x < y → B) := by
  subst hx hy
  rw [nI_ltI ha hb]
  exact ⟨f, fun z => g (by omega)⟩
theorem pk_eq {x y : Int32} {A B : Prop} (a b : Nat) (f : a = b → A) (g : a ≠ b → B) (hx : x = nI a := by rfl) (hy : y = nI b := by rfl) (ha : a < 2 ^ 31 := by omega) (hb : b < 2 ^ 31 := by omega) : (x = y → A) ∧ (¬ x = y → B) := by
  subst hx hy
  rw [nI_eq ha hb]
  exact ⟨f, g⟩
theorem pk_in {x : Int32} (n N : Nat) (h : n < N) (hx : x = nI n := by rfl) (hN : N < 2 ^ 31 := by omega) : vp_in x N := by
  subst hx
  exact vp_in_nI h hN
theorem pk_cl {x : Int32} (n : Nat) (hx : x = nI n := by rfl) (h : n < 2 ^ 31 := by omega) : x.toNatClampNeg = n := by
  subst hx
  exact nI_clamp h
theorem pk_tn {n : Nat} (h : n < 2 ^ 32) : (nI n).toBitVec.toNat = n := Nat.mod_eq_of_lt h
theorem pk_and (x : Int32) {m : Int32} (k : Nat) (hm : m.toBitVec.toNat = 2 ^ k - 1) : x &&& m = nI (x.toBitVec.toNat % 2 ^ k) := by
  apply Int32.toBitVec_inj.mp
  apply BitVec.eq_of_toNat_eq
  rw [Int32.toBitVec_and, BitVec.toNat_and, hm, Nat.and_two_pow_sub_one_eq_mod]
  show _ = (BitVec.ofNat 32 _).toNat
  rw [BitVec.toNat_ofNat]
  exact (Nat.mod_eq_of_lt (Nat.lt_of_le_of_lt (Nat.mod_le _ _) x.toBitVec.isLt)).symm
theorem pk_andN {n : Nat} (h : n < 2 ^ 32) {m : Int32} (k : Nat) (hm : m.toBitVec.toNat = 2 ^ k - 1) : nI n &&& m = nI (n % 2 ^ k) := by
  rw [pk_and _ k hm, pk_tn h]
theorem pk_andE (x : Int32) {m : Int32} (k : Nat) (hm : m.toBitVec.toNat = 2 ^ k - 1) : ∃ j : Nat, j < 2 ^ k ∧ x &&& m = nI j := ⟨_, Nat.mod_lt _ (Nat.two_pow_pos k), pk_and x k hm⟩
theorem pk_andIn (x : Int32) {m : Int32} (k : Nat) (hm : m.toBitVec.toNat = 2 ^ k - 1) (hk : k ≤ 30) : vp_in (x &&& m) (2 ^ k) := by
  obtain ⟨j, hj, e⟩ := pk_andE x k hm
  rw [e]
  exact vp_in_nI hj (Nat.lt_of_le_of_lt (Nat.pow_le_pow_right (by decide) hk) (by decide))
theorem pk_shl (a s : Int32) (k : Nat) (hs : (s.toBitVec.smod 32).toNat = k) : (a <<< s).toBitVec.toNat = a.toBitVec.toNat * 2 ^ k % 2 ^ 32 := by
  show (a.toBitVec <<< (s.toBitVec.smod 32).toNat).toNat = _
  rw [hs, BitVec.toNat_shiftLeft, Nat.shiftLeft_eq]
theorem pk_shlN {n : Nat} (s : Int32) (k : Nat) (hs : (s.toBitVec.smod 32).toNat = k) (h : n * 2 ^ k < 2 ^ 32) : nI n <<< s = nI (n * 2 ^ k) := by
  apply Int32.toBitVec_inj.mp
  apply BitVec.eq_of_toNat_eq
  have hn : n < 2 ^ 32 := Nat.lt_of_le_of_lt (Nat.le_mul_of_pos_right n (Nat.two_pow_pos k)) h
  rw [pk_shl _ _ k hs, pk_tn hn, pk_tn h, Nat.mod_eq_of_lt h]
theorem pk_shr (a s : Int32) (k : Nat) (hs : (s.toBitVec.smod 32).toNat = k) : (a >>> s).toInt = a.toInt >>> k := by
  show (a.toBitVec.sshiftRight (s.toBitVec.smod 32).toNat).toInt = _
  rw [hs, BitVec.toInt_sshiftRight]
  rfl
theorem pk_shrN {n : Nat} (h : n < 2 ^ 31) (s : Int32) (k : Nat) (hs : (s.toBitVec.smod 32).toNat = k) : nI n >>> s = nI (n / 2 ^ k) := by
  apply Int32.toInt_inj.mp
  have h2 : n / 2 ^ k ≤ n := Nat.div_le_self _ _
  rw [pk_shr _ _ k hs, nI_toInt h, nI_toInt (by omega), Int.shiftRight_eq_div_pow]
  rfl
theorem od_m3 (a : Nat) : nI a * 3 = nI (a * 3) := pk_mul a 3
theorem od_m4 (a : Nat) : nI a * 4 = nI (a * 4) := pk_mul a 4
theorem od_m8 (a : Nat) : nI a * 8 = nI (a * 8) := pk_mul a 8
theorem od_m16 (a : Nat) : nI a * 16 = nI (a * 16) := pk_mul a 16
theorem od_m32 (a : Nat) : nI a * 32 = nI (a * 32) := pk_mul a 32
theorem od_i3 (a b : Nat) : nI a * 3 + nI b = nI (a * 3 + b) := by rw [od_m3, nI_add]
theorem od_i4 (a b : Nat) : nI a * 4 + nI b = nI (a * 4 + b) := by rw [od_m4, nI_add]
theorem od_i8 (a b : Nat) : nI a * 8 + nI b = nI (a * 8 + b) := by rw [od_m8, nI_add]
theorem od_i16 (a b : Nat) : nI a * 16 + nI b = nI (a * 16 + b) := by rw [od_m16, nI_add]
theorem od_i80 (a : Nat) : nI a * 8 + 0 = nI (a * 8) := od_i8 a 0
theorem od_i81 (a : Nat) : nI a * 8 + 1 = nI (a * 8 + 1) := od_i8 a 1
theorem od_i31 (a : Nat) : nI a * 3 + 1 = nI (a * 3 + 1) := od_i3 a 1
theorem od_i32 (a : Nat) : nI a * 3 + 2 = nI (a * 3 + 2) := od_i3 a 2
theorem od_64a (a : Nat) : 64 + nI a = nI (64 + a) := nI_add 64 a
theorem od_ne1 {a : Nat} (h : a < 2 ^ 31) : ¬ nI a = -1 := by
  intro e
  have := nI_pos (n := a) h
  rw [e] at this
  exact this (by decide)
theorem od_n1 : (-1 : Int32) < 0 := by decide
theorem od_n0 : ¬ (0 : Int32) ≤ -1 := by decide
theorem od_s1 {n : Nat} (h : 0 < n) : nI n - 1 = nI (n - 1) := by
  obtain ⟨m, rfl⟩ : ∃ m, n = m + 1 := ⟨n - 1, by omega⟩
  exact nI_pred m
theorem od_inj {a b : Nat} (h : nI a = nI b) (ha : a < 2 ^ 31) (hb : b < 2 ^ 31) : a = b := (nI_eq ha hb).mp h
theorem od_and15 {n : Nat} (h : n < 2 ^ 32) : nI n &&& 15 = nI (n % 16) := pk_andN h 4 (by decide)
theorem od_and7 {n : Nat} (h : n < 2 ^ 32) : nI n &&& 7 = nI (n % 8) := pk_andN h 3 (by decide)
theorem od_and3 {n : Nat} (h : n < 2 ^ 32) : nI n &&& 3 = nI (n % 4) := pk_andN h 2 (by decide)
theorem od_and7' {n : Nat} (h : n < 8) : nI n &&& 7 = nI n := by rw [od_and7 (by omega), Nat.mod_eq_of_lt h]
theorem od_q {n : Nat} (h : n < 2 ^ 31) : nI n >>> ((3 : Int32) &&& 31) = nI (n / 8) := pk_shrN h _ 3 (by decide)
theorem od_dv {n : Nat} (h : n < 2 ^ 31) : nI n / 8 = nI (n / 8) := pk_div (d := 8) h (by decide) (by decide)
theorem od_rm {n : Nat} (h : n < 2 ^ 31) : nI n - nI n / 8 * 8 = nI (n % 8) := pk_rem (d := 8) h (by decide) (by decide)
/-- the atom in slot i of a type's word -/
def od_sl (n i : Nat) : Nat := n / 2 ^ (4 + 4 * i) % 16
theorem od_sl_lt (n i : Nat) : od_sl n i < 16 := Nat.mod_lt _ (by decide)
theorem od_sh {n : Nat} (hn : n < 2 ^ 31) (s : Int32) (k : Nat) (hs : (s.toBitVec.smod 32).toNat = k) : (nI n >>> s) &&& 15 = nI (n / 2 ^ k % 16) := by
  rw [pk_shrN hn s k hs, od_and15 (Nat.lt_of_le_of_lt (Nat.div_le_self _ _) (by omega))]
theorem od_slot {n i : Nat} (hn : n < 2 ^ 31) (hi : i < 3) : (nI n >>> ((4 + 4 * nI i) &&& 31)) &&& 15 = nI (od_sl n i) := by
  match i, hi with
  | 0, _ => exact od_sh hn _ 4 (by decide)
  | 1, _ => exact od_sh hn _ 8 (by decide)
  | 2, _ => exact od_sh hn _ 12 (by decide)
theorem od_slot0 {n : Nat} (hn : n < 2 ^ 31) : (nI n >>> ((4 : Int32) &&& 31)) &&& 15 = nI (od_sl n 0) := od_sh hn _ 4 (by decide)
theorem od_slot1 {n : Nat} (hn : n < 2 ^ 31) : (nI n >>> ((8 : Int32) &&& 31)) &&& 15 = nI (od_sl n 1) := od_sh hn _ 8 (by decide)
theorem od_slot2 {n : Nat} (hn : n < 2 ^ 31) : (nI n >>> ((12 : Int32) &&& 31)) &&& 15 = nI (od_sl n 2) := od_sh hn _ 12 (by decide)
theorem od_shl {m i : Nat} (hm : m < 16) (hi : i < 3) : nI m <<< ((4 + 4 * nI i) &&& 31) = nI (m * 2 ^ (4 + 4 * i)) := by
  match i, hi with
  | 0, _ => exact pk_shlN _ 4 (by decide) (by omega)
  | 1, _ => exact pk_shlN _ 8 (by decide) (by omega)
  | 2, _ => exact pk_shlN _ 12 (by decide) (by omega)
/-- eight cells from b on made -1, the first i of them -/
def od_fill (f : Nat → Int32) (b : Nat) : Nat → Nat → Int32
  | 0 => f
  | i + 1 => upd (od_fill f b i) (b + i) (-1)
theorem od_fill_in (f : Nat → Int32) (b : Nat) : ∀ n j, b ≤ j → j < b + n → od_fill f b n j = -1 := by
  intro n
  induction n with
  | zero => intro j h1 h2; omega
  | succ n ih =>
    intro j h1 h2
    by_cases e : j = b + n
    · subst e; exact pk_us
    · exact (pk_un e).trans (ih j h1 (by omega))
theorem od_fill_out (f : Nat → Int32) (b : Nat) : ∀ n j, (j < b ∨ b + n ≤ j) → od_fill f b n j = f j := by
  intro n
  induction n with
  | zero => intro j _; rfl
  | succ n ih =>
    intro j h
    exact (pk_un (by omega)).trans (ih j (by omega))
end
section
variable {ca cc oc fc : Nat} {st er ck : Int32} {fm fk ft rt dX pT dY sc so sa sb oC oO oF fB fP fR fV fL : Nat → Int32}
theorem od_ne {a k : Nat} (h : a ≠ k) (ha : a < 2 ^ 31) (hk : k < 2 ^ 31) : ¬ nI a = nI k := fun e => h (od_inj e ha hk)
/-- the self type's word of class c with n formals -/
def od_self (c n : Nat) : Nat := c + 16 + (if 1 ≤ n then 768 else 0) + (if 2 ≤ n then 16384 else 0)
/-- a word that names a type, as far as the machine needs it -/
def od_T (cc : Nat) (fm : Nat → Int32) (t : Int32) : Prop := ∃ n m, n < 65536 ∧ t = nI n ∧ n % 16 < cc ∧ m ≤ 2 ∧ fm (n % 16) = nI m ∧ ∀ i, i ≤ m → od_sl n i ≤ 4
theorem od_out (a b : Int32) : ∃ r : Int32, (∀ post : Int32 → Prop, post r → wpX_isOutside post (nI ca, st, er, ck, nI cc, nI oc, nI fc, fm, fk, ft, rt, dX, sc, so, sa, sb, oC, oO, oF, fB, fP, fR, fV, fL) a b) ∧ (∀ post : Int32 → Prop, post r → wpY_outside post (nI ca, st, er, nI cc, ck, nI oc, nI fc, fm, fk, ft, pT, rt, dY, sc, so, sa, sb, oC, oO, oF, fB, fP, fR, fV, fL) a b) := by
  have z : ¬ (1 : Int32) = 0 := by decide
  by_cases h1 : a = b
  · exact ⟨1, fun _ p => br_t h1 p, fun _ p => br_t h1 p⟩
  by_cases h2 : a = 0
  · exact ⟨1, fun _ p => br_f h1 (br_t h2 p), fun _ p => br_f h1 (br_t h2 p)⟩
  by_cases h3 : a = 3
  · have a1 : ¬ a = 1 := by rw [h3]; decide
    by_cases b2 : b = 2
    · exact ⟨1, fun _ p => br_f h1 (br_f h2 (br_t h3 (br_t b2 (br_f a1 (br_f z p))))), fun _ p => br_f h1 (br_f h2 (br_t b2 (br_f a1 (br_t h3 p))))⟩
    by_cases b1 : b = 1
    · exact ⟨1, fun _ p => br_f h1 (br_f h2 (br_t h3 (br_f b2 (br_t b1 (br_f z p))))), fun _ p => br_f h1 (br_f h2 (br_f b2 (br_t b1 (br_t h3 p))))⟩
    · exact ⟨0, fun _ p => br_f h1 (br_f h2 (br_t h3 (br_f b2 (br_f b1 p)))), fun _ p => br_f h1 (br_f h2 (br_f b2 (br_f b1 p)))⟩
  by_cases h4 : a = 4
  · have a1 : ¬ a = 1 := by rw [h4]; decide
    by_cases b2 : b = 2
    · exact ⟨1, fun _ p => br_f h1 (br_f h2 (br_f h3 (br_t h4 (br_t b2 (br_f a1 (br_f z p)))))), fun _ p => br_f h1 (br_f h2 (br_t b2 (br_f a1 (br_f h3 (br_t h4 p)))))⟩
    by_cases b1 : b = 1
    · exact ⟨1, fun _ p => br_f h1 (br_f h2 (br_f h3 (br_t h4 (br_f b2 (br_t b1 (br_f z p)))))), fun _ p => br_f h1 (br_f h2 (br_f b2 (br_t b1 (br_f h3 (br_t h4 p)))))⟩
    · exact ⟨0, fun _ p => br_f h1 (br_f h2 (br_f h3 (br_t h4 (br_f b2 (br_f b1 p))))), fun _ p => br_f h1 (br_f h2 (br_f b2 (br_f b1 p)))⟩
  by_cases b2 : b = 2
  · have b1 : ¬ b = 1 := by rw [b2]; decide
    by_cases a1 : a = 1
    · exact ⟨1, fun _ p => br_f h1 (br_f h2 (br_f h3 (br_f h4 (br_t b2 (br_t a1 p))))), fun _ p => br_f h1 (br_f h2 (br_t b2 (br_t a1 p)))⟩
    · exact ⟨0, fun _ p => br_f h1 (br_f h2 (br_f h3 (br_f h4 (br_t b2 (br_f a1 (br_t rfl p)))))), fun _ p => br_f h1 (br_f h2 (br_t b2 (br_f a1 (br_f h3 (br_f h4 (br_f b1 p))))))⟩
  by_cases b1 : b = 1
  · exact ⟨0, fun _ p => br_f h1 (br_f h2 (br_f h3 (br_f h4 (br_f b2 (br_t b1 (br_t rfl p)))))), fun _ p => br_f h1 (br_f h2 (br_f b2 (br_t b1 (br_f h3 (br_f h4 p)))))⟩
  · exact ⟨0, fun _ p => br_f h1 (br_f h2 (br_f h3 (br_f h4 (br_f b2 (br_f b1 p))))), fun _ p => br_f h1 (br_f h2 (br_f b2 (br_f b1 p)))⟩
theorem od_allow {a b : Nat} (ha : a ≤ 4) (hb : b < 8 ∨ b = 8) : ∃ r : Int32, (∀ post : Int32 → Prop, post r → wpX_isAllowed post (nI ca, st, er, ck, nI cc, nI oc, nI fc, fm, fk, ft, rt, dX, sc, so, sa, sb, oC, oO, oF, fB, fP, fR, fV, fL) (nI a) (nI b)) ∧ (∀ post : Int32 → Prop, post r → wpY_allowed post (nI ca, st, er, nI cc, ck, nI oc, nI fc, fm, fk, ft, pT, rt, dY, sc, so, sa, sb, oC, oO, oF, fB, fP, fR, fV, fL) (nI a) (nI b)) := by
  rcases hb with hb | rfl
  · have h8 : ¬ nI b = 8 := od_ne (k := 8) (by omega) (by omega) (by decide)
    have hi : vp_in (nI b) 8 := vp_in_nI hb (by decide)
    have ec : (nI b).toNatClampNeg = b := nI_clamp (by omega)
    have ea : nI b &&& 7 = nI b := od_and7' hb
    rcases (show a = 0 ∨ a = 1 ∨ a = 2 ∨ a = 3 ∨ a = 4 by omega) with rfl | rfl | rfl | rfl | rfl
    · exact ⟨1, fun _ p => br_f h8 (br_f (by decide) (br_f (by decide) p)), fun _ p => br_f h8 (br_f (by decide) p)⟩
    · exact ⟨1, fun _ p => br_f h8 (br_f (by decide) (br_f (by decide) p)), fun _ p => br_f h8 (br_f (by decide) p)⟩
    · exact ⟨1, fun _ p => br_f h8 (br_f (by decide) (br_f (by decide) p)), fun _ p => br_f h8 (br_f (by decide) p)⟩
    · by_cases hx : fm b < 1
      · refine ⟨0, fun _ p => br_f h8 (br_t (by decide) ⟨hi, ?_⟩), fun _ p => br_f h8 (br_t (by decide) (br_t (by decide) ?_))⟩
        · rw [ec]; exact br_t hx p
        · rw [ea, ec]; exact ⟨hi, br_t hx p⟩
      · refine ⟨1, fun _ p => br_f h8 (br_t (by decide) ⟨hi, ?_⟩), fun _ p => br_f h8 (br_t (by decide) (br_t (by decide) ?_))⟩
        · rw [ec]; exact br_f hx p
        · rw [ea, ec]; exact ⟨hi, br_f hx p⟩
    · by_cases hx : fm b < 2
      · refine ⟨0, fun _ p => br_f h8 (br_f (by decide) (br_t (by decide) ⟨hi, ?_⟩)), fun _ p => br_f h8 (br_t (by decide) (br_f (by decide) (br_t (by decide) ?_)))⟩
        · rw [ec]; exact br_t hx p
        · rw [ea, ec]; exact ⟨hi, br_t hx p⟩
      · refine ⟨1, fun _ p => br_f h8 (br_f (by decide) (br_t (by decide) ⟨hi, ?_⟩)), fun _ p => br_f h8 (br_t (by decide) (br_f (by decide) (br_t (by decide) ?_)))⟩
        · rw [ec]; exact br_f hx p
        · rw [ea, ec]; exact ⟨hi, br_f hx p⟩
  · by_cases h0 : a = 0
    · subst h0
      exact ⟨1, fun _ p => br_t rfl (br_t rfl p), fun _ p => br_t rfl (br_t rfl p)⟩
    · have e : ¬ nI a = 0 := od_ne (k := 0) h0 (by omega) (by decide)
      exact ⟨0, fun _ p => br_t rfl (br_f e p), fun _ p => br_t rfl (br_f e p)⟩
/-- the three slots in range -/
theorem od_enc {n m : Nat} (hn : n < 65536) (hm : m ≤ 2) : ∀ d i, i + d = 3 →
    ((∀ j, i ≤ j → j ≤ m → od_sl n j ≤ 4) ∧ (∀ post : Int32 → Prop, post 1 → wX_isEncoded_35 post (nI n) (nI m) (nI ca) st er ck (nI cc) (nI oc) (nI fc) fm fk ft rt dX sc so sa sb oC oO oF fB fP fR fV fL (d + 1) (nI i)) ∧
      (∀ (post : Int32 → Prop) (b : Int32), (∃ q, wY_valid_98 post (nI n) b (nI m) (nI ca) st er (nI cc) ck (nI oc) (nI fc) fm fk ft pT rt dY sc so sa sb oC oO oF fB fP fR fV fL q 0) → wY_valid_41 post (nI n) b (nI m) (nI ca) st er (nI cc) ck (nI oc) (nI fc) fm fk ft pT rt dY sc so sa sb oC oO oF fB fP fR fV fL (d + 1) (nI i))) ∨
    ((∀ post : Int32 → Prop, post 0 → wX_isEncoded_35 post (nI n) (nI m) (nI ca) st er ck (nI cc) (nI oc) (nI fc) fm fk ft rt dX sc so sa sb oC oO oF fB fP fR fV fL (d + 1) (nI i)) ∧
      (∀ (post : Int32 → Prop) (b : Int32), post 1 → wY_valid_41 post (nI n) b (nI m) (nI ca) st er (nI cc) ck (nI oc) (nI fc) fm fk ft pT rt dY sc so sa sb oC oO oF fB fP fR fV fL (d + 1) (nI i))) := by
  intro d
  induction d with
  | zero =>
    intro i hi
    have h3 : (3 : Int32) ≤ nI i := nI_le (a := 3) (by omega) (by omega)
    exact Or.inl ⟨fun j h1 h2 => by omega, fun _ p => br_t h3 p, fun _ _ p => br_t h3 p⟩
  | succ d ih =>
    intro i hi
    have h3 : ¬ (3 : Int32) ≤ nI i := nI_ge (b := 3) (by omega) (by decide)
    have es := od_slot (n := n) (i := i) (by omega) (by omega)
    have hl := od_sl_lt n i
    by_cases hmi : m < i
    · have c1 : nI m < nI i := nI_lt hmi (by omega)
      have c2 : ¬ nI i ≤ nI m := nI_ge hmi (by omega)
      by_cases ho : od_sl n i = 0
      · have s0 : (nI n >>> ((4 + 4 * nI i) &&& 31)) &&& 15 ≤ 0 := by rw [es, ho]; decide
        have s1 : (nI n >>> ((4 + 4 * nI i) &&& 31)) &&& 15 = 0 := by rw [es, ho]; decide
        have kX : ∀ post : Int32 → Prop, wX_isEncoded_35 post (nI n) (nI m) (nI ca) st er ck (nI cc) (nI oc) (nI fc) fm fk ft rt dX sc so sa sb oC oO oF fB fP fR fV fL (d + 1) (nI (i + 1)) → wX_isEncoded_35 post (nI n) (nI m) (nI ca) st er ck (nI cc) (nI oc) (nI fc) fm fk ft rt dX sc so sa sb oC oO oF fB fP fR fV fL (d + 1 + 1) (nI i) :=
          fun post p => br_f h3 (br_t c1 (br_t s0 (nm_r (nI_1 i) p)))
        have kY : ∀ (post : Int32 → Prop) (b : Int32), wY_valid_41 post (nI n) b (nI m) (nI ca) st er (nI cc) ck (nI oc) (nI fc) fm fk ft pT rt dY sc so sa sb oC oO oF fB fP fR fV fL (d + 1) (nI (i + 1)) → wY_valid_41 post (nI n) b (nI m) (nI ca) st er (nI cc) ck (nI oc) (nI fc) fm fk ft pT rt dY sc so sa sb oC oO oF fB fP fR fV fL (d + 1 + 1) (nI i) :=
          fun post b p => br_f h3 (nm_e (br_t c1 (br_f c2 (br_t s1 (nm_r (nI_1 i) p)))))
        rcases ih (i + 1) (by omega) with ⟨a1, a2, a3⟩ | ⟨a2, a3⟩
        · exact Or.inl ⟨fun j h1 h2 => by omega, fun post p => kX post (a2 post p), fun post b p => kY post b (a3 post b p)⟩
        · exact Or.inr ⟨fun post p => kX post (a2 post p), fun post b p => kY post b (a3 post b p)⟩
      · have s0 : ¬ (nI n >>> ((4 + 4 * nI i) &&& 31)) &&& 15 ≤ 0 := by rw [es]; exact nI_nle (by omega) (by omega)
        have s1 : ¬ (nI n >>> ((4 + 4 * nI i) &&& 31)) &&& 15 = 0 := by rw [es]; exact nI_ne0 (by omega) (by omega)
        exact Or.inr ⟨fun post p => br_f h3 (br_t c1 (br_f s0 p)), fun post b p => br_f h3 (nm_e (br_t c1 (br_f c2 (br_f s1 p))))⟩
    · have c1 : ¬ nI m < nI i := nI_nlt (by omega) (by omega)
      have c2 : nI i ≤ nI m := nI_le (by omega) (by omega)
      by_cases ho : od_sl n i ≤ 4
      · have s0 : (nI n >>> ((4 + 4 * nI i) &&& 31)) &&& 15 ≤ 4 := by rw [es]; exact nI_le (b := 4) ho (by decide)
        have kX : ∀ post : Int32 → Prop, wX_isEncoded_35 post (nI n) (nI m) (nI ca) st er ck (nI cc) (nI oc) (nI fc) fm fk ft rt dX sc so sa sb oC oO oF fB fP fR fV fL (d + 1) (nI (i + 1)) → wX_isEncoded_35 post (nI n) (nI m) (nI ca) st er ck (nI cc) (nI oc) (nI fc) fm fk ft rt dX sc so sa sb oC oO oF fB fP fR fV fL (d + 1 + 1) (nI i) :=
          fun post p => br_f h3 (br_f c1 (br_t s0 (nm_r (nI_1 i) p)))
        have kY : ∀ (post : Int32 → Prop) (b : Int32), wY_valid_41 post (nI n) b (nI m) (nI ca) st er (nI cc) ck (nI oc) (nI fc) fm fk ft pT rt dY sc so sa sb oC oO oF fB fP fR fV fL (d + 1) (nI (i + 1)) → wY_valid_41 post (nI n) b (nI m) (nI ca) st er (nI cc) ck (nI oc) (nI fc) fm fk ft pT rt dY sc so sa sb oC oO oF fB fP fR fV fL (d + 1 + 1) (nI i) :=
          fun post b p => br_f h3 (nm_e (br_f c1 (br_t s0 (br_t c2 (nm_r (nI_1 i) p)))))
        rcases ih (i + 1) (by omega) with ⟨a1, a2, a3⟩ | ⟨a2, a3⟩
        · refine Or.inl ⟨fun j h1 h2 => ?_, fun post p => kX post (a2 post p), fun post b p => kY post b (a3 post b p)⟩
          by_cases e : j = i
          · subst e; exact ho
          · exact a1 j (by omega) h2
        · exact Or.inr ⟨fun post p => kX post (a2 post p), fun post b p => kY post b (a3 post b p)⟩
      · have s0 : ¬ (nI n >>> ((4 + 4 * nI i) &&& 31)) &&& 15 ≤ 4 := by rw [es]; exact nI_ge (a := 4) (by omega) (by omega)
        exact Or.inr ⟨fun post p => br_f h3 (br_f c1 (br_f s0 p)), fun post b p => br_f h3 (nm_e (br_f c1 (br_f s0 p)))⟩
theorem od_xs {post : Int32 → Prop} {t i : Int32} (h : post ((t >>> ((4 + 4 * i) &&& 31)) &&& 15)) : wpX_slot post (nI ca, st, er, ck, nI cc, nI oc, nI fc, fm, fk, ft, rt, dX, sc, so, sa, sb, oC, oO, oF, fB, fP, fR, fV, fL) t i := h
/-- the arguments' slots outside the owner's -/
theorem od_wf {n m : Nat} (hn : n < 65536) (hm : m ≤ 2) (w : Int32) (hc : ck = 1) : ∀ d i, i + d = m + 1 →
    ∃ r : Int32, (∀ post : Int32 → Prop, post r → wX_checkType_67 post (nI n) (nI m) w (nI ca) st er ck (nI cc) (nI oc) (nI fc) fm fk ft rt dX sc so sa sb oC oO oF fB fP fR fV fL (d + 1) (nI i)) ∧ (∀ post : Int32 → Prop, post r → wY_valid_155 post (nI n) (nI m) w (nI ca) st er (nI cc) ck (nI oc) (nI fc) fm fk ft pT rt dY sc so sa sb oC oO oF fB fP fR fV fL (d + 1) (nI i)) := by
  have hk : ¬ ck = 0 := by rw [hc]; decide
  intro d
  induction d with
  | zero =>
    intro i hi
    have c1 : nI m < nI i := nI_lt (by omega) (by omega)
    exact ⟨0, fun _ p => br_f hk (br_t c1 p), fun _ p => br_t c1 p⟩
  | succ d ih =>
    intro i hi
    have c1 : ¬ nI m < nI i := nI_nlt (by omega) (by omega)
    obtain ⟨q, qX, qY⟩ := od_out (ca := ca) (cc := cc) (oc := oc) (fc := fc) (st := st) (er := er) (ck := ck) (fm := fm) (fk := fk) (ft := ft) (rt := rt) (dX := dX) (pT := pT) (dY := dY) (sc := sc) (so := so) (sa := sa) (sb := sb) (oC := oC) (oO := oO) (oF := oF) (fB := fB) (fP := fP) (fR := fR) (fV := fV) (fL := fL) ((nI n >>> ((4 + 4 * nI i) &&& 31)) &&& 15) w
    by_cases hq : q = 0
    · exact ⟨3, fun _ p => br_f hk (br_f c1 (od_xs (qX _ (br_t hq p)))), fun _ p => br_f c1 (nm_e (qY _ (br_t hq p)))⟩
    · obtain ⟨r, rX, rY⟩ := ih (i + 1) (by omega)
      exact ⟨r, fun post p => br_f hk (br_f c1 (od_xs (qX _ (br_f hq (nm_r (nI_1 i) (rX post p)))))), fun post p => br_f c1 (nm_e (qY _ (br_f hq (nm_r (nI_1 i) (rY post p)))))⟩
/-- the slots allowed in the body, then od_wf -/
theorem od_ctx {n m b : Nat} (hn : n < 65536) (hm : m ≤ 2) (hb : b < 8 ∨ b = 8) (hk : ck = 0 ∨ ck = 1) (hs : ∀ j, j ≤ m → od_sl n j ≤ 4) : ∀ d i, i + d = m + 1 →
    ∃ r : Int32, (∀ post : Int32 → Prop, post r → wX_checkType_23 post (nI n) (nI b) (nI m) (nI ca) st er ck (nI cc) (nI oc) (nI fc) fm fk ft rt dX sc so sa sb oC oO oF fB fP fR fV fL (d + 1) (nI i)) ∧ (∀ post : Int32 → Prop, post r → wY_valid_98 post (nI n) (nI b) (nI m) (nI ca) st er (nI cc) ck (nI oc) (nI fc) fm fk ft pT rt dY sc so sa sb oC oO oF fB fP fR fV fL (d + 1) (nI i)) := by
  intro d
  induction d with
  | zero =>
    intro i hi
    have c1 : nI m < nI i := nI_lt (by omega) (by omega)
    rcases hk with hk | hk
    · have h1 : ¬ ck = 1 := by rw [hk]; decide
      exact ⟨0, fun _ p => br_t c1 ⟨1, br_t hk p⟩, fun _ p => br_t c1 (br_f h1 p)⟩
    · obtain ⟨r, rX, rY⟩ := od_wf (ca := ca) (cc := cc) (oc := oc) (fc := fc) (st := st) (er := er) (ck := ck) (fm := fm) (fk := fk) (ft := ft) (rt := rt) (dX := dX) (pT := pT) (dY := dY) (sc := sc) (so := so) (sa := sa) (sb := sb) (oC := oC) (oO := oO) (oF := oF) (fB := fB) (fP := fP) (fR := fR) (fV := fV) (fL := fL) hn hm ((nI n >>> ((4 : Int32) &&& 31)) &&& 15) hk m 1 (by omega)
      refine ⟨r, fun post p => br_t c1 ⟨m + 1, ?_⟩, fun post p => br_t c1 (br_t hk (nm_e ⟨m + 1, rY post p⟩))⟩
      exact rX post p
  | succ d ih =>
    intro i hi
    have c1 : ¬ nI m < nI i := nI_nlt (by omega) (by omega)
    have es := od_slot (n := n) (i := i) (by omega) (by omega)
    obtain ⟨q, qX, qY⟩ := od_allow (ca := ca) (cc := cc) (oc := oc) (fc := fc) (st := st) (er := er) (ck := ck) (fm := fm) (fk := fk) (ft := ft) (rt := rt) (dX := dX) (pT := pT) (dY := dY) (sc := sc) (so := so) (sa := sa) (sb := sb) (oC := oC) (oO := oO) (oF := oF) (fB := fB) (fP := fP) (fR := fR) (fV := fV) (fL := fL) (hs i (by omega)) hb
    rw [← es] at qX qY
    by_cases hq : q = 0
    · exact ⟨2, fun _ p => br_f c1 (od_xs (qX _ (br_t hq p))), fun _ p => br_f c1 (nm_e (qY _ (br_t hq p)))⟩
    · obtain ⟨r, rX, rY⟩ := ih (i + 1) (by omega)
      exact ⟨r, fun post p => br_f c1 (od_xs (qX _ (br_f hq (nm_r (nI_1 i) (rX post p))))), fun post p => br_f c1 (nm_e (qY _ (br_f hq (nm_r (nI_1 i) (rY post p)))))⟩
/-- a type's check: one answer on both sides -/
theorem od_type {b : Nat} (t : Int32) (hc : cc ≤ 8) (hf : ∀ c, ∃ n, n ≤ 2 ∧ fm c = nI n) (hb : b < 8 ∨ b = 8) (hk : ck = 0 ∨ ck = 1) :
    ∃ r : Int32, (r = 0 → od_T cc fm t) ∧ (∀ post : Int32 → Prop, post r → wpX_checkType post (nI ca, st, er, ck, nI cc, nI oc, nI fc, fm, fk, ft, rt, dX, sc, so, sa, sb, oC, oO, oF, fB, fP, fR, fV, fL) t (nI b)) ∧ (∀ post : Int32 → Prop, post r → wpY_valid post (nI ca, st, er, nI cc, ck, nI oc, nI fc, fm, fk, ft, pT, rt, dY, sc, so, sa, sb, oC, oO, oF, fB, fP, fR, fV, fL) t (nI b)) := by
  have z1 : ¬ (1 : Int32) = 0 := by decide
  by_cases h0 : t < 0
  · exact ⟨1, fun e => absurd e z1, fun _ p => br_t h0 (br_t rfl p), fun _ p => br_t h0 p⟩
  obtain ⟨n, hn, rfl⟩ := nI_of h0
  by_cases h1 : n < 65536
  · have g1 : ¬ (65535 : Int32) < nI n := nI_nlt (a := 65535) (by omega) (by decide)
    have g2 : nI n ≤ (65535 : Int32) := nI_le (b := 65535) (by omega) (by decide)
    have e15 : nI n &&& 15 = nI (n % 16) := od_and15 (by omega)
    have hl : n % 16 < 16 := Nat.mod_lt _ (by decide)
    by_cases h2 : n % 16 < cc
    · have l1 : nI n &&& 15 < nI cc := by rw [e15]; exact nI_lt h2 (by omega)
      have i1 : vp_in (nI n &&& 15) 8 := by rw [e15]; exact vp_in_nI (by omega) (by decide)
      have e1 : (nI n &&& 15).toNatClampNeg = n % 16 := by rw [e15]; exact nI_clamp (by omega)
      have e7 : (nI n &&& 15) &&& 7 = nI n &&& 15 := by rw [e15]; exact od_and7' (by omega)
      obtain ⟨m, hm, em⟩ := hf (n % 16)
      have ef : fm (nI n &&& 15).toNatClampNeg = nI m := by rw [e1]; exact em
      have i7 : vp_in ((nI n &&& 15) &&& 7) 8 := by rw [e7]; exact i1
      have ef7 : fm ((nI n &&& 15) &&& 7).toNatClampNeg = nI m := by rw [e7]; exact ef
      rcases od_enc (ca := ca) (cc := cc) (oc := oc) (fc := fc) (st := st) (er := er) (ck := ck) (fm := fm) (fk := fk) (ft := ft) (rt := rt) (dX := dX) (pT := pT) (dY := dY) (sc := sc) (so := so) (sa := sa) (sb := sb) (oC := oC) (oO := oO) (oF := oF) (fB := fB) (fP := fP) (fR := fR) (fV := fV) (fL := fL) h1 hm 3 0 rfl with ⟨a1, a2, a3⟩ | ⟨a2, a3⟩
      · obtain ⟨r, rX, rY⟩ := od_ctx (ca := ca) (cc := cc) (oc := oc) (fc := fc) (st := st) (er := er) (ck := ck) (fm := fm) (fk := fk) (ft := ft) (rt := rt) (dX := dX) (pT := pT) (dY := dY) (sc := sc) (so := so) (sa := sa) (sb := sb) (oC := oC) (oO := oO) (oF := oF) (fB := fB) (fP := fP) (fR := fR) (fV := fV) (fL := fL) h1 hm hb hk (fun j h => a1 j (Nat.zero_le _) h) (m + 1) 0 (by omega)
        exact ⟨r, fun _ => ⟨n, m, h1, rfl, h2, hm, em, fun j h => a1 j (Nat.zero_le _) h⟩,
          fun post p => br_f h0 (br_f g1 (br_t l1 ⟨i1, nm_r ef ⟨4, a2 _ (br_f z1 ⟨i1, nm_r ef ⟨m + 2, rX post p⟩⟩)⟩⟩)),
          fun post p => br_f h0 (br_t g2 (nm_e (br_t l1 ⟨i7, nm_r ef7 ⟨4, a3 post _ ⟨m + 2, rY post p⟩⟩⟩)))⟩
      · exact ⟨1, fun e => absurd e z1, fun post p => br_f h0 (br_f g1 (br_t l1 ⟨i1, nm_r ef ⟨4, a2 _ (br_t rfl p)⟩⟩)),
          fun post p => br_f h0 (br_t g2 (nm_e (br_t l1 ⟨i7, nm_r ef7 ⟨4, a3 post _ p⟩⟩)))⟩
    · have l1 : ¬ nI n &&& 15 < nI cc := by rw [e15]; exact nI_nlt (by omega) (by omega)
      exact ⟨1, fun e => absurd e z1, fun _ p => br_f h0 (br_f g1 (br_f l1 (br_t rfl p))), fun _ p => br_f h0 (br_t g2 (nm_e (br_f l1 p)))⟩
  · have g1 : (65535 : Int32) < nI n := nI_lt (a := 65535) (by omega) hn
    have g2 : ¬ nI n ≤ (65535 : Int32) := nI_ge (a := 65535) (by omega) hn
    exact ⟨1, fun e => absurd e z1, fun _ p => br_f h0 (br_t g1 (br_t rfl p)), fun _ p => br_f h0 (br_f g2 p)⟩
end
section
variable {ca cc oc fc : Nat} {st er ck : Int32} {fm fk ft rt dX pT dY sc so sa sb oC oO oF fB fP fR fV fL : Nat → Int32}
/-- what every state keeps of its program -/
def od_P (ck : Int32) (cc : Nat) (fm fk dX pT dY sc : Nat → Int32) : Prop :=
  (ck = 0 ∨ ck = 1) ∧ cc ≤ 8 ∧ (∀ c, ∃ n, n ≤ 2 ∧ fm c = nI n) ∧ (∀ c, ∃ n, n ≤ 4 ∧ fk c = nI n) ∧ (∀ c, ∃ n, n ≤ 16 ∧ sc c = nI n) ∧
  (∀ c n, c < cc → n ≤ 2 → fm c = nI n → dX (c * 8) = nI (od_self c n)) ∧ (∀ c, c < 8 → dX (c * 8 + 1) = pT c) ∧
  (∀ c v, 2 ≤ v → v < 8 → dX (c * 8 + v) = dY (c * 8 + v)) ∧ (∀ v, v < 8 → dX (64 + v) = dY (64 + v))
theorem od_self0 (c : Nat) : nI c + 16 = nI (od_self c 0) := nI_add c 16
theorem od_self1 (c : Nat) : nI c + 16 + 768 = nI (od_self c 1) := by
  show nI c + nI 16 + nI 768 = _
  rw [nI_add, nI_add]; rfl
theorem od_self2 (c : Nat) : nI c + 16 + 768 + 16384 = nI (od_self c 2) := by
  show nI c + nI 16 + nI 768 + nI 16384 = _
  rw [nI_add, nI_add, nI_add]; rfl
theorem od_yself {c n : Nat} (hc : c < 8) (hn : n ≤ 2) (hf : fm c = nI n) {post : Int32 → Prop} (p : post (nI (od_self c n))) : wpY_selfType post (nI ca, st, er, nI cc, ck, nI oc, nI fc, fm, fk, ft, pT, rt, dY, sc, so, sa, sb, oC, oO, oF, fB, fP, fR, fV, fL) (nI c) := by
  have ea : nI c &&& 7 = nI c := od_and7' hc
  have ef : fm (nI c &&& 7).toNatClampNeg = nI n := by rw [ea, nI_clamp (by omega)]; exact hf
  refine ⟨by rw [ea]; exact vp_in_nI hc (by decide), nm_r ef ?_⟩
  rcases (show n = 0 ∨ n = 1 ∨ n = 2 by omega) with rfl | rfl | rfl
  · refine br_t (by decide) (br_t (by decide) ?_)
    rw [Int32.add_zero, Int32.add_zero, od_self0]; exact p
  · refine br_f (by decide) (br_t (by decide) ?_)
    rw [Int32.add_zero, od_self1]; exact p
  · refine br_f (by decide) (br_f (by decide) ?_)
    rw [od_self2]; exact p
theorem od_xself {c n : Nat} (hc : c < 8) (hn : n ≤ 2) (hf : fm c = nI n) {post : Int32 → Prop} (p : post (nI (od_self c n))) : wpX_selfType post (nI ca, st, er, ck, nI cc, nI oc, nI fc, fm, fk, ft, rt, dX, sc, so, sa, sb, oC, oO, oF, fB, fP, fR, fV, fL) (nI c) := by
  have ef : fm (nI c).toNatClampNeg = nI n := by rw [nI_clamp (by omega)]; exact hf
  have hi : vp_in (nI c) 8 := vp_in_nI hc (by decide)
  refine nm_e ⟨hi, ?_⟩
  rw [ef]
  rcases (show n = 0 ∨ n = 1 ∨ n = 2 by omega) with rfl | rfl | rfl
  · refine br_t (by decide) ⟨hi, ?_⟩
    rw [ef]
    refine br_t (by decide) ?_
    rw [od_self0]; exact p
  · refine br_f (by decide) (nm_e ⟨hi, ?_⟩)
    rw [ef]
    refine br_t (by decide) ?_
    rw [od_self1]; exact p
  · refine br_f (by decide) (nm_e ⟨hi, ?_⟩)
    rw [ef]
    refine br_f (by decide) (nm_e ?_)
    rw [od_self2]; exact p
theorem od_decl (hP : od_P ck cc fm fk dX pT dY sc) {b v : Nat} (hb : b < cc ∨ b = 8) (hv : v < 8) {post : Int32 → Prop} (p : post (dX (b * 8 + v))) : wpY_declOf post (nI ca, st, er, nI cc, ck, nI oc, nI fc, fm, fk, ft, pT, rt, dY, sc, so, sa, sb, oC, oO, oF, fB, fP, fR, fV, fL) (nI b) (nI v) := by
  obtain ⟨hck, hcc, hfm, hfk, hsc, hd0, hd1, hd2, hd8⟩ := hP
  rcases hb with hb | rfl
  · refine br_f (od_ne (k := 8) (by omega) (by omega) (by decide)) ?_
    have eb : nI b &&& 7 = nI b := od_and7' (by omega)
    have ev : nI v &&& 7 = nI v := od_and7' hv
    by_cases h0 : v = 0
    · subst h0
      obtain ⟨n, hn, en⟩ := hfm b
      rw [Nat.add_zero, hd0 b n hb hn en] at p
      exact br_t rfl (od_yself (by omega) hn en p)
    refine br_f (od_ne (k := 0) h0 (by omega) (by decide)) ?_
    by_cases h1 : v = 1
    · subst h1
      rw [hd1 b (by omega)] at p
      refine br_t rfl ?_
      rw [eb, nI_clamp (by omega)]
      exact ⟨vp_in_nI (by omega) (by decide), p⟩
    refine br_f (od_ne (k := 1) h1 (by omega) (by decide)) ?_
    rw [eb, ev, od_i8, nI_clamp (by omega), ← hd2 b v (by omega) hv]
    exact ⟨vp_in_nI (by omega) (by decide), p⟩
  · refine br_t rfl ?_
    rw [od_and7' hv, od_64a, nI_clamp (by omega), ← hd8 v hv]
    exact ⟨vp_in_nI (by omega) (by decide), p⟩
theorem od_match {s : Nat} (hs : s < 2 ^ 31) (hk : ck = 0 ∨ ck = 1) (t : Int32) : ∃ r : Int32, (∀ post : Int32 → Prop, post r → wpX_match post (nI ca, st, er, ck, nI cc, nI oc, nI fc, fm, fk, ft, rt, dX, sc, so, sa, sb, oC, oO, oF, fB, fP, fR, fV, fL) (nI s) t) ∧ (∀ post : Int32 → Prop, post r → wpY_match post (nI ca, st, er, nI cc, ck, nI oc, nI fc, fm, fk, ft, pT, rt, dY, sc, so, sa, sb, oC, oO, oF, fB, fP, fR, fV, fL) (nI s) t) := by
  have ne := od_ne1 hs
  have z : ¬ (1 : Int32) = 0 := by decide
  rcases hk with hk | hk
  · have h1 : ¬ ck = 1 := by rw [hk]; decide
    by_cases e : nI s &&& 15 = t &&& 15
    · exact ⟨0, fun _ p => br_f ne (br_t hk (br_t e (br_f z p))), fun _ p => br_f h1 (br_t e p)⟩
    · exact ⟨5, fun _ p => br_f ne (br_t hk (br_f e (br_t rfl p))), fun _ p => br_f h1 (br_f e p)⟩
  · have h0 : ¬ ck = 0 := by rw [hk]; decide
    by_cases e : nI s = t
    · exact ⟨0, fun _ p => br_f ne (br_f h0 (br_t e (br_f z p))), fun _ p => br_t hk (br_t e p)⟩
    · exact ⟨5, fun _ p => br_f ne (br_f h0 (br_f e (br_t rfl p))), fun _ p => br_t hk (br_f e p)⟩
theorem od_xs' {post : Int32 → Prop} {t i v : Int32} (e : (t >>> ((4 + 4 * i) &&& 31)) &&& 15 = v) (h : post v) : wpX_slot post (nI ca, st, er, ck, nI cc, nI oc, nI fc, fm, fk, ft, rt, dX, sc, so, sa, sb, oC, oO, oF, fB, fP, fR, fV, fL) t i := by
  show post _
  rw [e]; exact h
section
variable {b y D : Nat} {post : Int32 → Prop}
theorem od_v8 (hv : b * 8 + y < 72) : vp_in (nI b * 8 + nI y) 72 := by rw [od_i8]; exact vp_in_nI hv (by decide)
theorem od_e8 {f : Nat → Int32} {z : Int32} (hv : b * 8 + y < 72) (e : f (b * 8 + y) = z) : f (nI b * 8 + nI y).toNatClampNeg = z := by
  rw [od_i8, nI_clamp (by omega)]; exact e
theorem od_mx0 (hv : b * 8 + y < 72) (p : post 0) : wpX_mapAtom post (nI ca, st, er, ck, nI cc, nI oc, nI fc, fm, fk, ft, rt, dX, sc, so, sa, sb, oC, oO, oF, fB, fP, fR, fV, fL) (nI 0) (nI b) (nI y) := ⟨od_v8 hv, nm_e (br_t (by decide) p)⟩
theorem od_mx5 {a : Nat} (ha : 4 < a) (ha' : a < 16) (hv : b * 8 + y < 72) (p : post 0) : wpX_mapAtom post (nI ca, st, er, ck, nI cc, nI oc, nI fc, fm, fk, ft, rt, dX, sc, so, sa, sb, oC, oO, oF, fB, fP, fR, fV, fL) (nI a) (nI b) (nI y) :=
  ⟨od_v8 hv, nm_e (br_f (nI_nlt (b := 1) (by omega) (by omega)) (br_t (nI_lt (a := 4) ha (by omega)) p))⟩
theorem od_mx1 (hv : b * 8 + y < 72) (hD : D < 65536) (e : dX (b * 8 + y) = nI D) (p : post (nI (od_sl D 0))) : wpX_mapAtom post (nI ca, st, er, ck, nI cc, nI oc, nI fc, fm, fk, ft, rt, dX, sc, so, sa, sb, oC, oO, oF, fB, fP, fR, fV, fL) (nI 1) (nI b) (nI y) := by
  refine ⟨od_v8 hv, nm_r (od_e8 hv e) (br_f (by decide) (br_f (by decide) (br_t (by decide) ?_)))⟩
  rw [od_slot0 (by omega)]; exact p
theorem od_mx3 (hv : b * 8 + y < 72) (hD : D < 65536) (e : dX (b * 8 + y) = nI D) (p : post (nI (od_sl D 1))) : wpX_mapAtom post (nI ca, st, er, ck, nI cc, nI oc, nI fc, fm, fk, ft, rt, dX, sc, so, sa, sb, oC, oO, oF, fB, fP, fR, fV, fL) (nI 3) (nI b) (nI y) := by
  refine ⟨od_v8 hv, nm_r (od_e8 hv e) (br_f (by decide) (br_f (by decide) (br_f (by decide) (br_f (by decide) (br_t (by decide) ?_)))))⟩
  rw [od_slot1 (by omega)]; exact p
theorem od_mx4 (hv : b * 8 + y < 72) (hD : D < 65536) (e : dX (b * 8 + y) = nI D) (p : post (nI (od_sl D 2))) : wpX_mapAtom post (nI ca, st, er, ck, nI cc, nI oc, nI fc, fm, fk, ft, rt, dX, sc, so, sa, sb, oC, oO, oF, fB, fP, fR, fV, fL) (nI 4) (nI b) (nI y) := by
  refine ⟨od_v8 hv, nm_r (od_e8 hv e) (br_f (by decide) (br_f (by decide) (br_f (by decide) (br_f (by decide) (br_f (by decide) (br_t (by decide) ?_))))))⟩
  rw [od_slot2 (by omega)]; exact p
theorem od_mx2 (hv : b * 8 + y < 72) (hb : ¬ nI b = 8) (hy : nI y = 0) (p : post 2) : wpX_mapAtom post (nI ca, st, er, ck, nI cc, nI oc, nI fc, fm, fk, ft, rt, dX, sc, so, sa, sb, oC, oO, oF, fB, fP, fR, fV, fL) (nI 2) (nI b) (nI y) :=
  ⟨od_v8 hv, nm_e (br_f (by decide) (br_f (by decide) (br_f (by decide) (br_t (by decide) (br_f hb (br_t hy p))))))⟩
theorem od_mx2a (hv : b * 8 + y < 72) (hb : nI b = 8) (p : wX_mapAtom_82 post (nI ca) st er ck (nI cc) (nI oc) (nI fc) fm fk ft rt dX sc so sa sb oC oO oF fB fP fR fV fL) : wpX_mapAtom post (nI ca, st, er, ck, nI cc, nI oc, nI fc, fm, fk, ft, rt, dX, sc, so, sa, sb, oC, oO, oF, fB, fP, fR, fV, fL) (nI 2) (nI b) (nI y) :=
  ⟨od_v8 hv, nm_e (br_f (by decide) (br_f (by decide) (br_f (by decide) (br_t (by decide) (br_t hb p)))))⟩
theorem od_mx2b (hv : b * 8 + y < 72) (hb : ¬ nI b = 8) (hy : ¬ nI y = 0) (p : wX_mapAtom_82 post (nI ca) st er ck (nI cc) (nI oc) (nI fc) fm fk ft rt dX sc so sa sb oC oO oF fB fP fR fV fL) : wpX_mapAtom post (nI ca, st, er, ck, nI cc, nI oc, nI fc, fm, fk, ft, rt, dX, sc, so, sa, sb, oC, oO, oF, fB, fP, fR, fV, fL) (nI 2) (nI b) (nI y) :=
  ⟨od_v8 hv, nm_e (br_f (by decide) (br_f (by decide) (br_f (by decide) (br_t (by decide) (br_f hb (br_f hy p))))))⟩
end
theorem od_p16 {i acc M : Nat} (h : acc < 2 ^ (4 + 4 * i)) (hM : M < 16) : acc + M * 2 ^ (4 + 4 * i) < 2 ^ (4 + 4 * (i + 1)) := by
  have e : 2 ^ (4 + 4 * (i + 1)) = 16 * 2 ^ (4 + 4 * i) := by
    rw [show 4 + 4 * (i + 1) = (4 + 4 * i) + 4 by omega, Nat.pow_add]; omega
  rw [e]
  generalize 2 ^ (4 + 4 * i) = P at *
  have : M * P ≤ 15 * P := Nat.mul_le_mul_right P (by omega)
  omega
theorem od_p65 {i acc : Nat} (h : acc < 2 ^ (4 + 4 * i)) (hi : i ≤ 3) : acc < 65536 := by
  rcases (show i = 0 ∨ i = 1 ∨ i = 2 ∨ i = 3 by omega) with rfl | rfl | rfl | rfl <;> simp at h <;> omega
/-- the substitution's loop -/
theorem od_sub {t b y D c m : Nat} (hk : ck = 0 ∨ ck = 1) (ht : t < 65536) (hc : c < 8) (hm : m ≤ 2) (hf : fm c = nI m) (hb : b ≤ 8) (hy : y < 8) (hv : b * 8 + y < 72) (hD : D < 65536) (eD : dX (b * 8 + y) = nI D) :
    ∀ d i acc, i + d = m + 1 → acc < 2 ^ (4 + 4 * i) →
    (∃ w, w < 65536 ∧ (∀ post : Int32 → Prop, post (nI w) → wX_substitute_13 post (nI t) (nI b) (nI y) (nI c) (nI ca) st er ck (nI cc) (nI oc) (nI fc) fm fk ft rt dX sc so sa sb oC oO oF fB fP fR fV fL (d + 1) (nI acc) (nI i)) ∧ (∀ post : Int32 → Prop, post (nI w) → wY_subst_33 post (nI t) (nI b) (nI y) (nI D) (nI m) (nI ca) st er (nI cc) ck (nI oc) (nI fc) fm fk ft pT rt dY sc so sa sb oC oO oF fB fP fR fV fL (d + 1) (nI acc) (nI i))) ∨
    ((∀ post : Int32 → Prop, post (-1) → wX_substitute_13 post (nI t) (nI b) (nI y) (nI c) (nI ca) st er ck (nI cc) (nI oc) (nI fc) fm fk ft rt dX sc so sa sb oC oO oF fB fP fR fV fL (d + 1) (nI acc) (nI i)) ∧ (∀ post : Int32 → Prop, post (-6) → wY_subst_33 post (nI t) (nI b) (nI y) (nI D) (nI m) (nI ca) st er (nI cc) ck (nI oc) (nI fc) fm fk ft pT rt dY sc so sa sb oC oO oF fB fP fR fV fL (d + 1) (nI acc) (nI i))) := by
  have hi8 : vp_in (nI c) 8 := vp_in_nI hc (by decide)
  have ef : fm (nI c).toNatClampNeg = nI m := by rw [nI_clamp (by omega)]; exact hf
  intro d
  induction d with
  | zero =>
    intro i acc hi ha
    have c1 : nI m < nI i := nI_lt (by omega) (by omega)
    have c2 : fm (nI c).toNatClampNeg < nI i := by rw [ef]; exact c1
    exact Or.inl ⟨acc, od_p65 ha (by omega), fun _ p => ⟨hi8, br_t c2 p⟩, fun _ p => br_t c1 p⟩
  | succ d ih =>
    intro i acc hi ha
    have c1 : ¬ nI m < nI i := nI_nlt (by omega) (by omega)
    have c2 : ¬ fm (nI c).toNatClampNeg < nI i := by rw [ef]; exact c1
    have h3 : ¬ (3 : Int32) ≤ nI i := nI_ge (b := 3) (by omega) (by decide)
    have es := od_slot (n := t) (i := i) (by omega) (by omega)
    have hl := od_sl_lt t i
    have ea : ∀ M, M < 16 → nI acc + (nI M <<< ((4 + 4 * nI i) &&& 31)) = nI (acc + M * 2 ^ (4 + 4 * i)) := fun M hM => by rw [od_shl hM (by omega), nI_add]
    have fin : ∀ M, M < 16 →
        (∀ post : Int32 → Prop, post (nI M) → wpX_mapAtom post (nI ca, st, er, ck, nI cc, nI oc, nI fc, fm, fk, ft, rt, dX, sc, so, sa, sb, oC, oO, oF, fB, fP, fR, fV, fL) (nI (od_sl t i)) (nI b) (nI y)) →
        (∀ post : Int32 → Prop, wY_subst_151 post (wY_subst_33 post (nI t) (nI b) (nI y) (nI D) (nI m) (nI ca) st er (nI cc) ck (nI oc) (nI fc) fm fk ft pT rt dY sc so sa sb oC oO oF fB fP fR fV fL (d + 1)) (nI t) (nI b) (nI y) (nI D) (nI m) (nI acc) (nI i) (nI M) (nI ca) st er (nI cc) ck (nI oc) (nI fc) fm fk ft pT rt dY sc so sa sb oC oO oF fB fP fR fV fL → wY_subst_33 post (nI t) (nI b) (nI y) (nI D) (nI m) (nI ca) st er (nI cc) ck (nI oc) (nI fc) fm fk ft pT rt dY sc so sa sb oC oO oF fB fP fR fV fL (d + 1 + 1) (nI acc) (nI i)) →
        (∃ w, w < 65536 ∧ (∀ post : Int32 → Prop, post (nI w) → wX_substitute_13 post (nI t) (nI b) (nI y) (nI c) (nI ca) st er ck (nI cc) (nI oc) (nI fc) fm fk ft rt dX sc so sa sb oC oO oF fB fP fR fV fL (d + 1 + 1) (nI acc) (nI i)) ∧ (∀ post : Int32 → Prop, post (nI w) → wY_subst_33 post (nI t) (nI b) (nI y) (nI D) (nI m) (nI ca) st er (nI cc) ck (nI oc) (nI fc) fm fk ft pT rt dY sc so sa sb oC oO oF fB fP fR fV fL (d + 1 + 1) (nI acc) (nI i))) ∨
        ((∀ post : Int32 → Prop, post (-1) → wX_substitute_13 post (nI t) (nI b) (nI y) (nI c) (nI ca) st er ck (nI cc) (nI oc) (nI fc) fm fk ft rt dX sc so sa sb oC oO oF fB fP fR fV fL (d + 1 + 1) (nI acc) (nI i)) ∧ (∀ post : Int32 → Prop, post (-6) → wY_subst_33 post (nI t) (nI b) (nI y) (nI D) (nI m) (nI ca) st er (nI cc) ck (nI oc) (nI fc) fm fk ft pT rt dY sc so sa sb oC oO oF fB fP fR fV fL (d + 1 + 1) (nI acc) (nI i))) := by
      intro M hM mX mY
      have nM : ¬ nI M = -1 := od_ne1 (by omega)
      rcases ih (i + 1) (acc + M * 2 ^ (4 + 4 * i)) (by omega) (od_p16 ha hM) with ⟨w, hw, wX, wY⟩ | ⟨wX, wY⟩
      · exact Or.inl ⟨w, hw, fun post p => ⟨hi8, br_f c2 (od_xs' es (mX _ (br_f nM (nm_r (ea M hM) (nm_r (nI_1 i) (wX post p))))))⟩, fun post p => mY post (nm_r (ea M hM) (nm_r (nI_1 i) (wY post p)))⟩
      · exact Or.inr ⟨fun post p => ⟨hi8, br_f c2 (od_xs' es (mX _ (br_f nM (nm_r (ea M hM) (nm_r (nI_1 i) (wX post p))))))⟩, fun post p => mY post (nm_r (ea M hM) (nm_r (nI_1 i) (wY post p)))⟩
    generalize od_sl t i = a at *
    have n1 : (1 : Int32) = nI 1 := rfl
    have k4 : ∀ {A B : Prop}, A → B → A := fun a _ => a
    rcases (show a = 0 ∨ a = 1 ∨ a = 2 ∨ a = 3 ∨ a = 4 ∨ 4 < a by omega) with rfl | rfl | rfl | rfl | rfl | h5
    · exact fin 0 (by decide) (fun _ p => od_mx0 hv p) (fun post p => br_f c1 (br_f h3 (nm_r es (br_f (by decide) (br_f (by decide) (br_f (by decide) (br_f (by decide) p)))))))
    · exact fin (od_sl D 0) (od_sl_lt _ _) (fun _ p => od_mx1 hv hD eD p) (fun post p => br_f c1 (br_f h3 (nm_r es (br_t (by decide) (nm_r (od_slot0 (by omega)) p)))))
    · by_cases hb8 : b = 8
      · subst hb8
        rcases hk with hk | hk
        · have h1 : ¬ ck = 1 := by rw [hk]; decide
          exact fin 0 (by decide) (fun _ p => od_mx2a hv rfl (br_t hk p)) (fun post p => br_f c1 (br_f h3 (nm_r es (br_f (by decide) (br_f (by decide) (br_f (by decide) (br_t (by decide) (br_t rfl (br_f h1 p)))))))))
        · have h0 : ¬ ck = 0 := by rw [hk]; decide
          exact Or.inr ⟨fun post p => ⟨hi8, br_f c2 (od_xs' es (od_mx2a hv rfl (br_f h0 (br_t rfl p))))⟩, fun post p => br_f c1 (br_f h3 (nm_r es (br_f (by decide) (br_f (by decide) (br_f (by decide) (br_t (by decide) (br_t rfl (br_t hk p))))))))⟩
      · have b8 : ¬ nI b = 8 := od_ne (k := 8) hb8 (by omega) (by decide)
        by_cases y0 : y = 0
        · have e0 : nI y = 0 := by rw [y0]; rfl
          exact fin 2 (by decide) (fun _ p => od_mx2 hv b8 e0 p) (fun post p => br_f c1 (br_f h3 (nm_r es (br_f (by decide) (br_f (by decide) (br_f (by decide) (br_t (by decide) (br_f b8 (br_t e0 p)))))))))
        · have e0 : ¬ nI y = 0 := od_ne (k := 0) y0 (by omega) (by decide)
          rcases hk with hk | hk
          · have h1 : ¬ ck = 1 := by rw [hk]; decide
            exact fin 0 (by decide) (fun _ p => od_mx2b hv b8 e0 (br_t hk p)) (fun post p => br_f c1 (br_f h3 (nm_r es (br_f (by decide) (br_f (by decide) (br_f (by decide) (br_t (by decide) (br_f b8 (br_f e0 (br_f h1 p))))))))))
          · have h0 : ¬ ck = 0 := by rw [hk]; decide
            exact Or.inr ⟨fun post p => ⟨hi8, br_f c2 (od_xs' es (od_mx2b hv b8 e0 (br_f h0 (br_t rfl p))))⟩, fun post p => br_f c1 (br_f h3 (nm_r es (br_f (by decide) (br_f (by decide) (br_f (by decide) (br_t (by decide) (br_f b8 (br_f e0 (br_t hk p)))))))))⟩
    · exact fin (od_sl D 1) (od_sl_lt _ _) (fun _ p => od_mx3 hv hD eD p) (fun post p => br_f c1 (br_f h3 (nm_r es (br_f (by decide) (br_t (by decide) (nm_r (od_slot1 (by omega)) p))))))
    · exact fin (od_sl D 2) (od_sl_lt _ _) (fun _ p => od_mx4 hv hD eD p) (fun post p => br_f c1 (br_f h3 (nm_r es (br_f (by decide) (br_f (by decide) (br_t (by decide) (nm_r (od_slot2 (by omega)) p)))))))
    · exact fin 0 (by decide) (fun _ p => od_mx5 h5 hl hv p) (fun post p => br_f c1 (br_f h3 (nm_r es (br_f (od_ne (k := 1) (by omega) (by omega) (by decide)) (br_f (od_ne (k := 3) (by omega) (by omega) (by decide)) (br_f (od_ne (k := 4) (by omega) (by omega) (by decide)) (br_f (od_ne (k := 2) (by omega) (by omega) (by decide)) p)))))))
theorem od_subst (hP : od_P ck cc fm fk dX pT dY sc) {b y : Nat} {t : Int32} (hb : b < cc ∨ b = 8) (hy : y < 8) (hT : od_T cc fm t) (hD : od_T cc fm (dX (b * 8 + y))) :
    (∃ w, w < 65536 ∧ (∀ post : Int32 → Prop, post (nI w) → wpX_substitute post (nI ca, st, er, ck, nI cc, nI oc, nI fc, fm, fk, ft, rt, dX, sc, so, sa, sb, oC, oO, oF, fB, fP, fR, fV, fL) t (nI b) (nI y)) ∧ (∀ post : Int32 → Prop, post (nI w) → wpY_subst post (nI ca, st, er, nI cc, ck, nI oc, nI fc, fm, fk, ft, pT, rt, dY, sc, so, sa, sb, oC, oO, oF, fB, fP, fR, fV, fL) t (nI b) (nI y))) ∨
    ((∀ post : Int32 → Prop, post (-1) → wpX_substitute post (nI ca, st, er, ck, nI cc, nI oc, nI fc, fm, fk, ft, rt, dX, sc, so, sa, sb, oC, oO, oF, fB, fP, fR, fV, fL) t (nI b) (nI y)) ∧ (∀ post : Int32 → Prop, post (-6) → wpY_subst post (nI ca, st, er, nI cc, ck, nI oc, nI fc, fm, fk, ft, pT, rt, dY, sc, so, sa, sb, oC, oO, oF, fB, fP, fR, fV, fL) t (nI b) (nI y))) := by
  obtain ⟨n, m, hn, rfl, hc, hm, em, hs⟩ := hT
  obtain ⟨D, m', hDl, eD, hc', hm', em', hs'⟩ := hD
  have hck := hP.1
  have hcc := hP.2.1
  have e15 : nI n &&& 15 = nI (n % 16) := od_and15 (by omega)
  have e7 : nI (n % 16) &&& 7 = nI (n % 16) := od_and7' (by omega)
  have i7 : vp_in (nI (n % 16) &&& 7) 8 := by rw [e7]; exact vp_in_nI (by omega) (by decide)
  have ef7 : fm (nI (n % 16) &&& 7).toNatClampNeg = nI m := by rw [e7, nI_clamp (by omega)]; exact em
  rcases od_sub (ca := ca) (cc := cc) (oc := oc) (fc := fc) (st := st) (er := er) (ck := ck) (fm := fm) (fk := fk) (ft := ft) (rt := rt) (dX := dX) (pT := pT) (dY := dY) (sc := sc) (so := so) (sa := sa) (sb := sb) (oC := oC) (oO := oO) (oF := oF) (fB := fB) (fP := fP) (fR := fR) (fV := fV) (fL := fL) (t := n) (b := b) (y := y) (D := D) (c := n % 16) (m := m) hck hn (by omega) hm em (by omega) hy (by omega) hDl eD (m + 1) 0 (n % 16) (by omega) (by simp; omega) with ⟨w, hw, wX, wY⟩ | ⟨wX, wY⟩
  · refine Or.inl ⟨w, hw, fun post p => nm_r e15 ⟨m + 2, wX post p⟩, fun post p => ?_⟩
    unfold wpY_subst
    refine od_decl hP hb hy ?_
    rw [eD]
    exact nm_r e15 ⟨i7, nm_r ef7 ⟨m + 2, wY post p⟩⟩
  · refine Or.inr ⟨fun post p => nm_r e15 ⟨m + 2, wX post p⟩, fun post p => ?_⟩
    unfold wpY_subst
    refine od_decl hP hb hy ?_
    rw [eD]
    exact nm_r e15 ⟨i7, nm_r ef7 ⟨m + 2, wY post p⟩⟩
end
section
variable {ca cc oc fc : Nat} {st er ck : Int32} {fm fk ft rt dX pT dY sc so sa sb oC oO oF fB fP fR fV fL : Nat → Int32}
/-- a statement as a compiled body holds it -/
def od_ok (cc : Nat) (fm : Nat → Int32) (b : Nat) (o a x : Int32) : Prop :=
  ∃ a', a' < 8 ∧ a = nI a' ∧ ((o = 1 ∧ od_T cc fm x) ∨ (o = 2 ∧ ∃ y, y < 8 ∧ x = nI y) ∨ (o = 3 ∧ ∃ y, y < 32 ∧ x = nI y) ∨ (o = 4 ∧ ∃ y, y < 32 ∧ x = nI y) ∨ (o = 5 ∧ ∃ y, y < 64 ∧ x = nI y) ∨ o = 6 ∨ (o = 7 ∧ b ≠ 8))
/-- all declared types are types -/
def od_V (cc : Nat) (fm fk ft rt dX : Nat → Int32) : Prop :=
  (∀ b v, (b < cc ∨ b = 8) → v < 8 → od_T cc fm (dX (b * 8 + v))) ∧ (∀ c f n, c < cc → fk c = nI n → n ≤ 4 → f < n → od_T cc fm (ft (c * 4 + f))) ∧ (∀ c, c < cc → od_T cc fm (rt c))
theorem od_ge1 {x : Int32} (h : ¬ x < 1) : ∃ o : Nat, 1 ≤ o ∧ o < 2 ^ 31 ∧ x = nI o := by
  have z : ¬ x < 0 := fun z => h (Int32.lt_trans z (by decide))
  obtain ⟨j, hj, rfl⟩ := nI_of z
  by_cases e : j = 0
  · subst e; exact absurd (by decide) h
  · exact ⟨j, by omega, hj, rfl⟩
theorem od_m6 {post : Int32 → Prop} (p : post 6) : post (-(-6)) := by
  rw [show (-(-6) : Int32) = 6 from by decide]; exact p
theorem od_t2 {b o a : Nat} (hb : b ≤ 8) (ha : a < 8) (h7 : o ≤ 7) :
    ((b = 8 → o ≠ 7) ∧ (∀ Q : Int32 → Prop, Q 0 → wX_checkOperands_108 Q (nI b) (nI o) (nI a) (nI ca) st er ck (nI cc) (nI oc) (nI fc) fm fk ft rt dX sc so sa sb oC oO oF fB fP fR fV fL) ∧ (∀ (post : Int32 → Prop) (B : Int32), wY_checkStmt_151 post (nI b) (nI o) (nI a) B (nI ca) st er (nI cc) ck (nI oc) (nI fc) fm fk ft pT rt dY sc so sa sb oC oO oF fB fP fR fV fL → wY_checkStmt_110 post (nI b) (nI o) (nI a) B (nI ca) st er (nI cc) ck (nI oc) (nI fc) fm fk ft pT rt dY sc so sa sb oC oO oF fB fP fR fV fL)) ∨
    ((∀ Q : Int32 → Prop, Q 4 → wX_checkOperands_108 Q (nI b) (nI o) (nI a) (nI ca) st er ck (nI cc) (nI oc) (nI fc) fm fk ft rt dX sc so sa sb oC oO oF fB fP fR fV fL) ∧ (∀ (post : Int32 → Prop) (B : Int32), post 4 → wY_checkStmt_110 post (nI b) (nI o) (nI a) B (nI ca) st er (nI cc) ck (nI oc) (nI fc) fm fk ft pT rt dY sc so sa sb oC oO oF fB fP fR fV fL)) := by
  have z : ¬ (1 : Int32) = 0 := by decide
  by_cases hb8 : b = 8
  · subst hb8
    by_cases h : o = 7
    · subst h
      exact Or.inr ⟨fun Q p => br_t rfl (br_t rfl p), fun post B p => br_t rfl (br_t rfl p)⟩
    · have n7 : ¬ nI o = 7 := od_ne (k := 7) h (by omega) (by decide)
      exact Or.inl ⟨fun _ => h, fun Q p => br_t rfl (br_f n7 p), fun post B p => br_t rfl (br_f n7 (br_t rfl p))⟩
  · have b8 : ¬ nI b = 8 := od_ne (k := 8) hb8 (by omega) (by decide)
    by_cases h4 : o = 4
    · subst h4
      by_cases a0 : a = 0
      · subst a0
        exact Or.inl ⟨fun h => absurd h hb8, fun Q p => br_f b8 (br_t rfl (br_t rfl (br_t rfl p))), fun post B p => br_f b8 (br_f b8 (br_t rfl (br_t rfl p)))⟩
      · have na : ¬ nI a = 0 := od_ne (k := 0) a0 (by omega) (by decide)
        exact Or.inl ⟨fun h => absurd h hb8, fun Q p => br_f b8 (br_t rfl (br_f na p)), fun post B p => br_f b8 (br_f b8 (br_f na p))⟩
    have n4 : ¬ nI o = 4 := od_ne (k := 4) h4 (by omega) (by decide)
    by_cases h : o = 7
    · subst h
      by_cases a0 : a = 0
      · subst a0
        exact Or.inl ⟨fun h => absurd h hb8, fun Q p => br_f b8 (br_f n4 (br_t rfl (br_t rfl (br_t rfl p)))), fun post B p => br_f b8 (br_f b8 (br_t rfl (br_f n4 (br_t rfl p))))⟩
      · have na : ¬ nI a = 0 := od_ne (k := 0) a0 (by omega) (by decide)
        exact Or.inl ⟨fun h => absurd h hb8, fun Q p => br_f b8 (br_f n4 (br_t rfl (br_f na p))), fun post B p => br_f b8 (br_f b8 (br_f na p))⟩
    have n7 : ¬ nI o = 7 := od_ne (k := 7) h (by omega) (by decide)
    by_cases a0 : a = 0
    · subst a0
      exact Or.inr ⟨fun Q p => br_f b8 (br_f n4 (br_f n7 (br_t rfl (br_f z p)))), fun post B p => br_f b8 (br_f b8 (br_t rfl (br_f n4 (br_f n7 p))))⟩
    · have na : ¬ nI a = 0 := od_ne (k := 0) a0 (by omega) (by decide)
      exact Or.inl ⟨fun h => absurd h hb8, fun Q p => br_f b8 (br_f n4 (br_f n7 (br_f na p))), fun post B p => br_f b8 (br_f b8 (br_f na p))⟩
theorem od_t1 {b o a : Nat} (B : Int32) (hb : b ≤ 8) (ha : a < 8) (h7 : o ≤ 7) :
    ((b = 8 → o ≠ 7) ∧ ((o = 3 ∨ o = 4 ∨ o = 5) → ∃ y, y < 64 ∧ B = nI y) ∧ (∀ Q : Int32 → Prop, Q 0 → wX_checkOperands_67 Q (nI b) (nI o) (nI a) B (nI ca) st er ck (nI cc) (nI oc) (nI fc) fm fk ft rt dX sc so sa sb oC oO oF fB fP fR fV fL) ∧ (∀ post : Int32 → Prop, wY_checkStmt_151 post (nI b) (nI o) (nI a) B (nI ca) st er (nI cc) ck (nI oc) (nI fc) fm fk ft pT rt dY sc so sa sb oC oO oF fB fP fR fV fL → wY_checkStmt_78 post (nI b) (nI o) (nI a) B (nI ca) st er (nI cc) ck (nI oc) (nI fc) fm fk ft pT rt dY sc so sa sb oC oO oF fB fP fR fV fL)) ∨
    ((∀ Q : Int32 → Prop, Q 4 → wX_checkOperands_67 Q (nI b) (nI o) (nI a) B (nI ca) st er ck (nI cc) (nI oc) (nI fc) fm fk ft rt dX sc so sa sb oC oO oF fB fP fR fV fL) ∧ (∀ post : Int32 → Prop, post 4 → wY_checkStmt_78 post (nI b) (nI o) (nI a) B (nI ca) st er (nI cc) ck (nI oc) (nI fc) fm fk ft pT rt dY sc so sa sb oC oO oF fB fP fR fV fL)) := by
  have z : ¬ (1 : Int32) = 0 := by decide
  by_cases hp : o = 3 ∨ o = 4 ∨ o = 5
  · have eX : ∀ Q : Int32 → Prop, wX_checkOperands_87 Q (nI b) (nI o) (nI a) B 1 (nI ca) st er ck (nI cc) (nI oc) (nI fc) fm fk ft rt dX sc so sa sb oC oO oF fB fP fR fV fL → wX_checkOperands_67 Q (nI b) (nI o) (nI a) B (nI ca) st er ck (nI cc) (nI oc) (nI fc) fm fk ft rt dX sc so sa sb oC oO oF fB fP fR fV fL := by
      intro Q p
      rcases hp with rfl | rfl | rfl
      · exact br_t rfl p
      · exact br_f (by decide) (br_t rfl p)
      · exact br_f (by decide) (br_f (by decide) (br_t rfl p))
    have eY : ∀ post : Int32 → Prop, wY_checkStmt_96 post (nI b) (nI o) (nI a) B (nI ca) st er (nI cc) ck (nI oc) (nI fc) fm fk ft pT rt dY sc so sa sb oC oO oF fB fP fR fV fL → wY_checkStmt_78 post (nI b) (nI o) (nI a) B (nI ca) st er (nI cc) ck (nI oc) (nI fc) fm fk ft pT rt dY sc so sa sb oC oO oF fB fP fR fV fL := by
      intro Q p
      rcases hp with rfl | rfl | rfl
      · exact br_t rfl p
      · exact br_f (by decide) (br_t rfl p)
      · exact br_f (by decide) (br_f (by decide) (br_t rfl p))
    by_cases h0 : B < 0
    · exact Or.inr ⟨fun Q p => eX Q (br_f z (br_t h0 p)), fun post p => eY post (br_t h0 p)⟩
    obtain ⟨y, hy, rfl⟩ := nI_of h0
    by_cases h64 : y < 64
    · have l1 : nI y < 64 := nI_lt (b := 64) h64 (by decide)
      have l2 : nI y ≤ 63 := nI_le (b := 63) (by omega) (by decide)
      rcases od_t2 (ca := ca) (cc := cc) (oc := oc) (fc := fc) (st := st) (er := er) (ck := ck) (fm := fm) (fk := fk) (ft := ft) (rt := rt) (dX := dX) (pT := pT) (dY := dY) (sc := sc) (so := so) (sa := sa) (sb := sb) (oC := oC) (oO := oO) (oF := oF) (fB := fB) (fP := fP) (fR := fR) (fV := fV) (fL := fL) hb ha h7 with ⟨g, kX, kY⟩ | ⟨kX, kY⟩
      · exact Or.inl ⟨g, fun _ => ⟨y, h64, rfl⟩, fun Q p => eX Q (br_f z (br_f h0 (br_t l1 (kX Q p)))), fun post p => eY post (br_f h0 (br_t l2 (kY post _ p)))⟩
      · exact Or.inr ⟨fun Q p => eX Q (br_f z (br_f h0 (br_t l1 (kX Q p)))), fun post p => eY post (br_f h0 (br_t l2 (kY post _ p)))⟩
    · have l1 : ¬ nI y < 64 := nI_nlt (b := 64) (by omega) (by omega)
      have l2 : ¬ nI y ≤ 63 := nI_ge (a := 63) (by omega) (by omega)
      exact Or.inr ⟨fun Q p => eX Q (br_f z (br_f h0 (br_f l1 p))), fun post p => eY post (br_f h0 (br_f l2 p))⟩
  · have n3 : ¬ nI o = 3 := od_ne (k := 3) (by omega) (by omega) (by decide)
    have n4 : ¬ nI o = 4 := od_ne (k := 4) (by omega) (by omega) (by decide)
    have n5 : ¬ nI o = 5 := od_ne (k := 5) (by omega) (by omega) (by decide)
    rcases od_t2 (ca := ca) (cc := cc) (oc := oc) (fc := fc) (st := st) (er := er) (ck := ck) (fm := fm) (fk := fk) (ft := ft) (rt := rt) (dX := dX) (pT := pT) (dY := dY) (sc := sc) (so := so) (sa := sa) (sb := sb) (oC := oC) (oO := oO) (oF := oF) (fB := fB) (fP := fP) (fR := fR) (fV := fV) (fL := fL) hb ha h7 with ⟨g, kX, kY⟩ | ⟨kX, kY⟩
    · exact Or.inl ⟨g, fun h => absurd h hp, fun Q p => br_f n3 (br_f n4 (br_f n5 (br_t rfl (kX Q p)))), fun post p => br_f n3 (br_f n4 (br_f n5 (kY post _ p)))⟩
    · exact Or.inr ⟨fun Q p => br_f n3 (br_f n4 (br_f n5 (br_t rfl (kX Q p)))), fun post p => br_f n3 (br_f n4 (br_f n5 (kY post _ p)))⟩
theorem od_op {b s : Nat} (hb : b ≤ 8) (hs : s < 16) :
    (∃ o a, 1 ≤ o ∧ o ≤ 7 ∧ a < 8 ∧ so (b * 16 + s) = nI o ∧ sa (b * 16 + s) = nI a ∧ (b = 8 → o ≠ 7) ∧ (o = 2 → ∃ y, y < 8 ∧ sb (b * 16 + s) = nI y) ∧ ((o = 3 ∨ o = 4 ∨ o = 5) → ∃ y, y < 64 ∧ sb (b * 16 + s) = nI y) ∧
      (∀ Q : Int32 → Prop, Q 0 → wpX_checkOperands Q (nI ca, st, er, ck, nI cc, nI oc, nI fc, fm, fk, ft, rt, dX, sc, so, sa, sb, oC, oO, oF, fB, fP, fR, fV, fL) (nI b) (nI (b * 16 + s))) ∧ (∀ post : Int32 → Prop, wY_checkStmt_151 post (nI b) (nI o) (nI a) (sb (b * 16 + s)) (nI ca) st er (nI cc) ck (nI oc) (nI fc) fm fk ft pT rt dY sc so sa sb oC oO oF fB fP fR fV fL → wpY_checkStmt post (nI ca, st, er, nI cc, ck, nI oc, nI fc, fm, fk, ft, pT, rt, dY, sc, so, sa, sb, oC, oO, oF, fB, fP, fR, fV, fL) (nI b) (nI s))) ∨
    ((∀ Q : Int32 → Prop, Q 4 → wpX_checkOperands Q (nI ca, st, er, ck, nI cc, nI oc, nI fc, fm, fk, ft, rt, dX, sc, so, sa, sb, oC, oO, oF, fB, fP, fR, fV, fL) (nI b) (nI (b * 16 + s))) ∧ (∀ post : Int32 → Prop, post 4 → wpY_checkStmt post (nI ca, st, er, nI cc, ck, nI oc, nI fc, fm, fk, ft, pT, rt, dY, sc, so, sa, sb, oC, oO, oF, fB, fP, fR, fV, fL) (nI b) (nI s))) := by
  have v : vp_in (nI (b * 16 + s)) 144 := vp_in_nI (by omega) (by decide)
  have ec : (nI (b * 16 + s)).toNatClampNeg = b * 16 + s := nI_clamp (by omega)
  obtain ⟨O, eO⟩ : ∃ O, so (b * 16 + s) = O := ⟨_, rfl⟩
  obtain ⟨A, eA⟩ : ∃ A, sa (b * 16 + s) = A := ⟨_, rfl⟩
  obtain ⟨B, eB⟩ : ∃ B, sb (b * 16 + s) = B := ⟨_, rfl⟩
  have fO : so (nI (b * 16 + s)).toNatClampNeg = O := by rw [ec]; exact eO
  have fA : sa (nI (b * 16 + s)).toNatClampNeg = A := by rw [ec]; exact eA
  have fB' : sb (nI (b * 16 + s)).toNatClampNeg = B := by rw [ec]; exact eB
  have e16 := od_i16 b s
  by_cases h1 : O < 1
  · exact Or.inr ⟨fun Q p => ⟨v, nm_r fO ⟨v, nm_r fA ⟨v, nm_r fB' (br_t h1 p)⟩⟩⟩, fun post p => nm_r e16 ⟨v, nm_r fO ⟨v, nm_r fA ⟨v, nm_r fB' (br_t h1 p)⟩⟩⟩⟩
  obtain ⟨o, ho1, ho, rfl⟩ := od_ge1 h1
  by_cases h7 : 7 < o
  · have g7 : (7 : Int32) < nI o := nI_lt (a := 7) h7 ho
    exact Or.inr ⟨fun Q p => ⟨v, nm_r fO ⟨v, nm_r fA ⟨v, nm_r fB' (br_f h1 (br_t g7 p))⟩⟩⟩, fun post p => nm_r e16 ⟨v, nm_r fO ⟨v, nm_r fA ⟨v, nm_r fB' (br_f h1 (br_t g7 p))⟩⟩⟩⟩
  have g7 : ¬ (7 : Int32) < nI o := nI_nlt (a := 7) (by omega) (by decide)
  by_cases a0 : A < 0
  · exact Or.inr ⟨fun Q p => ⟨v, nm_r fO ⟨v, nm_r fA ⟨v, nm_r fB' (br_f h1 (br_f g7 (br_t a0 p)))⟩⟩⟩, fun post p => nm_r e16 ⟨v, nm_r fO ⟨v, nm_r fA ⟨v, nm_r fB' (br_f h1 (br_f g7 (br_t a0 p)))⟩⟩⟩⟩
  obtain ⟨a, ha, rfl⟩ := nI_of a0
  by_cases a8 : a < 8
  · have l1 : nI a < 8 := nI_lt (b := 8) a8 (by decide)
    have l2 : nI a ≤ 7 := nI_le (b := 7) (by omega) (by decide)
    by_cases o2 : o = 2
    · subst o2
      by_cases b0 : B < 0
      · exact Or.inr ⟨fun Q p => ⟨v, nm_r fO ⟨v, nm_r fA ⟨v, nm_r fB' (br_f h1 (br_f g7 (br_f a0 (br_t l1 (br_t rfl (br_t b0 p))))))⟩⟩⟩, fun post p => nm_r e16 ⟨v, nm_r fO ⟨v, nm_r fA ⟨v, nm_r fB' (br_f h1 (br_f g7 (br_f a0 (br_t l2 (br_t rfl (br_t b0 p))))))⟩⟩⟩⟩
      obtain ⟨y, hy, rfl⟩ := nI_of b0
      by_cases y8 : y < 8
      · have m1 : nI y < 8 := nI_lt (b := 8) y8 (by decide)
        have m2 : nI y ≤ 7 := nI_le (b := 7) (by omega) (by decide)
        rcases od_t1 (ca := ca) (cc := cc) (oc := oc) (fc := fc) (st := st) (er := er) (ck := ck) (fm := fm) (fk := fk) (ft := ft) (rt := rt) (dX := dX) (pT := pT) (dY := dY) (sc := sc) (so := so) (sa := sa) (sb := sb) (oC := oC) (oO := oO) (oF := oF) (fB := fB) (fP := fP) (fR := fR) (fV := fV) (fL := fL) (o := 2) (nI y) hb a8 (by decide) with ⟨g, g', kX, kY⟩ | ⟨kX, kY⟩
        · exact Or.inl ⟨2, a, by omega, by omega, a8, eO, eA, g, fun _ => ⟨y, y8, eB⟩, fun h => absurd h (by decide), fun Q p => ⟨v, nm_r fO ⟨v, nm_r fA ⟨v, nm_r fB' (br_f h1 (br_f g7 (br_f a0 (br_t l1 (br_t rfl (br_f b0 (br_t m1 (kX Q p))))))))⟩⟩⟩, fun post p => nm_r e16 ⟨v, nm_r fO ⟨v, nm_r fA ⟨v, nm_r fB' (br_f h1 (br_f g7 (br_f a0 (br_t l2 (br_t rfl (br_f b0 (br_t m2 (kY post (eB ▸ p)))))))))⟩⟩⟩⟩
        · exact Or.inr ⟨fun Q p => ⟨v, nm_r fO ⟨v, nm_r fA ⟨v, nm_r fB' (br_f h1 (br_f g7 (br_f a0 (br_t l1 (br_t rfl (br_f b0 (br_t m1 (kX Q p))))))))⟩⟩⟩, fun post p => nm_r e16 ⟨v, nm_r fO ⟨v, nm_r fA ⟨v, nm_r fB' (br_f h1 (br_f g7 (br_f a0 (br_t l2 (br_t rfl (br_f b0 (br_t m2 (kY post p))))))))⟩⟩⟩⟩
      · have m1 : ¬ nI y < 8 := nI_nlt (b := 8) (by omega) (by omega)
        have m2 : ¬ nI y ≤ 7 := nI_ge (a := 7) (by omega) (by omega)
        exact Or.inr ⟨fun Q p => ⟨v, nm_r fO ⟨v, nm_r fA ⟨v, nm_r fB' (br_f h1 (br_f g7 (br_f a0 (br_t l1 (br_t rfl (br_f b0 (br_f m1 p)))))))⟩⟩⟩, fun post p => nm_r e16 ⟨v, nm_r fO ⟨v, nm_r fA ⟨v, nm_r fB' (br_f h1 (br_f g7 (br_f a0 (br_t l2 (br_t rfl (br_f b0 (br_f m2 p)))))))⟩⟩⟩⟩
    · have n2 : ¬ nI o = 2 := od_ne (k := 2) o2 (by omega) (by decide)
      rcases od_t1 (ca := ca) (cc := cc) (oc := oc) (fc := fc) (st := st) (er := er) (ck := ck) (fm := fm) (fk := fk) (ft := ft) (rt := rt) (dX := dX) (pT := pT) (dY := dY) (sc := sc) (so := so) (sa := sa) (sb := sb) (oC := oC) (oO := oO) (oF := oF) (fB := fB) (fP := fP) (fR := fR) (fV := fV) (fL := fL) B hb a8 (o := o) (by omega) with ⟨g, g', kX, kY⟩ | ⟨kX, kY⟩
      · refine Or.inl ⟨o, a, by omega, by omega, a8, eO, eA, g, fun h => absurd h o2, fun h => ?_, fun Q p => ⟨v, nm_r fO ⟨v, nm_r fA ⟨v, nm_r fB' (br_f h1 (br_f g7 (br_f a0 (br_t l1 (br_f n2 (kX Q p))))))⟩⟩⟩, fun post p => nm_r e16 ⟨v, nm_r fO ⟨v, nm_r fA ⟨v, nm_r fB' (br_f h1 (br_f g7 (br_f a0 (br_t l2 (br_f n2 (kY post (eB ▸ p)))))))⟩⟩⟩⟩
        rw [eB]; exact g' h
      · exact Or.inr ⟨fun Q p => ⟨v, nm_r fO ⟨v, nm_r fA ⟨v, nm_r fB' (br_f h1 (br_f g7 (br_f a0 (br_t l1 (br_f n2 (kX Q p))))))⟩⟩⟩, fun post p => nm_r e16 ⟨v, nm_r fO ⟨v, nm_r fA ⟨v, nm_r fB' (br_f h1 (br_f g7 (br_f a0 (br_t l2 (br_f n2 (kY post p))))))⟩⟩⟩⟩
  · have l1 : ¬ nI a < 8 := nI_nlt (b := 8) (by omega) (by omega)
    have l2 : ¬ nI a ≤ 7 := nI_ge (a := 7) (by omega) (by omega)
    exact Or.inr ⟨fun Q p => ⟨v, nm_r fO ⟨v, nm_r fA ⟨v, nm_r fB' (br_f h1 (br_f g7 (br_f a0 (br_f l1 p))))⟩⟩⟩, fun post p => nm_r e16 ⟨v, nm_r fO ⟨v, nm_r fA ⟨v, nm_r fB' (br_f h1 (br_f g7 (br_f a0 (br_f l2 p))))⟩⟩⟩⟩
theorem od_fld (hP : od_P ck cc fm fk dX pT dY sc) (hV : od_V cc fm fk ft rt dX) {b h q : Nat} (hb : b < cc ∨ b = 8) (hh : h < 8) (hq : q < 8) (z : Int32) :
    ∃ c, c < cc ∧ dX (b * 8 + h) &&& 15 = nI c ∧ ∃ r : Int32, (r = 0 → q < 4) ∧ (∀ post : Int32 → Prop, post r → wpX_checkField post (nI ca, st, er, ck, nI cc, nI oc, nI fc, fm, fk, ft, rt, dX, sc, so, sa, sb, oC, oO, oF, fB, fP, fR, fV, fL) (nI b) (nI h) (nI q) z) ∧
      (∀ post : Int32 → Prop, post r → vp_in (nI c) 8 ∧ ((nI q < fk (nI c).toNatClampNeg → (vp_in ((nI c * 4) + nI q) 32 ∧ (wpY_subst (fun r_218 => (((0 ≤ r_218 → (wpY_match (fun r_245 => (post r_245)) (nI ca, st, er, nI cc, ck, nI oc, nI fc, fm, fk, ft, pT, rt, dY, sc, so, sa, sb, oC, oO, oF, fB, fP, fR, fV, fL) r_218 z)) ∧ (¬ 0 ≤ r_218 → (post (-r_218)))))) (nI ca, st, er, nI cc, ck, nI oc, nI fc, fm, fk, ft, pT, rt, dY, sc, so, sa, sb, oC, oO, oF, fB, fP, fR, fV, fL) (ft ((nI c * 4) + nI q).toNatClampNeg) (nI b) (nI h)))) ∧ (¬ nI q < fk (nI c).toNatClampNeg → (post 4)))) := by
  have hck := hP.1
  have hcc := hP.2.1
  have hfk := hP.2.2.2.1
  have hD := hV.1 b h hb hh
  obtain ⟨D, m, hDl, eD, hc, hm, em, hs⟩ := hV.1 b h hb hh
  have e15 : dX (b * 8 + h) &&& 15 = nI (D % 16) := by rw [eD]; exact od_and15 (by omega)
  refine ⟨D % 16, hc, e15, ?_⟩
  generalize D % 16 = c at *
  have hv : b * 8 + h < 72 := by omega
  have f15 : dX (nI b * 8 + nI h).toNatClampNeg &&& 15 = nI c := by rw [od_e8 (f := dX) hv rfl]; exact e15
  have vc : vp_in (nI c) 8 := vp_in_nI (by omega) (by decide)
  obtain ⟨n, hn, en⟩ := hfk c
  have efk : fk (nI c).toNatClampNeg = nI n := by rw [nI_clamp (by omega)]; exact en
  by_cases hqn : q < n
  · have l : nI q < fk (nI c).toNatClampNeg := by rw [efk]; exact nI_lt hqn (by omega)
    have v32 : vp_in (nI c * 4 + nI q) 32 := by rw [od_i4]; exact vp_in_nI (by omega) (by decide)
    have eft : ft (nI c * 4 + nI q).toNatClampNeg = ft (c * 4 + q) := by rw [od_i4, nI_clamp (by omega)]
    rcases od_subst (ca := ca) (cc := cc) (oc := oc) (fc := fc) (st := st) (er := er) (ck := ck) (fm := fm) (fk := fk) (ft := ft) (rt := rt) (dX := dX) (pT := pT) (dY := dY) (sc := sc) (so := so) (sa := sa) (sb := sb) (oC := oC) (oO := oO) (oF := oF) (fB := fB) (fP := fP) (fR := fR) (fV := fV) (fL := fL) hP hb hh (hV.2.1 c q n hc en hn hqn) hD with ⟨w, hw, wX, wY⟩ | ⟨wX, wY⟩
    · obtain ⟨r, rX, rY⟩ := od_match (ca := ca) (cc := cc) (oc := oc) (fc := fc) (st := st) (er := er) (ck := ck) (fm := fm) (fk := fk) (ft := ft) (rt := rt) (dX := dX) (pT := pT) (dY := dY) (sc := sc) (so := so) (sa := sa) (sb := sb) (oC := oC) (oO := oO) (oF := oF) (fB := fB) (fP := fP) (fR := fR) (fV := fV) (fL := fL) (s := w) (by omega) hck z
      refine ⟨r, fun _ => by omega, fun post p => ⟨od_v8 hv, nm_r f15 ⟨vc, br_t l ⟨v32, ?_⟩⟩⟩, fun post p => ⟨vc, br_t l ⟨v32, ?_⟩⟩⟩
      · rw [eft]; exact wX _ (rX _ p)
      · rw [eft]; exact wY _ (br_t (nI_pos' (by omega)) (rY _ p))
    · refine ⟨6, fun e => absurd e (by decide), fun post p => ⟨od_v8 hv, nm_r f15 ⟨vc, br_t l ⟨v32, ?_⟩⟩⟩, fun post p => ⟨vc, br_t l ⟨v32, ?_⟩⟩⟩
      · rw [eft]; exact wX _ (br_t rfl p)
      · rw [eft]; exact wY _ (br_f (by decide) (od_m6 p))
  · have l : ¬ nI q < fk (nI c).toNatClampNeg := by rw [efk]; exact nI_nlt (by omega) (by omega)
    exact ⟨4, fun e => absurd e (by decide), fun post p => ⟨od_v8 hv, nm_r f15 ⟨vc, br_f l p⟩⟩, fun post p => ⟨vc, br_f l p⟩⟩
end
section
variable {ca cc oc fc : Nat} {st er ck : Int32} {fm fk ft rt dX pT dY sc so sa sb oC oO oF fB fP fR fV fL : Nat → Int32}
theorem od_144 {b s : Nat} (hc : cc ≤ 8) (hb : b < cc ∨ b = 8) (hs : s < 16) : b * 16 + s < 144 := by omega
theorem od_72 {b a : Nat} (hc : cc ≤ 8) (hb : b < cc ∨ b = 8) (ha : a < 8) : b * 8 + a < 72 := by omega
theorem od_typ (hP : od_P ck cc fm fk dX pT dY sc) (hV : od_V cc fm fk ft rt dX) {b s o a : Nat} (hb : b < cc ∨ b = 8) (hs : s < 16) (o1 : 1 ≤ o) (o7 : o ≤ 7) (ha : a < 8) (eO : so (b * 16 + s) = nI o) (eA : sa (b * 16 + s) = nI a) (h87 : b = 8 → o ≠ 7) (h2 : o = 2 → ∃ y, y < 8 ∧ sb (b * 16 + s) = nI y) (h345 : (o = 3 ∨ o = 4 ∨ o = 5) → ∃ y, y < 64 ∧ sb (b * 16 + s) = nI y) :
    ∃ r : Int32, (r = 0 → od_ok cc fm b (so (b * 16 + s)) (sa (b * 16 + s)) (sb (b * 16 + s))) ∧ (∀ post : Int32 → Prop, post r → wpX_checkTyping post (nI ca, st, er, ck, nI cc, nI oc, nI fc, fm, fk, ft, rt, dX, sc, so, sa, sb, oC, oO, oF, fB, fP, fR, fV, fL) (nI b) (nI (b * 16 + s))) ∧
      (∀ post : Int32 → Prop, post r → wY_checkStmt_151 post (nI b) (nI o) (nI a) (sb (b * 16 + s)) (nI ca) st er (nI cc) ck (nI oc) (nI fc) fm fk ft pT rt dY sc so sa sb oC oO oF fB fP fR fV fL) := by
  have hck := hP.1
  have hcc := hP.2.1
  have hfm := hP.2.2.1
  have hd1 := hP.2.2.2.2.2.2.1
  have h144 := od_144 hcc hb hs
  have v : vp_in (nI (b * 16 + s)) 144 := vp_in_nI h144 (by decide)
  have ec : (nI (b * 16 + s)).toNatClampNeg = b * 16 + s := nI_clamp (Nat.lt_trans h144 (by decide))
  obtain ⟨B, eB⟩ : ∃ B, sb (b * 16 + s) = B := ⟨_, rfl⟩
  have fO : so (nI (b * 16 + s)).toNatClampNeg = nI o := by rw [ec]; exact eO
  have fA : sa (nI (b * 16 + s)).toNatClampNeg = nI a := by rw [ec]; exact eA
  have fB' : sb (nI (b * 16 + s)).toNatClampNeg = B := by rw [ec]; exact eB
  rw [eO, eA, eB]
  rw [eB] at h2 h345
  obtain ⟨T, mT, hT, eT, -⟩ := hV.1 b a hb ha
  have hva : b * 8 + a < 72 := od_72 hcc hb ha
  have fT : dX (nI b * 8 + nI a).toNatClampNeg = nI T := od_e8 hva eT
  have z8 : ¬ (8 : Int32) = 0 := by decide
  rcases (show o = 1 ∨ o = 2 ∨ o = 3 ∨ o = 4 ∨ o = 5 ∨ o = 6 ∨ o = 7 by omega) with rfl | rfl | rfl | rfl | rfl | rfl | rfl
  · obtain ⟨r, rT, rX, rY⟩ := od_type (ca := ca) (cc := cc) (oc := oc) (fc := fc) (st := st) (er := er) (ck := ck) (fm := fm) (fk := fk) (ft := ft) (rt := rt) (dX := dX) (pT := pT) (dY := dY) (sc := sc) (so := so) (sa := sa) (sb := sb) (oC := oC) (oO := oO) (oF := oF) (fB := fB) (fP := fP) (fR := fR) (fV := fV) (fL := fL) (b := b) B hcc hfm (by omega) hck
    by_cases hr : r = 0
    · obtain ⟨n, m, hn, eBn, -⟩ := rT hr
      subst eBn
      obtain ⟨q, qX, qY⟩ := od_match (ca := ca) (cc := cc) (oc := oc) (fc := fc) (st := st) (er := er) (ck := ck) (fm := fm) (fk := fk) (ft := ft) (rt := rt) (dX := dX) (pT := pT) (dY := dY) (sc := sc) (so := so) (sa := sa) (sb := sb) (oC := oC) (oO := oO) (oF := oF) (fB := fB) (fP := fP) (fR := fR) (fV := fV) (fL := fL) (s := n) (by omega) hck (nI T)
      refine ⟨q, fun _ => ⟨a, ha, rfl, Or.inl ⟨rfl, rT hr⟩⟩, fun post p => ⟨v, nm_r fA ⟨v, nm_r fB' ⟨z8, nm_e ⟨z8, nm_e ⟨od_v8 hva, nm_r fT ⟨v, nm_r fO (br_f (by decide) (br_f (by decide) (br_t rfl (rX _ (br_t hr (qX _ p))))))⟩⟩⟩⟩⟩⟩, fun post p => ?_⟩
      unfold wY_checkStmt_151
      refine od_decl hP hb ha ?_
      rw [eT]
      exact br_t rfl (rY _ (br_t hr (qY _ p)))
    · refine ⟨r, fun h => absurd h hr, fun post p => ⟨v, nm_r fA ⟨v, nm_r fB' ⟨z8, nm_e ⟨z8, nm_e ⟨od_v8 hva, nm_r fT ⟨v, nm_r fO (br_f (by decide) (br_f (by decide) (br_t rfl (rX _ (br_f hr p)))))⟩⟩⟩⟩⟩⟩, fun post p => ?_⟩
      unfold wY_checkStmt_151
      refine od_decl hP hb ha ?_
      rw [eT]
      exact br_t rfl (rY _ (br_f hr p))
  · obtain ⟨y, hy, rfl⟩ := h2 rfl
    obtain ⟨S, mS, hS, eS, -⟩ := hV.1 b y hb hy
    have hvy : b * 8 + y < 72 := by omega
    obtain ⟨q, qX, qY⟩ := od_match (ca := ca) (cc := cc) (oc := oc) (fc := fc) (st := st) (er := er) (ck := ck) (fm := fm) (fk := fk) (ft := ft) (rt := rt) (dX := dX) (pT := pT) (dY := dY) (sc := sc) (so := so) (sa := sa) (sb := sb) (oC := oC) (oO := oO) (oF := oF) (fB := fB) (fP := fP) (fR := fR) (fV := fV) (fL := fL) (s := S) (by omega) hck (nI T)
    refine ⟨q, fun _ => ⟨a, ha, rfl, Or.inr (Or.inl ⟨rfl, y, hy, rfl⟩)⟩, fun post p => ⟨v, nm_r fA ⟨v, nm_r fB' ⟨z8, nm_e ⟨z8, nm_e ⟨od_v8 hva, nm_r fT ⟨v, nm_r fO (br_f (by decide) (br_f (by decide) (br_f (by decide) (br_t rfl ⟨od_v8 hvy, ?_⟩))))⟩⟩⟩⟩⟩⟩, fun post p => ?_⟩
    · rw [od_e8 hvy eS]; exact qX _ p
    · unfold wY_checkStmt_151
      refine od_decl hP hb ha ?_
      rw [eT]
      refine br_f (by decide) (br_t rfl (od_decl hP hb hy ?_))
      rw [eS]; exact qY _ p
  · obtain ⟨y, hy, rfl⟩ := h345 (by omega)
    obtain ⟨c, hc, e15, r, r4, rX, rY⟩ := od_fld (ca := ca) (cc := cc) (oc := oc) (fc := fc) (st := st) (er := er) (ck := ck) (fm := fm) (fk := fk) (ft := ft) (rt := rt) (dX := dX) (pT := pT) (dY := dY) (sc := sc) (so := so) (sa := sa) (sb := sb) (oC := oC) (oO := oO) (oF := oF) (fB := fB) (fP := fP) (fR := fR) (fV := fV) (fL := fL) hP hV (h := y % 8) (q := y / 8) hb (by omega) (by omega) (nI T)
    refine ⟨r, fun h => ⟨a, ha, rfl, Or.inr (Or.inr (Or.inl ⟨rfl, y, by have := r4 h; omega, rfl⟩))⟩, fun post p => ⟨v, nm_r fA ⟨v, nm_r fB' ⟨z8, nm_r (od_rm (by omega)) ⟨z8, nm_r (od_dv (by omega)) ⟨od_v8 hva, nm_r fT ⟨v, nm_r fO (br_f (by decide) (br_f (by decide) (br_f (by decide) (br_f (by decide) (br_t rfl (rX _ p))))))⟩⟩⟩⟩⟩⟩, fun post p => ?_⟩
    unfold wY_checkStmt_151
    refine od_decl hP hb ha ?_
    rw [eT]
    refine br_f (by decide) (br_f (by decide) (br_f (by decide) (br_f (by decide) (nm_r (od_and7 (by omega)) (nm_r (od_q (by omega)) (od_decl hP hb (by omega) (br_t rfl ?_)))))))
    exact nm_r e15 (br_t (nI_lt hc (by omega)) (br_t rfl (rY _ p)))
  · obtain ⟨y, hy, rfl⟩ := h345 (by omega)
    have hvy : b * 8 + y % 8 < 72 := by omega
    obtain ⟨c, hc, e15, r, r4, rX, rY⟩ := od_fld (ca := ca) (cc := cc) (oc := oc) (fc := fc) (st := st) (er := er) (ck := ck) (fm := fm) (fk := fk) (ft := ft) (rt := rt) (dX := dX) (pT := pT) (dY := dY) (sc := sc) (so := so) (sa := sa) (sb := sb) (oC := oC) (oO := oO) (oF := oF) (fB := fB) (fP := fP) (fR := fR) (fV := fV) (fL := fL) hP hV (h := a) (q := y / 8) hb ha (by omega) (dX (b * 8 + y % 8))
    refine ⟨r, fun h => ⟨a, ha, rfl, Or.inr (Or.inr (Or.inr (Or.inl ⟨rfl, y, by have := r4 h; omega, rfl⟩)))⟩, fun post p => ⟨v, nm_r fA ⟨v, nm_r fB' ⟨z8, nm_r (od_rm (by omega)) ⟨z8, nm_r (od_dv (by omega)) ⟨od_v8 hva, nm_r fT ⟨v, nm_r fO (br_f (by decide) (br_f (by decide) (br_f (by decide) (br_f (by decide) (br_f (by decide) (br_t rfl ⟨od_v8 hvy, ?_⟩))))))⟩⟩⟩⟩⟩⟩, fun post p => ?_⟩
    · rw [od_e8 (f := dX) hvy rfl]; exact rX _ p
    · unfold wY_checkStmt_151
      refine od_decl hP hb ha ?_
      refine br_f (by decide) (br_f (by decide) (br_f (by decide) (br_f (by decide) (nm_r (od_and7 (by omega)) (nm_r (od_q (by omega)) (od_decl hP hb (by omega) (br_f (by decide) (br_f (by decide) ?_))))))))
      exact nm_r e15 (br_t (nI_lt hc (by omega)) (rY _ p))
  · obtain ⟨y, hy, rfl⟩ := h345 (by omega)
    have hvy : b * 8 + y % 8 < 72 := by omega
    have hvq : b * 8 + y / 8 < 72 := by omega
    have hDT := hV.1 b (y % 8) hb (by omega)
    obtain ⟨D, mD, hD, eD, hc, -⟩ := hV.1 b (y % 8) hb (by omega)
    have e15 : dX (b * 8 + y % 8) &&& 15 = nI (D % 16) := by rw [eD]; exact od_and15 (by omega)
    generalize D % 16 = c at *
    have f15 : dX (nI b * 8 + nI (y % 8)).toNatClampNeg &&& 15 = nI c := by rw [od_e8 (f := dX) hvy rfl]; exact e15
    have vc : vp_in (nI c) 8 := vp_in_nI (by omega) (by decide)
    have ecc : (nI c).toNatClampNeg = c := nI_clamp (by omega)
    have v1 : vp_in (nI c * 8 + 1) 72 := by rw [od_i81]; exact vp_in_nI (by omega) (by decide)
    have e1 : dX (nI c * 8 + 1).toNatClampNeg = dX (c * 8 + 1) := by rw [od_i81, nI_clamp (by omega)]
    have eq : dX (nI b * 8 + nI (y / 8)).toNatClampNeg = dX (b * 8 + y / 8) := od_e8 hvq rfl
    have lc : nI c < nI cc := nI_lt hc (by omega)
    have frX : ∀ post : Int32 → Prop, wpX_checkCall (fun r => post r) (nI ca, st, er, ck, nI cc, nI oc, nI fc, fm, fk, ft, rt, dX, sc, so, sa, sb, oC, oO, oF, fB, fP, fR, fV, fL) (nI b) (nI (y % 8)) (dX (b * 8 + y / 8)) (nI T) → wpX_checkTyping post (nI ca, st, er, ck, nI cc, nI oc, nI fc, fm, fk, ft, rt, dX, sc, so, sa, sb, oC, oO, oF, fB, fP, fR, fV, fL) (nI b) (nI (b * 16 + s)) := by
      intro post p
      refine ⟨v, nm_r fA ⟨v, nm_r fB' ⟨z8, nm_r (od_rm (by omega)) ⟨z8, nm_r (od_dv (by omega)) ⟨od_v8 hva, nm_r fT ⟨v, nm_r fO (br_f (by decide) (br_f (by decide) (br_f (by decide) (br_f (by decide) (br_f (by decide) (br_f (by decide) (br_t rfl ⟨od_v8 hvq, ?_⟩)))))))⟩⟩⟩⟩⟩⟩
      rw [eq]; exact p
    have frY : ∀ post : Int32 → Prop, wY_checkStmt_282 post (nI b) (nI 5) (nI T) (nI (y % 8)) (nI (y / 8)) (dX (b * 8 + y % 8)) (nI ca) st er (nI cc) ck (nI oc) (nI fc) fm fk ft pT rt dY sc so sa sb oC oO oF fB fP fR fV fL → wY_checkStmt_151 post (nI b) (nI 5) (nI a) (nI y) (nI ca) st er (nI cc) ck (nI oc) (nI fc) fm fk ft pT rt dY sc so sa sb oC oO oF fB fP fR fV fL := by
      intro post p
      unfold wY_checkStmt_151
      refine od_decl hP hb ha ?_
      rw [eT]
      exact br_f (by decide) (br_f (by decide) (br_f (by decide) (br_f (by decide) (nm_r (od_and7 (by omega)) (nm_r (od_q (by omega)) (od_decl hP hb (by omega) (br_f (by decide) (br_t rfl p))))))))
    have ok5 : od_ok cc fm b (nI 5) (nI a) (nI y) := ⟨a, ha, rfl, Or.inr (Or.inr (Or.inr (Or.inr (Or.inl ⟨rfl, y, hy, rfl⟩))))⟩
    have eP : pT (nI c).toNatClampNeg = dX (c * 8 + 1) := by rw [ecc]; exact (hd1 c (by omega)).symm
    have eR : rt (nI c).toNatClampNeg = rt c := by rw [ecc]
    obtain ⟨S, mS, hS, eS, -⟩ := hV.1 b (y / 8) hb (by omega)
    rcases od_subst (ca := ca) (cc := cc) (oc := oc) (fc := fc) (st := st) (er := er) (ck := ck) (fm := fm) (fk := fk) (ft := ft) (rt := rt) (dX := dX) (pT := pT) (dY := dY) (sc := sc) (so := so) (sa := sa) (sb := sb) (oC := oC) (oO := oO) (oF := oF) (fB := fB) (fP := fP) (fR := fR) (fV := fV) (fL := fL) hP hb (y := y % 8) (by omega) (hV.1 c 1 (Or.inl hc) (by decide)) hDT with ⟨w, hw, wX, wY⟩ | ⟨wX, wY⟩
    · obtain ⟨q, qX, qY⟩ := od_match (ca := ca) (cc := cc) (oc := oc) (fc := fc) (st := st) (er := er) (ck := ck) (fm := fm) (fk := fk) (ft := ft) (rt := rt) (dX := dX) (pT := pT) (dY := dY) (sc := sc) (so := so) (sa := sa) (sb := sb) (oC := oC) (oO := oO) (oF := oF) (fB := fB) (fP := fP) (fR := fR) (fV := fV) (fL := fL) (s := w) (by omega) hck (dX (b * 8 + y / 8))
      by_cases hq : q = 0
      · rcases od_subst (ca := ca) (cc := cc) (oc := oc) (fc := fc) (st := st) (er := er) (ck := ck) (fm := fm) (fk := fk) (ft := ft) (rt := rt) (dX := dX) (pT := pT) (dY := dY) (sc := sc) (so := so) (sa := sa) (sb := sb) (oC := oC) (oO := oO) (oF := oF) (fB := fB) (fP := fP) (fR := fR) (fV := fV) (fL := fL) hP hb (y := y % 8) (by omega) (hV.2.2 c hc) hDT with ⟨w', hw', wX', wY'⟩ | ⟨wX', wY'⟩
        · obtain ⟨q', qX', qY'⟩ := od_match (ca := ca) (cc := cc) (oc := oc) (fc := fc) (st := st) (er := er) (ck := ck) (fm := fm) (fk := fk) (ft := ft) (rt := rt) (dX := dX) (pT := pT) (dY := dY) (sc := sc) (so := so) (sa := sa) (sb := sb) (oC := oC) (oO := oO) (oF := oF) (fB := fB) (fP := fP) (fR := fR) (fV := fV) (fL := fL) (s := w') (by omega) hck (nI T)
          refine ⟨q', fun _ => ok5, fun post p => frX post ⟨od_v8 hvy, nm_r f15 ⟨v1, ?_⟩⟩, fun post p => frY post (nm_r e15 (br_t lc (br_f (by decide) ⟨vc, ?_⟩)))⟩
          · rw [e1, eR]; exact wX _ (qX _ (br_t hq ⟨vc, wX' _ (qX' _ p)⟩))
          · rw [eP, eR]; exact wY _ (br_t (nI_pos' (by omega)) (od_decl hP hb (by omega) (qY _ (br_t hq ⟨vc, wY' _ (br_t (nI_pos' (by omega)) (qY' _ p))⟩))))
        · refine ⟨6, fun _ => ok5, fun post p => frX post ⟨od_v8 hvy, nm_r f15 ⟨v1, ?_⟩⟩, fun post p => frY post (nm_r e15 (br_t lc (br_f (by decide) ⟨vc, ?_⟩)))⟩
          · rw [e1, eR]; exact wX _ (qX _ (br_t hq ⟨vc, wX' _ (br_t rfl p)⟩))
          · rw [eP, eR]; exact wY _ (br_t (nI_pos' (by omega)) (od_decl hP hb (by omega) (qY _ (br_t hq ⟨vc, wY' _ (br_f (by decide) (od_m6 p))⟩))))
      · refine ⟨q, fun _ => ok5, fun post p => frX post ⟨od_v8 hvy, nm_r f15 ⟨v1, ?_⟩⟩, fun post p => frY post (nm_r e15 (br_t lc (br_f (by decide) ⟨vc, ?_⟩)))⟩
        · rw [e1]; exact wX _ (qX _ (br_f hq p))
        · rw [eP]; exact wY _ (br_t (nI_pos' (by omega)) (od_decl hP hb (by omega) (qY _ (br_f hq p))))
    · refine ⟨6, fun _ => ok5, fun post p => frX post ⟨od_v8 hvy, nm_r f15 ⟨v1, ?_⟩⟩, fun post p => frY post (nm_r e15 (br_t lc (br_f (by decide) ⟨vc, ?_⟩)))⟩
      · rw [e1]; exact wX _ (br_t rfl (br_f (by decide) p))
      · rw [eP]; exact wY _ (br_f (by decide) (od_m6 p))
  · refine ⟨0, fun _ => ⟨a, ha, rfl, Or.inr (Or.inr (Or.inr (Or.inr (Or.inr (Or.inl rfl)))))⟩, fun post p => ⟨v, nm_r fA ⟨v, nm_r fB' ⟨z8, nm_e ⟨z8, nm_e ⟨od_v8 hva, nm_r fT ⟨v, nm_r fO (br_f (by decide) (br_f (by decide) (br_f (by decide) (br_f (by decide) (br_f (by decide) (br_f (by decide) (br_f (by decide) (br_t rfl p))))))))⟩⟩⟩⟩⟩⟩, fun post p => ?_⟩
    unfold wY_checkStmt_151
    refine od_decl hP hb ha ?_
    exact br_f (by decide) (br_f (by decide) (br_t rfl p))
  · have hb8 : b ≠ 8 := fun e => h87 e rfl
    obtain ⟨q, qX, qY⟩ := od_match (ca := ca) (cc := cc) (oc := oc) (fc := fc) (st := st) (er := er) (ck := ck) (fm := fm) (fk := fk) (ft := ft) (rt := rt) (dX := dX) (pT := pT) (dY := dY) (sc := sc) (so := so) (sa := sa) (sb := sb) (oC := oC) (oO := oO) (oF := oF) (fB := fB) (fP := fP) (fR := fR) (fV := fV) (fL := fL) (s := T) (by omega) hck (rt b)
    refine ⟨q, fun _ => ⟨a, ha, rfl, Or.inr (Or.inr (Or.inr (Or.inr (Or.inr (Or.inr ⟨rfl, hb8⟩)))))⟩, fun post p => ⟨v, nm_r fA ⟨v, nm_r fB' ⟨z8, nm_e ⟨z8, nm_e ⟨od_v8 hva, nm_r fT ⟨v, nm_r fO (br_f (by decide) (br_f (by decide) (br_f (by decide) (br_f (by decide) (br_f (by decide) (br_f (by decide) (br_f (by decide) (br_f (by decide) (br_t rfl ⟨vp_in_nI (by omega) (by decide), ?_⟩)))))))))⟩⟩⟩⟩⟩⟩, fun post p => ?_⟩
    · rw [nI_clamp (by omega)]; exact qX _ p
    · unfold wY_checkStmt_151
      refine od_decl hP hb ha ?_
      rw [eT]
      refine br_f (by decide) (br_f (by decide) (br_f (by decide) (br_t rfl ?_)))
      rw [od_and7' (by omega), nI_clamp (by omega)]
      exact ⟨vp_in_nI (by omega) (by decide), qY _ p⟩
/-- one statement's check -/
theorem od_stm (hP : od_P ck cc fm fk dX pT dY sc) (hV : od_V cc fm fk ft rt dX) {b s : Nat} (hb : b < cc ∨ b = 8) (hs : s < 16) :
    ∃ r : Int32, (r = 0 → od_ok cc fm b (so (b * 16 + s)) (sa (b * 16 + s)) (sb (b * 16 + s))) ∧
      (∀ post : Int32 → Prop, post r → wpX_checkOperands (fun r_7 => (((r_7 = 0 → (wpX_checkTyping (fun r_60 => post r_60) (nI ca, st, er, ck, nI cc, nI oc, nI fc, fm, fk, ft, rt, dX, sc, so, sa, sb, oC, oO, oF, fB, fP, fR, fV, fL) (nI b) (nI (b * 16 + s)))) ∧ (¬ r_7 = 0 → (post r_7))))) (nI ca, st, er, ck, nI cc, nI oc, nI fc, fm, fk, ft, rt, dX, sc, so, sa, sb, oC, oO, oF, fB, fP, fR, fV, fL) (nI b) (nI (b * 16 + s))) ∧
      (∀ post : Int32 → Prop, post r → wpY_checkStmt post (nI ca, st, er, nI cc, ck, nI oc, nI fc, fm, fk, ft, pT, rt, dY, sc, so, sa, sb, oC, oO, oF, fB, fP, fR, fV, fL) (nI b) (nI s)) := by
  have hcc := hP.2.1
  rcases od_op (ca := ca) (cc := cc) (oc := oc) (fc := fc) (st := st) (er := er) (ck := ck) (fm := fm) (fk := fk) (ft := ft) (rt := rt) (dX := dX) (pT := pT) (dY := dY) (sc := sc) (so := so) (sa := sa) (sb := sb) (oC := oC) (oO := oO) (oF := oF) (fB := fB) (fP := fP) (fR := fR) (fV := fV) (fL := fL) (b := b) (s := s) (by omega) hs with ⟨o, a, o1, o7, ha, eO, eA, h87, h2, h345, kX, kY⟩ | ⟨kX, kY⟩
  · obtain ⟨r, r0, rX, rY⟩ := od_typ (ca := ca) (cc := cc) (oc := oc) (fc := fc) (st := st) (er := er) (ck := ck) (fm := fm) (fk := fk) (ft := ft) (rt := rt) (dX := dX) (pT := pT) (dY := dY) (sc := sc) (so := so) (sa := sa) (sb := sb) (oC := oC) (oO := oO) (oF := oF) (fB := fB) (fP := fP) (fR := fR) (fV := fV) (fL := fL) hP hV hb hs o1 o7 ha eO eA h87 h2 h345
    exact ⟨r, r0, fun post p => kX _ (br_t rfl (rX _ p)), fun post p => kY _ (rY _ p)⟩
  · exact ⟨4, fun e => absurd e (by decide), fun post p => kX _ (br_f (by decide) p), fun post p => kY _ p⟩
end
section
variable {ca cc oc fc : Nat} {st er ck : Int32} {fm fk ft rt dX pT dY sc so sa sb oC oO oF fB fP fR fV fL : Nat → Int32}
theorem od_xerr {Q : Int32 → SX → Prop} {r x i : Int32} (p : Q r (nI ca, st, x * 32 + i, ck, nI cc, nI oc, nI fc, fm, fk, ft, rt, dX, sc, so, sa, sb, oC, oO, oF, fB, fP, fR, fV, fL)) : wpX_errorIn Q (nI ca, st, er, ck, nI cc, nI oc, nI fc, fm, fk, ft, rt, dX, sc, so, sa, sb, oC, oO, oF, fB, fP, fR, fV, fL) x i r := nm_e p
section
variable {post : Int32 → SY → Prop} {r l : Int32} {n : Nat}
theorem od_yE260 (hr : ¬ r = 0) (x : Int32) (p : post r (nI ca, st, l, nI cc, ck, nI oc, nI fc, fm, fk, ft, pT, rt, dY, sc, so, sa, sb, oC, oO, oF, fB, fP, fR, fV, fL)) : wY_compile_260 post (nI ca) st er (nI cc) ck (nI oc) (nI fc) fm fk ft pT rt dY sc so sa sb oC oO oF fB fP fR fV fL (n + 1) r l x := by
  by_cases h : nI cc < x
  · exact br_t h (br_f hr p)
  · exact br_f h (br_f hr (br_f hr p))
theorem od_yE157 (hr : ¬ r = 0) (x : Int32) (p : post r (nI ca, st, l, nI cc, ck, nI oc, nI fc, fm, fk, ft, pT, rt, dY, sc, so, sa, sb, oC, oO, oF, fB, fP, fR, fV, fL)) : wY_compile_157 post (nI ca) st er (nI cc) ck (nI oc) (nI fc) fm fk ft pT rt dY sc so sa sb oC oO oF fB fP fR fV fL (n + 1) r l x := by
  by_cases h : nI cc < x
  · exact br_t h ⟨1, od_yE260 hr 0 p⟩
  · exact br_f h (br_f hr ⟨1, od_yE260 hr 0 p⟩)
theorem od_yE30 (hr : ¬ r = 0) (x : Int32) (p : post r (nI ca, st, l, nI cc, ck, nI oc, nI fc, fm, fk, ft, pT, rt, dY, sc, so, sa, sb, oC, oO, oF, fB, fP, fR, fV, fL)) : wY_compile_30 post (nI ca) st er (nI cc) ck (nI oc) (nI fc) fm fk ft pT rt dY sc so sa sb oC oO oF fB fP fR fV fL (n + 1) r l x := by
  by_cases h : nI cc ≤ x
  · exact br_t h ⟨1, od_yE157 hr 0 p⟩
  · exact br_f h (br_f hr ⟨1, od_yE157 hr 0 p⟩)
theorem od_yE46 {J : Int32 → Int32 → Int32 → Prop} {c : Nat} (hr : ¬ r = 0) (x : Int32) (p : J r l (nI (c + 1))) : wY_compile_46 post J (nI c) (nI ca) st er (nI cc) ck (nI oc) (nI fc) fm fk ft pT rt dY sc so sa sb oC oO oF fB fP fR fV fL (n + 1) r l x := by
  by_cases h : (6 : Int32) ≤ x
  · exact br_t h (nm_r (nI_1 c) p)
  · exact br_f h (br_f hr (nm_r (nI_1 c) p))
theorem od_yE202 {J : Int32 → Int32 → Int32 → Prop} {i b : Nat} (hr : ¬ r = 0) (x : Int32) (p : J r l (nI (i + 1))) : wY_compile_202 post J (nI i) (nI b) (nI ca) st er (nI cc) ck (nI oc) (nI fc) fm fk ft pT rt dY sc so sa sb oC oO oF fB fP fR fV fL (n + 1) r l x := by
  by_cases h : (8 : Int32) ≤ x
  · exact br_t h (nm_r (nI_1 i) p)
  · exact br_f h (br_f hr (nm_r (nI_1 i) p))
theorem od_yE294 {J : Int32 → Int32 → Int32 → Prop} {i b : Nat} (hb : b < 9) (hr : ¬ r = 0) (x : Int32) (p : J r l (nI (i + 1))) : wY_compile_294 post J (nI i) (nI b) (nI ca) st er (nI cc) ck (nI oc) (nI fc) fm fk ft pT rt dY sc so sa sb oC oO oF fB fP fR fV fL (n + 1) r l x := by
  refine ⟨vp_in_nI hb (by decide), ?_⟩
  by_cases h : sc (nI b).toNatClampNeg ≤ x
  · exact br_t h (nm_r (nI_1 i) p)
  · exact br_f h (br_f hr (nm_r (nI_1 i) p))
end
/-- the parameter and the result of a class -/
theorem od_sigt (hP : od_P ck cc fm fk dX pT dY sc) {c nf : Nat} (hc : c < cc) (hnf : nf ≤ 4) (enf : fk c = nI nf) :
    (od_T cc fm (dX (c * 8 + 1)) ∧ od_T cc fm (rt c) ∧ (∀ (post : Int32 → SX → Prop) (J : Int32 → Prop) (n : Nat), J (nI (c + 1)) → wX_checkSignatures_12 post J (nI c) (nI ca) st er ck (nI cc) (nI oc) (nI fc) fm fk ft rt dX sc so sa sb oC oO oF fB fP fR fV fL (n + 1) (nI nf)) ∧
      (∀ (post : Int32 → SY → Prop) (J : Int32 → Int32 → Int32 → Prop) (l : Int32), (∀ l', J 0 l' (nI (c + 1))) → wY_compile_46 post J (nI c) (nI ca) st er (nI cc) ck (nI oc) (nI fc) fm fk ft pT rt dY sc so sa sb oC oO oF fB fP fR fV fL 3 0 l (nI 4))) ∨
    (∃ r l' : Int32, ¬ r = 0 ∧ (∀ (post : Int32 → SX → Prop) (J : Int32 → Prop) (n : Nat), post r (nI ca, st, l', ck, nI cc, nI oc, nI fc, fm, fk, ft, rt, dX, sc, so, sa, sb, oC, oO, oF, fB, fP, fR, fV, fL) → wX_checkSignatures_12 post J (nI c) (nI ca) st er ck (nI cc) (nI oc) (nI fc) fm fk ft rt dX sc so sa sb oC oO oF fB fP fR fV fL (n + 1) (nI nf)) ∧
      (∀ (post : Int32 → SY → Prop) (J : Int32 → Int32 → Int32 → Prop) (l : Int32), J r l' (nI (c + 1)) → wY_compile_46 post J (nI c) (nI ca) st er (nI cc) ck (nI oc) (nI fc) fm fk ft pT rt dY sc so sa sb oC oO oF fB fP fR fV fL 3 0 l (nI 4))) := by
  have hck := hP.1
  have hcc := hP.2.1
  have hfm := hP.2.2.1
  have hd1 := hP.2.2.2.2.2.2.1
  have vc : vp_in (nI c) 8 := vp_in_nI (by omega) (by decide)
  have ecc : (nI c).toNatClampNeg = c := nI_clamp (by omega)
  have efk : fk (nI c).toNatClampNeg ≤ nI nf := by rw [ecc, enf]; exact nI_le (Nat.le_refl _) (by omega)
  have v1 : vp_in (nI c * 8 + 1) 72 := by rw [od_i81]; exact vp_in_nI (by omega) (by decide)
  have e1 : dX (nI c * 8 + 1).toNatClampNeg = dX (c * 8 + 1) := by rw [od_i81, nI_clamp (by omega)]
  have eR : rt (nI c).toNatClampNeg = rt c := by rw [ecc]
  have eP : pT (nI c).toNatClampNeg = dX (c * 8 + 1) := by rw [ecc]; exact (hd1 c (by omega)).symm
  obtain ⟨r, rT, rX, rY⟩ := od_type (ca := ca) (cc := cc) (oc := oc) (fc := fc) (st := st) (er := er) (ck := ck) (fm := fm) (fk := fk) (ft := ft) (rt := rt) (dX := dX) (pT := pT) (dY := dY) (sc := sc) (so := so) (sa := sa) (sb := sb) (oC := oC) (oO := oO) (oF := oF) (fB := fB) (fP := fP) (fR := fR) (fV := fV) (fL := fL) (b := c) (dX (c * 8 + 1)) hcc hfm (by omega) hck
  obtain ⟨q, qT, qX, qY⟩ := od_type (ca := ca) (cc := cc) (oc := oc) (fc := fc) (st := st) (er := er) (ck := ck) (fm := fm) (fk := fk) (ft := ft) (rt := rt) (dX := dX) (pT := pT) (dY := dY) (sc := sc) (so := so) (sa := sa) (sb := sb) (oC := oC) (oO := oO) (oF := oF) (fB := fB) (fP := fP) (fR := fR) (fV := fV) (fL := fL) (b := c) (rt c) hcc hfm (by omega) hck
  rw [← e1] at rX
  rw [← eP] at rY
  rw [← eR] at qX qY
  have y4 : ∀ (post : Int32 → SY → Prop) (J : Int32 → Int32 → Int32 → Prop) (l : Int32), wY_compile_46 post J (nI c) (nI ca) st er (nI cc) ck (nI oc) (nI fc) fm fk ft pT rt dY sc so sa sb oC oO oF fB fP fR fV fL 2 r (nI c * 32 + nI 4) (nI 5) → wY_compile_46 post J (nI c) (nI ca) st er (nI cc) ck (nI oc) (nI fc) fm fk ft pT rt dY sc so sa sb oC oO oF fB fP fR fV fL 3 0 l (nI 4) :=
    fun post J l p => br_f (by decide) (br_t rfl (br_t (by decide) (br_t (by decide) (br_t rfl ⟨vc, rY _ (nm_e (nm_r (nI_1 4) p))⟩))))
  have y5 : ∀ (post : Int32 → SY → Prop) (J : Int32 → Int32 → Int32 → Prop) (l : Int32), wY_compile_46 post J (nI c) (nI ca) st er (nI cc) ck (nI oc) (nI fc) fm fk ft pT rt dY sc so sa sb oC oO oF fB fP fR fV fL 1 q (nI c * 32 + nI 5) (nI 6) → wY_compile_46 post J (nI c) (nI ca) st er (nI cc) ck (nI oc) (nI fc) fm fk ft pT rt dY sc so sa sb oC oO oF fB fP fR fV fL 2 0 l (nI 5) :=
    fun post J l p => br_f (by decide) (br_t rfl (br_t (by decide) (br_t (by decide) (br_f (by decide) ⟨vc, qY _ (nm_e (nm_r (nI_1 5) p))⟩))))
  by_cases hr : r = 0
  · subst hr
    by_cases hq : q = 0
    · subst hq
      exact Or.inl ⟨rT rfl, qT rfl, fun post J n p => ⟨vc, br_t efk ⟨v1, rX _ (br_t rfl ⟨vc, qX _ (br_t rfl (nm_r (nI_1 c) p))⟩)⟩⟩,
        fun post J l p => y4 post J l (y5 post J _ (br_t (by decide) (nm_r (nI_1 c) (p _))))⟩
    · exact Or.inr ⟨q, nI c * 32 + nI 5, hq, fun post J n p => ⟨vc, br_t efk ⟨v1, rX _ (br_t rfl ⟨vc, qX _ (br_f hq (od_xerr p))⟩)⟩⟩,
        fun post J l p => y4 post J l (y5 post J _ (od_yE46 hq _ p))⟩
  · exact Or.inr ⟨r, nI c * 32 + nI 4, hr, fun post J n p => ⟨vc, br_t efk ⟨v1, rX _ (br_f hr (od_xerr p))⟩⟩,
      fun post J l p => y4 post J l (od_yE46 hr _ p)⟩
theorem od_skip {c nf : Nat} {post : Int32 → SY → Prop} {J : Int32 → Int32 → Int32 → Prop} {l : Int32} (hc : c < 8) (enf : fk c = nI nf) (hnf : nf ≤ 4) (p : wY_compile_46 post J (nI c) (nI ca) st er (nI cc) ck (nI oc) (nI fc) fm fk ft pT rt dY sc so sa sb oC oO oF fB fP fR fV fL 3 0 l (nI 4)) :
    ∀ e f, f + e = 4 → nf ≤ f → wY_compile_46 post J (nI c) (nI ca) st er (nI cc) ck (nI oc) (nI fc) fm fk ft pT rt dY sc so sa sb oC oO oF fB fP fR fV fL (3 + e) 0 l (nI f) := by
  intro e
  induction e with
  | zero =>
    intro f hf _
    obtain rfl : f = 4 := by omega
    exact p
  | succ e ih =>
    intro f hf hn
    have efk : ¬ nI f < fk (nI c).toNatClampNeg := by rw [nI_clamp (by omega), enf]; exact nI_nlt (by omega) (by omega)
    exact br_f (nI_ge (b := 6) (by omega) (by decide)) (br_t rfl (br_f (nI_ge (b := 4) (by omega) (by decide)) ⟨vp_in_nI hc (by decide), br_f efk (nm_r (nI_1 f) (ih (f + 1) (by omega) (by omega)))⟩))
theorem od_sigc (hP : od_P ck cc fm fk dX pT dY sc) {c nf : Nat} (hc : c < cc) (hnf : nf ≤ 4) (enf : fk c = nI nf) : ∀ d f, f + d = nf →
    ((∀ g, f ≤ g → g < nf → od_T cc fm (ft (c * 4 + g))) ∧ od_T cc fm (dX (c * 8 + 1)) ∧ od_T cc fm (rt c) ∧ (∀ (post : Int32 → SX → Prop) (J : Int32 → Prop), J (nI (c + 1)) → wX_checkSignatures_12 post J (nI c) (nI ca) st er ck (nI cc) (nI oc) (nI fc) fm fk ft rt dX sc so sa sb oC oO oF fB fP fR fV fL (d + 1) (nI f)) ∧
      (∀ (post : Int32 → SY → Prop) (J : Int32 → Int32 → Int32 → Prop) (l : Int32), (∀ l', J 0 l' (nI (c + 1))) → ∀ n, n + f = 6 → wY_compile_46 post J (nI c) (nI ca) st er (nI cc) ck (nI oc) (nI fc) fm fk ft pT rt dY sc so sa sb oC oO oF fB fP fR fV fL (n + 1) 0 l (nI f))) ∨
    (∃ r l' : Int32, ¬ r = 0 ∧ (∀ (post : Int32 → SX → Prop) (J : Int32 → Prop), post r (nI ca, st, l', ck, nI cc, nI oc, nI fc, fm, fk, ft, rt, dX, sc, so, sa, sb, oC, oO, oF, fB, fP, fR, fV, fL) → wX_checkSignatures_12 post J (nI c) (nI ca) st er ck (nI cc) (nI oc) (nI fc) fm fk ft rt dX sc so sa sb oC oO oF fB fP fR fV fL (d + 1) (nI f)) ∧
      (∀ (post : Int32 → SY → Prop) (J : Int32 → Int32 → Int32 → Prop) (l : Int32), J r l' (nI (c + 1)) → ∀ n, n + f = 6 → wY_compile_46 post J (nI c) (nI ca) st er (nI cc) ck (nI oc) (nI fc) fm fk ft pT rt dY sc so sa sb oC oO oF fB fP fR fV fL (n + 1) 0 l (nI f))) := by
  have hck := hP.1
  have hcc := hP.2.1
  have hfm := hP.2.2.1
  have vc : vp_in (nI c) 8 := vp_in_nI (by omega) (by decide)
  have ecc : (nI c).toNatClampNeg = c := nI_clamp (by omega)
  intro d
  induction d with
  | zero =>
    intro f hf
    obtain rfl : f = nf := by omega
    have fu : ∀ n, n + f = 6 → n + 1 = 3 + (4 - f) := fun n h => by omega
    rcases od_sigt (ca := ca) (cc := cc) (oc := oc) (fc := fc) (st := st) (er := er) (ck := ck) (fm := fm) (fk := fk) (ft := ft) (rt := rt) (dX := dX) (pT := pT) (dY := dY) (sc := sc) (so := so) (sa := sa) (sb := sb) (oC := oC) (oO := oO) (oF := oF) (fB := fB) (fP := fP) (fR := fR) (fV := fV) (fL := fL) hP hc hnf enf with ⟨t1, t2, kX, kY⟩ | ⟨r, l', hr, kX, kY⟩
    · refine Or.inl ⟨fun g h1 h2 => by omega, t1, t2, fun post J p => kX post J 0 p, fun post J l p n hn => ?_⟩
      rw [fu n hn]
      exact od_skip (by omega) enf hnf (kY post J l p) (4 - f) f (by omega) (Nat.le_refl _)
    · refine Or.inr ⟨r, l', hr, fun post J p => kX post J 0 p, fun post J l p n hn => ?_⟩
      rw [fu n hn]
      exact od_skip (by omega) enf hnf (kY post J l p) (4 - f) f (by omega) (Nat.le_refl _)
  | succ d ih =>
    intro f hf
    have efk : ¬ fk (nI c).toNatClampNeg ≤ nI f := by rw [ecc, enf]; exact nI_ge (by omega) (by omega)
    have efl : nI f < fk (nI c).toNatClampNeg := by rw [ecc, enf]; exact nI_lt (by omega) (by omega)
    have v32 : vp_in (nI c * 4 + nI f) 32 := by rw [od_i4]; exact vp_in_nI (by omega) (by decide)
    have eft : ft (nI c * 4 + nI f).toNatClampNeg = ft (c * 4 + f) := by rw [od_i4, nI_clamp (by omega)]
    have n6 : ¬ (6 : Int32) ≤ nI f := nI_ge (b := 6) (by omega) (by decide)
    have n4 : ¬ (4 : Int32) ≤ nI f := nI_ge (b := 4) (by omega) (by decide)
    obtain ⟨r, rT, rX, rY⟩ := od_type (ca := ca) (cc := cc) (oc := oc) (fc := fc) (st := st) (er := er) (ck := ck) (fm := fm) (fk := fk) (ft := ft) (rt := rt) (dX := dX) (pT := pT) (dY := dY) (sc := sc) (so := so) (sa := sa) (sb := sb) (oC := oC) (oO := oO) (oF := oF) (fB := fB) (fP := fP) (fR := fR) (fV := fV) (fL := fL) (b := c) (ft (c * 4 + f)) hcc hfm (by omega) hck
    rw [← eft] at rX rY
    by_cases hr : r = 0
    · subst hr
      rcases ih (f + 1) (by omega) with ⟨t0, t1, t2, kX, kY⟩ | ⟨r, l', hr, kX, kY⟩
      · refine Or.inl ⟨fun g h1 h2 => ?_, t1, t2, fun post J p => ⟨vc, br_f efk ⟨v32, rX _ (br_t rfl (nm_r (nI_1 f) (kX post J p)))⟩⟩, fun post J l p n hn => ?_⟩
        · by_cases e : g = f
          · subst e; exact rT rfl
          · exact t0 g (by omega) h2
        · obtain ⟨n', rfl⟩ : ∃ n', n = n' + 1 := ⟨n - 1, by omega⟩
          exact br_f n6 (br_t rfl (br_f n4 ⟨vc, br_t efl (br_f n4 ⟨v32, rY _ (nm_e (nm_r (nI_1 f) (kY post J _ p n' (by omega))))⟩)⟩))
      · refine Or.inr ⟨r, l', hr, fun post J p => ⟨vc, br_f efk ⟨v32, rX _ (br_t rfl (nm_r (nI_1 f) (kX post J p)))⟩⟩, fun post J l p n hn => ?_⟩
        obtain ⟨n', rfl⟩ : ∃ n', n = n' + 1 := ⟨n - 1, by omega⟩
        exact br_f n6 (br_t rfl (br_f n4 ⟨vc, br_t efl (br_f n4 ⟨v32, rY _ (nm_e (nm_r (nI_1 f) (kY post J _ p n' (by omega))))⟩)⟩))
    · refine Or.inr ⟨r, nI c * 32 + nI f, hr, fun post J p => ⟨vc, br_f efk ⟨v32, rX _ (br_f hr (od_xerr p))⟩⟩, fun post J l p n hn => ?_⟩
      obtain ⟨n', rfl⟩ : ∃ n', n = n' + 1 := ⟨n - 1, by omega⟩
      exact br_f n6 (br_t rfl (br_f n4 ⟨vc, br_t efl (br_f n4 ⟨v32, rY _ (nm_e (nm_e (od_yE46 hr _ p)))⟩)⟩))
/-- what the first loop finds of a class -/
def od_G (cc : Nat) (fm fk ft rt dX : Nat → Int32) (c : Nat) : Prop := (∀ f n, fk c = nI n → n ≤ 4 → f < n → od_T cc fm (ft (c * 4 + f))) ∧ od_T cc fm (dX (c * 8 + 1)) ∧ od_T cc fm (rt c)
theorem od_sig (hP : od_P ck cc fm fk dX pT dY sc) : ∀ d c, c + d = cc →
    ((∀ c', c ≤ c' → c' < cc → od_G cc fm fk ft rt dX c') ∧ (∀ post : Int32 → SX → Prop, post 0 (nI ca, st, er, ck, nI cc, nI oc, nI fc, fm, fk, ft, rt, dX, sc, so, sa, sb, oC, oO, oF, fB, fP, fR, fV, fL) → wX_checkSignatures_2 post (nI ca) st er ck (nI cc) (nI oc) (nI fc) fm fk ft rt dX sc so sa sb oC oO oF fB fP fR fV fL (d + 1) (nI c)) ∧
      (∀ (post : Int32 → SY → Prop) (l : Int32), (∀ l', ∃ n, wY_compile_157 post (nI ca) st er (nI cc) ck (nI oc) (nI fc) fm fk ft pT rt dY sc so sa sb oC oO oF fB fP fR fV fL n 0 l' 0) → wY_compile_30 post (nI ca) st er (nI cc) ck (nI oc) (nI fc) fm fk ft pT rt dY sc so sa sb oC oO oF fB fP fR fV fL (d + 1) 0 l (nI c))) ∨
    (∃ r l' : Int32, ¬ r = 0 ∧ (∀ post : Int32 → SX → Prop, post r (nI ca, st, l', ck, nI cc, nI oc, nI fc, fm, fk, ft, rt, dX, sc, so, sa, sb, oC, oO, oF, fB, fP, fR, fV, fL) → wX_checkSignatures_2 post (nI ca) st er ck (nI cc) (nI oc) (nI fc) fm fk ft rt dX sc so sa sb oC oO oF fB fP fR fV fL (d + 1) (nI c)) ∧
      (∀ (post : Int32 → SY → Prop) (l : Int32), post r (nI ca, st, l', nI cc, ck, nI oc, nI fc, fm, fk, ft, pT, rt, dY, sc, so, sa, sb, oC, oO, oF, fB, fP, fR, fV, fL) → wY_compile_30 post (nI ca) st er (nI cc) ck (nI oc) (nI fc) fm fk ft pT rt dY sc so sa sb oC oO oF fB fP fR fV fL (d + 1) 0 l (nI c))) := by
  have hcc := hP.2.1
  have hfk := hP.2.2.2.1
  intro d
  induction d with
  | zero =>
    intro c h
    have l1 : nI cc ≤ nI c := nI_le (by omega) (by omega)
    exact Or.inl ⟨fun c' h1 h2 => by omega, fun post p => br_t l1 p, fun post l p => br_t l1 (p l)⟩
  | succ d ih =>
    intro c h
    have l1 : ¬ nI cc ≤ nI c := nI_ge (by omega) (by omega)
    obtain ⟨nf, hnf, enf⟩ := hfk c
    rcases od_sigc (ca := ca) (cc := cc) (oc := oc) (fc := fc) (st := st) (er := er) (ck := ck) (fm := fm) (fk := fk) (ft := ft) (rt := rt) (dX := dX) (pT := pT) (dY := dY) (sc := sc) (so := so) (sa := sa) (sb := sb) (oC := oC) (oO := oO) (oF := oF) (fB := fB) (fP := fP) (fR := fR) (fV := fV) (fL := fL) hP (c := c) (by omega) hnf enf nf 0 (by omega) with ⟨t0, t1, t2, kX, kY⟩ | ⟨r, l', hr, kX, kY⟩
    · have g : od_G cc fm fk ft rt dX c := ⟨fun f n e hn hf => t0 f (Nat.zero_le _) (by have := od_inj (e.symm.trans enf) (by omega) (by omega); omega), t1, t2⟩
      rcases ih (c + 1) (by omega) with ⟨t, jX, jY⟩ | ⟨r, l', hr, jX, jY⟩
      · refine Or.inl ⟨fun c' h1 h2 => ?_, fun post p => br_f l1 ⟨nf + 1, kX post _ (jX post p)⟩, fun post l p => br_f l1 (br_t rfl ⟨7, kY post _ l (fun l' => jY post l' p) 6 rfl⟩)⟩
        by_cases e : c' = c
        · subst e; exact g
        · exact t c' (by omega) h2
      · exact Or.inr ⟨r, l', hr, fun post p => br_f l1 ⟨nf + 1, kX post _ (jX post p)⟩, fun post l p => br_f l1 (br_t rfl ⟨7, kY post _ l (fun l' => jY post l' p) 6 rfl⟩)⟩
    · exact Or.inr ⟨r, l', hr, fun post p => br_f l1 ⟨nf + 1, kX post _ p⟩, fun post l p => br_f l1 (br_t rfl ⟨7, kY post _ l (od_yE30 hr _ p) 6 rfl⟩)⟩
end
section
variable {ca cc oc fc : Nat} {st er ck : Int32} {fm fk ft rt dX pT dY sc so sa sb oC oO oF fB fP fR fV fL : Nat → Int32}
theorem od_asc (x y z : Int32) : x + y + z = x + (y + z) := Int32.add_assoc x y z
/-- a body's locals -/
theorem od_locb (hP : od_P ck cc fm fk dX pT dY sc) {b i : Nat} (hb : b < cc ∨ b = 8) : ∀ d v, v + d = 8 → (b = 8 ∨ 2 ≤ v) →
    ((∀ g, v ≤ g → g < 8 → od_T cc fm (dX (b * 8 + g))) ∧ (∀ (post : Int32 → SX → Prop) (J : Int32 → Prop), J (nI (i + 1)) → wX_checkLocals_34 post J (nI i) (nI b) (nI ca) st er ck (nI cc) (nI oc) (nI fc) fm fk ft rt dX sc so sa sb oC oO oF fB fP fR fV fL (d + 1) (nI v)) ∧
      (∀ (post : Int32 → SY → Prop) (J : Int32 → Int32 → Int32 → Prop) (l : Int32), (∀ l', J 0 l' (nI (i + 1))) → wY_compile_202 post J (nI i) (nI b) (nI ca) st er (nI cc) ck (nI oc) (nI fc) fm fk ft pT rt dY sc so sa sb oC oO oF fB fP fR fV fL (d + 1) 0 l (nI v))) ∨
    (∃ r l' : Int32, ¬ r = 0 ∧ (∀ (post : Int32 → SX → Prop) (J : Int32 → Prop), post r (nI ca, st, l', ck, nI cc, nI oc, nI fc, fm, fk, ft, rt, dX, sc, so, sa, sb, oC, oO, oF, fB, fP, fR, fV, fL) → wX_checkLocals_34 post J (nI i) (nI b) (nI ca) st er ck (nI cc) (nI oc) (nI fc) fm fk ft rt dX sc so sa sb oC oO oF fB fP fR fV fL (d + 1) (nI v)) ∧
      (∀ (post : Int32 → SY → Prop) (J : Int32 → Int32 → Int32 → Prop) (l : Int32), J r l' (nI (i + 1)) → wY_compile_202 post J (nI i) (nI b) (nI ca) st er (nI cc) ck (nI oc) (nI fc) fm fk ft pT rt dY sc so sa sb oC oO oF fB fP fR fV fL (d + 1) 0 l (nI v))) := by
  have hck := hP.1
  have hcc := hP.2.1
  have hfm := hP.2.2.1
  have hd2 := hP.2.2.2.2.2.2.2.1
  have hd8 := hP.2.2.2.2.2.2.2.2
  intro d
  induction d with
  | zero =>
    intro v h _
    obtain rfl : v = 8 := by omega
    exact Or.inl ⟨fun g h1 h2 => by omega, fun post J p => br_t (by decide) (nm_r (nI_1 i) p), fun post J l p => br_t (by decide) (nm_r (nI_1 i) (p l))⟩
  | succ d ih =>
    intro v h h2
    have n8 : ¬ (8 : Int32) ≤ nI v := nI_ge (b := 8) (by omega) (by decide)
    have hv : b * 8 + v < 72 := by omega
    have ed : dX (b * 8 + v) = dY (b * 8 + v) := by
      by_cases e : b = 8
      · subst e; exact hd8 v (by omega)
      · exact hd2 b v (by omega) (by omega)
    have eX : dX (nI b * 8 + nI v).toNatClampNeg = dX (b * 8 + v) := od_e8 hv rfl
    have eY : dY (nI b * 8 + nI v).toNatClampNeg = dX (b * 8 + v) := od_e8 hv ed.symm
    obtain ⟨r, rT, rX, rY⟩ := od_type (ca := ca) (cc := cc) (oc := oc) (fc := fc) (st := st) (er := er) (ck := ck) (fm := fm) (fk := fk) (ft := ft) (rt := rt) (dX := dX) (pT := pT) (dY := dY) (sc := sc) (so := so) (sa := sa) (sb := sb) (oC := oC) (oO := oO) (oF := oF) (fB := fB) (fP := fP) (fR := fR) (fV := fV) (fL := fL) (b := b) (dX (b * 8 + v)) hcc hfm (by omega) hck
    rw [← eX] at rX
    rw [← eY] at rY
    by_cases hr : r = 0
    · subst hr
      rcases ih (v + 1) (by omega) (by omega) with ⟨t0, kX, kY⟩ | ⟨r, l', hr, kX, kY⟩
      · refine Or.inl ⟨fun g g1 g2 => ?_, fun post J p => br_f n8 ⟨od_v8 hv, rX _ (br_t rfl (nm_r (nI_1 v) (kX post J p)))⟩, fun post J l p => br_f n8 (br_t rfl ⟨od_v8 hv, rY _ (nm_e (nm_r (nI_1 v) (kY post J _ p)))⟩)⟩
        by_cases e : g = v
        · subst e; exact rT rfl
        · exact t0 g (by omega) g2
      · exact Or.inr ⟨r, l', hr, fun post J p => br_f n8 ⟨od_v8 hv, rX _ (br_t rfl (nm_r (nI_1 v) (kX post J p)))⟩, fun post J l p => br_f n8 (br_t rfl ⟨od_v8 hv, rY _ (nm_e (nm_r (nI_1 v) (kY post J _ p)))⟩)⟩
    · exact Or.inr ⟨r, nI b * 32 + (8 + nI v), hr, fun post J p => br_f n8 ⟨od_v8 hv, rX _ (br_f hr (od_xerr p))⟩, fun post J l p => br_f n8 (br_t rfl ⟨od_v8 hv, rY _ (nm_r (od_asc _ _ _) (nm_e (od_yE202 hr _ p)))⟩)⟩
theorem od_locs (hP : od_P ck cc fm fk dX pT dY sc) {b i : Nat} (hb : b < cc ∨ b = 8) :
    ((∀ g, (b = 8 ∨ 2 ≤ g) → g < 8 → od_T cc fm (dX (b * 8 + g))) ∧ (∀ (post : Int32 → SX → Prop) (J : Int32 → Prop), J (nI (i + 1)) → wX_checkLocals_24 post J (nI i) (nI b) (nI ca) st er ck (nI cc) (nI oc) (nI fc) fm fk ft rt dX sc so sa sb oC oO oF fB fP fR fV fL) ∧
      (∀ (post : Int32 → SY → Prop) (J : Int32 → Int32 → Int32 → Prop) (l : Int32), (∀ l', J 0 l' (nI (i + 1))) → wY_compile_186 post J 0 l (nI i) (nI b) (nI ca) st er (nI cc) ck (nI oc) (nI fc) fm fk ft pT rt dY sc so sa sb oC oO oF fB fP fR fV fL)) ∨
    (∃ r l' : Int32, ¬ r = 0 ∧ (∀ (post : Int32 → SX → Prop) (J : Int32 → Prop), post r (nI ca, st, l', ck, nI cc, nI oc, nI fc, fm, fk, ft, rt, dX, sc, so, sa, sb, oC, oO, oF, fB, fP, fR, fV, fL) → wX_checkLocals_24 post J (nI i) (nI b) (nI ca) st er ck (nI cc) (nI oc) (nI fc) fm fk ft rt dX sc so sa sb oC oO oF fB fP fR fV fL) ∧
      (∀ (post : Int32 → SY → Prop) (J : Int32 → Int32 → Int32 → Prop) (l : Int32), J r l' (nI (i + 1)) → wY_compile_186 post J 0 l (nI i) (nI b) (nI ca) st er (nI cc) ck (nI oc) (nI fc) fm fk ft pT rt dY sc so sa sb oC oO oF fB fP fR fV fL)) := by
  have hcc := hP.2.1
  by_cases e : b = 8
  · subst e
    rcases od_locb (ca := ca) (cc := cc) (oc := oc) (fc := fc) (st := st) (er := er) (ck := ck) (fm := fm) (fk := fk) (ft := ft) (rt := rt) (dX := dX) (pT := pT) (dY := dY) (sc := sc) (so := so) (sa := sa) (sb := sb) (oC := oC) (oO := oO) (oF := oF) (fB := fB) (fP := fP) (fR := fR) (fV := fV) (fL := fL) hP (i := i) hb 8 0 rfl (Or.inl rfl) with ⟨t0, kX, kY⟩ | ⟨r, l', hr, kX, kY⟩
    · exact Or.inl ⟨fun g _ h => t0 g (Nat.zero_le _) h, fun post J p => br_t rfl ⟨9, kX post J p⟩, fun post J l p => br_t rfl ⟨9, kY post J l p⟩⟩
    · exact Or.inr ⟨r, l', hr, fun post J p => br_t rfl ⟨9, kX post J p⟩, fun post J l p => br_t rfl ⟨9, kY post J l p⟩⟩
  · have n8 : ¬ nI b = 8 := od_ne (k := 8) e (by omega) (by decide)
    rcases od_locb (ca := ca) (cc := cc) (oc := oc) (fc := fc) (st := st) (er := er) (ck := ck) (fm := fm) (fk := fk) (ft := ft) (rt := rt) (dX := dX) (pT := pT) (dY := dY) (sc := sc) (so := so) (sa := sa) (sb := sb) (oC := oC) (oO := oO) (oF := oF) (fB := fB) (fP := fP) (fR := fR) (fV := fV) (fL := fL) hP (i := i) hb 6 2 rfl (Or.inr (Nat.le_refl _)) with ⟨t0, kX, kY⟩ | ⟨r, l', hr, kX, kY⟩
    · exact Or.inl ⟨fun g h2 h => t0 g (by omega) h, fun post J p => br_f n8 ⟨7, kX post J p⟩, fun post J l p => br_f n8 ⟨7, kY post J l p⟩⟩
    · exact Or.inr ⟨r, l', hr, fun post J p => br_f n8 ⟨7, kX post J p⟩, fun post J l p => br_f n8 ⟨7, kY post J l p⟩⟩
/-- the i-th body: the classes, then main -/
def od_body (cc i : Nat) : Nat := if i < cc then i else 8
theorem od_body_in (i : Nat) : od_body cc i < cc ∨ od_body cc i = 8 := by
  unfold od_body
  split
  · exact Or.inl (by assumption)
  · exact Or.inr rfl
theorem od_loc (hP : od_P ck cc fm fk dX pT dY sc) : ∀ d i, i + d = cc + 1 →
    ((∀ j, i ≤ j → j ≤ cc → ∀ g, (od_body cc j = 8 ∨ 2 ≤ g) → g < 8 → od_T cc fm (dX (od_body cc j * 8 + g))) ∧ (∀ post : Int32 → SX → Prop, post 0 (nI ca, st, er, ck, nI cc, nI oc, nI fc, fm, fk, ft, rt, dX, sc, so, sa, sb, oC, oO, oF, fB, fP, fR, fV, fL) → wX_checkLocals_2 post (nI ca) st er ck (nI cc) (nI oc) (nI fc) fm fk ft rt dX sc so sa sb oC oO oF fB fP fR fV fL (d + 1) (nI i)) ∧
      (∀ (post : Int32 → SY → Prop) (l : Int32), (∀ l', ∃ n, wY_compile_260 post (nI ca) st er (nI cc) ck (nI oc) (nI fc) fm fk ft pT rt dY sc so sa sb oC oO oF fB fP fR fV fL n 0 l' 0) → wY_compile_157 post (nI ca) st er (nI cc) ck (nI oc) (nI fc) fm fk ft pT rt dY sc so sa sb oC oO oF fB fP fR fV fL (d + 1) 0 l (nI i))) ∨
    (∃ r l' : Int32, ¬ r = 0 ∧ (∀ post : Int32 → SX → Prop, post r (nI ca, st, l', ck, nI cc, nI oc, nI fc, fm, fk, ft, rt, dX, sc, so, sa, sb, oC, oO, oF, fB, fP, fR, fV, fL) → wX_checkLocals_2 post (nI ca) st er ck (nI cc) (nI oc) (nI fc) fm fk ft rt dX sc so sa sb oC oO oF fB fP fR fV fL (d + 1) (nI i)) ∧
      (∀ (post : Int32 → SY → Prop) (l : Int32), post r (nI ca, st, l', nI cc, ck, nI oc, nI fc, fm, fk, ft, pT, rt, dY, sc, so, sa, sb, oC, oO, oF, fB, fP, fR, fV, fL) → wY_compile_157 post (nI ca) st er (nI cc) ck (nI oc) (nI fc) fm fk ft pT rt dY sc so sa sb oC oO oF fB fP fR fV fL (d + 1) 0 l (nI i))) := by
  have hcc := hP.2.1
  intro d
  induction d with
  | zero =>
    intro i h
    have l1 : nI cc < nI i := nI_lt (by omega) (by omega)
    exact Or.inl ⟨fun j h1 h2 => by omega, fun post p => br_t l1 p, fun post l p => br_t l1 (p l)⟩
  | succ d ih =>
    intro i h
    have l1 : ¬ nI cc < nI i := nI_nlt (by omega) (by omega)
    have fX : ∀ post : Int32 → SX → Prop, wX_checkLocals_24 post (wX_checkLocals_2 post (nI ca) st er ck (nI cc) (nI oc) (nI fc) fm fk ft rt dX sc so sa sb oC oO oF fB fP fR fV fL (d + 1)) (nI i) (nI (od_body cc i)) (nI ca) st er ck (nI cc) (nI oc) (nI fc) fm fk ft rt dX sc so sa sb oC oO oF fB fP fR fV fL → wX_checkLocals_2 post (nI ca) st er ck (nI cc) (nI oc) (nI fc) fm fk ft rt dX sc so sa sb oC oO oF fB fP fR fV fL (d + 1 + 1) (nI i) := by
      intro post p
      by_cases e : i < cc
      · rw [show od_body cc i = i from if_pos e] at p
        exact br_f l1 (br_f (nI_ge e (by omega)) p)
      · rw [show od_body cc i = 8 from if_neg e] at p
        exact br_f l1 (br_t (nI_le (by omega) (by omega)) p)
    have fY : ∀ (post : Int32 → SY → Prop) (l : Int32), wY_compile_186 post (wY_compile_157 post (nI ca) st er (nI cc) ck (nI oc) (nI fc) fm fk ft pT rt dY sc so sa sb oC oO oF fB fP fR fV fL (d + 1)) 0 l (nI i) (nI (od_body cc i)) (nI ca) st er (nI cc) ck (nI oc) (nI fc) fm fk ft pT rt dY sc so sa sb oC oO oF fB fP fR fV fL → wY_compile_157 post (nI ca) st er (nI cc) ck (nI oc) (nI fc) fm fk ft pT rt dY sc so sa sb oC oO oF fB fP fR fV fL (d + 1 + 1) 0 l (nI i) := by
      intro post l p
      by_cases e : i < cc
      · rw [show od_body cc i = i from if_pos e] at p
        exact br_f l1 (br_t rfl (br_f (nI_ge e (by omega)) p))
      · rw [show od_body cc i = 8 from if_neg e] at p
        exact br_f l1 (br_t rfl (br_t (nI_le (by omega) (by omega)) p))
    rcases od_locs (ca := ca) (cc := cc) (oc := oc) (fc := fc) (st := st) (er := er) (ck := ck) (fm := fm) (fk := fk) (ft := ft) (rt := rt) (dX := dX) (pT := pT) (dY := dY) (sc := sc) (so := so) (sa := sa) (sb := sb) (oC := oC) (oO := oO) (oF := oF) (fB := fB) (fP := fP) (fR := fR) (fV := fV) (fL := fL) hP (i := i) (od_body_in (cc := cc) i) with ⟨t0, kX, kY⟩ | ⟨r, l', hr, kX, kY⟩
    · rcases ih (i + 1) (by omega) with ⟨t, jX, jY⟩ | ⟨r, l', hr, jX, jY⟩
      · refine Or.inl ⟨fun j h1 h2 => ?_, fun post p => fX post (kX post _ (jX post p)), fun post l p => fY post l (kY post _ l (fun l' => jY post l' p))⟩
        by_cases e : j = i
        · subst e; exact t0
        · exact t j (by omega) h2
      · exact Or.inr ⟨r, l', hr, fun post p => fX post (kX post _ (jX post p)), fun post l p => fY post l (kY post _ l (fun l' => jY post l' p))⟩
    · exact Or.inr ⟨r, l', hr, fun post p => fX post (kX post _ p), fun post l p => fY post l (kY post _ l (od_yE157 hr _ p))⟩
/-- a body's statements -/
theorem od_stb (hP : od_P ck cc fm fk dX pT dY sc) (hV : od_V cc fm fk ft rt dX) {b i n : Nat} (hb : b < cc ∨ b = 8) (hn : n ≤ 16) (en : sc b = nI n) : ∀ d s, s + d = n →
    ((∀ g, s ≤ g → g < n → od_ok cc fm b (so (b * 16 + g)) (sa (b * 16 + g)) (sb (b * 16 + g))) ∧ (∀ (post : Int32 → SX → Prop) (J : Int32 → Prop), J (nI (i + 1)) → wX_checkStatements_27 post J (nI i) (nI b) (nI ca) st er ck (nI cc) (nI oc) (nI fc) fm fk ft rt dX sc so sa sb oC oO oF fB fP fR fV fL (d + 1) (nI s)) ∧
      (∀ (post : Int32 → SY → Prop) (J : Int32 → Int32 → Int32 → Prop) (l : Int32), (∀ l', J 0 l' (nI (i + 1))) → wY_compile_294 post J (nI i) (nI b) (nI ca) st er (nI cc) ck (nI oc) (nI fc) fm fk ft pT rt dY sc so sa sb oC oO oF fB fP fR fV fL (d + 1) 0 l (nI s))) ∨
    (∃ r l' : Int32, ¬ r = 0 ∧ (∀ (post : Int32 → SX → Prop) (J : Int32 → Prop), post r (nI ca, st, l', ck, nI cc, nI oc, nI fc, fm, fk, ft, rt, dX, sc, so, sa, sb, oC, oO, oF, fB, fP, fR, fV, fL) → wX_checkStatements_27 post J (nI i) (nI b) (nI ca) st er ck (nI cc) (nI oc) (nI fc) fm fk ft rt dX sc so sa sb oC oO oF fB fP fR fV fL (d + 1) (nI s)) ∧
      (∀ (post : Int32 → SY → Prop) (J : Int32 → Int32 → Int32 → Prop) (l : Int32), J r l' (nI (i + 1)) → wY_compile_294 post J (nI i) (nI b) (nI ca) st er (nI cc) ck (nI oc) (nI fc) fm fk ft pT rt dY sc so sa sb oC oO oF fB fP fR fV fL (d + 1) 0 l (nI s))) := by
  have hcc := hP.2.1
  have hb9 : b < 9 := by omega
  have vb : vp_in (nI b) 9 := vp_in_nI hb9 (by decide)
  have es : sc (nI b).toNatClampNeg = nI n := by rw [nI_clamp (by omega)]; exact en
  intro d
  induction d with
  | zero =>
    intro s h
    have l1 : sc (nI b).toNatClampNeg ≤ nI s := by rw [es]; exact nI_le (by omega) (by omega)
    exact Or.inl ⟨fun g h1 h2 => by omega, fun post J p => ⟨vb, br_t l1 (nm_r (nI_1 i) p)⟩, fun post J l p => ⟨vb, br_t l1 (nm_r (nI_1 i) (p l))⟩⟩
  | succ d ih =>
    intro s h
    have l1 : ¬ sc (nI b).toNatClampNeg ≤ nI s := by rw [es]; exact nI_ge (by omega) (by omega)
    obtain ⟨r, r0, rX, rY⟩ := od_stm (ca := ca) (cc := cc) (oc := oc) (fc := fc) (st := st) (er := er) (ck := ck) (fm := fm) (fk := fk) (ft := ft) (rt := rt) (dX := dX) (pT := pT) (dY := dY) (sc := sc) (so := so) (sa := sa) (sb := sb) (oC := oC) (oO := oO) (oF := oF) (fB := fB) (fP := fP) (fR := fR) (fV := fV) (fL := fL) hP hV hb (s := s) (by omega)
    by_cases hr : r = 0
    · subst hr
      rcases ih (s + 1) (by omega) with ⟨t0, kX, kY⟩ | ⟨r, l', hr, kX, kY⟩
      · refine Or.inl ⟨fun g g1 g2 => ?_, fun post J p => ⟨vb, br_f l1 (nm_r (od_i16 b s) (rX (fun r => wX_checkStatements_68 post J _ (nI i) (nI b) (nI s) r (nI ca) st er ck (nI cc) (nI oc) (nI fc) fm fk ft rt dX sc so sa sb oC oO oF fB fP fR fV fL) (br_t rfl (nm_r (nI_1 s) (kX post J p)))))⟩, fun post J l p => ⟨vb, br_f l1 (br_t rfl (rY _ (nm_e (nm_r (nI_1 s) (kY post J _ p)))))⟩⟩
        by_cases e : g = s
        · subst e; exact r0 rfl
        · exact t0 g (by omega) g2
      · exact Or.inr ⟨r, l', hr, fun post J p => ⟨vb, br_f l1 (nm_r (od_i16 b s) (rX (fun r => wX_checkStatements_68 post J _ (nI i) (nI b) (nI s) r (nI ca) st er ck (nI cc) (nI oc) (nI fc) fm fk ft rt dX sc so sa sb oC oO oF fB fP fR fV fL) (br_t rfl (nm_r (nI_1 s) (kX post J p)))))⟩, fun post J l p => ⟨vb, br_f l1 (br_t rfl (rY _ (nm_e (nm_r (nI_1 s) (kY post J _ p)))))⟩⟩
    · exact Or.inr ⟨r, nI b * 32 + (16 + nI s), hr, fun post J p => ⟨vb, br_f l1 (nm_r (od_i16 b s) (rX (fun r => wX_checkStatements_68 post J _ (nI i) (nI b) (nI s) r (nI ca) st er ck (nI cc) (nI oc) (nI fc) fm fk ft rt dX sc so sa sb oC oO oF fB fP fR fV fL) (br_f hr (od_xerr p))))⟩, fun post J l p => ⟨vb, br_f l1 (br_t rfl (rY _ (nm_r (od_asc _ _ _) (nm_e (od_yE294 hb9 hr _ p)))))⟩⟩
theorem od_st (hP : od_P ck cc fm fk dX pT dY sc) (hV : od_V cc fm fk ft rt dX) : ∀ d i, i + d = cc + 1 →
    ((∀ j, i ≤ j → j ≤ cc → ∀ g n, sc (od_body cc j) = nI n → n ≤ 16 → g < n → od_ok cc fm (od_body cc j) (so (od_body cc j * 16 + g)) (sa (od_body cc j * 16 + g)) (sb (od_body cc j * 16 + g))) ∧ (∀ post : Int32 → SX → Prop, post 0 (nI ca, st, er, ck, nI cc, nI oc, nI fc, fm, fk, ft, rt, dX, sc, so, sa, sb, oC, oO, oF, fB, fP, fR, fV, fL) → wX_checkStatements_2 post (nI ca) st er ck (nI cc) (nI oc) (nI fc) fm fk ft rt dX sc so sa sb oC oO oF fB fP fR fV fL (d + 1) (nI i)) ∧
      (∀ (post : Int32 → SY → Prop) (l : Int32), (∀ l', wY_compile_343 post 0 l' (nI ca) st er (nI cc) ck (nI oc) (nI fc) fm fk ft pT rt dY sc so sa sb oC oO oF fB fP fR fV fL) → wY_compile_260 post (nI ca) st er (nI cc) ck (nI oc) (nI fc) fm fk ft pT rt dY sc so sa sb oC oO oF fB fP fR fV fL (d + 1) 0 l (nI i))) ∨
    (∃ r l' : Int32, ¬ r = 0 ∧ (∀ post : Int32 → SX → Prop, post r (nI ca, st, l', ck, nI cc, nI oc, nI fc, fm, fk, ft, rt, dX, sc, so, sa, sb, oC, oO, oF, fB, fP, fR, fV, fL) → wX_checkStatements_2 post (nI ca) st er ck (nI cc) (nI oc) (nI fc) fm fk ft rt dX sc so sa sb oC oO oF fB fP fR fV fL (d + 1) (nI i)) ∧
      (∀ (post : Int32 → SY → Prop) (l : Int32), post r (nI ca, st, l', nI cc, ck, nI oc, nI fc, fm, fk, ft, pT, rt, dY, sc, so, sa, sb, oC, oO, oF, fB, fP, fR, fV, fL) → wY_compile_260 post (nI ca) st er (nI cc) ck (nI oc) (nI fc) fm fk ft pT rt dY sc so sa sb oC oO oF fB fP fR fV fL (d + 1) 0 l (nI i))) := by
  have hcc := hP.2.1
  have hsc := hP.2.2.2.2.1
  intro d
  induction d with
  | zero =>
    intro i h
    have l1 : nI cc < nI i := nI_lt (by omega) (by omega)
    exact Or.inl ⟨fun j h1 h2 => by omega, fun post p => br_t l1 p, fun post l p => br_t l1 (p l)⟩
  | succ d ih =>
    intro i h
    have l1 : ¬ nI cc < nI i := nI_nlt (by omega) (by omega)
    have fX : ∀ post : Int32 → SX → Prop, (∃ q, wX_checkStatements_27 post (wX_checkStatements_2 post (nI ca) st er ck (nI cc) (nI oc) (nI fc) fm fk ft rt dX sc so sa sb oC oO oF fB fP fR fV fL (d + 1)) (nI i) (nI (od_body cc i)) (nI ca) st er ck (nI cc) (nI oc) (nI fc) fm fk ft rt dX sc so sa sb oC oO oF fB fP fR fV fL q (nI 0)) → wX_checkStatements_2 post (nI ca) st er ck (nI cc) (nI oc) (nI fc) fm fk ft rt dX sc so sa sb oC oO oF fB fP fR fV fL (d + 1 + 1) (nI i) := by
      intro post p
      by_cases e : i < cc
      · rw [show od_body cc i = i from if_pos e] at p
        exact br_f l1 (br_f (nI_ge e (by omega)) p)
      · rw [show od_body cc i = 8 from if_neg e] at p
        exact br_f l1 (br_t (nI_le (by omega) (by omega)) p)
    have fY : ∀ (post : Int32 → SY → Prop) (l : Int32), (∃ q, wY_compile_294 post (wY_compile_260 post (nI ca) st er (nI cc) ck (nI oc) (nI fc) fm fk ft pT rt dY sc so sa sb oC oO oF fB fP fR fV fL (d + 1)) (nI i) (nI (od_body cc i)) (nI ca) st er (nI cc) ck (nI oc) (nI fc) fm fk ft pT rt dY sc so sa sb oC oO oF fB fP fR fV fL q 0 l (nI 0)) → wY_compile_260 post (nI ca) st er (nI cc) ck (nI oc) (nI fc) fm fk ft pT rt dY sc so sa sb oC oO oF fB fP fR fV fL (d + 1 + 1) 0 l (nI i) := by
      intro post l p
      by_cases e : i < cc
      · rw [show od_body cc i = i from if_pos e] at p
        exact br_f l1 (br_t rfl (br_f (nI_ge e (by omega)) p))
      · rw [show od_body cc i = 8 from if_neg e] at p
        exact br_f l1 (br_t rfl (br_t (nI_le (by omega) (by omega)) p))
    obtain ⟨n, hn, en⟩ := hsc (od_body cc i)
    rcases od_stb (ca := ca) (cc := cc) (oc := oc) (fc := fc) (st := st) (er := er) (ck := ck) (fm := fm) (fk := fk) (ft := ft) (rt := rt) (dX := dX) (pT := pT) (dY := dY) (sc := sc) (so := so) (sa := sa) (sb := sb) (oC := oC) (oO := oO) (oF := oF) (fB := fB) (fP := fP) (fR := fR) (fV := fV) (fL := fL) hP hV (i := i) (od_body_in (cc := cc) i) hn en n 0 (by omega) with ⟨t0, kX, kY⟩ | ⟨r, l', hr, kX, kY⟩
    · rcases ih (i + 1) (by omega) with ⟨t, jX, jY⟩ | ⟨r, l', hr, jX, jY⟩
      · refine Or.inl ⟨fun j h1 h2 => ?_, fun post p => fX post ⟨n + 1, kX post _ (jX post p)⟩, fun post l p => fY post l ⟨n + 1, kY post _ l (fun l' => jY post l' p)⟩⟩
        by_cases e : j = i
        · subst e
          intro g n' en' hn' hg
          obtain rfl := od_inj (en'.symm.trans en) (by omega) (by omega)
          exact t0 g (Nat.zero_le _) hg
        · exact t j (by omega) h2
      · exact Or.inr ⟨r, l', hr, fun post p => fX post ⟨n + 1, kX post _ (jX post p)⟩, fun post l p => fY post l ⟨n + 1, kY post _ l (fun l' => jY post l' p)⟩⟩
    · exact Or.inr ⟨r, l', hr, fun post p => fX post ⟨n + 1, kX post _ p⟩, fun post l p => fY post l ⟨n + 1, kY post _ l (od_yE260 hr _ p)⟩⟩
end
section
variable {ca cc oc fc : Nat} {st er ck : Int32} {fm fk ft rt dX pT dY sc so sa sb oC oO oF fB fP fR fV fL : Nat → Int32}
/-! the start of the machine -/
theorem od_push1 {Q : SX → Prop} {f : Nat} (hf : f < 8) (p : Q (nI ca, st, er, ck, nI cc, nI oc, nI (f + 1), fm, fk, ft, rt, dX, sc, so, sa, sb, oC, oO, oF, fB, fP, fR, fV, od_fill fL (f * 8) 8)) : ∀ d i, i + d = 8 → wX_pushFrame_41 Q (nI f) (nI ca) st er ck (nI cc) (nI oc) (nI f) (d + 1) (nI i) fm fk ft rt dX sc so sa sb oC oO oF fB fP fR fV (od_fill fL (f * 8) i) := by
  intro d
  induction d with
  | zero =>
    intro i hi
    obtain rfl : i = 8 := by omega
    exact br_t (by decide) (nm_r (nI_1 f) p)
  | succ d ih =>
    intro i hi
    refine br_f (nI_ge (b := 8) (by omega) (by decide)) ⟨by rw [od_i8]; exact vp_in_nI (by omega) (by decide), nm_r (e' := od_fill fL (f * 8) (i + 1)) ?_ (nm_r (nI_1 i) (ih (i + 1) (by omega)))⟩
    rw [od_i8, nI_clamp (by omega)]; rfl
theorem od_push {Q : SX → Prop} {f : Nat} {B R V : Int32} (hf : f < 8) (p : Q (nI ca, st, er, ck, nI cc, nI oc, nI (f + 1), fm, fk, ft, rt, dX, sc, so, sa, sb, oC, oO, oF, upd fB f B, upd fP f 0, upd fR f R, upd fV f V, od_fill fL (f * 8) 8)) : wpX_pushFrame Q (nI ca, st, er, ck, nI cc, nI oc, nI f, fm, fk, ft, rt, dX, sc, so, sa, sb, oC, oO, oF, fB, fP, fR, fV, fL) B R V := by
  have v : vp_in (nI f) 8 := vp_in_nI hf (by decide)
  have e : ∀ (g : Nat → Int32) (x : Int32), upd g (nI f).toNatClampNeg x = upd g f x := fun g x => by rw [nI_clamp (by omega)]
  exact ⟨v, nm_r (e _ _) ⟨v, nm_r (e _ _) ⟨v, nm_r (e _ _) ⟨v, nm_r (e _ _) ⟨9, od_push1 hf p 8 0 rfl⟩⟩⟩⟩⟩
theorem od_xstart {Q : SX → Prop} (p : Q (nI ca, 1, er, ck, nI cc, nI 0, nI 1, fm, fk, ft, rt, dX, sc, so, sa, sb, oC, oO, oF, upd fB 0 8, upd fP 0 0, upd fR 0 (-1), upd fV 0 (-1), od_fill fL 0 8)) : wpX_startMachine Q (nI ca, st, er, ck, nI cc, nI oc, nI fc, fm, fk, ft, rt, dX, sc, so, sa, sb, oC, oO, oF, fB, fP, fR, fV, fL) := by
  unfold wpX_startMachine
  exact od_push (f := 0) (by decide) p
theorem od_ystart1 {Q : SY → Prop} (p : Q (nI ca, 1, er, nI cc, ck, nI 0, nI 1, fm, fk, ft, pT, rt, dY, sc, so, sa, sb, oC, oO, oF, fB, fP, fR, fV, od_fill fL 0 8)) : ∀ d i, i + d = 8 → wY_startMachine_41 Q (nI ca) st er (nI cc) ck (nI 0) (nI 1) (d + 1) (nI i) fm fk ft pT rt dY sc so sa sb oC oO oF fB fP fR fV (od_fill fL 0 i) := by
  intro d
  induction d with
  | zero =>
    intro i hi
    obtain rfl : i = 8 := by omega
    exact br_t (by decide) p
  | succ d ih =>
    intro i hi
    refine br_f (nI_ge (b := 8) (by omega) (by decide)) ⟨vp_in_nI (by omega) (by decide), nm_r (e' := od_fill fL 0 (i + 1)) ?_ (nm_r (nI_1 i) (ih (i + 1) (by omega)))⟩
    rw [nI_clamp (by omega)]
    show _ = upd _ (0 + i) _
    rw [Nat.zero_add]
theorem od_ystart {Q : SY → Prop} (p : Q (nI ca, 1, er, nI cc, ck, nI 0, nI 1, fm, fk, ft, pT, rt, dY, sc, so, sa, sb, oC, oO, oF, upd fB 0 8, upd fP 0 0, upd fR 0 (-1), upd fV 0 (-1), od_fill fL 0 8)) : wpY_startMachine Q (nI ca, st, er, nI cc, ck, nI oc, nI fc, fm, fk, ft, pT, rt, dY, sc, so, sa, sb, oC, oO, oF, fB, fP, fR, fV, fL) :=
  nm_e (nm_e (nm_e (nm_e ⟨9, od_ystart1 p 8 0 rfl⟩)))
/-! the relation -/
/-- null, or an object older than oc -/
def od_R (oc : Nat) (x : Int32) : Prop := x = -1 ∨ ∃ w, w < oc ∧ x = nI w
def od_C (cc : Nat) (fm sc so sa sb : Nat → Int32) : Prop := ∀ b s n, (b < cc ∨ b = 8) → sc b = nI n → n ≤ 16 → s < n → od_ok cc fm b (so (b * 16 + s)) (sa (b * 16 + s)) (sb (b * 16 + s))
def od_H (cc oc : Nat) (oC oO oF : Nat → Int32) : Prop := ∀ o, o < oc → (∃ c, c < cc ∧ oC o = nI c) ∧ (∀ i, i < 3 → od_R o (oO (o * 3 + i))) ∧ (∀ f, f < 4 → od_R oc (oF (o * 4 + f)))
def od_Fr (cc oc : Nat) (sc fB fP fR fV fL : Nat → Int32) (f : Nat) : Prop := ∃ b p n, fB f = nI b ∧ fP f = nI p ∧ n ≤ 16 ∧ sc b = nI n ∧ p ≤ n ∧ (f = 0 → b = 8 ∧ fR f = -1) ∧ (0 < f → b < cc ∧ (∃ w, w < oc ∧ fR f = nI w) ∧ (∃ v, v < 8 ∧ fV f = nI v)) ∧ (∀ v, v < 8 → od_R oc (fL (f * 8 + v)))
def od_F (cc oc fc : Nat) (sc fB fP fR fV fL : Nat → Int32) : Prop := ∀ f, f < fc → od_Fr cc oc sc fB fP fR fV fL f
def od_M (cc oc fc : Nat) (fm sc so sa sb oC oO oF fB fP fR fV fL : Nat → Int32) : Prop := od_C cc fm sc so sa sb ∧ 1 ≤ fc ∧ od_H cc oc oC oO oF ∧ od_F cc oc fc sc fB fP fR fV fL
def od_All (ca cc oc fc : Nat) (st ck : Int32) (fm fk dX pT dY sc so sa sb oC oO oF fB fP fR fV fL : Nat → Int32) : Prop :=
  od_P ck cc fm fk dX pT dY sc ∧ ca ≤ 32 ∧ oc ≤ ca ∧ fc ≤ 8 ∧ (st = 0 → oc = 0 ∧ fc = 0) ∧ (¬ st = 0 → od_M cc oc fc fm sc so sa sb oC oO oF fB fP fR fV fL)
def i_Rel (k : Nat) (u : SX) (v : SY) : Prop := ∃ (ca cc oc fc : Nat) (st er ck : Int32) (fm fk ft rt dX pT dY sc so sa sb oC oO oF fB fP fR fV fL : Nat → Int32),
  u = (nI ca, st, er, ck, nI cc, nI oc, nI fc, fm, fk, ft, rt, dX, sc, so, sa, sb, oC, oO, oF, fB, fP, fR, fV, fL) ∧ v = (nI ca, st, er, nI cc, ck, nI oc, nI fc, fm, fk, ft, pT, rt, dY, sc, so, sa, sb, oC, oO, oF, fB, fP, fR, fV, fL) ∧ od_All ca cc oc fc st ck fm fk dX pT dY sc so sa sb oC oO oF fB fP fR fV fL
theorem od_mk {k : Nat} (h : od_All ca cc oc fc st ck fm fk dX pT dY sc so sa sb oC oO oF fB fP fR fV fL) : i_Rel k (nI ca, st, er, ck, nI cc, nI oc, nI fc, fm, fk, ft, rt, dX, sc, so, sa, sb, oC, oO, oF, fB, fP, fR, fV, fL) (nI ca, st, er, nI cc, ck, nI oc, nI fc, fm, fk, ft, pT, rt, dY, sc, so, sa, sb, oC, oO, oF, fB, fP, fR, fV, fL) :=
  ⟨ca, cc, oc, fc, st, er, ck, fm, fk, ft, rt, dX, pT, dY, sc, so, sa, sb, oC, oO, oF, fB, fP, fR, fV, fL, rfl, rfl, h⟩
theorem od_begin (hP : od_P ck cc fm fk dX pT dY sc) (hC : od_C cc fm sc so sa sb) (hca : ca ≤ 32) : od_All ca cc 0 1 1 ck fm fk dX pT dY sc so sa sb oC oO oF (upd fB 0 8) (upd fP 0 0) (upd fR 0 (-1)) (upd fV 0 (-1)) (od_fill fL 0 8) := by
  refine ⟨hP, hca, Nat.zero_le _, by omega, fun h => absurd h (by decide), fun _ => ⟨hC, Nat.le_refl _, fun o h => by omega, fun f hf => ?_⟩⟩
  obtain rfl : f = 0 := by omega
  obtain ⟨n, hn, en⟩ := hP.2.2.2.2.1 8
  exact ⟨8, 0, n, pk_us, pk_us, hn, en, Nat.zero_le _, fun _ => ⟨rfl, pk_us⟩, fun h => absurd h (by omega), fun v hv => Or.inl (od_fill_in _ _ 8 _ (by omega) (by omega))⟩
theorem od_selfT (hcc : cc ≤ 8) {c n : Nat} (hc : c < cc) (hn : n ≤ 2) (e : fm c = nI n) : od_T cc fm (nI (od_self c n)) := by
  rcases (show n = 0 ∨ n = 1 ∨ n = 2 by omega) with rfl | rfl | rfl
  · have e1 : od_self c 0 = c + 16 := rfl
    have em : (c + 16) % 16 = c := by omega
    rw [e1]
    refine ⟨c + 16, 0, by omega, rfl, by rw [em]; exact hc, by decide, by rw [em]; exact e, fun i hi => ?_⟩
    obtain rfl : i = 0 := by omega
    show (c + 16) / 16 % 16 ≤ 4
    omega
  · have e1 : od_self c 1 = c + 784 := rfl
    have em : (c + 784) % 16 = c := by omega
    rw [e1]
    refine ⟨c + 784, 1, by omega, rfl, by rw [em]; exact hc, by decide, by rw [em]; exact e, fun i hi => ?_⟩
    rcases (show i = 0 ∨ i = 1 by omega) with rfl | rfl
    · show (c + 784) / 16 % 16 ≤ 4
      omega
    · show (c + 784) / 256 % 16 ≤ 4
      omega
  · have e1 : od_self c 2 = c + 17168 := rfl
    have em : (c + 17168) % 16 = c := by omega
    rw [e1]
    refine ⟨c + 17168, 2, by omega, rfl, by rw [em]; exact hc, by decide, by rw [em]; exact e, fun i hi => ?_⟩
    rcases (show i = 0 ∨ i = 1 ∨ i = 2 by omega) with rfl | rfl | rfl
    · show (c + 17168) / 16 % 16 ≤ 4
      omega
    · show (c + 17168) / 256 % 16 ≤ 4
      omega
    · show (c + 17168) / 4096 % 16 ≤ 4
      omega
theorem od_toV (hP : od_P ck cc fm fk dX pT dY sc) (h1 : ∀ c, 0 ≤ c → c < cc → od_G cc fm fk ft rt dX c) (h2 : ∀ j, 0 ≤ j → j ≤ cc → ∀ g, (od_body cc j = 8 ∨ 2 ≤ g) → g < 8 → od_T cc fm (dX (od_body cc j * 8 + g))) : od_V cc fm fk ft rt dX := by
  obtain ⟨hck, hcc, hfm, hfk, hsc, hd0, hd1, hd2, hd8⟩ := hP
  refine ⟨fun b v hb hv => ?_, fun c f n hc e hn hf => (h1 c (Nat.zero_le _) hc).1 f n e hn hf, fun c hc => (h1 c (Nat.zero_le _) hc).2.2⟩
  rcases hb with hb | rfl
  · by_cases v0 : v = 0
    · subst v0
      obtain ⟨n, hn, en⟩ := hfm b
      rw [Nat.add_zero, hd0 b n hb hn en]
      exact od_selfT hcc hb hn en
    · by_cases v1 : v = 1
      · subst v1; exact (h1 b (Nat.zero_le _) hb).2.1
      · have e : od_body cc b = b := if_pos hb
        have := h2 b (Nat.zero_le _) (by omega) v (Or.inr (by omega)) hv
        rw [e] at this; exact this
  · have e : od_body cc cc = 8 := if_neg (Nat.lt_irrefl _)
    have := h2 cc (Nat.zero_le _) (Nat.le_refl _) v (Or.inl e) hv
    rw [e] at this; exact this
theorem od_toC (h : ∀ j, 0 ≤ j → j ≤ cc → ∀ g n, sc (od_body cc j) = nI n → n ≤ 16 → g < n → od_ok cc fm (od_body cc j) (so (od_body cc j * 16 + g)) (sa (od_body cc j * 16 + g)) (sb (od_body cc j * 16 + g))) : od_C cc fm sc so sa sb := by
  intro b s n hb en hn hs
  rcases hb with hb | rfl
  · have e : od_body cc b = b := if_pos hb
    have := h b (Nat.zero_le _) (by omega) s n
    rw [e] at this; exact this en hn hs
  · have e : od_body cc cc = 8 := if_neg (Nat.lt_irrefl _)
    have := h cc (Nat.zero_le _) (Nat.le_refl _) s n
    rw [e] at this; exact this en hn hs
theorem od_comp {k : Nat} {m : Int32} (hm : m = 0 ∨ m = 1) (h : od_All ca cc oc fc 0 ck fm fk dX pT dY sc so sa sb oC oO oF fB fP fR fV fL) :
    wX_compile_29 (fun r u' => wpY_compile (fun r' v' => r' = r ∧ i_Rel k u' v') (nI ca, 0, er, nI cc, ck, nI oc, nI fc, fm, fk, ft, pT, rt, dY, sc, so, sa, sb, oC, oO, oF, fB, fP, fR, fV, fL) m) m (nI ca) 0 er ck (nI cc) (nI oc) (nI fc) fm fk ft rt dX sc so sa sb oC oO oF fB fP fR fV fL := by
  obtain ⟨⟨-, hP'⟩, hca, hoc, hfc, h0, -⟩ := h
  have hP : od_P m cc fm fk dX pT dY sc := ⟨hm, hP'⟩
  have hk : ∀ er, i_Rel k (nI ca, 0, er, m, nI cc, nI oc, nI fc, fm, fk, ft, rt, dX, sc, so, sa, sb, oC, oO, oF, fB, fP, fR, fV, fL) (nI ca, 0, er, nI cc, m, nI oc, nI fc, fm, fk, ft, pT, rt, dY, sc, so, sa, sb, oC, oO, oF, fB, fP, fR, fV, fL) := fun er => od_mk ⟨hP, hca, hoc, hfc, h0, fun h => absurd rfl h⟩
  have m0 : ¬ m < 0 := by rcases hm with rfl | rfl <;> decide
  have m1 : m ≤ 1 := by rcases hm with rfl | rfl <;> decide
  have nar : narrow .boolean (.int m) = .int m := by rcases hm with rfl | rfl <;> rfl
  have fit : fits .boolean (.int m) = true := by rcases hm with rfl | rfl <;> rfl
  rcases od_sig (ca := ca) (cc := cc) (oc := oc) (fc := fc) (st := 0) (er := er) (ck := m) (fm := fm) (fk := fk) (ft := ft) (rt := rt) (dX := dX) (pT := pT) (dY := dY) (sc := sc) (so := so) (sa := sa) (sb := sb) (oC := oC) (oO := oO) (oF := oF) (fB := fB) (fP := fP) (fR := fR) (fV := fV) (fL := fL) hP cc 0 (by omega) with ⟨t1, aX, aY⟩ | ⟨r, l', hr, aX, aY⟩
  · rcases od_loc (ca := ca) (cc := cc) (oc := oc) (fc := fc) (st := 0) (er := er) (ck := m) (fm := fm) (fk := fk) (ft := ft) (rt := rt) (dX := dX) (pT := pT) (dY := dY) (sc := sc) (so := so) (sa := sa) (sb := sb) (oC := oC) (oO := oO) (oF := oF) (fB := fB) (fP := fP) (fR := fR) (fV := fV) (fL := fL) hP (cc + 1) 0 (by omega) with ⟨t2, bX, bY⟩ | ⟨r, l', hr, bX, bY⟩
    · have hV := od_toV hP t1 t2
      rcases od_st (ca := ca) (cc := cc) (oc := oc) (fc := fc) (st := 0) (er := er) (ck := m) (fm := fm) (fk := fk) (ft := ft) (rt := rt) (dX := dX) (pT := pT) (dY := dY) (sc := sc) (so := so) (sa := sa) (sb := sb) (oC := oC) (oO := oO) (oF := oF) (fB := fB) (fP := fP) (fR := fR) (fV := fV) (fL := fL) hP hV (cc + 1) 0 (by omega) with ⟨t3, cX, cY⟩ | ⟨r, l', hr, cX, cY⟩
      · have fin : i_Rel k (nI ca, 1, -1, m, nI cc, nI 0, nI 1, fm, fk, ft, rt, dX, sc, so, sa, sb, oC, oO, oF, upd fB 0 8, upd fP 0 0, upd fR 0 (-1), upd fV 0 (-1), od_fill fL 0 8) (nI ca, 1, -1, nI cc, m, nI 0, nI 1, fm, fk, ft, pT, rt, dY, sc, so, sa, sb, oC, oO, oF, upd fB 0 8, upd fP 0 0, upd fR 0 (-1), upd fV 0 (-1), od_fill fL 0 8) := od_mk (od_begin hP (od_toC t3) hca)
        exact ⟨nar, fit, cc + 1, aX _ (br_t rfl ⟨cc + 2, bX _ (br_t rfl ⟨cc + 2, cX _ (br_t rfl (od_xstart (br_t rfl (br_f m0 (br_t m1 ⟨cc + 1, aY _ _ (fun l' => ⟨cc + 2, bY _ l' (fun l' => ⟨cc + 2, cY _ l' (fun l' => br_t rfl (od_ystart ⟨rfl, fin⟩))⟩)⟩)⟩)))))⟩)⟩)⟩
      · exact ⟨nar, fit, cc + 1, aX _ (br_t rfl ⟨cc + 2, bX _ (br_t rfl ⟨cc + 2, cX _ (br_f hr (br_t rfl (br_f m0 (br_t m1 ⟨cc + 1, aY _ _ (fun l' => ⟨cc + 2, bY _ l' (fun l' => ⟨cc + 2, cY _ l' ⟨rfl, hk _⟩⟩)⟩)⟩))))⟩)⟩)⟩
    · exact ⟨nar, fit, cc + 1, aX _ (br_t rfl ⟨cc + 2, bX _ (br_f hr (br_f hr (br_t rfl (br_f m0 (br_t m1 ⟨cc + 1, aY _ _ (fun l' => ⟨cc + 2, bY _ l' ⟨rfl, hk _⟩⟩)⟩)))))⟩)⟩
  · exact ⟨nar, fit, cc + 1, aX _ (br_f hr (br_f hr (br_f hr (br_t rfl (br_f m0 (br_t m1 ⟨cc + 1, aY _ _ ⟨rfl, hk _⟩⟩))))))⟩
theorem od_compile {k : Nat} (v1 : Int32) (h : od_All ca cc oc fc st ck fm fk dX pT dY sc so sa sb oC oO oF fB fP fR fV fL) :
    wpX_compile (fun r u' => wpY_compile (fun r' v' => r' = r ∧ i_Rel k u' v') (nI ca, st, er, nI cc, ck, nI oc, nI fc, fm, fk, ft, pT, rt, dY, sc, so, sa, sb, oC, oO, oF, fB, fP, fR, fV, fL) v1) (nI ca, st, er, ck, nI cc, nI oc, nI fc, fm, fk, ft, rt, dX, sc, so, sa, sb, oC, oO, oF, fB, fP, fR, fV, fL) v1 := by
  by_cases hs : st = 0
  · subst hs
    by_cases h0 : v1 = 0
    · subst h0
      exact br_t rfl (br_t rfl (br_f (by decide) (od_comp (Or.inl rfl) h)))
    · by_cases h1 : v1 = 1
      · subst h1
        exact br_t rfl (br_f h0 (br_t rfl (br_t rfl (od_comp (Or.inr rfl) h))))
      · refine br_t rfl (br_f h0 (br_f h1 ?_))
        by_cases hn : v1 < 0
        · exact br_t rfl (br_t hn ⟨rfl, od_mk h⟩)
        · obtain ⟨j, hj, rfl⟩ := nI_of hn
          have j2 : 2 ≤ j := by
            rcases (show j = 0 ∨ j = 1 ∨ 2 ≤ j by omega) with rfl | rfl | h
            · exact absurd rfl h0
            · exact absurd rfl h1
            · exact h
          exact br_t rfl (br_f hn (br_f (nI_ge (a := 1) (by omega) hj) ⟨rfl, od_mk h⟩))
  · exact br_f hs (br_f hs ⟨rfl, od_mk h⟩)
end
section
variable {ca cc oc fc : Nat} {st er ck : Int32} {fm fk ft rt dX pT dY sc so sa sb oC oO oF fB fP fR fV fL : Nat → Int32}
/-! inside, dominance -/
theorem od_i3x {f : Nat → Int32} {w : Nat} (hw : w < 32) : f (nI w * 3).toNatClampNeg = f (w * 3) := by rw [od_m3, nI_clamp (by omega)]
theorem od_v3 {w : Nat} (hw : w < 32) : vp_in (nI w * 3) 96 := by rw [od_m3]; exact vp_in_nI (by omega) (by decide)
theorem od_chain (hoc : oc ≤ 32) (hO : ∀ w, w < oc → od_R w (oO (w * 3))) (o : Int32) : ∀ w i, w < oc → w + i < 32 →
    ∃ r : Int32, (∀ (post : Int32 → Prop) (n : Nat), w < n → post r → wX_isInside_12 post o (nI ca) st er ck (nI cc) (nI oc) (nI fc) fm fk ft rt dX sc so sa sb oC oO oF fB fP fR fV fL (n + 1) (nI w) (nI i)) ∧ (∀ (post : Int32 → Prop) (n : Nat), w < n → post r → wY_inside_12 post o (nI ca) st er (nI cc) ck (nI oc) (nI fc) fm fk ft pT rt dY sc so sa sb oC oO oF fB fP fR fV fL (n + 1) (nI w) (nI i)) := by
  intro w
  induction w using Nat.strongRecOn with
  | _ w ih =>
    intro i hw hi
    have a1 : ¬ (32 : Int32) ≤ nI i := nI_ge (b := 32) (by omega) (by decide)
    have a2 : ¬ (40 : Int32) ≤ nI i := nI_ge (b := 40) (by omega) (by decide)
    have a3 : ¬ nI w = -1 := od_ne1 (by omega)
    have a4 : (0 : Int32) ≤ nI w := nI_pos' (by omega)
    have v := od_v3 (w := w) (by omega)
    by_cases e : nI w = o
    · exact ⟨1, fun post n _ p => br_f a1 (br_f a3 (br_t e p)), fun post n _ p => br_f a2 (br_t a4 (br_t e p))⟩
    · rcases hO w hw with h | ⟨w', hw', h⟩
      · have eo : oO (nI w * 3).toNatClampNeg = -1 := (od_i3x (by omega)).trans h
        have a5 : ¬ (40 : Int32) ≤ nI (i + 1) := nI_ge (b := 40) (by omega) (by decide)
        refine ⟨0, fun post n hn p => ?_, fun post n hn p => ?_⟩
        · obtain ⟨n', rfl⟩ : ∃ n', n = n' + 1 := ⟨n - 1, by omega⟩
          refine br_f a1 (br_f a3 (br_f e ⟨v, nm_r eo (nm_r (nI_1 i) ?_)⟩))
          exact br_c (fun _ => p) (fun _ => br_t rfl p)
        · obtain ⟨n', rfl⟩ : ∃ n', n = n' + 1 := ⟨n - 1, by omega⟩
          exact br_f a2 (br_t a4 (br_f e ⟨v, nm_r eo (nm_r (nI_1 i) (br_f a5 (br_f od_n0 p)))⟩))
      · have eo : oO (nI w * 3).toNatClampNeg = nI w' := (od_i3x (by omega)).trans h
        obtain ⟨r, rX, rY⟩ := ih w' hw' (i + 1) (by omega) (by omega)
        refine ⟨r, fun post n hn p => ?_, fun post n hn p => ?_⟩
        · obtain ⟨n', rfl⟩ : ∃ n', n = n' + 1 := ⟨n - 1, by omega⟩
          exact br_f a1 (br_f a3 (br_f e ⟨v, nm_r eo (nm_r (nI_1 i) (rX post n' (by omega) p))⟩))
        · obtain ⟨n', rfl⟩ : ∃ n', n = n' + 1 := ⟨n - 1, by omega⟩
          exact br_f a2 (br_t a4 (br_f e ⟨v, nm_r eo (nm_r (nI_1 i) (rY post n' (by omega) p))⟩))
theorem od_inside (hoc : oc ≤ 32) (hO : ∀ w, w < oc → od_R w (oO (w * 3))) (o : Int32) {w : Nat} (hw : w < oc) :
    ∃ r : Int32, (∀ post : Int32 → Prop, post r → wpX_isInside post (nI ca, st, er, ck, nI cc, nI oc, nI fc, fm, fk, ft, rt, dX, sc, so, sa, sb, oC, oO, oF, fB, fP, fR, fV, fL) (nI w) o) ∧ (∀ post : Int32 → Prop, post r → wpY_inside post (nI ca, st, er, nI cc, ck, nI oc, nI fc, fm, fk, ft, pT, rt, dY, sc, so, sa, sb, oC, oO, oF, fB, fP, fR, fV, fL) (nI w) o) := by
  by_cases e : o = -1
  · exact ⟨1, fun post p => br_t e p, fun post p => br_t e p⟩
  · obtain ⟨r, rX, rY⟩ := od_chain (ca := ca) (cc := cc) (oc := oc) (fc := fc) (st := st) (er := er) (ck := ck) (fm := fm) (fk := fk) (ft := ft) (rt := rt) (dX := dX) (pT := pT) (dY := dY) (sc := sc) (so := so) (sa := sa) (sb := sb) (oC := oC) (oO := oO) (oF := oF) (fB := fB) (fP := fP) (fR := fR) (fV := fV) (fL := fL) hoc hO o w 0 hw (by omega)
    exact ⟨r, fun post p => br_f e ⟨w + 2, rX post (w + 1) (by omega) p⟩, fun post p => br_f e ⟨w + 2, rY post (w + 1) (by omega) p⟩⟩
theorem od_may1 {a : Int32} {post : Int32 → Prop} (p : post 1) : wpX_mayRefer post (nI ca, st, er, ck, nI cc, nI oc, nI fc, fm, fk, ft, rt, dX, sc, so, sa, sb, oC, oO, oF, fB, fP, fR, fV, fL) a (-1) := br_t rfl p
theorem od_may2 {a : Int32} {t : Nat} {post : Int32 → Prop} (ht : t < 32) (p : wpX_isInside (fun r => (r = 0 → post 0) ∧ (¬ r = 0 → post 1)) (nI ca, st, er, ck, nI cc, nI oc, nI fc, fm, fk, ft, rt, dX, sc, so, sa, sb, oC, oO, oF, fB, fP, fR, fV, fL) a (oO (t * 3))) : wpX_mayRefer post (nI ca, st, er, ck, nI cc, nI oc, nI fc, fm, fk, ft, rt, dX, sc, so, sa, sb, oC, oO, oF, fB, fP, fR, fV, fL) a (nI t) := by
  refine br_f (od_ne1 (by omega)) ⟨od_v3 ht, ?_⟩
  rw [od_i3x (f := oO) ht]; exact p
theorem od_dom1 (hoc : oc ≤ 32) (hH : od_H cc oc oC oO oF) {a : Nat} (ha : a < oc) : ∀ d f, f + d = 4 →
    ((∀ (post : Int32 → Prop) (J : Int32 → Prop), J (nI (a + 1)) → wX_isDominated_12 post J (nI a) (nI ca) st er ck (nI cc) (nI oc) (nI fc) fm fk ft rt dX sc so sa sb oC oO oF fB fP fR fV fL (d + 1) (nI f)) ∧ (∀ (post : Int32 → Prop) (J : Int32 → Prop), J (nI (a + 1)) → wY_dominance_12 post J (nI a) (nI ca) st er (nI cc) ck (nI oc) (nI fc) fm fk ft pT rt dY sc so sa sb oC oO oF fB fP fR fV fL (d + 1) (nI f))) ∨
    ((∀ (post : Int32 → Prop) (J : Int32 → Prop), post 0 → wX_isDominated_12 post J (nI a) (nI ca) st er ck (nI cc) (nI oc) (nI fc) fm fk ft rt dX sc so sa sb oC oO oF fB fP fR fV fL (d + 1) (nI f)) ∧ (∀ (post : Int32 → Prop) (J : Int32 → Prop), post 0 → wY_dominance_12 post J (nI a) (nI ca) st er (nI cc) ck (nI oc) (nI fc) fm fk ft pT rt dY sc so sa sb oC oO oF fB fP fR fV fL (d + 1) (nI f))) := by
  have hO : ∀ w, w < oc → od_R w (oO (w * 3)) := fun w hw => (hH w hw).2.1 0 (by decide)
  have z : ¬ (1 : Int32) = 0 := by decide
  intro d
  induction d with
  | zero =>
    intro f hf
    obtain rfl : f = 4 := by omega
    exact Or.inl ⟨fun post J p => br_t (by decide) (nm_r (nI_1 a) p), fun post J p => br_t (by decide) (nm_r (nI_1 a) p)⟩
  | succ d ih =>
    intro f hf
    have n4 : ¬ (4 : Int32) ≤ nI f := nI_ge (b := 4) (by omega) (by decide)
    have v : vp_in (nI a * 4 + nI f) 128 := by rw [od_i4]; exact vp_in_nI (by omega) (by decide)
    have eF : oF (nI a * 4 + nI f).toNatClampNeg = oF (a * 4 + f) := by rw [od_i4, nI_clamp (by omega)]
    rcases (hH a ha).2.2 f (by omega) with h | ⟨t, ht, h⟩
    · rw [h] at eF
      have gX : ∀ (post : Int32 → Prop) (J : Int32 → Prop), wX_isDominated_12 post J (nI a) (nI ca) st er ck (nI cc) (nI oc) (nI fc) fm fk ft rt dX sc so sa sb oC oO oF fB fP fR fV fL (d + 1) (nI (f + 1)) → wX_isDominated_12 post J (nI a) (nI ca) st er ck (nI cc) (nI oc) (nI fc) fm fk ft rt dX sc so sa sb oC oO oF fB fP fR fV fL (d + 1 + 1) (nI f) := by
        intro post J p
        refine br_f n4 ⟨v, ?_⟩
        rw [eF]
        exact od_may1 (br_f z (nm_r (nI_1 f) p))
      have gY : ∀ (post : Int32 → Prop) (J : Int32 → Prop), wY_dominance_12 post J (nI a) (nI ca) st er (nI cc) ck (nI oc) (nI fc) fm fk ft pT rt dY sc so sa sb oC oO oF fB fP fR fV fL (d + 1) (nI (f + 1)) → wY_dominance_12 post J (nI a) (nI ca) st er (nI cc) ck (nI oc) (nI fc) fm fk ft pT rt dY sc so sa sb oC oO oF fB fP fR fV fL (d + 1 + 1) (nI f) :=
        fun post J p => br_f n4 ⟨v, nm_r eF (br_t od_n1 (nm_r (nI_1 f) p))⟩
      rcases ih (f + 1) (by omega) with ⟨kX, kY⟩ | ⟨kX, kY⟩
      · exact Or.inl ⟨fun post J p => gX post J (kX post J p), fun post J p => gY post J (kY post J p)⟩
      · exact Or.inr ⟨fun post J p => gX post J (kX post J p), fun post J p => gY post J (kY post J p)⟩
    · rw [h] at eF
      have t0 : ¬ nI t < 0 := nI_pos (by omega)
      have vt := od_v3 (w := t) (by omega)
      have eo : oO (nI t * 3).toNatClampNeg = oO (t * 3) := od_i3x (by omega)
      obtain ⟨r, rX, rY⟩ := od_inside (ca := ca) (cc := cc) (oc := oc) (fc := fc) (st := st) (er := er) (ck := ck) (fm := fm) (fk := fk) (ft := ft) (rt := rt) (dX := dX) (pT := pT) (dY := dY) (sc := sc) (so := so) (sa := sa) (sb := sb) (oC := oC) (oO := oO) (oF := oF) (fB := fB) (fP := fP) (fR := fR) (fV := fV) (fL := fL) hoc hO (oO (t * 3)) ha
      by_cases hr : r = 0
      · refine Or.inr ⟨fun post J p => br_f n4 ⟨v, ?_⟩, fun post J p => br_f n4 ⟨v, nm_r eF (br_f t0 ⟨vt, ?_⟩)⟩⟩
        · rw [eF]; exact od_may2 (by omega) (rX _ (br_t hr (br_t rfl p)))
        · rw [eo]; exact rY _ (br_t hr p)
      · have gX : ∀ (post : Int32 → Prop) (J : Int32 → Prop), wX_isDominated_12 post J (nI a) (nI ca) st er ck (nI cc) (nI oc) (nI fc) fm fk ft rt dX sc so sa sb oC oO oF fB fP fR fV fL (d + 1) (nI (f + 1)) → wX_isDominated_12 post J (nI a) (nI ca) st er ck (nI cc) (nI oc) (nI fc) fm fk ft rt dX sc so sa sb oC oO oF fB fP fR fV fL (d + 1 + 1) (nI f) := by
          intro post J p
          refine br_f n4 ⟨v, ?_⟩
          rw [eF]
          exact od_may2 (by omega) (rX _ (br_f hr (br_f z (nm_r (nI_1 f) p))))
        have gY : ∀ (post : Int32 → Prop) (J : Int32 → Prop), wY_dominance_12 post J (nI a) (nI ca) st er (nI cc) ck (nI oc) (nI fc) fm fk ft pT rt dY sc so sa sb oC oO oF fB fP fR fV fL (d + 1) (nI (f + 1)) → wY_dominance_12 post J (nI a) (nI ca) st er (nI cc) ck (nI oc) (nI fc) fm fk ft pT rt dY sc so sa sb oC oO oF fB fP fR fV fL (d + 1 + 1) (nI f) := by
          intro post J p
          refine br_f n4 ⟨v, nm_r eF (br_f t0 ⟨vt, ?_⟩)⟩
          rw [eo]; exact rY _ (br_f hr (nm_r (nI_1 f) p))
        rcases ih (f + 1) (by omega) with ⟨kX, kY⟩ | ⟨kX, kY⟩
        · exact Or.inl ⟨fun post J p => gX post J (kX post J p), fun post J p => gY post J (kY post J p)⟩
        · exact Or.inr ⟨fun post J p => gX post J (kX post J p), fun post J p => gY post J (kY post J p)⟩
/-- one cell of a frame: one verdict on both sides -/
theorem od_cell (hoc : oc ≤ 32) (hfc : fc ≤ 8) (hH : od_H cc oc oC oO oF) (hF : od_F cc oc fc sc fB fP fR fV fL) {f v d : Nat} (hf : f < fc) (hv : v < 8) :
    ((∀ (post : Int32 → Prop) (J : Int32 → Prop), wX_isDominated_61 post J (nI f) (nI ca) st er ck (nI cc) (nI oc) (nI fc) fm fk ft rt dX sc so sa sb oC oO oF fB fP fR fV fL (d + 1) (nI (v + 1)) → wX_isDominated_61 post J (nI f) (nI ca) st er ck (nI cc) (nI oc) (nI fc) fm fk ft rt dX sc so sa sb oC oO oF fB fP fR fV fL (d + 1 + 1) (nI v)) ∧ (∀ (post : Int32 → Prop) (J : Int32 → Prop), wY_dominance_81 post J (nI f) (fR f) (nI ca) st er (nI cc) ck (nI oc) (nI fc) fm fk ft pT rt dY sc so sa sb oC oO oF fB fP fR fV fL (d + 1) (nI (v + 1)) → wY_dominance_81 post J (nI f) (fR f) (nI ca) st er (nI cc) ck (nI oc) (nI fc) fm fk ft pT rt dY sc so sa sb oC oO oF fB fP fR fV fL (d + 1 + 1) (nI v))) ∨
    ((∀ (post : Int32 → Prop) (J : Int32 → Prop), post 0 → wX_isDominated_61 post J (nI f) (nI ca) st er ck (nI cc) (nI oc) (nI fc) fm fk ft rt dX sc so sa sb oC oO oF fB fP fR fV fL (d + 1 + 1) (nI v)) ∧ (∀ (post : Int32 → Prop) (J : Int32 → Prop), post 0 → wY_dominance_81 post J (nI f) (fR f) (nI ca) st er (nI cc) ck (nI oc) (nI fc) fm fk ft pT rt dY sc so sa sb oC oO oF fB fP fR fV fL (d + 1 + 1) (nI v))) := by
  have hO : ∀ w, w < oc → od_R w (oO (w * 3)) := fun w hw => (hH w hw).2.1 0 (by decide)
  have z : ¬ (1 : Int32) = 0 := by decide
  have n8 : ¬ (8 : Int32) ≤ nI v := nI_ge (b := 8) hv (by decide)
  have vf : vp_in (nI f) 8 := vp_in_nI (by omega) (by decide)
  have ef : fR (nI f).toNatClampNeg = fR f := by rw [nI_clamp (by omega)]
  have vl : vp_in (nI f * 8 + nI v) 64 := by rw [od_i8]; exact vp_in_nI (by omega) (by decide)
  have el : fL (nI f * 8 + nI v).toNatClampNeg = fL (f * 8 + v) := by rw [od_i8, nI_clamp (by omega)]
  obtain ⟨b, pc, n, -, -, -, -, -, h0, h1, hL⟩ := hF f hf
  rcases hL v hv with h | ⟨t, ht, h⟩
  · rw [h] at el
    refine Or.inl ⟨fun post J p => br_f n8 ⟨vf, vl, ?_⟩, fun post J p => br_f n8 ⟨vl, nm_r el (br_f od_n0 (nm_r (nI_1 v) p))⟩⟩
    rw [el]; exact od_may1 (br_f z (nm_r (nI_1 v) p))
  · rw [h] at el
    have t0 : (0 : Int32) ≤ nI t := nI_pos' (by omega)
    have vt := od_v3 (w := t) (by omega)
    have eo : oO (nI t * 3).toNatClampNeg = oO (t * 3) := od_i3x (by omega)
    by_cases f0 : f = 0
    · have eR := (h0 f0).2
      subst f0
      by_cases e : oO (t * 3) = -1
      · refine Or.inl ⟨fun post J p => br_f n8 ⟨vf, vl, ?_⟩, fun post J p => br_f n8 ⟨vl, nm_r el (br_t t0 (br_t rfl ⟨vt, ?_⟩))⟩⟩
        · rw [el, ef, eR]; exact od_may2 (by omega) (br_t e (br_f z (br_f z (nm_r (nI_1 v) p))))
        · rw [eo]; exact br_t e (br_t (by decide) (nm_r (nI_1 v) p))
      · refine Or.inr ⟨fun post J p => br_f n8 ⟨vf, vl, ?_⟩, fun post J p => br_f n8 ⟨vl, nm_r el (br_t t0 (br_t rfl ⟨vt, ?_⟩))⟩⟩
        · rw [el, ef, eR]; exact od_may2 (by omega) (br_f e ⟨1, br_f (by decide) (br_t rfl (br_t rfl (br_t rfl p)))⟩)
        · rw [eo]; exact br_f e p
    · obtain ⟨-, ⟨w, hw, eR⟩, -⟩ := h1 (by omega)
      have g0 : ¬ nI f = 0 := od_ne (k := 0) f0 (by omega) (by decide)
      have g1 : ¬ nI f ≤ 0 := nI_nle (by omega) (by omega)
      have g2 : ¬ nI w < 0 := nI_pos (by omega)
      obtain ⟨r, rX, rY⟩ := od_inside (ca := ca) (cc := cc) (oc := oc) (fc := fc) (st := st) (er := er) (ck := ck) (fm := fm) (fk := fk) (ft := ft) (rt := rt) (dX := dX) (pT := pT) (dY := dY) (sc := sc) (so := so) (sa := sa) (sb := sb) (oC := oC) (oO := oO) (oF := oF) (fB := fB) (fP := fP) (fR := fR) (fV := fV) (fL := fL) hoc hO (oO (t * 3)) hw
      by_cases hr : r = 0
      · refine Or.inr ⟨fun post J p => br_f n8 ⟨vf, vl, ?_⟩, fun post J p => ?_⟩
        · rw [el, ef, eR]; exact od_may2 (by omega) (rX _ (br_t hr (br_t rfl p)))
        · rw [eR]
          refine br_f n8 ⟨vl, nm_r el (br_t t0 (br_f g0 (br_f g1 (br_f g2 ⟨vt, ?_⟩))))⟩
          rw [eo]; exact rY _ (br_t hr p)
      · refine Or.inl ⟨fun post J p => br_f n8 ⟨vf, vl, ?_⟩, fun post J p => ?_⟩
        · rw [el, ef, eR]; exact od_may2 (by omega) (rX _ (br_f hr (br_f z (nm_r (nI_1 v) p))))
        · rw [eR] at p ⊢
          refine br_f n8 ⟨vl, nm_r el (br_t t0 (br_f g0 (br_f g1 (br_f g2 ⟨vt, ?_⟩))))⟩
          rw [eo]; exact rY _ (br_f hr (nm_r (nI_1 v) p))
theorem od_dom2 (hoc : oc ≤ 32) (hfc : fc ≤ 8) (hH : od_H cc oc oC oO oF) (hF : od_F cc oc fc sc fB fP fR fV fL) {f : Nat} (hf : f < fc) : ∀ d v, v + d = 8 →
    ((∀ (post : Int32 → Prop) (J : Int32 → Prop), J (nI (f + 1)) → wX_isDominated_61 post J (nI f) (nI ca) st er ck (nI cc) (nI oc) (nI fc) fm fk ft rt dX sc so sa sb oC oO oF fB fP fR fV fL (d + 1) (nI v)) ∧ (∀ (post : Int32 → Prop) (J : Int32 → Prop), J (nI (f + 1)) → wY_dominance_81 post J (nI f) (fR f) (nI ca) st er (nI cc) ck (nI oc) (nI fc) fm fk ft pT rt dY sc so sa sb oC oO oF fB fP fR fV fL (d + 1) (nI v))) ∨
    ((∀ (post : Int32 → Prop) (J : Int32 → Prop), post 0 → wX_isDominated_61 post J (nI f) (nI ca) st er ck (nI cc) (nI oc) (nI fc) fm fk ft rt dX sc so sa sb oC oO oF fB fP fR fV fL (d + 1) (nI v)) ∧ (∀ (post : Int32 → Prop) (J : Int32 → Prop), post 0 → wY_dominance_81 post J (nI f) (fR f) (nI ca) st er (nI cc) ck (nI oc) (nI fc) fm fk ft pT rt dY sc so sa sb oC oO oF fB fP fR fV fL (d + 1) (nI v))) := by
  intro d
  induction d with
  | zero =>
    intro v hv
    obtain rfl : v = 8 := by omega
    exact Or.inl ⟨fun post J p => br_t (by decide) (nm_r (nI_1 f) p), fun post J p => br_t (by decide) (nm_r (nI_1 f) p)⟩
  | succ d ih =>
    intro v hv
    rcases od_cell (ca := ca) (cc := cc) (oc := oc) (fc := fc) (st := st) (er := er) (ck := ck) (fm := fm) (fk := fk) (ft := ft) (rt := rt) (dX := dX) (pT := pT) (dY := dY) (sc := sc) (so := so) (sa := sa) (sb := sb) (oC := oC) (oO := oO) (oF := oF) (fB := fB) (fP := fP) (fR := fR) (fV := fV) (fL := fL) (d := d) (v := v) hoc hfc hH hF hf (by omega) with ⟨gX, gY⟩ | h
    · rcases ih (v + 1) (by omega) with ⟨kX, kY⟩ | ⟨kX, kY⟩
      · exact Or.inl ⟨fun post J p => gX post J (kX post J p), fun post J p => gY post J (kY post J p)⟩
      · exact Or.inr ⟨fun post J p => gX post J (kX post J p), fun post J p => gY post J (kY post J p)⟩
    · exact Or.inr h
theorem od_dom3 (hoc : oc ≤ 32) (hfc : fc ≤ 8) (hH : od_H cc oc oC oO oF) (hF : od_F cc oc fc sc fB fP fR fV fL) : ∀ d f, f + d = fc →
    ∃ r : Int32, (∀ post : Int32 → Prop, post r → wX_isDominated_51 post (nI ca) st er ck (nI cc) (nI oc) (nI fc) fm fk ft rt dX sc so sa sb oC oO oF fB fP fR fV fL (d + 1) (nI f)) ∧ (∀ post : Int32 → Prop, post r → wY_dominance_64 post (nI ca) st er (nI cc) ck (nI oc) (nI fc) fm fk ft pT rt dY sc so sa sb oC oO oF fB fP fR fV fL (d + 1) (nI f)) := by
  intro d
  induction d with
  | zero =>
    intro f hf
    have l : nI fc ≤ nI f := nI_le (by omega) (by omega)
    exact ⟨1, fun post p => br_t l p, fun post p => br_t l p⟩
  | succ d ih =>
    intro f hf
    have l : ¬ nI fc ≤ nI f := nI_ge (by omega) (by omega)
    have vf : vp_in (nI f) 8 := vp_in_nI (by omega) (by decide)
    have ef : fR (nI f).toNatClampNeg = fR f := by rw [nI_clamp (by omega)]
    rcases od_dom2 (ca := ca) (cc := cc) (oc := oc) (fc := fc) (st := st) (er := er) (ck := ck) (fm := fm) (fk := fk) (ft := ft) (rt := rt) (dX := dX) (pT := pT) (dY := dY) (sc := sc) (so := so) (sa := sa) (sb := sb) (oC := oC) (oO := oO) (oF := oF) (fB := fB) (fP := fP) (fR := fR) (fV := fV) (fL := fL) hoc hfc hH hF (f := f) (by omega) 8 0 rfl with ⟨kX, kY⟩ | ⟨kX, kY⟩
    · obtain ⟨r, rX, rY⟩ := ih (f + 1) (by omega)
      exact ⟨r, fun post p => br_f l ⟨9, kX post _ (rX post p)⟩, fun post p => br_f l ⟨vf, nm_r ef ⟨9, kY post _ (rY post p)⟩⟩⟩
    · exact ⟨0, fun post p => br_f l ⟨9, kX post _ p⟩, fun post p => br_f l ⟨vf, nm_r ef ⟨9, kY post _ p⟩⟩⟩
theorem od_dom4 (hoc : oc ≤ 32) (hfc : fc ≤ 8) (hH : od_H cc oc oC oO oF) (hF : od_F cc oc fc sc fB fP fR fV fL) : ∀ d a, a + d = oc →
    ∃ r : Int32, (∀ post : Int32 → Prop, post r → wX_isDominated_2 post (nI ca) st er ck (nI cc) (nI oc) (nI fc) fm fk ft rt dX sc so sa sb oC oO oF fB fP fR fV fL (d + 1) (nI a)) ∧ (∀ post : Int32 → Prop, post r → wY_dominance_2 post (nI ca) st er (nI cc) ck (nI oc) (nI fc) fm fk ft pT rt dY sc so sa sb oC oO oF fB fP fR fV fL (d + 1) (nI a)) := by
  intro d
  induction d with
  | zero =>
    intro a ha
    have l : nI oc ≤ nI a := nI_le (by omega) (by omega)
    obtain ⟨r, rX, rY⟩ := od_dom3 (ca := ca) (cc := cc) (oc := oc) (fc := fc) (st := st) (er := er) (ck := ck) (fm := fm) (fk := fk) (ft := ft) (rt := rt) (dX := dX) (pT := pT) (dY := dY) (sc := sc) (so := so) (sa := sa) (sb := sb) (oC := oC) (oO := oO) (oF := oF) (fB := fB) (fP := fP) (fR := fR) (fV := fV) (fL := fL) hoc hfc hH hF fc 0 (by omega)
    exact ⟨r, fun post p => br_t l ⟨fc + 1, rX post p⟩, fun post p => br_t l ⟨fc + 1, rY post p⟩⟩
  | succ d ih =>
    intro a ha
    have l : ¬ nI oc ≤ nI a := nI_ge (by omega) (by omega)
    rcases od_dom1 (ca := ca) (cc := cc) (oc := oc) (fc := fc) (st := st) (er := er) (ck := ck) (fm := fm) (fk := fk) (ft := ft) (rt := rt) (dX := dX) (pT := pT) (dY := dY) (sc := sc) (so := so) (sa := sa) (sb := sb) (oC := oC) (oO := oO) (oF := oF) (fB := fB) (fP := fP) (fR := fR) (fV := fV) (fL := fL) hoc hH (a := a) (by omega) 4 0 rfl with ⟨kX, kY⟩ | ⟨kX, kY⟩
    · obtain ⟨r, rX, rY⟩ := ih (a + 1) (by omega)
      exact ⟨r, fun post p => br_f l ⟨5, kX post _ (rX post p)⟩, fun post p => br_f l ⟨5, kY post _ (rY post p)⟩⟩
    · exact ⟨0, fun post p => br_f l ⟨5, kX post _ p⟩, fun post p => br_f l ⟨5, kY post _ p⟩⟩
theorem od_dom (hoc : oc ≤ 32) (hfc : fc ≤ 8) (hH : od_H cc oc oC oO oF) (hF : od_F cc oc fc sc fB fP fR fV fL) :
    ∃ r : Int32, (∀ post : Int32 → Prop, post r → wpX_isDominated post (nI ca, st, er, ck, nI cc, nI oc, nI fc, fm, fk, ft, rt, dX, sc, so, sa, sb, oC, oO, oF, fB, fP, fR, fV, fL)) ∧ (∀ post : Int32 → Prop, post r → wpY_dominance post (nI ca, st, er, nI cc, ck, nI oc, nI fc, fm, fk, ft, pT, rt, dY, sc, so, sa, sb, oC, oO, oF, fB, fP, fR, fV, fL)) := by
  obtain ⟨r, rX, rY⟩ := od_dom4 (ca := ca) (cc := cc) (oc := oc) (fc := fc) (st := st) (er := er) (ck := ck) (fm := fm) (fk := fk) (ft := ft) (rt := rt) (dX := dX) (pT := pT) (dY := dY) (sc := sc) (so := so) (sa := sa) (sb := sb) (oC := oC) (oO := oO) (oF := oF) (fB := fB) (fP := fP) (fR := fR) (fV := fV) (fL := fL) hoc hfc hH hF oc 0 (by omega)
  exact ⟨r, fun post p => ⟨oc + 1, rX post p⟩, fun post p => ⟨oc + 1, rY post p⟩⟩
end
section
variable {ca cc oc fc : Nat} {st er ck : Int32} {fm fk ft rt dX pT dY sc so sa sb oC oO oF fB fP fR fV fL : Nat → Int32}
variable {oc' fc' : Nat} {oC' oO' oF' fB' fP' fR' fV' fL' : Nat → Int32}
/-! after a statement: the dominance test, or a status that ends the run -/
theorem od_go1 (hA : od_All ca cc oc' fc' 1 ck fm fk dX pT dY sc so sa sb oC' oO' oF' fB' fP' fR' fV' fL')
    (hX : ∀ Q : SX → Prop, Q (nI ca, 1, er, ck, nI cc, nI oc', nI fc', fm, fk, ft, rt, dX, sc, so, sa, sb, oC', oO', oF', fB', fP', fR', fV', fL') → wpX_execute Q (nI ca, 1, er, ck, nI cc, nI oc, nI fc, fm, fk, ft, rt, dX, sc, so, sa, sb, oC, oO, oF, fB, fP, fR, fV, fL))
    (hY : ∀ post : SY → Prop, wY_step_689 post (nI ca) 1 er (nI cc) ck (nI oc') (nI fc') fm fk ft pT rt dY sc so sa sb oC' oO' oF' fB' fP' fR' fV' fL' → wpY_step post (nI ca, 1, er, nI cc, ck, nI oc, nI fc, fm, fk, ft, pT, rt, dY, sc, so, sa, sb, oC, oO, oF, fB, fP, fR, fV, fL)) : (∃ (st' : Int32) (oc' fc' : Nat) (oC' oO' oF' fB' fP' fR' fV' fL' : Nat → Int32), od_All ca cc oc' fc' st' ck fm fk dX pT dY sc so sa sb oC' oO' oF' fB' fP' fR' fV' fL' ∧ ¬ st' = 0 ∧ (∀ post : SX → Prop, post (nI ca, st', er, ck, nI cc, nI oc', nI fc', fm, fk, ft, rt, dX, sc, so, sa, sb, oC', oO', oF', fB', fP', fR', fV', fL') → wpX_step post (nI ca, 1, er, ck, nI cc, nI oc, nI fc, fm, fk, ft, rt, dX, sc, so, sa, sb, oC, oO, oF, fB, fP, fR, fV, fL)) ∧ (∀ post : SY → Prop, post (nI ca, st', er, nI cc, ck, nI oc', nI fc', fm, fk, ft, pT, rt, dY, sc, so, sa, sb, oC', oO', oF', fB', fP', fR', fV', fL') → wpY_step post (nI ca, 1, er, nI cc, ck, nI oc, nI fc, fm, fk, ft, pT, rt, dY, sc, so, sa, sb, oC, oO, oF, fB, fP, fR, fV, fL))) := by
  obtain ⟨hP, hca, hoc, hfc, h0, hM⟩ := hA
  have hM := hM (by decide)
  obtain ⟨r, rX, rY⟩ := od_dom (ca := ca) (cc := cc) (oc := oc') (fc := fc') (st := 1) (er := er) (ck := ck) (fm := fm) (fk := fk) (ft := ft) (rt := rt) (dX := dX) (pT := pT) (dY := dY) (sc := sc) (so := so) (sa := sa) (sb := sb) (oC := oC') (oO := oO') (oF := oF') (fB := fB') (fP := fP') (fR := fR') (fV := fV') (fL := fL') (by omega) hfc hM.2.2.1 hM.2.2.2
  by_cases hr : r = 0
  · refine ⟨6, oc', fc', oC', oO', oF', fB', fP', fR', fV', fL', ⟨hP, hca, hoc, hfc, fun h => absurd h (by decide), fun _ => hM⟩, by decide, fun post p => ?_, fun post p => hY post (rY _ (br_t hr p))⟩
    unfold wpX_step
    exact hX _ (br_t rfl (rX _ (br_t hr p)))
  · refine ⟨1, oc', fc', oC', oO', oF', fB', fP', fR', fV', fL', ⟨hP, hca, hoc, hfc, fun h => absurd h (by decide), fun _ => hM⟩, by decide, fun post p => ?_, fun post p => hY post (rY _ (br_f hr p))⟩
    unfold wpX_step
    exact hX _ (br_t rfl (rX _ (br_f hr p)))
theorem od_go2 {s' : Int32} (hA : od_All ca cc oc fc 1 ck fm fk dX pT dY sc so sa sb oC oO oF fB fP fR fV fL) (h0 : ¬ s' = 0) (h1 : ¬ s' = 1)
    (hX : ∀ Q : SX → Prop, Q (nI ca, s', er, ck, nI cc, nI oc, nI fc, fm, fk, ft, rt, dX, sc, so, sa, sb, oC, oO, oF, fB, fP, fR, fV, fL) → wpX_execute Q (nI ca, 1, er, ck, nI cc, nI oc, nI fc, fm, fk, ft, rt, dX, sc, so, sa, sb, oC, oO, oF, fB, fP, fR, fV, fL))
    (hY : ∀ post : SY → Prop, post (nI ca, s', er, nI cc, ck, nI oc, nI fc, fm, fk, ft, pT, rt, dY, sc, so, sa, sb, oC, oO, oF, fB, fP, fR, fV, fL) → wpY_step post (nI ca, 1, er, nI cc, ck, nI oc, nI fc, fm, fk, ft, pT, rt, dY, sc, so, sa, sb, oC, oO, oF, fB, fP, fR, fV, fL)) : (∃ (st' : Int32) (oc' fc' : Nat) (oC' oO' oF' fB' fP' fR' fV' fL' : Nat → Int32), od_All ca cc oc' fc' st' ck fm fk dX pT dY sc so sa sb oC' oO' oF' fB' fP' fR' fV' fL' ∧ ¬ st' = 0 ∧ (∀ post : SX → Prop, post (nI ca, st', er, ck, nI cc, nI oc', nI fc', fm, fk, ft, rt, dX, sc, so, sa, sb, oC', oO', oF', fB', fP', fR', fV', fL') → wpX_step post (nI ca, 1, er, ck, nI cc, nI oc, nI fc, fm, fk, ft, rt, dX, sc, so, sa, sb, oC, oO, oF, fB, fP, fR, fV, fL)) ∧ (∀ post : SY → Prop, post (nI ca, st', er, nI cc, ck, nI oc', nI fc', fm, fk, ft, pT, rt, dY, sc, so, sa, sb, oC', oO', oF', fB', fP', fR', fV', fL') → wpY_step post (nI ca, 1, er, nI cc, ck, nI oc, nI fc, fm, fk, ft, pT, rt, dY, sc, so, sa, sb, oC, oO, oF, fB, fP, fR, fV, fL))) := by
  obtain ⟨hP, hca, hoc, hfc, -, hM⟩ := hA
  refine ⟨s', oc, fc, oC, oO, oF, fB, fP, fR, fV, fL, ⟨hP, hca, hoc, hfc, fun h => absurd h h0, fun _ => hM (by decide)⟩, h0, fun post p => ?_, fun post p => hY post p⟩
  unfold wpX_step
  exact hX _ (br_f h1 p)
/-! frames -/
theorem od_R_upd {g : Nat → Int32} {k i : Nat} {x : Int32} (hx : od_R oc x) (h : od_R oc (g i)) : od_R oc (upd g k x i) := by
  unfold upd
  split
  · exact hx
  · exact h
theorem od_R_le {a b : Nat} {x : Int32} (h : od_R a x) (hab : a ≤ b) : od_R b x := by
  rcases h with h | ⟨w, hw, e⟩
  · exact Or.inl h
  · exact Or.inr ⟨w, by omega, e⟩
theorem od_v64 {f v : Nat} (hf : f < 8) (hv : v < 8) : vp_in (nI f * 8 + nI v) 64 := by rw [od_i8]; exact vp_in_nI (by omega) (by decide)
theorem od_e64 {g : Nat → Int32} {f v : Nat} (hf : f < 8) (hv : v < 8) : g (nI f * 8 + nI v).toNatClampNeg = g (f * 8 + v) := by rw [od_i8, nI_clamp (by omega)]
theorem od_u64 {g : Nat → Int32} {f v : Nat} {x : Int32} (hf : f < 8) (hv : v < 8) : upd g (nI f * 8 + nI v).toNatClampNeg x = upd g (f * 8 + v) x := by rw [od_i8, nI_clamp (by omega)]
theorem od_w64 {f v : Nat} (hf : f < 8) (hv : v < 8) : vp_in (nI (f * 8) + nI v) 64 := by rw [nI_add]; exact vp_in_nI (by omega) (by decide)
theorem od_g64 {g : Nat → Int32} {f v : Nat} (hf : f < 8) (hv : v < 8) : g (nI (f * 8) + nI v).toNatClampNeg = g (f * 8 + v) := by rw [nI_add, nI_clamp (by omega)]
theorem od_t64 {g : Nat → Int32} {f v : Nat} {x : Int32} (hf : f < 8) (hv : v < 8) : upd g (nI (f * 8) + nI v).toNatClampNeg x = upd g (f * 8 + v) x := by rw [nI_add, nI_clamp (by omega)]
theorem od_ef {g : Nat → Int32} {f : Nat} (hf : f < 2 ^ 31) : g (nI f).toNatClampNeg = g f := by rw [nI_clamp hf]
theorem od_uf {g : Nat → Int32} {f : Nat} {x : Int32} (hf : f < 2 ^ 31) : upd g (nI f).toNatClampNeg x = upd g f x := by rw [nI_clamp hf]
/-- a frame with its body, next statement and number of statements named -/
def od_Fw (cc oc : Nat) (sc fB fP fR fV fL : Nat → Int32) (f b p n : Nat) : Prop := fB f = nI b ∧ fP f = nI p ∧ n ≤ 16 ∧ sc b = nI n ∧ p ≤ n ∧ (f = 0 → b = 8 ∧ fR f = -1) ∧ (0 < f → b < cc ∧ (∃ w, w < oc ∧ fR f = nI w) ∧ (∃ v, v < 8 ∧ fV f = nI v)) ∧ (∀ v, v < 8 → od_R oc (fL (f * 8 + v)))
/-- the top frame's value and next statement -/
theorem od_F_asg {f a b pc n : Nat} {x : Int32} (hF : od_F cc oc (f + 1) sc fB fP fR fV fL) (hw : od_Fw cc oc sc fB fP fR fV fL f b pc n) (hp : pc < n) (hx : od_R oc x) :
    od_F cc oc (f + 1) sc fB (upd fP f (nI (pc + 1))) fR fV (upd fL (f * 8 + a) x) := by
  intro j hj
  by_cases e : j = f
  · subst e
    obtain ⟨e1, e2, e3, e4, e5, e6, e7, e8⟩ := hw
    exact ⟨b, pc + 1, n, e1, pk_us, e3, e4, by omega, e6, e7, fun v hv => od_R_upd hx (e8 v hv)⟩
  · obtain ⟨b', p', n', e1, e2, e3, e4, e5, e6, e7, e8⟩ := hF j hj
    exact ⟨b', p', n', e1, (pk_un e).trans e2, e3, e4, e5, e6, e7, fun v hv => od_R_upd hx (e8 v hv)⟩
theorem od_F_pc {f b pc n : Nat} (hF : od_F cc oc (f + 1) sc fB fP fR fV fL) (hw : od_Fw cc oc sc fB fP fR fV fL f b pc n) (hp : pc < n) :
    od_F cc oc (f + 1) sc fB (upd fP f (nI (pc + 1))) fR fV fL := by
  intro j hj
  by_cases e : j = f
  · subst e
    obtain ⟨e1, e2, e3, e4, e5, e6, e7, e8⟩ := hw
    exact ⟨b, pc + 1, n, e1, pk_us, e3, e4, by omega, e6, e7, e8⟩
  · obtain ⟨b', p', n', e1, e2, e3, e4, e5, e6, e7, e8⟩ := hF j hj
    exact ⟨b', p', n', e1, (pk_un e).trans e2, e3, e4, e5, e6, e7, e8⟩
theorem od_F_pop {f k : Nat} {x : Int32} (hF : od_F cc oc (f + 1 + 1) sc fB fP fR fV fL) (hx : od_R oc x) : od_F cc oc (f + 1) sc fB fP fR fV (upd fL k x) := by
  intro j hj
  obtain ⟨b', p', n', e1, e2, e3, e4, e5, e6, e7, e8⟩ := hF j (by omega)
  exact ⟨b', p', n', e1, e2, e3, e4, e5, e6, e7, fun v hv => od_R_upd hx (e8 v hv)⟩
theorem od_F_oc {a b : Nat} (hF : od_F cc a fc sc fB fP fR fV fL) (h : a ≤ b) : od_F cc b fc sc fB fP fR fV fL := by
  intro j hj
  obtain ⟨b', p', n', e1, e2, e3, e4, e5, e6, e7, e8⟩ := hF j hj
  refine ⟨b', p', n', e1, e2, e3, e4, e5, e6, fun h0 => ?_, fun v hv => od_R_le (e8 v hv) h⟩
  obtain ⟨q1, ⟨w, hw, q2⟩, q3⟩ := e7 h0
  exact ⟨q1, ⟨w, by omega, q2⟩, q3⟩
theorem od_xassign {Q : SX → Prop} {f a pc : Nat} {x : Int32} (hf : f < 8) (ha : a < 8) (ep : fP f = nI pc) (p : Q (nI ca, st, er, ck, nI cc, nI oc, nI (f + 1), fm, fk, ft, rt, dX, sc, so, sa, sb, oC, oO, oF, fB, upd fP f (nI (pc + 1)), fR, fV, upd fL (f * 8 + a) x)) : wpX_assign Q (nI ca, st, er, ck, nI cc, nI oc, nI (f + 1), fm, fk, ft, rt, dX, sc, so, sa, sb, oC, oO, oF, fB, fP, fR, fV, fL) (nI a) x := by
  have v : vp_in (nI f) 8 := vp_in_nI hf (by decide)
  have e : upd fP (nI f).toNatClampNeg (fP (nI f).toNatClampNeg + 1) = upd fP f (nI (pc + 1)) := by rw [nI_clamp (by omega), ep, nI_1]
  exact nm_r (nI_pred f) ⟨od_v64 hf ha, nm_r (od_u64 hf ha) ⟨v, v, nm_r e p⟩⟩
/-- X's road to the statement -/
theorem od_xpop {Q : SX → Prop} {g v : Nat} {x : Int32} (hg : g + 1 < 8) (hv : v < 8) (ev : fV (g + 1) = nI v) (p : Q (nI ca, st, er, ck, nI cc, nI oc, nI (g + 1), fm, fk, ft, rt, dX, sc, so, sa, sb, oC, oO, oF, fB, fP, fR, fV, upd fL (g * 8 + v) x)) : wpX_popFrame Q (nI ca, st, er, ck, nI cc, nI oc, nI (g + 1 + 1), fm, fk, ft, rt, dX, sc, so, sa, sb, oC, oO, oF, fB, fP, fR, fV, fL) x := by
  have ve : fV (nI (g + 1)).toNatClampNeg = nI v := by rw [nI_clamp (by omega)]; exact ev
  refine nm_r (nI_pred (g + 1)) (nm_r (nI_pred g) (nm_r (nI_pred (g + 1)) ⟨vp_in_nI hg (by decide), ?_⟩))
  rw [ve]
  exact ⟨od_v64 (by omega) hv, nm_r (od_u64 (by omega) hv) p⟩
theorem od_ypop {Q : SY → Prop} {g v : Nat} {x : Int32} (hg : g + 1 < 8) (hv : v < 8) (ev : fV (g + 1) = nI v) (p : Q (nI ca, st, er, nI cc, ck, nI oc, nI (g + 1), fm, fk, ft, pT, rt, dY, sc, so, sa, sb, oC, oO, oF, fB, fP, fR, fV, upd fL (g * 8 + v) x)) : wpY_popWith Q (nI ca, st, er, nI cc, ck, nI oc, nI (g + 1 + 1), fm, fk, ft, pT, rt, dY, sc, so, sa, sb, oC, oO, oF, fB, fP, fR, fV, fL) x := by
  have e1 : nI (g + 1 + 1) - 1 = nI (g + 1) := nI_pred (g + 1)
  have ve : fV (nI (g + 1 + 1) - 1).toNatClampNeg = nI v := by rw [e1, nI_clamp (by omega)]; exact ev
  refine br_t (nI_lt (a := 1) (by omega) (by omega)) ⟨by rw [e1]; exact vp_in_nI hg (by decide), nm_r ve (nm_r e1 (br_f (nI_pos (by omega)) (br_f (nI_ge (b := 8) hv (by decide)) ?_)))⟩
  rw [nI_pred g]
  exact ⟨od_v64 (by omega) hv, nm_r (od_u64 (by omega) hv) p⟩
end
section
variable {ca cc oc fc : Nat} {st er ck : Int32} {fm fk ft rt dX pT dY sc so sa sb oC oO oF fB fP fR fV fL : Nat → Int32}
theorem od_moveN {f b pc n a : Nat} (hA : od_All ca cc oc (f + 1) 1 ck fm fk dX pT dY sc so sa sb oC oO oF fB fP fR fV fL) (hw : od_Fw cc oc sc fB fP fR fV fL f b pc n) (hp : pc < n) (ha : a < 8) (eA : sa (b * 16 + pc) = nI a) (eO : so (b * 16 + pc) = 6) {B : Int32} (eX : sb (b * 16 + pc) = B) : (∃ (st' : Int32) (oc' fc' : Nat) (oC' oO' oF' fB' fP' fR' fV' fL' : Nat → Int32), od_All ca cc oc' fc' st' ck fm fk dX pT dY sc so sa sb oC' oO' oF' fB' fP' fR' fV' fL' ∧ ¬ st' = 0 ∧ (∀ post : SX → Prop, post (nI ca, st', er, ck, nI cc, nI oc', nI fc', fm, fk, ft, rt, dX, sc, so, sa, sb, oC', oO', oF', fB', fP', fR', fV', fL') → wpX_step post (nI ca, 1, er, ck, nI cc, nI oc, nI (f + 1), fm, fk, ft, rt, dX, sc, so, sa, sb, oC, oO, oF, fB, fP, fR, fV, fL)) ∧ (∀ post : SY → Prop, post (nI ca, st', er, nI cc, ck, nI oc', nI fc', fm, fk, ft, pT, rt, dY, sc, so, sa, sb, oC', oO', oF', fB', fP', fR', fV', fL') → wpY_step post (nI ca, 1, er, nI cc, ck, nI oc, nI (f + 1), fm, fk, ft, pT, rt, dY, sc, so, sa, sb, oC, oO, oF, fB, fP, fR, fV, fL))) := by
  obtain ⟨hP, hca, hoc, hfc, -, hM⟩ := id hA
  obtain ⟨hC, -, hH, hF⟩ := hM (by decide)
  have hcc := hP.2.1
  have hf : f < 8 := by omega
  obtain ⟨w1, w2, w3, w4, w5, w6, w7, w8⟩ := id hw
  have hb : b ≤ 8 := by
    by_cases h : f = 0
    · exact Nat.le_of_eq (w6 h).1
    · exact Nat.le_trans (Nat.le_of_lt (w7 (Nat.pos_of_ne_zero h)).1) hcc
  have vf : vp_in (nI f) 8 := vp_in_nI hf (by decide)
  have f0 : (0 : Int32) ≤ nI f := nI_pos' (by omega)
  have vb : vp_in (nI b) 9 := vp_in_nI (by omega) (by decide)
  have v : vp_in (nI (b * 16 + pc)) 144 := vp_in_nI (by omega) (by decide)
  have ec := nI_clamp (n := b * 16 + pc) (by omega)
  have gB : fB (nI f).toNatClampNeg = nI b := (od_ef (by omega)).trans w1
  have gP : fP (nI f).toNatClampNeg = nI pc := (od_ef (by omega)).trans w2
  have gS : sc (nI b).toNatClampNeg = nI n := (od_ef (by omega)).trans w4
  have gR : fR (nI f).toNatClampNeg = fR f := od_ef (by omega)
  have lt' : nI pc < sc (nI b).toNatClampNeg := by rw [gS]; exact nI_lt hp (by omega)
  have lt : fP (nI f).toNatClampNeg < sc (nI b).toNatClampNeg := by rw [gP]; exact lt'
  have e3 : nI b * 16 + fP (nI f).toNatClampNeg = nI (b * 16 + pc) := by rw [gP, od_i16]
  have gA : sa (nI (b * 16 + pc)).toNatClampNeg = nI a := by rw [ec]; exact eA
  have gA7 : sa (nI (b * 16 + pc)).toNatClampNeg &&& 7 = nI a := by rw [gA]; exact od_and7' ha
  have gO : so (nI (b * 16 + pc)).toNatClampNeg = _ := (congrArg so ec).trans eO
  have gX : sb (nI (b * 16 + pc)).toNatClampNeg = _ := (congrArg sb ec).trans eX
  have gN : upd fP (nI f).toNatClampNeg (nI pc + 1) = upd fP f (nI (pc + 1)) := by rw [nI_clamp (by omega), nI_1]
  refine od_go1 (fc := f + 1) (fc' := f + 1) (oc' := oc) (oC' := oC) (oO' := oO) (oF' := oF) (fB' := fB) (fR' := fR) (fV' := fV) (fP' := upd fP f (nI (pc + 1))) (fL' := upd fL (f * 8 + a) (-1)) ⟨hP, hca, hoc, hfc, fun h => absurd h (by decide), fun _ => ⟨hC, by omega, hH, od_F_asg hF hw hp (Or.inl rfl)⟩⟩ ?_ ?_
  · intro Q p
    refine nm_r (nI_pred f) ⟨vf, nm_r gB ⟨vf, vb, br_t lt ⟨vf, nm_r e3 ⟨v, nm_r gA ⟨v, nm_r gX ⟨v, nm_r gO ?_⟩⟩⟩⟩⟩⟩
    exact br_f (by decide) (br_f (by decide) (br_f (by decide) (br_f (by decide) (br_f (by decide) (br_f (by decide) (br_f (by decide) (br_t rfl (od_xassign hf ha w2 p))))))))
  · intro post p
    refine nm_r (nI_pred f) (br_t f0 ⟨vf, nm_r gB ⟨vf, nm_r gP ⟨vf, nm_r gR (nm_r (od_m8 f) ⟨vb, br_t lt' (nm_r (od_i16 b pc) ⟨v, nm_r gO ⟨v, nm_r gA7 ⟨v, nm_r gX ?_⟩⟩⟩)⟩)⟩⟩⟩)
    exact nm_e (nm_e (br_f (by decide) (br_f (by decide) (br_t rfl ⟨od_w64 hf ha, nm_r (od_t64 hf ha) ⟨vf, nm_r gN p⟩⟩))))
theorem od_moveV {f b pc n a : Nat} (hA : od_All ca cc oc (f + 1) 1 ck fm fk dX pT dY sc so sa sb oC oO oF fB fP fR fV fL) (hw : od_Fw cc oc sc fB fP fR fV fL f b pc n) (hp : pc < n) (ha : a < 8) (eA : sa (b * 16 + pc) = nI a) (eO : so (b * 16 + pc) = 2) {y : Nat} (hy : y < 8) (eX : sb (b * 16 + pc) = nI y) : (∃ (st' : Int32) (oc' fc' : Nat) (oC' oO' oF' fB' fP' fR' fV' fL' : Nat → Int32), od_All ca cc oc' fc' st' ck fm fk dX pT dY sc so sa sb oC' oO' oF' fB' fP' fR' fV' fL' ∧ ¬ st' = 0 ∧ (∀ post : SX → Prop, post (nI ca, st', er, ck, nI cc, nI oc', nI fc', fm, fk, ft, rt, dX, sc, so, sa, sb, oC', oO', oF', fB', fP', fR', fV', fL') → wpX_step post (nI ca, 1, er, ck, nI cc, nI oc, nI (f + 1), fm, fk, ft, rt, dX, sc, so, sa, sb, oC, oO, oF, fB, fP, fR, fV, fL)) ∧ (∀ post : SY → Prop, post (nI ca, st', er, nI cc, ck, nI oc', nI fc', fm, fk, ft, pT, rt, dY, sc, so, sa, sb, oC', oO', oF', fB', fP', fR', fV', fL') → wpY_step post (nI ca, 1, er, nI cc, ck, nI oc, nI (f + 1), fm, fk, ft, pT, rt, dY, sc, so, sa, sb, oC, oO, oF, fB, fP, fR, fV, fL))) := by
  obtain ⟨hP, hca, hoc, hfc, -, hM⟩ := id hA
  obtain ⟨hC, -, hH, hF⟩ := hM (by decide)
  have hcc := hP.2.1
  have hf : f < 8 := by omega
  obtain ⟨w1, w2, w3, w4, w5, w6, w7, w8⟩ := id hw
  have hb : b ≤ 8 := by
    by_cases h : f = 0
    · exact Nat.le_of_eq (w6 h).1
    · exact Nat.le_trans (Nat.le_of_lt (w7 (Nat.pos_of_ne_zero h)).1) hcc
  have vf : vp_in (nI f) 8 := vp_in_nI hf (by decide)
  have f0 : (0 : Int32) ≤ nI f := nI_pos' (by omega)
  have vb : vp_in (nI b) 9 := vp_in_nI (by omega) (by decide)
  have v : vp_in (nI (b * 16 + pc)) 144 := vp_in_nI (by omega) (by decide)
  have ec := nI_clamp (n := b * 16 + pc) (by omega)
  have gB : fB (nI f).toNatClampNeg = nI b := (od_ef (by omega)).trans w1
  have gP : fP (nI f).toNatClampNeg = nI pc := (od_ef (by omega)).trans w2
  have gS : sc (nI b).toNatClampNeg = nI n := (od_ef (by omega)).trans w4
  have gR : fR (nI f).toNatClampNeg = fR f := od_ef (by omega)
  have lt' : nI pc < sc (nI b).toNatClampNeg := by rw [gS]; exact nI_lt hp (by omega)
  have lt : fP (nI f).toNatClampNeg < sc (nI b).toNatClampNeg := by rw [gP]; exact lt'
  have e3 : nI b * 16 + fP (nI f).toNatClampNeg = nI (b * 16 + pc) := by rw [gP, od_i16]
  have gA : sa (nI (b * 16 + pc)).toNatClampNeg = nI a := by rw [ec]; exact eA
  have gA7 : sa (nI (b * 16 + pc)).toNatClampNeg &&& 7 = nI a := by rw [gA]; exact od_and7' ha
  have gO : so (nI (b * 16 + pc)).toNatClampNeg = _ := (congrArg so ec).trans eO
  have gX : sb (nI (b * 16 + pc)).toNatClampNeg = _ := (congrArg sb ec).trans eX
  have gN : upd fP (nI f).toNatClampNeg (nI pc + 1) = upd fP f (nI (pc + 1)) := by rw [nI_clamp (by omega), nI_1]
  refine od_go1 (fc := f + 1) (fc' := f + 1) (oc' := oc) (oC' := oC) (oO' := oO) (oF' := oF) (fB' := fB) (fR' := fR) (fV' := fV) (fP' := upd fP f (nI (pc + 1))) (fL' := upd fL (f * 8 + a) (fL (f * 8 + y))) ⟨hP, hca, hoc, hfc, fun h => absurd h (by decide), fun _ => ⟨hC, by omega, hH, od_F_asg hF hw hp (w8 y hy)⟩⟩ ?_ ?_
  · intro Q p
    refine nm_r (nI_pred f) ⟨vf, nm_r gB ⟨vf, vb, br_t lt ⟨vf, nm_r e3 ⟨v, nm_r gA ⟨v, nm_r gX ⟨v, nm_r gO ?_⟩⟩⟩⟩⟩⟩
    refine br_f (by decide) (br_f (by decide) (br_f (by decide) (br_t rfl ⟨od_v64 hf hy, ?_⟩)))
    rw [od_e64 (g := fL) hf hy]
    exact od_xassign hf ha w2 p
  · intro post p
    refine nm_r (nI_pred f) (br_t f0 ⟨vf, nm_r gB ⟨vf, nm_r gP ⟨vf, nm_r gR (nm_r (od_m8 f) ⟨vb, br_t lt' (nm_r (od_i16 b pc) ⟨v, nm_r gO ⟨v, nm_r gA7 ⟨v, nm_r gX ?_⟩⟩⟩)⟩)⟩⟩⟩)
    have E : upd fL (nI (f * 8) + nI a).toNatClampNeg (fL (nI (f * 8) + nI y).toNatClampNeg) = upd fL (f * 8 + a) (fL (f * 8 + y)) := by rw [od_t64 hf ha, od_g64 (g := fL) hf hy]
    exact nm_r (od_and7' hy) (nm_e (br_f (by decide) (br_t rfl ⟨od_w64 hf hy, od_w64 hf ha, nm_r E ⟨vf, nm_r gN p⟩⟩)))
theorem od_b7 {y : Nat} (hy : y < 64) : (nI y >>> ((3 : Int32) &&& 31)) &&& 7 = nI (y / 8) := by rw [od_q (by omega)]; exact od_and7' (by omega)
theorem od_b3 {q : Nat} (hq : q < 4) : nI q &&& 3 = nI q := by rw [od_and3 (by omega), Nat.mod_eq_of_lt hq]
theorem od_v4 {h q : Nat} (hh : h < 32) (hq : q < 4) : vp_in (nI h * 4 + nI q) 128 := by rw [od_i4]; exact vp_in_nI (by omega) (by decide)
theorem od_e4 {g : Nat → Int32} {h q : Nat} (hh : h < 32) (hq : q < 4) : g (nI h * 4 + nI q).toNatClampNeg = g (h * 4 + q) := by rw [od_i4, nI_clamp (by omega)]
theorem od_u4 {g : Nat → Int32} {h q : Nat} {x : Int32} (hh : h < 32) (hq : q < 4) : upd g (nI h * 4 + nI q).toNatClampNeg x = upd g (h * 4 + q) x := by rw [od_i4, nI_clamp (by omega)]
theorem od_H_upd {k : Nat} {x : Int32} (hH : od_H cc oc oC oO oF) (hx : od_R oc x) : od_H cc oc oC oO (upd oF k x) := fun o ho =>
  ⟨(hH o ho).1, (hH o ho).2.1, fun f hf => od_R_upd hx ((hH o ho).2.2 f hf)⟩
theorem od_load {f b pc n a : Nat} (hA : od_All ca cc oc (f + 1) 1 ck fm fk dX pT dY sc so sa sb oC oO oF fB fP fR fV fL) (hw : od_Fw cc oc sc fB fP fR fV fL f b pc n) (hp : pc < n) (ha : a < 8) (eA : sa (b * 16 + pc) = nI a) (eO : so (b * 16 + pc) = 3) {y : Nat} (hy : y < 32) (eX : sb (b * 16 + pc) = nI y) : (∃ (st' : Int32) (oc' fc' : Nat) (oC' oO' oF' fB' fP' fR' fV' fL' : Nat → Int32), od_All ca cc oc' fc' st' ck fm fk dX pT dY sc so sa sb oC' oO' oF' fB' fP' fR' fV' fL' ∧ ¬ st' = 0 ∧ (∀ post : SX → Prop, post (nI ca, st', er, ck, nI cc, nI oc', nI fc', fm, fk, ft, rt, dX, sc, so, sa, sb, oC', oO', oF', fB', fP', fR', fV', fL') → wpX_step post (nI ca, 1, er, ck, nI cc, nI oc, nI (f + 1), fm, fk, ft, rt, dX, sc, so, sa, sb, oC, oO, oF, fB, fP, fR, fV, fL)) ∧ (∀ post : SY → Prop, post (nI ca, st', er, nI cc, ck, nI oc', nI fc', fm, fk, ft, pT, rt, dY, sc, so, sa, sb, oC', oO', oF', fB', fP', fR', fV', fL') → wpY_step post (nI ca, 1, er, nI cc, ck, nI oc, nI (f + 1), fm, fk, ft, pT, rt, dY, sc, so, sa, sb, oC, oO, oF, fB, fP, fR, fV, fL))) := by
  obtain ⟨hP, hca, hoc, hfc, -, hM⟩ := id hA
  obtain ⟨hC, -, hH, hF⟩ := hM (by decide)
  have hcc := hP.2.1
  have hf : f < 8 := by omega
  obtain ⟨w1, w2, w3, w4, w5, w6, w7, w8⟩ := id hw
  have hb : b ≤ 8 := by
    by_cases h : f = 0
    · exact Nat.le_of_eq (w6 h).1
    · exact Nat.le_trans (Nat.le_of_lt (w7 (Nat.pos_of_ne_zero h)).1) hcc
  have vf : vp_in (nI f) 8 := vp_in_nI hf (by decide)
  have f0 : (0 : Int32) ≤ nI f := nI_pos' (by omega)
  have vb : vp_in (nI b) 9 := vp_in_nI (by omega) (by decide)
  have v : vp_in (nI (b * 16 + pc)) 144 := vp_in_nI (by omega) (by decide)
  have ec := nI_clamp (n := b * 16 + pc) (by omega)
  have gB : fB (nI f).toNatClampNeg = nI b := (od_ef (by omega)).trans w1
  have gP : fP (nI f).toNatClampNeg = nI pc := (od_ef (by omega)).trans w2
  have gS : sc (nI b).toNatClampNeg = nI n := (od_ef (by omega)).trans w4
  have gR : fR (nI f).toNatClampNeg = fR f := od_ef (by omega)
  have lt' : nI pc < sc (nI b).toNatClampNeg := by rw [gS]; exact nI_lt hp (by omega)
  have lt : fP (nI f).toNatClampNeg < sc (nI b).toNatClampNeg := by rw [gP]; exact lt'
  have e3 : nI b * 16 + fP (nI f).toNatClampNeg = nI (b * 16 + pc) := by rw [gP, od_i16]
  have gA : sa (nI (b * 16 + pc)).toNatClampNeg = nI a := by rw [ec]; exact eA
  have gA7 : sa (nI (b * 16 + pc)).toNatClampNeg &&& 7 = nI a := by rw [gA]; exact od_and7' ha
  have gO : so (nI (b * 16 + pc)).toNatClampNeg = _ := (congrArg so ec).trans eO
  have gX : sb (nI (b * 16 + pc)).toNatClampNeg = _ := (congrArg sb ec).trans eX
  have gN : upd fP (nI f).toNatClampNeg (nI pc + 1) = upd fP f (nI (pc + 1)) := by rw [nI_clamp (by omega), nI_1]
  have h8 : y % 8 < 8 := by omega
  have hq : y / 8 < 4 := by omega
  have z8 : ¬ (8 : Int32) = 0 := by decide
  rcases w8 (y % 8) h8 with eh | ⟨h, hh, eh⟩
  · refine od_go2 (fc := f + 1) (s' := 3) hA (by decide) (by decide) ?_ ?_
    · intro Q p
      refine nm_r (nI_pred f) ⟨vf, nm_r gB ⟨vf, vb, br_t lt ⟨vf, nm_r e3 ⟨v, nm_r gA ⟨v, nm_r gX ⟨v, nm_r gO ?_⟩⟩⟩⟩⟩⟩
      refine br_f (by decide) (br_f (by decide) (br_f (by decide) (br_f (by decide) (br_t rfl ⟨z8, z8, ?_⟩))))
      rw [od_rm (by omega)]
      refine ⟨by rw [nI_pred f]; exact od_v64 hf h8, nm_r (e' := -1) (by rw [nI_pred f, od_e64 (g := fL) hf h8]; exact eh) (br_t rfl p)⟩
    · intro post p
      refine nm_r (nI_pred f) (br_t f0 ⟨vf, nm_r gB ⟨vf, nm_r gP ⟨vf, nm_r gR (nm_r (od_m8 f) ⟨vb, br_t lt' (nm_r (od_i16 b pc) ⟨v, nm_r gO ⟨v, nm_r gA7 ⟨v, nm_r gX ?_⟩⟩⟩)⟩)⟩⟩⟩)
      exact nm_r (od_and7 (by omega)) (nm_r (od_b7 (by omega)) (br_f (by decide) (br_f (by decide) (br_f (by decide) (br_t rfl ⟨od_w64 hf h8, nm_r ((od_g64 (g := fL) hf h8).trans eh) (br_f od_n0 p)⟩)))))
  · have h32 : h < 32 := by omega
    refine od_go1 (fc := f + 1) (fc' := f + 1) (oc' := oc) (oC' := oC) (oO' := oO) (oF' := oF) (fB' := fB) (fR' := fR) (fV' := fV) (fP' := upd fP f (nI (pc + 1))) (fL' := upd fL (f * 8 + a) (oF (h * 4 + y / 8))) ⟨hP, hca, hoc, hfc, fun h => absurd h (by decide), fun _ => ⟨hC, by omega, hH, od_F_asg hF hw hp ((hH h hh).2.2 _ hq)⟩⟩ ?_ ?_
    · intro Q p
      refine nm_r (nI_pred f) ⟨vf, nm_r gB ⟨vf, vb, br_t lt ⟨vf, nm_r e3 ⟨v, nm_r gA ⟨v, nm_r gX ⟨v, nm_r gO ?_⟩⟩⟩⟩⟩⟩
      refine br_f (by decide) (br_f (by decide) (br_f (by decide) (br_f (by decide) (br_t rfl ⟨z8, z8, ?_⟩))))
      rw [od_rm (by omega), od_dv (by omega)]
      refine ⟨by rw [nI_pred f]; exact od_v64 hf h8, nm_r (e' := nI h) (by rw [nI_pred f, od_e64 (g := fL) hf h8]; exact eh) (br_f (od_ne1 (by omega)) ⟨od_v4 h32 hq, ?_⟩)⟩
      rw [od_e4 (g := oF) h32 hq]
      exact od_xassign hf ha w2 p
    · intro post p
      refine nm_r (nI_pred f) (br_t f0 ⟨vf, nm_r gB ⟨vf, nm_r gP ⟨vf, nm_r gR (nm_r (od_m8 f) ⟨vb, br_t lt' (nm_r (od_i16 b pc) ⟨v, nm_r gO ⟨v, nm_r gA7 ⟨v, nm_r gX ?_⟩⟩⟩)⟩)⟩⟩⟩)
      refine nm_r (od_and7 (by omega)) (nm_r (od_b7 (by omega)) (br_f (by decide) (br_f (by decide) (br_f (by decide) (br_t rfl ⟨od_w64 hf h8, nm_r ((od_g64 (g := fL) hf h8).trans eh) (br_t (nI_pos' (by omega)) ?_)⟩)))))
      rw [od_b3 hq, od_e4 (g := oF) h32 hq]
      exact ⟨od_v4 h32 hq, od_w64 hf ha, nm_r (od_t64 hf ha) ⟨vf, nm_r gN p⟩⟩
theorem od_store {f b pc n a : Nat} (hA : od_All ca cc oc (f + 1) 1 ck fm fk dX pT dY sc so sa sb oC oO oF fB fP fR fV fL) (hw : od_Fw cc oc sc fB fP fR fV fL f b pc n) (hp : pc < n) (ha : a < 8) (eA : sa (b * 16 + pc) = nI a) (eO : so (b * 16 + pc) = 4) {y : Nat} (hy : y < 32) (eX : sb (b * 16 + pc) = nI y) : (∃ (st' : Int32) (oc' fc' : Nat) (oC' oO' oF' fB' fP' fR' fV' fL' : Nat → Int32), od_All ca cc oc' fc' st' ck fm fk dX pT dY sc so sa sb oC' oO' oF' fB' fP' fR' fV' fL' ∧ ¬ st' = 0 ∧ (∀ post : SX → Prop, post (nI ca, st', er, ck, nI cc, nI oc', nI fc', fm, fk, ft, rt, dX, sc, so, sa, sb, oC', oO', oF', fB', fP', fR', fV', fL') → wpX_step post (nI ca, 1, er, ck, nI cc, nI oc, nI (f + 1), fm, fk, ft, rt, dX, sc, so, sa, sb, oC, oO, oF, fB, fP, fR, fV, fL)) ∧ (∀ post : SY → Prop, post (nI ca, st', er, nI cc, ck, nI oc', nI fc', fm, fk, ft, pT, rt, dY, sc, so, sa, sb, oC', oO', oF', fB', fP', fR', fV', fL') → wpY_step post (nI ca, 1, er, nI cc, ck, nI oc, nI (f + 1), fm, fk, ft, pT, rt, dY, sc, so, sa, sb, oC, oO, oF, fB, fP, fR, fV, fL))) := by
  obtain ⟨hP, hca, hoc, hfc, -, hM⟩ := id hA
  obtain ⟨hC, -, hH, hF⟩ := hM (by decide)
  have hcc := hP.2.1
  have hf : f < 8 := by omega
  obtain ⟨w1, w2, w3, w4, w5, w6, w7, w8⟩ := id hw
  have hb : b ≤ 8 := by
    by_cases h : f = 0
    · exact Nat.le_of_eq (w6 h).1
    · exact Nat.le_trans (Nat.le_of_lt (w7 (Nat.pos_of_ne_zero h)).1) hcc
  have vf : vp_in (nI f) 8 := vp_in_nI hf (by decide)
  have f0 : (0 : Int32) ≤ nI f := nI_pos' (by omega)
  have vb : vp_in (nI b) 9 := vp_in_nI (by omega) (by decide)
  have v : vp_in (nI (b * 16 + pc)) 144 := vp_in_nI (by omega) (by decide)
  have ec := nI_clamp (n := b * 16 + pc) (by omega)
  have gB : fB (nI f).toNatClampNeg = nI b := (od_ef (by omega)).trans w1
  have gP : fP (nI f).toNatClampNeg = nI pc := (od_ef (by omega)).trans w2
  have gS : sc (nI b).toNatClampNeg = nI n := (od_ef (by omega)).trans w4
  have gR : fR (nI f).toNatClampNeg = fR f := od_ef (by omega)
  have lt' : nI pc < sc (nI b).toNatClampNeg := by rw [gS]; exact nI_lt hp (by omega)
  have lt : fP (nI f).toNatClampNeg < sc (nI b).toNatClampNeg := by rw [gP]; exact lt'
  have e3 : nI b * 16 + fP (nI f).toNatClampNeg = nI (b * 16 + pc) := by rw [gP, od_i16]
  have gA : sa (nI (b * 16 + pc)).toNatClampNeg = nI a := by rw [ec]; exact eA
  have gA7 : sa (nI (b * 16 + pc)).toNatClampNeg &&& 7 = nI a := by rw [gA]; exact od_and7' ha
  have gO : so (nI (b * 16 + pc)).toNatClampNeg = _ := (congrArg so ec).trans eO
  have gX : sb (nI (b * 16 + pc)).toNatClampNeg = _ := (congrArg sb ec).trans eX
  have gN : upd fP (nI f).toNatClampNeg (nI pc + 1) = upd fP f (nI (pc + 1)) := by rw [nI_clamp (by omega), nI_1]
  have h8 : y % 8 < 8 := by omega
  have hq : y / 8 < 4 := by omega
  have z8 : ¬ (8 : Int32) = 0 := by decide
  rcases w8 a ha with eh | ⟨h, hh, eh⟩
  · refine od_go2 (fc := f + 1) (s' := 3) hA (by decide) (by decide) ?_ ?_
    · intro Q p
      refine nm_r (nI_pred f) ⟨vf, nm_r gB ⟨vf, vb, br_t lt ⟨vf, nm_r e3 ⟨v, nm_r gA ⟨v, nm_r gX ⟨v, nm_r gO ?_⟩⟩⟩⟩⟩⟩
      refine br_f (by decide) (br_f (by decide) (br_f (by decide) (br_f (by decide) (br_f (by decide) (br_t rfl ⟨z8, z8, ?_⟩)))))
      exact nm_r (nI_pred f) ⟨od_v64 hf ha, nm_r ((od_e64 (g := fL) hf ha).trans eh) (br_t rfl p)⟩
    · intro post p
      refine nm_r (nI_pred f) (br_t f0 ⟨vf, nm_r gB ⟨vf, nm_r gP ⟨vf, nm_r gR (nm_r (od_m8 f) ⟨vb, br_t lt' (nm_r (od_i16 b pc) ⟨v, nm_r gO ⟨v, nm_r gA7 ⟨v, nm_r gX ?_⟩⟩⟩)⟩)⟩⟩⟩)
      exact nm_r (od_and7 (by omega)) (nm_r (od_b7 (by omega)) (br_f (by decide) (br_f (by decide) (br_f (by decide) (br_f (by decide) (br_t rfl ⟨od_w64 hf ha, nm_r ((od_g64 (g := fL) hf ha).trans eh) (br_f od_n0 p)⟩))))))
  · have h32 : h < 32 := by omega
    refine od_go1 (fc := f + 1) (fc' := f + 1) (oc' := oc) (oC' := oC) (oO' := oO) (oF' := upd oF (h * 4 + y / 8) (fL (f * 8 + y % 8))) (fB' := fB) (fR' := fR) (fV' := fV) (fP' := upd fP f (nI (pc + 1))) (fL' := fL) ⟨hP, hca, hoc, hfc, fun h => absurd h (by decide), fun _ => ⟨hC, by omega, od_H_upd hH (w8 _ h8), od_F_pc hF hw hp⟩⟩ ?_ ?_
    · intro Q p
      refine nm_r (nI_pred f) ⟨vf, nm_r gB ⟨vf, vb, br_t lt ⟨vf, nm_r e3 ⟨v, nm_r gA ⟨v, nm_r gX ⟨v, nm_r gO ?_⟩⟩⟩⟩⟩⟩
      refine br_f (by decide) (br_f (by decide) (br_f (by decide) (br_f (by decide) (br_f (by decide) (br_t rfl ⟨z8, z8, ?_⟩)))))
      rw [od_rm (by omega), od_dv (by omega)]
      refine nm_r (nI_pred f) ⟨od_v64 hf ha, nm_r ((od_e64 (g := fL) hf ha).trans eh) (br_f (od_ne1 (by omega)) ⟨od_v64 hf h8, od_v4 h32 hq, nm_r ((od_u4 h32 hq).trans (congrArg _ (od_e64 (g := fL) hf h8))) ⟨vf, vf, nm_r ?_ p⟩⟩)⟩
      rw [gP]; exact gN
    · intro post p
      refine nm_r (nI_pred f) (br_t f0 ⟨vf, nm_r gB ⟨vf, nm_r gP ⟨vf, nm_r gR (nm_r (od_m8 f) ⟨vb, br_t lt' (nm_r (od_i16 b pc) ⟨v, nm_r gO ⟨v, nm_r gA7 ⟨v, nm_r gX ?_⟩⟩⟩)⟩)⟩⟩⟩)
      refine nm_r (od_and7 (by omega)) (nm_r (od_b7 (by omega)) (br_f (by decide) (br_f (by decide) (br_f (by decide) (br_f (by decide) (br_t rfl ⟨od_w64 hf ha, nm_r ((od_g64 (g := fL) hf ha).trans eh) (br_t (nI_pos' (by omega)) ⟨od_w64 hf h8, ?_⟩)⟩))))))
      rw [od_b3 hq]
      exact ⟨od_v4 h32 hq, nm_r ((od_u4 h32 hq).trans (congrArg _ (od_g64 (g := fL) hf h8))) ⟨vf, nm_r gN p⟩⟩
theorem od_ret {f b pc n a : Nat} (hA : od_All ca cc oc (f + 1) 1 ck fm fk dX pT dY sc so sa sb oC oO oF fB fP fR fV fL) (hw : od_Fw cc oc sc fB fP fR fV fL f b pc n) (hp : pc < n) (ha : a < 8) (eA : sa (b * 16 + pc) = nI a) (eO : so (b * 16 + pc) = 7) (hb8 : b ≠ 8) {B : Int32} (eX : sb (b * 16 + pc) = B) : (∃ (st' : Int32) (oc' fc' : Nat) (oC' oO' oF' fB' fP' fR' fV' fL' : Nat → Int32), od_All ca cc oc' fc' st' ck fm fk dX pT dY sc so sa sb oC' oO' oF' fB' fP' fR' fV' fL' ∧ ¬ st' = 0 ∧ (∀ post : SX → Prop, post (nI ca, st', er, ck, nI cc, nI oc', nI fc', fm, fk, ft, rt, dX, sc, so, sa, sb, oC', oO', oF', fB', fP', fR', fV', fL') → wpX_step post (nI ca, 1, er, ck, nI cc, nI oc, nI (f + 1), fm, fk, ft, rt, dX, sc, so, sa, sb, oC, oO, oF, fB, fP, fR, fV, fL)) ∧ (∀ post : SY → Prop, post (nI ca, st', er, nI cc, ck, nI oc', nI fc', fm, fk, ft, pT, rt, dY, sc, so, sa, sb, oC', oO', oF', fB', fP', fR', fV', fL') → wpY_step post (nI ca, 1, er, nI cc, ck, nI oc, nI (f + 1), fm, fk, ft, pT, rt, dY, sc, so, sa, sb, oC, oO, oF, fB, fP, fR, fV, fL))) := by
  obtain ⟨hP, hca, hoc, hfc, -, hM⟩ := id hA
  obtain ⟨hC, -, hH, hF⟩ := hM (by decide)
  have hcc := hP.2.1
  have hf : f < 8 := by omega
  obtain ⟨w1, w2, w3, w4, w5, w6, w7, w8⟩ := id hw
  have hb : b ≤ 8 := by
    by_cases h : f = 0
    · exact Nat.le_of_eq (w6 h).1
    · exact Nat.le_trans (Nat.le_of_lt (w7 (Nat.pos_of_ne_zero h)).1) hcc
  have vf : vp_in (nI f) 8 := vp_in_nI hf (by decide)
  have f0 : (0 : Int32) ≤ nI f := nI_pos' (by omega)
  have vb : vp_in (nI b) 9 := vp_in_nI (by omega) (by decide)
  have v : vp_in (nI (b * 16 + pc)) 144 := vp_in_nI (by omega) (by decide)
  have ec := nI_clamp (n := b * 16 + pc) (by omega)
  have gB : fB (nI f).toNatClampNeg = nI b := (od_ef (by omega)).trans w1
  have gP : fP (nI f).toNatClampNeg = nI pc := (od_ef (by omega)).trans w2
  have gS : sc (nI b).toNatClampNeg = nI n := (od_ef (by omega)).trans w4
  have gR : fR (nI f).toNatClampNeg = fR f := od_ef (by omega)
  have lt' : nI pc < sc (nI b).toNatClampNeg := by rw [gS]; exact nI_lt hp (by omega)
  have lt : fP (nI f).toNatClampNeg < sc (nI b).toNatClampNeg := by rw [gP]; exact lt'
  have e3 : nI b * 16 + fP (nI f).toNatClampNeg = nI (b * 16 + pc) := by rw [gP, od_i16]
  have gA : sa (nI (b * 16 + pc)).toNatClampNeg = nI a := by rw [ec]; exact eA
  have gA7 : sa (nI (b * 16 + pc)).toNatClampNeg &&& 7 = nI a := by rw [gA]; exact od_and7' ha
  have gO : so (nI (b * 16 + pc)).toNatClampNeg = _ := (congrArg so ec).trans eO
  have gX : sb (nI (b * 16 + pc)).toNatClampNeg = _ := (congrArg sb ec).trans eX
  have gN : upd fP (nI f).toNatClampNeg (nI pc + 1) = upd fP f (nI (pc + 1)) := by rw [nI_clamp (by omega), nI_1]
  have hf1 : 0 < f := Nat.pos_of_ne_zero (fun h => hb8 (w6 h).1)
  obtain ⟨-, -, ⟨r, hr, er'⟩⟩ := w7 hf1
  have hR := w8 a ha
  obtain ⟨g, rfl⟩ : ∃ g, f = g + 1 := ⟨f - 1, by omega⟩
  refine od_go1 (fc := g + 1 + 1) (fc' := g + 1) (oc' := oc) (oC' := oC) (oO' := oO) (oF' := oF) (fB' := fB) (fR' := fR) (fV' := fV) (fP' := fP) (fL' := upd fL (g * 8 + r) (fL ((g + 1) * 8 + a))) ⟨hP, hca, hoc, by omega, fun h => absurd h (by decide), fun _ => ⟨hC, by omega, hH, od_F_pop hF hR⟩⟩ ?_ ?_
  · intro Q p
    refine nm_r (nI_pred (g + 1)) ⟨vf, nm_r gB ⟨vf, vb, br_t lt ⟨vf, nm_r e3 ⟨v, nm_r gA ⟨v, nm_r gX ⟨v, nm_r gO ?_⟩⟩⟩⟩⟩⟩
    refine br_f (by decide) (br_t (by decide) ⟨od_v64 hf ha, ?_⟩)
    rw [od_e64 (g := fL) hf ha]
    exact od_xpop hf hr er' p
  · intro post p
    refine nm_r (nI_pred (g + 1)) (br_t f0 ⟨vf, nm_r gB ⟨vf, nm_r gP ⟨vf, nm_r gR (nm_r (od_m8 (g + 1)) ⟨vb, br_t lt' (nm_r (od_i16 b pc) ⟨v, nm_r gO ⟨v, nm_r gA7 ⟨v, nm_r gX ?_⟩⟩⟩)⟩)⟩⟩⟩)
    refine nm_e (nm_e (br_f (by decide) (br_f (by decide) (br_f (by decide) (br_f (by decide) (br_f (by decide) (br_f (by decide) (br_t rfl ⟨od_w64 hf ha, ?_⟩))))))))
    rw [od_g64 (g := fL) hf ha]
    exact od_ypop hf hr er' p
end
section
variable {ca cc oc fc : Nat} {st er ck : Int32} {fm fk ft rt dX pT dY sc so sa sb oC oO oF fB fP fR fV fL : Nat → Int32}
/-- owners are older than what they own -/
def od_O (oc : Nat) (u : Nat → Int32) : Prop := ∀ w, w < oc → ∀ j, j < 3 → od_R w (u (w * 3 + j))
theorem od_own0 {R : Int32} {post : Int32 → Prop} (p : post (-1)) : wpX_ownerValue post (nI ca, st, er, ck, nI cc, nI oc, nI fc, fm, fk, ft, rt, dX, sc, so, sa, sb, oC, oO, oF, fB, fP, fR, fV, fL) 0 R := br_c (fun _ => p) (fun _ => br_t (by decide) p)
theorem od_own {a : Nat} (ha : a ≤ 4) {R : Int32} (hR : od_R oc R) (hoc : oc ≤ 32) (hO : od_O oc oO) :
    ∃ r : Int32, od_R oc r ∧ (∀ post : Int32 → Prop, post r → wpX_ownerValue post (nI ca, st, er, ck, nI cc, nI oc, nI fc, fm, fk, ft, rt, dX, sc, so, sa, sb, oC, oO, oF, fB, fP, fR, fV, fL) (nI a) R) ∧ (∀ post : Int32 → Prop, post r → wpY_val post (nI ca, st, er, nI cc, ck, nI oc, nI fc, fm, fk, ft, pT, rt, dY, sc, so, sa, sb, oC, oO, oF, fB, fP, fR, fV, fL) R (nI a)) := by
  rcases hR with rfl | ⟨w, hw, rfl⟩
  · refine ⟨-1, Or.inl rfl, fun post p => br_t rfl p, fun post p => ?_⟩
    by_cases h : a = 0
    · subst h; exact br_t rfl p
    · exact br_f (od_ne (k := 0) h (by omega) (by decide)) (br_f od_n0 p)
  · have nR : ¬ nI w = -1 := od_ne1 (by omega)
    have pR : (0 : Int32) ≤ nI w := nI_pos' (by omega)
    have v0 : vp_in (nI w * 3) 96 := od_v3 (by omega)
    have e0 : oO (nI w * 3).toNatClampNeg = oO (w * 3) := od_i3x (by omega)
    have v1 : vp_in (nI w * 3 + 1) 96 := by rw [od_i31]; exact vp_in_nI (by omega) (by decide)
    have e1 : oO (nI w * 3 + 1).toNatClampNeg = oO (w * 3 + 1) := by rw [od_i31, nI_clamp (by omega)]
    have v2 : vp_in (nI w * 3 + 2) 96 := by rw [od_i32]; exact vp_in_nI (by omega) (by decide)
    have e2 : oO (nI w * 3 + 2).toNatClampNeg = oO (w * 3 + 2) := by rw [od_i32, nI_clamp (by omega)]
    rcases (show a = 0 ∨ a = 1 ∨ a = 2 ∨ a = 3 ∨ a = 4 by omega) with rfl | rfl | rfl | rfl | rfl
    · exact ⟨-1, Or.inl rfl, fun post p => br_f nR (br_t (by decide) p), fun post p => br_t rfl p⟩
    · refine ⟨oO (w * 3), od_R_le (hO w hw 0 (by decide)) (by omega), fun post p => ?_, fun post p => ?_⟩
      · rw [← e0] at p
        exact br_f nR (br_f (by decide) (br_f (by decide) (br_t (by decide) ⟨v0, p⟩)))
      · rw [← e0] at p
        exact br_f (by decide) (br_t pR (br_f (by decide) (br_t (by decide) ⟨v0, p⟩)))
    · exact ⟨nI w, Or.inr ⟨w, hw, rfl⟩, fun post p => br_f nR (br_f (by decide) (br_f (by decide) (br_f (by decide) (br_t (by decide) p)))), fun post p => br_f (by decide) (br_t pR (br_t (by decide) p))⟩
    · refine ⟨oO (w * 3 + 1), od_R_le (hO w hw 1 (by decide)) (by omega), fun post p => ?_, fun post p => ?_⟩
      · rw [← e1] at p
        exact br_f nR (br_f (by decide) (br_f (by decide) (br_f (by decide) (br_f (by decide) (br_t (by decide) ⟨v1, p⟩)))))
      · rw [← e1] at p
        exact br_f (by decide) (br_t pR (br_f (by decide) (br_f (by decide) (br_t (by decide) ⟨v1, p⟩))))
    · refine ⟨oO (w * 3 + 2), od_R_le (hO w hw 2 (by decide)) (by omega), fun post p => ?_, fun post p => ?_⟩
      · rw [← e2] at p
        exact br_f nR (br_f (by decide) (br_f (by decide) (br_f (by decide) (br_f (by decide) (br_f (by decide) (br_t (by decide) ⟨v2, p⟩))))))
      · rw [← e2] at p
        exact br_f (by decide) (br_t pR (br_f (by decide) (br_f (by decide) (br_f (by decide) ⟨v2, p⟩))))
/-- the three owners of the new object -/
theorem od_new1 {f pc a t c m : Nat} {R : Int32} (hoc : oc < 32) (hR : od_R oc R) (ht : t < 65536) (hc : c < 8) (hm : m ≤ 2) (em : fm c = nI m) (hs : ∀ i, i ≤ m → od_sl t i ≤ 4) : ∀ d i (u : Nat → Int32), i + d = 3 → od_O oc u → (∀ j, j < i → od_R oc (u (oc * 3 + j))) →
    ∃ u' : Nat → Int32, od_O oc u' ∧ (∀ j, j < 3 → od_R oc (u' (oc * 3 + j))) ∧
      (∀ Q : SX → Prop, (∃ q, wX_stepNew_111 Q (nI a) (nI oc) (nI ca) st er ck (nI cc) (nI oc) (nI fc) q 0 fm fk ft rt dX sc so sa sb oC u' oF fB fP fR fV fL) → wX_stepNew_52 Q (nI a) (nI t) (nI oc) (nI c) R (nI ca) st er ck (nI cc) (nI oc) (nI fc) (d + 1) (nI i) fm fk ft rt dX sc so sa sb oC u oF fB fP fR fV fL) ∧
      (∀ post : SY → Prop, (∃ q, wY_step_235 post (nI f) (nI pc) (nI (f * 8)) (nI a) (nI oc) (nI ca) st er (nI cc) ck (nI oc) (nI fc) q 0 fm fk ft pT rt dY sc so sa sb oC u' oF fB fP fR fV fL) → wY_step_167 post (nI f) (nI pc) R (nI (f * 8)) (nI a) (nI t) (nI oc) (nI c) (nI ca) st er (nI cc) ck (nI oc) (nI fc) (d + 1) (nI i) fm fk ft pT rt dY sc so sa sb oC u oF fB fP fR fV fL) := by
  have vc : vp_in (nI c) 8 := vp_in_nI hc (by decide)
  have ef : fm (nI c).toNatClampNeg = nI m := (od_ef (by omega)).trans em
  intro d
  induction d with
  | zero =>
    intro i u hi hO hN
    obtain rfl : i = 3 := by omega
    exact ⟨u, hO, hN, fun Q p => br_t (by decide) p, fun post p => br_t (by decide) p⟩
  | succ d ih =>
    intro i u hi hO hN
    have n3 : ¬ (3 : Int32) ≤ nI i := nI_ge (b := 3) (by omega) (by decide)
    have v : vp_in (nI oc * 3 + nI i) 96 := by rw [od_i3]; exact vp_in_nI (by omega) (by decide)
    have eu : ∀ x : Int32, upd u (nI oc * 3 + nI i).toNatClampNeg x = upd u (oc * 3 + i) x := fun x => by rw [od_i3, nI_clamp (by omega)]
    have nO : ∀ x : Int32, od_O oc (upd u (oc * 3 + i) x) := fun x w hw j hj => by rw [pk_un (by omega)]; exact hO w hw j hj
    have nN : ∀ x : Int32, od_R oc x → ∀ j, j < i + 1 → od_R oc (upd u (oc * 3 + i) x (oc * 3 + j)) := by
      intro x hx j hj
      by_cases e : j = i
      · subst e; rw [pk_us]; exact hx
      · rw [pk_un (by omega)]; exact hN j (by omega)
    by_cases hmi : m < i
    · have l : fm (nI c).toNatClampNeg < nI i := by rw [ef]; exact nI_lt hmi (by omega)
      obtain ⟨u', h1, h2, kX, kY⟩ := ih (i + 1) (upd u (oc * 3 + i) (-1)) (by omega) (nO _) (nN _ (Or.inl rfl))
      exact ⟨u', h1, h2, fun Q p => br_f n3 ⟨vc, br_t l (od_own0 ⟨v, nm_r (eu _) (nm_r (nI_1 i) (kX Q p))⟩)⟩, fun post p => br_f n3 ⟨vc, br_t l ⟨v, nm_r (eu _) (nm_r (nI_1 i) (kY post p))⟩⟩⟩
    · have l : ¬ fm (nI c).toNatClampNeg < nI i := by rw [ef]; exact nI_nlt (by omega) (by omega)
      have es := od_slot (n := t) (i := i) (by omega) (by omega)
      obtain ⟨r, hr, rX, rY⟩ := od_own (ca := ca) (cc := cc) (oc := oc) (fc := fc) (st := st) (er := er) (ck := ck) (fm := fm) (fk := fk) (ft := ft) (rt := rt) (dX := dX) (pT := pT) (dY := dY) (sc := sc) (so := so) (sa := sa) (sb := sb) (oC := oC) (oO := u) (oF := oF) (fB := fB) (fP := fP) (fR := fR) (fV := fV) (fL := fL) (hs i (by omega)) hR (by omega) hO
      obtain ⟨u', h1, h2, kX, kY⟩ := ih (i + 1) (upd u (oc * 3 + i) r) (by omega) (nO _) (nN _ hr)
      exact ⟨u', h1, h2, fun Q p => br_f n3 ⟨vc, br_f l (od_xs' es (rX _ ⟨v, nm_r (eu _) (nm_r (nI_1 i) (kX Q p))⟩))⟩, fun post p => br_f n3 ⟨vc, br_f l (nm_r es (rY _ ⟨v, nm_r (eu _) (nm_r (nI_1 i) (kY post p))⟩))⟩⟩
theorem od_new2x {Q : SX → Prop} {f a pc : Nat} (hoc : oc < 32) (hf : f < 8) (ha : a < 8) (ep : fP f = nI pc) (p : Q (nI ca, st, er, ck, nI cc, nI (oc + 1), nI (f + 1), fm, fk, ft, rt, dX, sc, so, sa, sb, oC, oO, od_fill oF (oc * 4) 4, fB, upd fP f (nI (pc + 1)), fR, fV, upd fL (f * 8 + a) (nI oc))) : ∀ d i, i + d = 4 → wX_stepNew_111 Q (nI a) (nI oc) (nI ca) st er ck (nI cc) (nI oc) (nI (f + 1)) (d + 1) (nI i) fm fk ft rt dX sc so sa sb oC oO (od_fill oF (oc * 4) i) fB fP fR fV fL := by
  intro d
  induction d with
  | zero =>
    intro i hi
    obtain rfl : i = 4 := by omega
    exact br_t (by decide) (nm_r (nI_1 oc) (od_xassign hf ha ep p))
  | succ d ih =>
    intro i hi
    have e : upd (od_fill oF (oc * 4) i) (nI oc * 4 + nI i).toNatClampNeg (-1) = od_fill oF (oc * 4) (i + 1) := by rw [od_i4, nI_clamp (by omega)]; rfl
    exact br_f (nI_ge (b := 4) (by omega) (by decide)) ⟨od_v4 hoc (by omega), nm_r e (nm_r (nI_1 i) (ih (i + 1) (by omega)))⟩
theorem od_new2y {post : SY → Prop} {f a pc : Nat} (hoc : oc < 32) (hf : f < 8) (ha : a < 8) (p : wY_step_689 post (nI ca) st er (nI cc) ck (nI (oc + 1)) (nI (f + 1)) fm fk ft pT rt dY sc so sa sb oC oO (od_fill oF (oc * 4) 4) fB (upd fP f (nI (pc + 1))) fR fV (upd fL (f * 8 + a) (nI oc))) : ∀ d i, i + d = 4 → wY_step_235 post (nI f) (nI pc) (nI (f * 8)) (nI a) (nI oc) (nI ca) st er (nI cc) ck (nI oc) (nI (f + 1)) (d + 1) (nI i) fm fk ft pT rt dY sc so sa sb oC oO (od_fill oF (oc * 4) i) fB fP fR fV fL := by
  intro d
  induction d with
  | zero =>
    intro i hi
    obtain rfl : i = 4 := by omega
    have gN : upd fP (nI f).toNatClampNeg (nI pc + 1) = upd fP f (nI (pc + 1)) := by rw [nI_clamp (by omega), nI_1]
    exact br_t (by decide) (nm_r (nI_1 oc) ⟨od_w64 hf ha, nm_r (od_t64 hf ha) ⟨vp_in_nI hf (by decide), nm_r gN p⟩⟩)
  | succ d ih =>
    intro i hi
    have e : upd (od_fill oF (oc * 4) i) (nI oc * 4 + nI i).toNatClampNeg (-1) = od_fill oF (oc * 4) (i + 1) := by rw [od_i4, nI_clamp (by omega)]; rfl
    exact br_f (nI_ge (b := 4) (by omega) (by decide)) ⟨od_v4 hoc (by omega), nm_r e (nm_r (nI_1 i) (ih (i + 1) (by omega)))⟩
theorem od_Fw_oc {x y f b pc n : Nat} (h : od_Fw cc x sc fB fP fR fV fL f b pc n) (hxy : x ≤ y) : od_Fw cc y sc fB fP fR fV fL f b pc n := by
  obtain ⟨e1, e2, e3, e4, e5, e6, e7, e8⟩ := h
  refine ⟨e1, e2, e3, e4, e5, e6, fun h0 => ?_, fun v hv => od_R_le (e8 v hv) hxy⟩
  obtain ⟨q1, ⟨w, hw, q2⟩, q3⟩ := e7 h0
  exact ⟨q1, ⟨w, by omega, q2⟩, q3⟩
theorem od_H_new {c : Nat} {u' : Nat → Int32} (hH : od_H cc oc oC oO oF) (hc : c < cc) (h1 : od_O oc u') (h2 : ∀ j, j < 3 → od_R oc (u' (oc * 3 + j))) : od_H cc (oc + 1) (upd oC oc (nI c)) u' (od_fill oF (oc * 4) 4) := by
  intro o ho
  by_cases e : o = oc
  · subst e
    exact ⟨⟨c, hc, pk_us⟩, h2, fun f hf => Or.inl (od_fill_in _ _ 4 _ (by omega) (by omega))⟩
  · obtain ⟨⟨c', hc', e'⟩, -, q3⟩ := hH o (by omega)
    refine ⟨⟨c', hc', (pk_un e).trans e'⟩, h1 o (by omega), fun f hf => ?_⟩
    rw [od_fill_out _ _ 4 _ (by omega)]
    exact od_R_le (q3 f hf) (by omega)
theorem od_new {f b pc n a : Nat} (hA : od_All ca cc oc (f + 1) 1 ck fm fk dX pT dY sc so sa sb oC oO oF fB fP fR fV fL) (hw : od_Fw cc oc sc fB fP fR fV fL f b pc n) (hp : pc < n) (ha : a < 8) (eA : sa (b * 16 + pc) = nI a) (eO : so (b * 16 + pc) = 1) {t m : Nat} (ht : t < 65536) (eX : sb (b * 16 + pc) = nI t) (hc : t % 16 < cc) (hm : m ≤ 2) (em : fm (t % 16) = nI m) (hs : ∀ i, i ≤ m → od_sl t i ≤ 4) : (∃ (st' : Int32) (oc' fc' : Nat) (oC' oO' oF' fB' fP' fR' fV' fL' : Nat → Int32), od_All ca cc oc' fc' st' ck fm fk dX pT dY sc so sa sb oC' oO' oF' fB' fP' fR' fV' fL' ∧ ¬ st' = 0 ∧ (∀ post : SX → Prop, post (nI ca, st', er, ck, nI cc, nI oc', nI fc', fm, fk, ft, rt, dX, sc, so, sa, sb, oC', oO', oF', fB', fP', fR', fV', fL') → wpX_step post (nI ca, 1, er, ck, nI cc, nI oc, nI (f + 1), fm, fk, ft, rt, dX, sc, so, sa, sb, oC, oO, oF, fB, fP, fR, fV, fL)) ∧ (∀ post : SY → Prop, post (nI ca, st', er, nI cc, ck, nI oc', nI fc', fm, fk, ft, pT, rt, dY, sc, so, sa, sb, oC', oO', oF', fB', fP', fR', fV', fL') → wpY_step post (nI ca, 1, er, nI cc, ck, nI oc, nI (f + 1), fm, fk, ft, pT, rt, dY, sc, so, sa, sb, oC, oO, oF, fB, fP, fR, fV, fL))) := by
  obtain ⟨hP, hca, hoc, hfc, -, hM⟩ := id hA
  obtain ⟨hC, -, hH, hF⟩ := hM (by decide)
  have hcc := hP.2.1
  have hf : f < 8 := by omega
  obtain ⟨w1, w2, w3, w4, w5, w6, w7, w8⟩ := id hw
  have hb : b ≤ 8 := by
    by_cases h : f = 0
    · exact Nat.le_of_eq (w6 h).1
    · exact Nat.le_trans (Nat.le_of_lt (w7 (Nat.pos_of_ne_zero h)).1) hcc
  have vf : vp_in (nI f) 8 := vp_in_nI hf (by decide)
  have f0 : (0 : Int32) ≤ nI f := nI_pos' (by omega)
  have vb : vp_in (nI b) 9 := vp_in_nI (by omega) (by decide)
  have v : vp_in (nI (b * 16 + pc)) 144 := vp_in_nI (by omega) (by decide)
  have ec := nI_clamp (n := b * 16 + pc) (by omega)
  have gB : fB (nI f).toNatClampNeg = nI b := (od_ef (by omega)).trans w1
  have gP : fP (nI f).toNatClampNeg = nI pc := (od_ef (by omega)).trans w2
  have gS : sc (nI b).toNatClampNeg = nI n := (od_ef (by omega)).trans w4
  have gR : fR (nI f).toNatClampNeg = fR f := od_ef (by omega)
  have lt' : nI pc < sc (nI b).toNatClampNeg := by rw [gS]; exact nI_lt hp (by omega)
  have lt : fP (nI f).toNatClampNeg < sc (nI b).toNatClampNeg := by rw [gP]; exact lt'
  have e3 : nI b * 16 + fP (nI f).toNatClampNeg = nI (b * 16 + pc) := by rw [gP, od_i16]
  have gA : sa (nI (b * 16 + pc)).toNatClampNeg = nI a := by rw [ec]; exact eA
  have gA7 : sa (nI (b * 16 + pc)).toNatClampNeg &&& 7 = nI a := by rw [gA]; exact od_and7' ha
  have gO : so (nI (b * 16 + pc)).toNatClampNeg = _ := (congrArg so ec).trans eO
  have gX : sb (nI (b * 16 + pc)).toNatClampNeg = _ := (congrArg sb ec).trans eX
  have gN : upd fP (nI f).toNatClampNeg (nI pc + 1) = upd fP f (nI (pc + 1)) := by rw [nI_clamp (by omega), nI_1]
  by_cases hfull : oc < ca
  · have l : nI oc < nI ca := nI_lt hfull (by omega)
    have h32 : oc < 32 := by omega
    have hR : od_R oc (fR f) := by
      by_cases h : f = 0
      · exact Or.inl (w6 h).2
      · exact Or.inr (w7 (Nat.pos_of_ne_zero h)).2.1
    obtain ⟨u', h1, h2, kX, kY⟩ := od_new1 (ca := ca) (cc := cc) (oc := oc) (fc := f + 1) (st := 1) (er := er) (ck := ck) (fm := fm) (fk := fk) (ft := ft) (rt := rt) (dX := dX) (pT := pT) (dY := dY) (sc := sc) (so := so) (sa := sa) (sb := sb) (oC := upd oC oc (nI (t % 16))) (oF := oF) (fB := fB) (fP := fP) (fR := fR) (fV := fV) (fL := fL) (f := f) (pc := pc) (a := a) h32 hR ht (c := t % 16) (by omega) hm em hs 3 0 oO rfl (fun w hw j hj => (hH w hw).2.1 j hj) (fun j hj => absurd hj (Nat.not_lt_zero _))
    refine od_go1 (fc := f + 1) (fc' := f + 1) (oc' := oc + 1) (oC' := upd oC oc (nI (t % 16))) (oO' := u') (oF' := od_fill oF (oc * 4) 4) (fB' := fB) (fR' := fR) (fV' := fV) (fP' := upd fP f (nI (pc + 1))) (fL' := upd fL (f * 8 + a) (nI oc)) ⟨hP, hca, by omega, hfc, fun h => absurd h (by decide), fun _ => ⟨hC, by omega, od_H_new hH hc h1 h2, od_F_asg (od_F_oc hF (by omega)) (od_Fw_oc hw (by omega)) hp (Or.inr ⟨oc, by omega, rfl⟩)⟩⟩ ?_ ?_
    · intro Q p
      refine nm_r (nI_pred f) ⟨vf, nm_r gB ⟨vf, vb, br_t lt ⟨vf, nm_r e3 ⟨v, nm_r gA ⟨v, nm_r gX ⟨v, nm_r gO ?_⟩⟩⟩⟩⟩⟩
      refine br_f (by decide) (br_f (by decide) (br_t rfl (br_t l (nm_r (od_and15 (by omega)) ⟨by rw [nI_pred f]; exact vf, nm_r (e' := fR f) (by rw [nI_pred f]; exact gR) ⟨vp_in_nI h32 (by decide), nm_r (od_uf (by omega)) ⟨4, kX _ ⟨5, od_new2x h32 hf ha w2 p 4 0 rfl⟩⟩⟩⟩))))
    · intro post p
      refine nm_r (nI_pred f) (br_t f0 ⟨vf, nm_r gB ⟨vf, nm_r gP ⟨vf, nm_r gR (nm_r (od_m8 f) ⟨vb, br_t lt' (nm_r (od_i16 b pc) ⟨v, nm_r gO ⟨v, nm_r gA7 ⟨v, nm_r gX ?_⟩⟩⟩)⟩)⟩⟩⟩)
      have e7 : nI t &&& 7 = nI (t % 16) := by rw [od_and7 (by omega), show t % 8 = t % 16 by omega]
      exact nm_e (nm_e (br_t rfl (br_t l (nm_r e7 ⟨vp_in_nI h32 (by decide), nm_r (od_uf (by omega)) ⟨4, kY _ ⟨5, od_new2y h32 hf ha p 4 0 rfl⟩⟩⟩))))
  · have l : ¬ nI oc < nI ca := nI_nlt (by omega) (by omega)
    refine od_go2 (fc := f + 1) (s' := 5) hA (by decide) (by decide) ?_ ?_
    · intro Q p
      refine nm_r (nI_pred f) ⟨vf, nm_r gB ⟨vf, vb, br_t lt ⟨vf, nm_r e3 ⟨v, nm_r gA ⟨v, nm_r gX ⟨v, nm_r gO ?_⟩⟩⟩⟩⟩⟩
      exact br_f (by decide) (br_f (by decide) (br_t rfl (br_f l p)))
    · intro post p
      refine nm_r (nI_pred f) (br_t f0 ⟨vf, nm_r gB ⟨vf, nm_r gP ⟨vf, nm_r gR (nm_r (od_m8 f) ⟨vb, br_t lt' (nm_r (od_i16 b pc) ⟨v, nm_r gO ⟨v, nm_r gA7 ⟨v, nm_r gX ?_⟩⟩⟩)⟩)⟩⟩⟩)
      exact nm_e (nm_e (br_t rfl (br_f l p)))
end
section
variable {ca cc oc fc : Nat} {st er ck : Int32} {fm fk ft rt dX pT dY sc so sa sb oC oO oF fB fP fR fV fL : Nat → Int32}
theorem od_call2 {post : SY → Prop} {f q h : Nat} (hf : f + 1 < 8) (hq : q < 8) (p : wY_step_689 post (nI ca) st er (nI cc) ck (nI oc) (nI (f + 1 + 1)) fm fk ft pT rt dY sc so sa sb oC oO oF fB fP fR fV (upd (upd (od_fill fL ((f + 1) * 8) 8) ((f + 1) * 8) (nI h)) ((f + 1) * 8 + 1) (upd (od_fill fL ((f + 1) * 8) 8) ((f + 1) * 8) (nI h) (f * 8 + q)))) : ∀ d i, i + d = 8 →
    wY_step_601 post (nI (f * 8)) (nI q) (nI h) (nI (f + 1)) (nI ((f + 1) * 8)) (nI ca) st er (nI cc) ck (nI oc) (nI (f + 1)) (d + 1) (nI i) fm fk ft pT rt dY sc so sa sb oC oO oF fB fP fR fV (od_fill fL ((f + 1) * 8) i) := by
  intro d
  induction d with
  | zero =>
    intro i hi
    obtain rfl : i = 8 := by omega
    have e1 : nI ((f + 1) * 8) + 1 = nI ((f + 1) * 8 + 1) := nI_1 _
    refine br_t (by decide) ⟨vp_in_nI (by omega) (by decide), nm_r (od_uf (by omega)) ⟨od_w64 (by omega) hq, ?_⟩⟩
    rw [e1]
    exact ⟨vp_in_nI (by omega) (by decide), nm_r ((od_uf (by omega)).trans (congrArg _ (od_g64 (by omega) hq))) (nm_r (nI_1 (f + 1)) p)⟩
  | succ d ih =>
    intro i hi
    have e : upd (od_fill fL ((f + 1) * 8) i) (nI ((f + 1) * 8) + nI i).toNatClampNeg (-1) = od_fill fL ((f + 1) * 8) (i + 1) := by rw [nI_add, nI_clamp (by omega)]; rfl
    exact br_f (nI_ge (b := 8) (by omega) (by decide)) ⟨od_w64 hf (by omega), nm_r e (nm_r (nI_1 i) (ih (i + 1) (by omega)))⟩
theorem od_F_call {f b pc n a h c q : Nat} (hsc : ∀ c, ∃ n, n ≤ 16 ∧ sc c = nI n) (hF : od_F cc oc (f + 1) sc fB fP fR fV fL) (hw : od_Fw cc oc sc fB fP fR fV fL f b pc n) (hp : pc < n) (ha : a < 8) (hq : q < 8) (hh : h < oc) (hc : c < cc) (ec : oC h = nI c) :
    od_F cc oc (f + 1 + 1) sc (upd fB (f + 1) (oC h)) (upd (upd fP f (nI (pc + 1))) (f + 1) 0) (upd fR (f + 1) (nI h)) (upd fV (f + 1) (nI a)) (upd (upd (od_fill fL ((f + 1) * 8) 8) ((f + 1) * 8) (nI h)) ((f + 1) * 8 + 1) (upd (od_fill fL ((f + 1) * 8) 8) ((f + 1) * 8) (nI h) (f * 8 + q))) := by
  have rh : od_R oc (nI h) := Or.inr ⟨h, hh, rfl⟩
  have rq : od_R oc (upd (od_fill fL ((f + 1) * 8) 8) ((f + 1) * 8) (nI h) (f * 8 + q)) := by
    refine od_R_upd rh ?_
    rw [od_fill_out _ _ 8 _ (by omega)]
    exact hw.2.2.2.2.2.2.2 q hq
  intro j hj
  by_cases e : j = f + 1
  · subst e
    obtain ⟨m, hm, em⟩ := hsc c
    refine ⟨c, 0, m, pk_us.trans ec, pk_us, hm, em, Nat.zero_le _, fun h => absurd h (Nat.succ_ne_zero f), fun _ => ⟨hc, ⟨h, hh, pk_us⟩, ⟨a, ha, pk_us⟩⟩, fun v hv => od_R_upd rq (od_R_upd rh (Or.inl (od_fill_in _ _ 8 _ (by omega) (by omega))))⟩
  · obtain ⟨b', p', n', e1, e2, e3, e4, e5, e6, e7, e8⟩ := od_F_pc hF hw hp j (by omega)
    refine ⟨b', p', n', (pk_un e).trans e1, (pk_un e).trans e2, e3, e4, e5, ?_, ?_, fun v hv => od_R_upd rq (od_R_upd rh ?_)⟩
    · rw [pk_un e]; exact e6
    · rw [pk_un e, pk_un e]; exact e7
    · rw [od_fill_out _ _ 8 _ (by omega)]; exact e8 v hv
theorem od_call {f b pc n a : Nat} (hA : od_All ca cc oc (f + 1) 1 ck fm fk dX pT dY sc so sa sb oC oO oF fB fP fR fV fL) (hw : od_Fw cc oc sc fB fP fR fV fL f b pc n) (hp : pc < n) (ha : a < 8) (eA : sa (b * 16 + pc) = nI a) (eO : so (b * 16 + pc) = 5) {y : Nat} (hy : y < 64) (eX : sb (b * 16 + pc) = nI y) : (∃ (st' : Int32) (oc' fc' : Nat) (oC' oO' oF' fB' fP' fR' fV' fL' : Nat → Int32), od_All ca cc oc' fc' st' ck fm fk dX pT dY sc so sa sb oC' oO' oF' fB' fP' fR' fV' fL' ∧ ¬ st' = 0 ∧ (∀ post : SX → Prop, post (nI ca, st', er, ck, nI cc, nI oc', nI fc', fm, fk, ft, rt, dX, sc, so, sa, sb, oC', oO', oF', fB', fP', fR', fV', fL') → wpX_step post (nI ca, 1, er, ck, nI cc, nI oc, nI (f + 1), fm, fk, ft, rt, dX, sc, so, sa, sb, oC, oO, oF, fB, fP, fR, fV, fL)) ∧ (∀ post : SY → Prop, post (nI ca, st', er, nI cc, ck, nI oc', nI fc', fm, fk, ft, pT, rt, dY, sc, so, sa, sb, oC', oO', oF', fB', fP', fR', fV', fL') → wpY_step post (nI ca, 1, er, nI cc, ck, nI oc, nI (f + 1), fm, fk, ft, pT, rt, dY, sc, so, sa, sb, oC, oO, oF, fB, fP, fR, fV, fL))) := by
  obtain ⟨hP, hca, hoc, hfc, -, hM⟩ := id hA
  obtain ⟨hC, -, hH, hF⟩ := hM (by decide)
  have hcc := hP.2.1
  have hf : f < 8 := by omega
  obtain ⟨w1, w2, w3, w4, w5, w6, w7, w8⟩ := id hw
  have hb : b ≤ 8 := by
    by_cases h : f = 0
    · exact Nat.le_of_eq (w6 h).1
    · exact Nat.le_trans (Nat.le_of_lt (w7 (Nat.pos_of_ne_zero h)).1) hcc
  have vf : vp_in (nI f) 8 := vp_in_nI hf (by decide)
  have f0 : (0 : Int32) ≤ nI f := nI_pos' (by omega)
  have vb : vp_in (nI b) 9 := vp_in_nI (by omega) (by decide)
  have v : vp_in (nI (b * 16 + pc)) 144 := vp_in_nI (by omega) (by decide)
  have ec := nI_clamp (n := b * 16 + pc) (by omega)
  have gB : fB (nI f).toNatClampNeg = nI b := (od_ef (by omega)).trans w1
  have gP : fP (nI f).toNatClampNeg = nI pc := (od_ef (by omega)).trans w2
  have gS : sc (nI b).toNatClampNeg = nI n := (od_ef (by omega)).trans w4
  have gR : fR (nI f).toNatClampNeg = fR f := od_ef (by omega)
  have lt' : nI pc < sc (nI b).toNatClampNeg := by rw [gS]; exact nI_lt hp (by omega)
  have lt : fP (nI f).toNatClampNeg < sc (nI b).toNatClampNeg := by rw [gP]; exact lt'
  have e3 : nI b * 16 + fP (nI f).toNatClampNeg = nI (b * 16 + pc) := by rw [gP, od_i16]
  have gA : sa (nI (b * 16 + pc)).toNatClampNeg = nI a := by rw [ec]; exact eA
  have gA7 : sa (nI (b * 16 + pc)).toNatClampNeg &&& 7 = nI a := by rw [gA]; exact od_and7' ha
  have gO : so (nI (b * 16 + pc)).toNatClampNeg = _ := (congrArg so ec).trans eO
  have gX : sb (nI (b * 16 + pc)).toNatClampNeg = _ := (congrArg sb ec).trans eX
  have gN : upd fP (nI f).toNatClampNeg (nI pc + 1) = upd fP f (nI (pc + 1)) := by rw [nI_clamp (by omega), nI_1]
  have h8 : y % 8 < 8 := by omega
  have hq : y / 8 < 8 := by omega
  have z8 : ¬ (8 : Int32) = 0 := by decide
  rcases w8 (y % 8) h8 with eh | ⟨h, hh, eh⟩
  · refine od_go2 (fc := f + 1) (s' := 3) hA (by decide) (by decide) ?_ ?_
    · intro Q p
      refine nm_r (nI_pred f) ⟨vf, nm_r gB ⟨vf, vb, br_t lt ⟨vf, nm_r e3 ⟨v, nm_r gA ⟨v, nm_r gX ⟨v, nm_r gO ?_⟩⟩⟩⟩⟩⟩
      refine br_f (by decide) (br_f (by decide) (br_f (by decide) (br_f (by decide) (br_f (by decide) (br_f (by decide) (br_t rfl ⟨z8, z8, ?_⟩))))))
      rw [od_rm (by omega), od_dv (by omega)]
      exact nm_r (nI_pred f) ⟨od_v64 hf h8, nm_r ((od_e64 (g := fL) hf h8).trans eh) (br_t rfl p)⟩
    · intro post p
      refine nm_r (nI_pred f) (br_t f0 ⟨vf, nm_r gB ⟨vf, nm_r gP ⟨vf, nm_r gR (nm_r (od_m8 f) ⟨vb, br_t lt' (nm_r (od_i16 b pc) ⟨v, nm_r gO ⟨v, nm_r gA7 ⟨v, nm_r gX ?_⟩⟩⟩)⟩)⟩⟩⟩)
      exact nm_r (od_and7 (by omega)) (nm_r (od_b7 (by omega)) (br_f (by decide) (br_f (by decide) (br_f (by decide) (br_f (by decide) (br_f (by decide) (br_t rfl ⟨od_w64 hf h8, nm_r ((od_g64 (g := fL) hf h8).trans eh) (br_f od_n0 p)⟩)))))))
  · have h32 : h < 32 := by omega
    have nh : ¬ nI h = -1 := od_ne1 (by omega)
    have ph : (0 : Int32) ≤ nI h := nI_pos' (by omega)
    by_cases hd : f + 1 < 8
    · have l : nI (f + 1) < 8 := nI_lt (b := 8) hd (by decide)
      have vn : vp_in (nI (f + 1)) 8 := vp_in_nI hd (by decide)
      obtain ⟨c, hc, ec'⟩ := (hH h hh).1
      refine od_go1 (fc := f + 1) (fc' := f + 1 + 1) (oc' := oc) (oC' := oC) (oO' := oO) (oF' := oF) (fB' := upd fB (f + 1) (oC h)) (fR' := upd fR (f + 1) (nI h)) (fV' := upd fV (f + 1) (nI a)) (fP' := upd (upd fP f (nI (pc + 1))) (f + 1) 0) (fL' := upd (upd (od_fill fL ((f + 1) * 8) 8) ((f + 1) * 8) (nI h)) ((f + 1) * 8 + 1) (upd (od_fill fL ((f + 1) * 8) 8) ((f + 1) * 8) (nI h) (f * 8 + y / 8))) ⟨hP, hca, hoc, by omega, fun h => absurd h (by decide), fun _ => ⟨hC, by omega, hH, od_F_call hP.2.2.2.2.1 hF hw hp ha hq hh hc ec'⟩⟩ ?_ ?_
      · intro Q p
        refine nm_r (nI_pred f) ⟨vf, nm_r gB ⟨vf, vb, br_t lt ⟨vf, nm_r e3 ⟨v, nm_r gA ⟨v, nm_r gX ⟨v, nm_r gO ?_⟩⟩⟩⟩⟩⟩
        refine br_f (by decide) (br_f (by decide) (br_f (by decide) (br_f (by decide) (br_f (by decide) (br_f (by decide) (br_t rfl ⟨z8, z8, ?_⟩))))))
        rw [od_rm (by omega), od_dv (by omega)]
        refine nm_r (nI_pred f) ⟨od_v64 hf h8, nm_r ((od_e64 (g := fL) hf h8).trans eh) (br_f nh (br_t l ⟨vf, vf, nm_r (e' := upd fP f (nI (pc + 1))) ?_ ⟨vp_in_nI h32 (by decide), ?_⟩⟩))⟩
        · rw [gP]; exact gN
        · rw [od_ef (g := oC) (f := h) (by omega)]
          refine od_push (f := f + 1) hd (nm_r (nI_pred (f + 1)) ?_)
          rw [od_i80, od_i81]
          exact ⟨vp_in_nI (by omega) (by decide), nm_r (od_uf (by omega)) ⟨od_v64 hf hq, vp_in_nI (by omega) (by decide), nm_r ((od_uf (by omega)).trans (congrArg _ (od_e64 hf hq))) p⟩⟩
      · intro post p
        refine nm_r (nI_pred f) (br_t f0 ⟨vf, nm_r gB ⟨vf, nm_r gP ⟨vf, nm_r gR (nm_r (od_m8 f) ⟨vb, br_t lt' (nm_r (od_i16 b pc) ⟨v, nm_r gO ⟨v, nm_r gA7 ⟨v, nm_r gX ?_⟩⟩⟩)⟩)⟩⟩⟩)
        refine nm_r (od_and7 (by omega)) (nm_r (od_b7 (by omega)) (br_f (by decide) (br_f (by decide) (br_f (by decide) (br_f (by decide) (br_f (by decide) (br_t rfl ⟨od_w64 hf h8, nm_r ((od_g64 (g := fL) hf h8).trans eh) (br_t ph (br_t l ⟨vf, nm_r gN (nm_r (od_m8 (f + 1)) ⟨vp_in_nI h32 (by decide), vn, ?_⟩)⟩))⟩)))))))
        rw [od_ef (g := oC) (f := h) (by omega)]
        exact nm_r (od_uf (by omega)) ⟨vn, nm_r (od_uf (by omega)) ⟨vn, nm_r (od_uf (by omega)) ⟨vn, nm_r (od_uf (by omega)) ⟨9, od_call2 hd hq p 8 0 rfl⟩⟩⟩⟩
    · have l : ¬ nI (f + 1) < 8 := nI_nlt (b := 8) (by omega) (by omega)
      refine od_go2 (fc := f + 1) (s' := 4) hA (by decide) (by decide) ?_ ?_
      · intro Q p
        refine nm_r (nI_pred f) ⟨vf, nm_r gB ⟨vf, vb, br_t lt ⟨vf, nm_r e3 ⟨v, nm_r gA ⟨v, nm_r gX ⟨v, nm_r gO ?_⟩⟩⟩⟩⟩⟩
        refine br_f (by decide) (br_f (by decide) (br_f (by decide) (br_f (by decide) (br_f (by decide) (br_f (by decide) (br_t rfl ⟨z8, z8, ?_⟩))))))
        rw [od_rm (by omega), od_dv (by omega)]
        exact nm_r (nI_pred f) ⟨od_v64 hf h8, nm_r ((od_e64 (g := fL) hf h8).trans eh) (br_f nh (br_f l p))⟩
      · intro post p
        refine nm_r (nI_pred f) (br_t f0 ⟨vf, nm_r gB ⟨vf, nm_r gP ⟨vf, nm_r gR (nm_r (od_m8 f) ⟨vb, br_t lt' (nm_r (od_i16 b pc) ⟨v, nm_r gO ⟨v, nm_r gA7 ⟨v, nm_r gX ?_⟩⟩⟩)⟩)⟩⟩⟩)
        exact nm_r (od_and7 (by omega)) (nm_r (od_b7 (by omega)) (br_f (by decide) (br_f (by decide) (br_f (by decide) (br_f (by decide) (br_f (by decide) (br_t rfl ⟨od_w64 hf h8, nm_r ((od_g64 (g := fL) hf h8).trans eh) (br_t ph (br_f l p))⟩)))))))
theorem od_end {f b pc n : Nat} (hA : od_All ca cc oc (f + 1) 1 ck fm fk dX pT dY sc so sa sb oC oO oF fB fP fR fV fL) (hw : od_Fw cc oc sc fB fP fR fV fL f b pc n) (hp : ¬ pc < n) (hf1 : 0 < f) : (∃ (st' : Int32) (oc' fc' : Nat) (oC' oO' oF' fB' fP' fR' fV' fL' : Nat → Int32), od_All ca cc oc' fc' st' ck fm fk dX pT dY sc so sa sb oC' oO' oF' fB' fP' fR' fV' fL' ∧ ¬ st' = 0 ∧ (∀ post : SX → Prop, post (nI ca, st', er, ck, nI cc, nI oc', nI fc', fm, fk, ft, rt, dX, sc, so, sa, sb, oC', oO', oF', fB', fP', fR', fV', fL') → wpX_step post (nI ca, 1, er, ck, nI cc, nI oc, nI (f + 1), fm, fk, ft, rt, dX, sc, so, sa, sb, oC, oO, oF, fB, fP, fR, fV, fL)) ∧ (∀ post : SY → Prop, post (nI ca, st', er, nI cc, ck, nI oc', nI fc', fm, fk, ft, pT, rt, dY, sc, so, sa, sb, oC', oO', oF', fB', fP', fR', fV', fL') → wpY_step post (nI ca, 1, er, nI cc, ck, nI oc, nI (f + 1), fm, fk, ft, pT, rt, dY, sc, so, sa, sb, oC, oO, oF, fB, fP, fR, fV, fL))) := by
  obtain ⟨hP, hca, hoc, hfc, -, hM⟩ := id hA
  obtain ⟨hC, -, hH, hF⟩ := hM (by decide)
  have hcc := hP.2.1
  have hf : f < 8 := by omega
  obtain ⟨w1, w2, w3, w4, w5, w6, w7, w8⟩ := id hw
  obtain ⟨hbc, -, ⟨r, hr, er'⟩⟩ := w7 hf1
  have vf : vp_in (nI f) 8 := vp_in_nI hf (by decide)
  have f0 : (0 : Int32) ≤ nI f := nI_pos' (by omega)
  have vb : vp_in (nI b) 9 := vp_in_nI (by omega) (by decide)
  have b8 : ¬ nI b = 8 := od_ne (k := 8) (by omega) (by omega) (by decide)
  have gB : fB (nI f).toNatClampNeg = nI b := (od_ef (by omega)).trans w1
  have gP : fP (nI f).toNatClampNeg = nI pc := (od_ef (by omega)).trans w2
  have gS : sc (nI b).toNatClampNeg = nI n := (od_ef (by omega)).trans w4
  have gR : fR (nI f).toNatClampNeg = fR f := od_ef (by omega)
  have lt' : ¬ nI pc < sc (nI b).toNatClampNeg := by rw [gS]; exact nI_nlt (by omega) (by omega)
  have lt : ¬ fP (nI f).toNatClampNeg < sc (nI b).toNatClampNeg := by rw [gP]; exact lt'
  obtain ⟨g, rfl⟩ : ∃ g, f = g + 1 := ⟨f - 1, by omega⟩
  refine od_go1 (fc := g + 1 + 1) (fc' := g + 1) (oc' := oc) (oC' := oC) (oO' := oO) (oF' := oF) (fB' := fB) (fR' := fR) (fV' := fV) (fP' := fP) (fL' := upd fL (g * 8 + r) (-1)) ⟨hP, hca, hoc, by omega, fun h => absurd h (by decide), fun _ => ⟨hC, by omega, hH, od_F_pop hF (Or.inl rfl)⟩⟩ ?_ ?_
  · intro Q p
    exact nm_r (nI_pred (g + 1)) ⟨vf, nm_r gB ⟨vf, vb, br_f lt (od_xpop hf hr er' p)⟩⟩
  · intro post p
    exact nm_r (nI_pred (g + 1)) (br_t f0 ⟨vf, nm_r gB ⟨vf, nm_r gP ⟨vf, nm_r gR (nm_r (od_m8 (g + 1)) ⟨vb, br_f lt' (br_f b8 (od_ypop hf hr er' p))⟩)⟩⟩⟩)
/-- one step -/
theorem od_stepF {f b pc n : Nat} (hA : od_All ca cc oc (f + 1) 1 ck fm fk dX pT dY sc so sa sb oC oO oF fB fP fR fV fL) (hw : od_Fw cc oc sc fB fP fR fV fL f b pc n) (hfin : f = 0 → pc < n) : (∃ (st' : Int32) (oc' fc' : Nat) (oC' oO' oF' fB' fP' fR' fV' fL' : Nat → Int32), od_All ca cc oc' fc' st' ck fm fk dX pT dY sc so sa sb oC' oO' oF' fB' fP' fR' fV' fL' ∧ ¬ st' = 0 ∧ (∀ post : SX → Prop, post (nI ca, st', er, ck, nI cc, nI oc', nI fc', fm, fk, ft, rt, dX, sc, so, sa, sb, oC', oO', oF', fB', fP', fR', fV', fL') → wpX_step post (nI ca, 1, er, ck, nI cc, nI oc, nI (f + 1), fm, fk, ft, rt, dX, sc, so, sa, sb, oC, oO, oF, fB, fP, fR, fV, fL)) ∧ (∀ post : SY → Prop, post (nI ca, st', er, nI cc, ck, nI oc', nI fc', fm, fk, ft, pT, rt, dY, sc, so, sa, sb, oC', oO', oF', fB', fP', fR', fV', fL') → wpY_step post (nI ca, 1, er, nI cc, ck, nI oc, nI (f + 1), fm, fk, ft, pT, rt, dY, sc, so, sa, sb, oC, oO, oF, fB, fP, fR, fV, fL))) := by
  have hcc := hA.1.2.1
  by_cases hp : pc < n
  · have hb : b < cc ∨ b = 8 := by
      by_cases h : f = 0
      · exact Or.inr (hw.2.2.2.2.2.1 h).1
      · exact Or.inl (hw.2.2.2.2.2.2.1 (Nat.pos_of_ne_zero h)).1
    have hC := (hA.2.2.2.2.2 (by decide)).1
    obtain ⟨a, ha, eA, hk⟩ := hC b pc n hb hw.2.2.2.1 hw.2.2.1 hp
    rcases hk with ⟨eO, t, m, ht, eX, hc, hm, em, hs⟩ | ⟨eO, y, hy, eX⟩ | ⟨eO, y, hy, eX⟩ | ⟨eO, y, hy, eX⟩ | ⟨eO, y, hy, eX⟩ | eO | ⟨eO, hb8⟩
    · exact od_new hA hw hp ha eA eO ht eX hc hm em hs
    · exact od_moveV hA hw hp ha eA eO hy eX
    · exact od_load hA hw hp ha eA eO hy eX
    · exact od_store hA hw hp ha eA eO hy eX
    · exact od_call hA hw hp ha eA eO hy eX
    · exact od_moveN hA hw hp ha eA eO rfl
    · exact od_ret hA hw hp ha eA eO hb8 rfl
  · exact od_end hA hw hp (Nat.pos_of_ne_zero (fun h => hp (hfin h)))
end
section
variable {ca cc oc fc : Nat} {st er ck : Int32} {fm fk ft rt dX pT dY sc so sa sb oC oO oF fB fP fR fV fL : Nat → Int32}
/-- main has not come to its end, or is not alone -/
def od_NF (fc : Nat) (sc fP : Nat → Int32) : Prop := fc = 1 → fP 0 < sc 8
theorem od_xstop {Q : SX → Prop} (hfc : fc ≤ 8) (h : od_NF fc sc fP) (p : Q (nI ca, st, er, ck, nI cc, nI oc, nI fc, fm, fk, ft, rt, dX, sc, so, sa, sb, oC, oO, oF, fB, fP, fR, fV, fL)) : wpX_stopIfFinished Q (nI ca, st, er, ck, nI cc, nI oc, nI fc, fm, fk, ft, rt, dX, sc, so, sa, sb, oC, oO, oF, fB, fP, fR, fV, fL) := by
  by_cases e : fc = 1
  · subst e
    exact br_c (fun _ => br_t rfl (br_t (h rfl) p)) (fun _ => p)
  · exact br_c (fun _ => br_f (od_ne (k := 1) e (by omega) (by decide)) p) (fun _ => p)
theorem od_yfin {Q : Int32 → Prop} (hfc : fc ≤ 8) (h : od_NF fc sc fP) (p : Q 0) : wpY_finished Q (nI ca, st, er, nI cc, ck, nI oc, nI fc, fm, fk, ft, pT, rt, dY, sc, so, sa, sb, oC, oO, oF, fB, fP, fR, fV, fL) := by
  by_cases e : fc = 1
  · subst e
    exact br_t rfl (br_t (h rfl) p)
  · exact br_f (od_ne (k := 1) e (by omega) (by decide)) p
theorem od_st2 {s : Int32} (hs : ¬ s = 0) (h : od_All ca cc oc fc 1 ck fm fk dX pT dY sc so sa sb oC oO oF fB fP fR fV fL) : od_All ca cc oc fc s ck fm fk dX pT dY sc so sa sb oC oO oF fB fP fR fV fL := by
  obtain ⟨h1, h2, h3, h4, -, h6⟩ := h
  exact ⟨h1, h2, h3, h4, fun e => absurd e hs, fun _ => h6 (by decide)⟩
theorem od_step1 (hA : od_All ca cc oc fc 1 ck fm fk dX pT dY sc so sa sb oC oO oF fB fP fR fV fL) (hN : od_NF fc sc fP) : (∃ (st' : Int32) (oc' fc' : Nat) (oC' oO' oF' fB' fP' fR' fV' fL' : Nat → Int32), od_All ca cc oc' fc' st' ck fm fk dX pT dY sc so sa sb oC' oO' oF' fB' fP' fR' fV' fL' ∧ ¬ st' = 0 ∧ (∀ post : SX → Prop, post (nI ca, st', er, ck, nI cc, nI oc', nI fc', fm, fk, ft, rt, dX, sc, so, sa, sb, oC', oO', oF', fB', fP', fR', fV', fL') → wpX_step post (nI ca, 1, er, ck, nI cc, nI oc, nI fc, fm, fk, ft, rt, dX, sc, so, sa, sb, oC, oO, oF, fB, fP, fR, fV, fL)) ∧ (∀ post : SY → Prop, post (nI ca, st', er, nI cc, ck, nI oc', nI fc', fm, fk, ft, pT, rt, dY, sc, so, sa, sb, oC', oO', oF', fB', fP', fR', fV', fL') → wpY_step post (nI ca, 1, er, nI cc, ck, nI oc, nI fc, fm, fk, ft, pT, rt, dY, sc, so, sa, sb, oC, oO, oF, fB, fP, fR, fV, fL))) := by
  obtain ⟨hP, hca, hoc, hfc, -, hM⟩ := id hA
  obtain ⟨hC, h1, hH, hF⟩ := hM (by decide)
  obtain ⟨f, rfl⟩ : ∃ f, fc = f + 1 := ⟨fc - 1, by omega⟩
  obtain ⟨b, pc, n, hw⟩ := hF f (by omega)
  refine od_stepF hA hw (fun h => ?_)
  subst h
  have hl := hN rfl
  obtain ⟨w1, w2, w3, w4, w5, w6, -⟩ := hw
  have eb := (w6 rfl).1
  subst eb
  rw [w2, w4] at hl
  exact (nI_ltI (by omega) (by omega)).mp hl
theorem od_runl {k : Nat} (hk : k ≤ 16) : ∀ d i (oc fc : Nat) (oC oO oF fB fP fR fV fL : Nat → Int32), i + d = k → od_All ca cc oc fc 1 ck fm fk dX pT dY sc so sa sb oC oO oF fB fP fR fV fL → od_NF fc sc fP →
    ∃ (st' : Int32) (oc' fc' : Nat) (oC' oO' oF' fB' fP' fR' fV' fL' : Nat → Int32), od_All ca cc oc' fc' st' ck fm fk dX pT dY sc so sa sb oC' oO' oF' fB' fP' fR' fV' fL' ∧
      (∀ post : Int32 → SX → Prop, post st' (nI ca, st', er, ck, nI cc, nI oc', nI fc', fm, fk, ft, rt, dX, sc, so, sa, sb, oC', oO', oF', fB', fP', fR', fV', fL') → wX_run_37 post (nI k) (d + 1) (nI i) (nI ca) 1 er ck (nI cc) (nI oc) (nI fc) fm fk ft rt dX sc so sa sb oC oO oF fB fP fR fV fL) ∧
      (∀ post : Int32 → SY → Prop, post st' (nI ca, st', er, nI cc, ck, nI oc', nI fc', fm, fk, ft, pT, rt, dY, sc, so, sa, sb, oC', oO', oF', fB', fP', fR', fV', fL') → wY_run_50 post (nI k) (d + 1) (nI i) (nI ca) 1 er (nI cc) ck (nI oc) (nI fc) fm fk ft pT rt dY sc so sa sb oC oO oF fB fP fR fV fL) := by
  intro d
  induction d with
  | zero =>
    intro i oc fc oC oO oF fB fP fR fV fL hi hA hN
    have l : nI k ≤ nI i := nI_le (by omega) (by omega)
    exact ⟨1, oc, fc, oC, oO, oF, fB, fP, fR, fV, fL, hA, fun post p => br_t l p, fun post p => br_t l p⟩
  | succ d ih =>
    intro i oc fc oC oO oF fB fP fR fV fL hi hA hN
    have l : ¬ nI k ≤ nI i := nI_ge (by omega) (by omega)
    obtain ⟨st', oc', fc', oC', oO', oF', fB', fP', fR', fV', fL', hA', h0', sX, sY⟩ := od_step1 (ca := ca) (cc := cc) (oc := oc) (fc := fc) (er := er) (ck := ck) (fm := fm) (fk := fk) (ft := ft) (rt := rt) (dX := dX) (pT := pT) (dY := dY) (sc := sc) (so := so) (sa := sa) (sb := sb) (oC := oC) (oO := oO) (oF := oF) (fB := fB) (fP := fP) (fR := fR) (fV := fV) (fL := fL) hA hN
    by_cases h1 : st' = 1
    · subst h1
      by_cases hfin : od_NF fc' sc fP'
      · obtain ⟨st'', oc'', fc'', oC'', oO'', oF'', fB'', fP'', fR'', fV'', fL'', hA'', kX, kY⟩ := ih (i + 1) oc' fc' oC' oO' oF' fB' fP' fR' fV' fL' (by omega) hA' hfin
        refine ⟨st'', oc'', fc'', oC'', oO'', oF'', fB'', fP'', fR'', fV'', fL'', hA'', fun post p => br_f l (br_t rfl (sX _ ?_)), fun post p => br_f l (sY _ (br_t rfl (od_yfin hA'.2.2.2.1 hfin (br_t rfl (nm_r (nI_1 i) (kY post p))))))⟩
        exact od_xstop hA'.2.2.2.1 hfin (nm_r (nI_1 i) (kX post p))
      · have e1 : fc' = 1 := by
          by_cases e : fc' = 1
          · exact e
          · exact absurd (fun h => absurd h e) hfin
        have nl : ¬ fP' 0 < sc 8 := fun h => hfin (fun _ => h)
        subst e1
        exact ⟨2, oc', 1, oC', oO', oF', fB', fP', fR', fV', fL', od_st2 (by decide) hA', fun post p => br_f l (br_t rfl (sX _ (br_t rfl (br_t rfl (br_f nl (nm_e (br_c (fun _ => p) (fun _ => br_f (by decide) p)))))))),
          fun post p => br_f l (sY _ (br_t rfl (br_t rfl (br_f nl (br_f (by decide) p)))))⟩
    · exact ⟨st', oc', fc', oC', oO', oF', fB', fP', fR', fV', fL', hA', fun post p => br_f l (br_t rfl (sX _ (br_f h1 (nm_e (br_c (fun _ => p) (fun _ => br_f h1 p)))))), fun post p => br_f l (sY _ (br_f h1 p))⟩
theorem od_run {k : Nat} (v1 : Int32) (h : od_All ca cc oc fc st ck fm fk dX pT dY sc so sa sb oC oO oF fB fP fR fV fL) :
    wpX_run (fun r u' => wpY_run (fun r' v' => r' = r ∧ i_Rel k u' v') (nI ca, st, er, nI cc, ck, nI oc, nI fc, fm, fk, ft, pT, rt, dY, sc, so, sa, sb, oC, oO, oF, fB, fP, fR, fV, fL) v1) (nI ca, st, er, ck, nI cc, nI oc, nI fc, fm, fk, ft, rt, dX, sc, so, sa, sb, oC, oO, oF, fB, fP, fR, fV, fL) v1 := by
  by_cases hs : st = 1
  · subst hs
    by_cases h1 : (1 : Int32) ≤ v1
    · by_cases hN : od_NF fc sc fP
      · obtain ⟨z, m, ez, hm, z16⟩ : ∃ (z : Int32) (m : Nat), z = nI m ∧ m ≤ 16 ∧ ((16 ≤ v1 ∧ z = 16) ∨ (¬ (16 : Int32) ≤ v1 ∧ z = v1)) := by
          by_cases h16 : (16 : Int32) ≤ v1
          · exact ⟨16, 16, rfl, Nat.le_refl _, Or.inl ⟨h16, rfl⟩⟩
          · have g : ¬ v1 < 0 := fun h => absurd (Int32.lt_of_lt_of_le (Int32.lt_of_le_of_lt h1 h) (by decide : (0 : Int32) ≤ 1)) (Int32.lt_irrefl)
            obtain ⟨j, hj, rfl⟩ := nI_of g
            refine ⟨nI j, j, rfl, ?_, Or.inr ⟨h16, rfl⟩⟩
            by_cases q : j ≤ 16
            · exact q
            · exact absurd (nI_le (a := 16) (by omega) hj) h16
        obtain ⟨st', oc', fc', oC', oO', oF', fB', fP', fR', fV', fL', hA', kX, kY⟩ := od_runl (ca := ca) (cc := cc) (er := er) (ck := ck) (fm := fm) (fk := fk) (ft := ft) (rt := rt) (dX := dX) (pT := pT) (dY := dY) (sc := sc) (so := so) (sa := sa) (sb := sb) hm m 0 oc fc oC oO oF fB fP fR fV fL (by omega) h hN
        rw [← ez] at kX kY
        have xx : wX_run_30 (fun r u' => wpY_run (fun r' v' => r' = r ∧ i_Rel k u' v') (nI ca, 1, er, nI cc, ck, nI oc, nI fc, fm, fk, ft, pT, rt, dY, sc, so, sa, sb, oC, oO, oF, fB, fP, fR, fV, fL) v1) z (nI ca) 1 er ck (nI cc) (nI oc) (nI fc) fm fk ft rt dX sc so sa sb oC oO oF fB fP fR fV fL := by
          unfold wX_run_30
          refine od_xstop h.2.2.2.1 hN ⟨m + 1, kX _ ?_⟩
          refine br_t rfl (br_t h1 (od_yfin h.2.2.2.1 hN (br_t rfl ?_)))
          rcases z16 with ⟨q, rfl⟩ | ⟨q, rfl⟩
          · exact br_t q ⟨m + 1, kY _ ⟨rfl, od_mk hA'⟩⟩
          · exact br_f q ⟨m + 1, kY _ ⟨rfl, od_mk hA'⟩⟩
        rcases z16 with ⟨q, rfl⟩ | ⟨q, rfl⟩
        · exact br_t rfl (br_t h1 (br_t q xx))
        · exact br_t rfl (br_t h1 (br_f q xx))
      · have e1 : fc = 1 := by
          by_cases e : fc = 1
          · exact e
          · exact absurd (fun h => absurd h e) hN
        have nl : ¬ fP 0 < sc 8 := fun h => hN (fun _ => h)
        subst e1
        have fin : i_Rel k (nI ca, 2, er, ck, nI cc, nI oc, nI 1, fm, fk, ft, rt, dX, sc, so, sa, sb, oC, oO, oF, fB, fP, fR, fV, fL) (nI ca, 2, er, nI cc, ck, nI oc, nI 1, fm, fk, ft, pT, rt, dY, sc, so, sa, sb, oC, oO, oF, fB, fP, fR, fV, fL) := od_mk (od_st2 (by decide) h)
        have yy : wpY_run (fun r' v' => r' = 2 ∧ i_Rel k (nI ca, 2, er, ck, nI cc, nI oc, nI 1, fm, fk, ft, rt, dX, sc, so, sa, sb, oC, oO, oF, fB, fP, fR, fV, fL) v') (nI ca, 1, er, nI cc, ck, nI oc, nI 1, fm, fk, ft, pT, rt, dY, sc, so, sa, sb, oC, oO, oF, fB, fP, fR, fV, fL) v1 := br_t rfl (br_t h1 (br_t rfl (br_f nl (br_f (by decide) ⟨rfl, fin⟩))))
        have xx : ∀ z : Int32, wX_run_30 (fun r u' => wpY_run (fun r' v' => r' = r ∧ i_Rel k u' v') (nI ca, 1, er, nI cc, ck, nI oc, nI 1, fm, fk, ft, pT, rt, dY, sc, so, sa, sb, oC, oO, oF, fB, fP, fR, fV, fL) v1) z (nI ca) 1 er ck (nI cc) (nI oc) (nI 1) fm fk ft rt dX sc so sa sb oC oO oF fB fP fR fV fL := by
          intro z
          unfold wX_run_30
          exact br_t rfl (br_t rfl (br_f nl ⟨1, br_c (fun _ => yy) (fun _ => br_f (by decide) yy)⟩))
        by_cases h16 : (16 : Int32) ≤ v1
        · exact br_t rfl (br_t h1 (br_t h16 (xx _)))
        · exact br_t rfl (br_t h1 (br_f h16 (xx _)))
    · exact br_t rfl (br_f h1 (br_t rfl (br_f h1 ⟨rfl, od_mk h⟩)))
  · exact br_f hs (br_f hs ⟨rfl, od_mk h⟩)
theorem od_restart {k : Nat} (h : od_All ca cc oc fc st ck fm fk dX pT dY sc so sa sb oC oO oF fB fP fR fV fL) :
    wpX_restart (fun r u' => wpY_restart (fun r' v' => r' = r ∧ i_Rel k u' v') (nI ca, st, er, nI cc, ck, nI oc, nI fc, fm, fk, ft, pT, rt, dY, sc, so, sa, sb, oC, oO, oF, fB, fP, fR, fV, fL)) (nI ca, st, er, ck, nI cc, nI oc, nI fc, fm, fk, ft, rt, dX, sc, so, sa, sb, oC, oO, oF, fB, fP, fR, fV, fL) := by
  by_cases hs : st = 0
  · exact br_t hs (br_t hs ⟨rfl, od_mk h⟩)
  · obtain ⟨hP, hca, hoc, hfc, -, hM⟩ := h
    exact br_f hs (od_xstart (br_f hs (od_ystart ⟨rfl, od_mk (od_begin hP (hM hs).1 hca)⟩)))
end
section
variable {ca cc oc fc : Nat} {st er ck : Int32} {fm fk ft rt dX pT dY sc so sa sb oC oO oF fB fP fR fV fL : Nat → Int32}
theorem od_xC1 {c : Nat} {post : Int32 → Prop} (hc : c < cc) (hcc : cc ≤ 8) (p : post 1) : wpX_isClass post (nI ca, st, er, ck, nI cc, nI oc, nI fc, fm, fk, ft, rt, dX, sc, so, sa, sb, oC, oO, oF, fB, fP, fR, fV, fL) (nI c) := br_f (nI_pos (by omega)) (br_f (nI_ge hc (by omega)) p)
/-- a number that names a class, or does not -/
theorem od_ccase (x : Int32) (hcc : cc ≤ 8) : (∃ c, c < cc ∧ x = nI c) ∨ (x < 0 ∨ (¬ x < 0 ∧ nI cc ≤ x ∧ ¬ x < nI cc)) := by
  by_cases h : x < 0
  · exact Or.inr (Or.inl h)
  · obtain ⟨j, hj, rfl⟩ := nI_of h
    by_cases q : j < cc
    · exact Or.inl ⟨j, q, rfl⟩
    · exact Or.inr (Or.inr ⟨h, nI_le (by omega) hj, nI_nlt (by omega) hj⟩)
theorem od_xC0 {x : Int32} {post : Int32 → Prop} (h : x < 0 ∨ (¬ x < 0 ∧ nI cc ≤ x ∧ ¬ x < nI cc)) (p : post 0) : wpX_isClass post (nI ca, st, er, ck, nI cc, nI oc, nI fc, fm, fk, ft, rt, dX, sc, so, sa, sb, oC, oO, oF, fB, fP, fR, fV, fL) x := by
  rcases h with h | ⟨h, h', -⟩
  · exact br_t h p
  · exact br_f h (br_t h' p)
theorem od_xB1 {b : Nat} {post : Int32 → Prop} (hb : b < cc ∨ b = 8) (hcc : cc ≤ 8) (p : post 1) : wpX_isBody post (nI ca, st, er, ck, nI cc, nI oc, nI fc, fm, fk, ft, rt, dX, sc, so, sa, sb, oC, oO, oF, fB, fP, fR, fV, fL) (nI b) := by
  rcases hb with hb | rfl
  · exact br_f (od_ne (k := 8) (by omega) (by omega) (by decide)) (od_xC1 hb hcc (br_f (by decide) p))
  · exact br_t rfl p
theorem od_yB1 {b : Nat} {post : Int32 → Prop} (hb : b < cc ∨ b = 8) (hcc : cc ≤ 8) (p : post 1) : wpY_validBody post (nI ca, st, er, nI cc, ck, nI oc, nI fc, fm, fk, ft, pT, rt, dY, sc, so, sa, sb, oC, oO, oF, fB, fP, fR, fV, fL) (nI b) := by
  rcases hb with hb | rfl
  · exact br_f (od_ne (k := 8) (by omega) (by omega) (by decide)) (br_f (nI_pos (by omega)) (br_f (nI_ge hb (by omega)) p))
  · exact br_t rfl p
theorem od_bcase (x : Int32) (hcc : cc ≤ 8) : (∃ b, (b < cc ∨ b = 8) ∧ x = nI b) ∨ (¬ x = 8 ∧ (x < 0 ∨ (¬ x < 0 ∧ nI cc ≤ x ∧ ¬ x < nI cc))) := by
  by_cases h8 : x = 8
  · exact Or.inl ⟨8, Or.inr rfl, h8⟩
  · rcases od_ccase x hcc with ⟨c, hc, e⟩ | h
    · exact Or.inl ⟨c, Or.inl hc, e⟩
    · exact Or.inr ⟨h8, h⟩
theorem od_xB0 {x : Int32} {post : Int32 → Prop} (h : ¬ x = 8 ∧ (x < 0 ∨ (¬ x < 0 ∧ nI cc ≤ x ∧ ¬ x < nI cc))) (p : post 0) : wpX_isBody post (nI ca, st, er, ck, nI cc, nI oc, nI fc, fm, fk, ft, rt, dX, sc, so, sa, sb, oC, oO, oF, fB, fP, fR, fV, fL) x := br_f h.1 (od_xC0 h.2 (br_t rfl p))
theorem od_yB0 {x : Int32} {post : Int32 → Prop} (h : ¬ x = 8 ∧ (x < 0 ∨ (¬ x < 0 ∧ nI cc ≤ x ∧ ¬ x < nI cc))) (p : post 0) : wpY_validBody post (nI ca, st, er, nI cc, ck, nI oc, nI fc, fm, fk, ft, pT, rt, dY, sc, so, sa, sb, oC, oO, oF, fB, fP, fR, fV, fL) x := by
  rcases h with ⟨h8, h | ⟨h, h', -⟩⟩
  · exact br_f h8 (br_t h p)
  · exact br_f h8 (br_f h (br_t h' p))
/-- a state before compile -/
theorem od_ed (hP : od_P ck cc fm fk dX pT dY sc) (hca : ca ≤ 32) (h : oc ≤ ca) (h' : fc ≤ 8) (h0 : (0 : Int32) = 0 → oc = 0 ∧ fc = 0) : od_All ca cc oc fc 0 ck fm fk dX pT dY sc so sa sb oC oO oF fB fP fR fV fL :=
  ⟨hP, hca, h, h', h0, fun e => absurd rfl e⟩
theorem od_addClass {k : Nat} (v1 : Int32) (h : od_All ca cc oc fc st ck fm fk dX pT dY sc so sa sb oC oO oF fB fP fR fV fL) :
    wpX_addClass (fun r u' => wpY_addClass (fun r' v' => r' = r ∧ i_Rel k u' v') (nI ca, st, er, nI cc, ck, nI oc, nI fc, fm, fk, ft, pT, rt, dY, sc, so, sa, sb, oC, oO, oF, fB, fP, fR, fV, fL) v1) (nI ca, st, er, ck, nI cc, nI oc, nI fc, fm, fk, ft, rt, dX, sc, so, sa, sb, oC, oO, oF, fB, fP, fR, fV, fL) v1 := by
  by_cases hs : st = 0
  · subst hs
    by_cases h0 : v1 < 0
    · exact br_t rfl (br_t h0 (br_t rfl (br_t h0 ⟨rfl, od_mk h⟩)))
    obtain ⟨j, hj, rfl⟩ := nI_of h0
    by_cases h2 : 2 < j
    · have l : (2 : Int32) < nI j := nI_lt (a := 2) h2 hj
      exact br_t rfl (br_f h0 (br_t l (br_t rfl (br_f h0 (br_t l ⟨rfl, od_mk h⟩)))))
    have l : ¬ (2 : Int32) < nI j := nI_nlt (a := 2) (by omega) (by decide)
    obtain ⟨hP, hca, hoc, hfc, h00, hM⟩ := id h
    obtain ⟨hck, hcc, hfm, hfk, hsc, hd0, hd1, hd2, hd8⟩ := hP
    by_cases h8 : cc < 8
    · have l8 : nI cc < 8 := nI_lt (b := 8) h8 (by decide)
      have vc : vp_in (nI cc) 8 := vp_in_nI h8 (by decide)
      have hP' : od_P ck (cc + 1) (upd fm cc (nI j)) fk (upd dX (cc * 8) (nI (od_self cc j))) pT dY sc := by
        refine ⟨hck, by omega, fun c => ?_, hfk, hsc, fun c n hc hn en => ?_, fun c hc => ?_, fun c v hv hv' => ?_, fun v hv => ?_⟩
        · by_cases e : c = cc
          · subst e; exact ⟨j, by omega, pk_us⟩
          · rw [pk_un e]; exact hfm c
        · by_cases e : c = cc
          · subst e
            rw [pk_us] at en ⊢
            rw [od_inj en hj (by omega)]
          · rw [pk_un e] at en
            rw [pk_un (by omega)]
            exact hd0 c n (by omega) hn en
        · rw [pk_un (by omega)]; exact hd1 c hc
        · rw [pk_un (by omega)]; exact hd2 c v hv hv'
        · rw [pk_un (by omega)]; exact hd8 v hv
      refine br_t rfl (br_f h0 (br_f l (br_t l8 (nm_r (nI_1 cc) ⟨vc, nm_r (od_uf (by omega)) (od_xself h8 (n := j) (by omega) pk_us ?_)⟩))))
      rw [od_i80]
      exact ⟨vp_in_nI (by omega) (by decide), nm_r (od_uf (by omega)) (br_t rfl (br_f h0 (br_f l (br_t l8 ⟨vc, nm_r (od_uf (by omega)) (nm_r (nI_1 cc) ⟨nI_pred cc, od_mk (od_ed hP' hca hoc hfc h00)⟩)⟩))))⟩
    · have l8 : ¬ nI cc < 8 := nI_nlt (b := 8) (by omega) (by omega)
      exact br_t rfl (br_f h0 (br_f l (br_f l8 (br_t rfl (br_f h0 (br_f l (br_f l8 ⟨rfl, od_mk h⟩)))))))
  · exact br_f hs (br_f hs ⟨rfl, od_mk h⟩)
theorem od_addField {k : Nat} (v1 v2 : Int32) (h : od_All ca cc oc fc st ck fm fk dX pT dY sc so sa sb oC oO oF fB fP fR fV fL) :
    wpX_addField (fun r u' => wpY_addField (fun r' v' => r' = r ∧ i_Rel k u' v') (nI ca, st, er, nI cc, ck, nI oc, nI fc, fm, fk, ft, pT, rt, dY, sc, so, sa, sb, oC, oO, oF, fB, fP, fR, fV, fL) v1 v2) (nI ca, st, er, ck, nI cc, nI oc, nI fc, fm, fk, ft, rt, dX, sc, so, sa, sb, oC, oO, oF, fB, fP, fR, fV, fL) v1 v2 := by
  by_cases hs : st = 0
  · subst hs
    obtain ⟨hP, hca, hoc, hfc, h00, hM⟩ := id h
    obtain ⟨hck, hcc, hfm, hfk, hsc, hd⟩ := hP
    rcases od_ccase v1 hcc with ⟨c, hc, rfl⟩ | hv
    · have vc : vp_in (nI c) 8 := vp_in_nI (by omega) (by decide)
      have h0 : ¬ nI c < 0 := nI_pos (by omega)
      have h1 : ¬ nI cc ≤ nI c := nI_ge hc (by omega)
      obtain ⟨n, hn, en⟩ := hfk c
      have ek : fk (nI c).toNatClampNeg = nI n := (od_ef (by omega)).trans en
      by_cases h4 : n < 4
      · have l : fk (nI c).toNatClampNeg < 4 := by rw [ek]; exact nI_lt (b := 4) h4 (by decide)
        have v32 : vp_in (nI c * 4 + nI n) 32 := by rw [od_i4]; exact vp_in_nI (by omega) (by decide)
        have eu : upd ft (nI c * 4 + nI n).toNatClampNeg v2 = upd ft (c * 4 + n) v2 := by rw [od_i4, nI_clamp (by omega)]
        have ef : upd fk (nI c).toNatClampNeg (fk (nI c).toNatClampNeg + 1) = upd fk c (nI (n + 1)) := by rw [ek, nI_1, nI_clamp (by omega)]
        have ey : upd fk c (nI (n + 1)) (nI c).toNatClampNeg - 1 = nI n := by rw [nI_clamp (by omega), pk_us, nI_pred]
        have hP' : od_P ck cc fm (upd fk c (nI (n + 1))) dX pT dY sc := by
          refine ⟨hck, hcc, hfm, fun c' => ?_, hsc, hd⟩
          by_cases e : c' = c
          · subst e; exact ⟨n + 1, by omega, pk_us⟩
          · rw [pk_un e]; exact hfk c'
        refine br_t rfl (od_xC1 hc hcc (br_f (by decide) ⟨vc, br_t l ⟨vc, nm_r ek ⟨v32, nm_r eu ⟨vc, vc, nm_r ef (br_t rfl (br_f h0 (br_f h1 ⟨vc, br_t l ⟨vc, ?_⟩⟩)))⟩⟩⟩⟩))
        rw [ek]
        refine ⟨v32, nm_r eu ⟨vc, vc, ?_⟩⟩
        rw [← ek]
        exact nm_r ef ⟨vc, ey.trans ek.symm, od_mk (od_ed hP' hca hoc hfc h00)⟩
      · have l : ¬ fk (nI c).toNatClampNeg < 4 := by rw [ek]; exact nI_nlt (b := 4) (by omega) (by omega)
        exact br_t rfl (od_xC1 hc hcc (br_f (by decide) ⟨vc, br_f l (br_t rfl (br_f h0 (br_f h1 ⟨vc, br_f l ⟨rfl, od_mk h⟩⟩)))⟩))
    · refine br_t rfl (od_xC0 hv (br_t rfl (br_t rfl ?_)))
      rcases hv with hv | ⟨hv, hv', -⟩
      · exact br_t hv ⟨rfl, od_mk h⟩
      · exact br_f hv (br_t hv' ⟨rfl, od_mk h⟩)
  · exact br_f hs (br_f hs ⟨rfl, od_mk h⟩)
theorem od_setSig {k : Nat} (v1 v2 v3 : Int32) (h : od_All ca cc oc fc st ck fm fk dX pT dY sc so sa sb oC oO oF fB fP fR fV fL) :
    wpX_setSignature (fun r u' => wpY_setSignature (fun r' v' => r' = r ∧ i_Rel k u' v') (nI ca, st, er, nI cc, ck, nI oc, nI fc, fm, fk, ft, pT, rt, dY, sc, so, sa, sb, oC, oO, oF, fB, fP, fR, fV, fL) v1 v2 v3) (nI ca, st, er, ck, nI cc, nI oc, nI fc, fm, fk, ft, rt, dX, sc, so, sa, sb, oC, oO, oF, fB, fP, fR, fV, fL) v1 v2 v3 := by
  by_cases hs : st = 0
  · subst hs
    obtain ⟨hP, hca, hoc, hfc, h00, hM⟩ := id h
    obtain ⟨hck, hcc, hfm, hfk, hsc, hd0, hd1, hd2, hd8⟩ := hP
    rcases od_ccase v1 hcc with ⟨c, hc, rfl⟩ | hv
    · have vc : vp_in (nI c) 8 := vp_in_nI (by omega) (by decide)
      have h0 : ¬ nI c < 0 := nI_pos (by omega)
      have h1 : nI c < nI cc := nI_lt hc (by omega)
      have v1' : vp_in (nI c * 8 + 1) 72 := by rw [od_i81]; exact vp_in_nI (by omega) (by decide)
      have eu : upd dX (nI c * 8 + 1).toNatClampNeg v2 = upd dX (c * 8 + 1) v2 := by rw [od_i81, nI_clamp (by omega)]
      have hP' : od_P ck cc fm fk (upd dX (c * 8 + 1) v2) (upd pT c v2) dY sc := by
        refine ⟨hck, hcc, hfm, hfk, hsc, fun c' n hc' hn en => ?_, fun c' hc' => ?_, fun c' v hv hv' => ?_, fun v hv => ?_⟩
        · rw [pk_un (by omega)]; exact hd0 c' n hc' hn en
        · by_cases e : c' = c
          · subst e; rw [pk_us, pk_us]
          · rw [pk_un (by omega), pk_un e]; exact hd1 c' hc'
        · rw [pk_un (by omega)]; exact hd2 c' v hv hv'
        · rw [pk_un (by omega)]; exact hd8 v hv
      exact br_t rfl (od_xC1 hc hcc (br_f (by decide) ⟨v1', nm_r eu ⟨vc, nm_r (od_uf (by omega)) (br_t rfl (br_f h0 (br_t h1 ⟨vc, nm_r (od_uf (by omega)) ⟨vc, nm_r (od_uf (by omega)) ⟨rfl, od_mk (od_ed hP' hca hoc hfc h00)⟩⟩⟩)))⟩⟩))
    · refine br_t rfl (od_xC0 hv (br_t rfl (br_t rfl ?_)))
      rcases hv with hv | ⟨hv, -, hv'⟩
      · exact br_t hv ⟨rfl, od_mk h⟩
      · exact br_f hv (br_f hv' ⟨rfl, od_mk h⟩)
  · exact br_f hs (br_f hs ⟨rfl, od_mk h⟩)
theorem od_setLocal {k : Nat} (v1 v2 v3 : Int32) (h : od_All ca cc oc fc st ck fm fk dX pT dY sc so sa sb oC oO oF fB fP fR fV fL) :
    wpX_setLocal (fun r u' => wpY_setLocal (fun r' v' => r' = r ∧ i_Rel k u' v') (nI ca, st, er, nI cc, ck, nI oc, nI fc, fm, fk, ft, pT, rt, dY, sc, so, sa, sb, oC, oO, oF, fB, fP, fR, fV, fL) v1 v2 v3) (nI ca, st, er, ck, nI cc, nI oc, nI fc, fm, fk, ft, rt, dX, sc, so, sa, sb, oC, oO, oF, fB, fP, fR, fV, fL) v1 v2 v3 := by
  by_cases hs : st = 0
  · subst hs
    obtain ⟨hP, hca, hoc, hfc, h00, hM⟩ := id h
    obtain ⟨hck, hcc, hfm, hfk, hsc, hd0, hd1, hd2, hd8⟩ := hP
    rcases od_bcase v1 hcc with ⟨b, hb, rfl⟩ | hv
    · have hb8 : b ≤ 8 := by omega
      have put : ∀ v, v < 8 → (b = 8 ∨ 2 ≤ v) → i_Rel k (nI ca, 0, er, ck, nI cc, nI oc, nI fc, fm, fk, ft, rt, upd dX (b * 8 + v) v3, sc, so, sa, sb, oC, oO, oF, fB, fP, fR, fV, fL) (nI ca, 0, er, nI cc, ck, nI oc, nI fc, fm, fk, ft, pT, rt, upd dY (b * 8 + v) v3, sc, so, sa, sb, oC, oO, oF, fB, fP, fR, fV, fL) := by
        intro v hv hbv
        have hP' : od_P ck cc fm fk (upd dX (b * 8 + v) v3) pT (upd dY (b * 8 + v) v3) sc := by
          refine ⟨hck, hcc, hfm, hfk, hsc, fun c' n hc' hn en => ?_, fun c' hc' => ?_, fun c' v' q q' => ?_, fun v' q => ?_⟩
          · rw [pk_un (by omega)]; exact hd0 c' n hc' hn en
          · rw [pk_un (by omega)]; exact hd1 c' hc'
          · unfold upd; split
            · rfl
            · exact hd2 c' v' q q'
          · unfold upd; split
            · rfl
            · exact hd8 v' q
        exact od_mk (od_ed hP' hca hoc hfc h00)
      have kk : i_Rel k (nI ca, 0, er, ck, nI cc, nI oc, nI fc, fm, fk, ft, rt, dX, sc, so, sa, sb, oC, oO, oF, fB, fP, fR, fV, fL) (nI ca, 0, er, nI cc, ck, nI oc, nI fc, fm, fk, ft, pT, rt, dY, sc, so, sa, sb, oC, oO, oF, fB, fP, fR, fV, fL) := od_mk h
      have vv : ∀ v, v < 8 → vp_in (nI b * 8 + nI v) 72 := fun v hv => od_v8 (by omega)
      have uu : ∀ (g : Nat → Int32) v, v < 8 → upd g (nI b * 8 + nI v).toNatClampNeg v3 = upd g (b * 8 + v) v3 := fun g v hv => by rw [od_i8, nI_clamp (by omega)]
      by_cases h0 : v2 < 0
      · have yy : wpY_setLocal (fun r' v' => r' = 0 ∧ i_Rel k (nI ca, 0, er, ck, nI cc, nI oc, nI fc, fm, fk, ft, rt, dX, sc, so, sa, sb, oC, oO, oF, fB, fP, fR, fV, fL) v') (nI ca, 0, er, nI cc, ck, nI oc, nI fc, fm, fk, ft, pT, rt, dY, sc, so, sa, sb, oC, oO, oF, fB, fP, fR, fV, fL) (nI b) v2 v3 := br_t rfl (od_yB1 hb hcc (br_f (by decide) (br_t h0 ⟨rfl, kk⟩)))
        refine br_t rfl (od_xB1 hb hcc (br_f (by decide) ?_))
        by_cases e8 : b = 8
        · subst e8; exact br_t rfl (br_t h0 yy)
        · exact br_f (od_ne (k := 8) e8 (by omega) (by decide)) (br_t (Int32.lt_trans h0 (by decide)) yy)
      obtain ⟨v, hv, rfl⟩ := nI_of h0
      by_cases v8 : v < 8
      · have l1 : nI v < 8 := nI_lt (b := 8) v8 (by decide)
        have l2 : ¬ (7 : Int32) < nI v := nI_nlt (a := 7) (by omega) (by decide)
        by_cases e8 : b = 8
        · subst e8
          refine br_t rfl (od_xB1 hb hcc (br_f (by decide) (br_t rfl (br_f h0 (br_t l1 ⟨vv v v8, nm_r (uu _ v v8) ?_⟩)))))
          exact br_t rfl (od_yB1 hb hcc (br_f (by decide) (br_f h0 (br_f l2 (br_t rfl ⟨vv v v8, nm_r (uu _ v v8) ⟨rfl, put v v8 (Or.inl rfl)⟩⟩)))))
        · have n8 : ¬ nI b = 8 := od_ne (k := 8) e8 (by omega) (by decide)
          by_cases h2 : 2 ≤ v
          · have m1 : ¬ nI v < 2 := nI_nlt (b := 2) h2 hv
            have m2 : (2 : Int32) ≤ nI v := nI_le (a := 2) h2 hv
            refine br_t rfl (od_xB1 hb hcc (br_f (by decide) (br_f n8 (br_f m1 (br_t l1 ⟨vv v v8, nm_r (uu _ v v8) ?_⟩)))))
            exact br_t rfl (od_yB1 hb hcc (br_f (by decide) (br_f h0 (br_f l2 (br_f n8 (br_t m2 ⟨vv v v8, nm_r (uu _ v v8) ⟨rfl, put v v8 (Or.inr h2)⟩⟩))))))
          · have m1 : nI v < 2 := nI_lt (b := 2) (by omega) (by decide)
            have m2 : ¬ (2 : Int32) ≤ nI v := nI_ge (b := 2) (by omega) (by decide)
            exact br_t rfl (od_xB1 hb hcc (br_f (by decide) (br_f n8 (br_t m1 (br_t rfl (od_yB1 hb hcc (br_f (by decide) (br_f h0 (br_f l2 (br_f n8 (br_f m2 ⟨rfl, kk⟩)))))))))))
      · have l1 : ¬ nI v < 8 := nI_nlt (b := 8) (by omega) hv
        have l2 : (7 : Int32) < nI v := nI_lt (a := 7) (by omega) hv
        have yy : wpY_setLocal (fun r' v' => r' = 0 ∧ i_Rel k (nI ca, 0, er, ck, nI cc, nI oc, nI fc, fm, fk, ft, rt, dX, sc, so, sa, sb, oC, oO, oF, fB, fP, fR, fV, fL) v') (nI ca, 0, er, nI cc, ck, nI oc, nI fc, fm, fk, ft, pT, rt, dY, sc, so, sa, sb, oC, oO, oF, fB, fP, fR, fV, fL) (nI b) (nI v) v3 := br_t rfl (od_yB1 hb hcc (br_f (by decide) (br_f h0 (br_t l2 ⟨rfl, kk⟩))))
        refine br_t rfl (od_xB1 hb hcc (br_f (by decide) ?_))
        by_cases e8 : b = 8
        · subst e8; exact br_t rfl (br_f h0 (br_f l1 yy))
        · exact br_f (od_ne (k := 8) e8 (by omega) (by decide)) (br_f (nI_nlt (b := 2) (by omega) hv) (br_f l1 yy))
    · exact br_t rfl (od_xB0 hv (br_t rfl (br_t rfl (od_yB0 hv (br_t rfl ⟨rfl, od_mk h⟩)))))
  · exact br_f hs (br_f hs ⟨rfl, od_mk h⟩)
theorem od_addStmt {k : Nat} (v1 v2 v3 v4 : Int32) (h : od_All ca cc oc fc st ck fm fk dX pT dY sc so sa sb oC oO oF fB fP fR fV fL) :
    wpX_addStmt (fun r u' => wpY_addStmt (fun r' v' => r' = r ∧ i_Rel k u' v') (nI ca, st, er, nI cc, ck, nI oc, nI fc, fm, fk, ft, pT, rt, dY, sc, so, sa, sb, oC, oO, oF, fB, fP, fR, fV, fL) v1 v2 v3 v4) (nI ca, st, er, ck, nI cc, nI oc, nI fc, fm, fk, ft, rt, dX, sc, so, sa, sb, oC, oO, oF, fB, fP, fR, fV, fL) v1 v2 v3 v4 := by
  by_cases hs : st = 0
  · subst hs
    obtain ⟨hP, hca, hoc, hfc, h00, hM⟩ := id h
    obtain ⟨hck, hcc, hfm, hfk, hsc, hd⟩ := hP
    rcases od_bcase v1 hcc with ⟨b, hb, rfl⟩ | hv
    · have hb8 : b ≤ 8 := by omega
      have vb : vp_in (nI b) 9 := vp_in_nI (by omega) (by decide)
      obtain ⟨n, hn, en⟩ := hsc b
      have ek : sc (nI b).toNatClampNeg = nI n := (od_ef (by omega)).trans en
      by_cases h16 : n < 16
      · have l : sc (nI b).toNatClampNeg < 16 := by rw [ek]; exact nI_lt (b := 16) h16 (by decide)
        have v144 : vp_in (nI (b * 16 + n)) 144 := vp_in_nI (by omega) (by decide)
        have u144 : ∀ (g : Nat → Int32) (x : Int32), upd g (nI (b * 16 + n)).toNatClampNeg x = upd g (b * 16 + n) x := fun g x => od_uf (by omega)
        have ef : upd sc (nI b).toNatClampNeg (sc (nI b).toNatClampNeg + 1) = upd sc b (nI (n + 1)) := by rw [ek, nI_1, nI_clamp (by omega)]
        have ey : upd sc b (nI (n + 1)) (nI b).toNatClampNeg - 1 = sc (nI b).toNatClampNeg := by rw [ek, nI_clamp (by omega), pk_us, nI_pred]
        have e5 : nI b * 16 + sc (nI b).toNatClampNeg = nI (b * 16 + n) := by rw [ek, od_i16]
        have hP' : od_P ck cc fm fk dX pT dY (upd sc b (nI (n + 1))) := by
          refine ⟨hck, hcc, hfm, hfk, fun c' => ?_, hd⟩
          by_cases e : c' = b
          · subst e; exact ⟨n + 1, by omega, pk_us⟩
          · rw [pk_un e]; exact hsc c'
        exact br_t rfl (od_xB1 hb hcc (br_f (by decide) ⟨vb, br_t l ⟨vb, nm_e (nm_r e5 ⟨v144, nm_r (u144 _ _) ⟨v144, nm_r (u144 _ _) ⟨v144, nm_r (u144 _ _) ⟨vb, vb, nm_r ef
          (br_t rfl (od_yB1 hb hcc (br_f (by decide) ⟨vb, br_t l ⟨vb, nm_r e5 ⟨v144, nm_r (u144 _ _) ⟨v144, nm_r (u144 _ _) ⟨v144, nm_r (u144 _ _) ⟨vb, vb, nm_r ef ⟨vb, ey, od_mk (od_ed hP' hca hoc hfc h00)⟩⟩⟩⟩⟩⟩⟩)))⟩⟩⟩⟩)⟩⟩))
      · have l : ¬ sc (nI b).toNatClampNeg < 16 := by rw [ek]; exact nI_nlt (b := 16) (by omega) (by omega)
        exact br_t rfl (od_xB1 hb hcc (br_f (by decide) ⟨vb, br_f l (br_t rfl (od_yB1 hb hcc (br_f (by decide) ⟨vb, br_f l ⟨rfl, od_mk h⟩⟩)))⟩))
    · exact br_t rfl (od_xB0 hv (br_t rfl (br_t rfl (od_yB0 hv (br_t rfl ⟨rfl, od_mk h⟩)))))
  · exact br_f hs (br_f hs ⟨rfl, od_mk h⟩)
end
section
variable {ca cc oc fc : Nat} {st er ck : Int32} {fm fk ft rt dX pT dY sc so sa sb oC oO oF fB fP fR fV fL : Nat → Int32}
theorem od_s4 {a : Nat} (h : 4 ≤ a) : nI a - 4 = nI (a - 4) := pk_sub (b := 4) h
theorem od_s8 {a : Nat} (h : 8 ≤ a) : nI a - 8 = nI (a - 8) := pk_sub (b := 8) h
theorem od_s13 {a : Nat} (h : 4 ≤ a) : nI a - 1 - 3 = nI (a - 4) := by
  rw [od_s1 (by omega)]
  show nI (a - 1) - nI 3 = _
  rw [pk_sub (by omega), show a - 1 - 3 = a - 4 by omega]
theorem od_getObject {k : Nat} (v1 v2 : Int32) (h : od_All ca cc oc fc st ck fm fk dX pT dY sc so sa sb oC oO oF fB fP fR fV fL) :
    wpX_getObject (fun r => wpY_getObject (fun r' => r' = r ∧ i_Rel k (nI ca, st, er, ck, nI cc, nI oc, nI fc, fm, fk, ft, rt, dX, sc, so, sa, sb, oC, oO, oF, fB, fP, fR, fV, fL) (nI ca, st, er, nI cc, ck, nI oc, nI fc, fm, fk, ft, pT, rt, dY, sc, so, sa, sb, oC, oO, oF, fB, fP, fR, fV, fL)) (nI ca, st, er, nI cc, ck, nI oc, nI fc, fm, fk, ft, pT, rt, dY, sc, so, sa, sb, oC, oO, oF, fB, fP, fR, fV, fL) v1 v2) (nI ca, st, er, ck, nI cc, nI oc, nI fc, fm, fk, ft, rt, dX, sc, so, sa, sb, oC, oO, oF, fB, fP, fR, fV, fL) v1 v2 := by
  have kk : i_Rel k (nI ca, st, er, ck, nI cc, nI oc, nI fc, fm, fk, ft, rt, dX, sc, so, sa, sb, oC, oO, oF, fB, fP, fR, fV, fL) (nI ca, st, er, nI cc, ck, nI oc, nI fc, fm, fk, ft, pT, rt, dY, sc, so, sa, sb, oC, oO, oF, fB, fP, fR, fV, fL) := od_mk h
  obtain ⟨hP, hca, hoc, -⟩ := h
  by_cases h0 : v1 < 0
  · exact br_t h0 (br_t h0 ⟨rfl, kk⟩)
  obtain ⟨o, ho, rfl⟩ := nI_of h0
  by_cases h1 : o < oc
  · have l1 : ¬ nI oc ≤ nI o := nI_ge h1 (by omega)
    by_cases w0 : v2 < 0
    · exact br_f h0 (br_f l1 (br_t w0 (br_f h0 (br_f l1 (br_t w0 ⟨rfl, kk⟩)))))
    obtain ⟨w, hw, rfl⟩ := nI_of w0
    by_cases w7 : w ≤ 7
    · have l7 : nI w ≤ 7 := nI_le (b := 7) w7 (by decide)
      by_cases e0 : w = 0
      · subst e0
        have v : vp_in (nI o) 32 := vp_in_nI (by omega) (by decide)
        exact br_f h0 (br_f l1 (br_f w0 (br_t l7 (br_t rfl ⟨v, br_f h0 (br_f l1 (br_f w0 (br_t l7 (br_t rfl ⟨v, rfl, kk⟩))))⟩))))
      have n0 : ¬ nI w = 0 := od_ne (k := 0) e0 (by omega) (by decide)
      by_cases w3 : 3 < w
      · have l3 : (3 : Int32) < nI w := nI_lt (a := 3) w3 (by omega)
        have vX : vp_in (nI o * 4 + nI w - 1 - 3) 128 := by rw [od_i4, od_s13 (by omega)]; exact vp_in_nI (by omega) (by decide)
        have eX : nI o * 4 + nI w - 1 - 3 = nI o * 4 + nI w - 4 := by rw [od_i4, od_s13 (by omega), od_s4 (by omega)]
        exact br_f h0 (br_f l1 (br_f w0 (br_t l7 (br_f n0 (br_t l3 ⟨vX, br_f h0 (br_f l1 (br_f w0 (br_t l7 (br_f n0 (br_t l3 ⟨eX ▸ vX, by rw [eX], kk⟩)))))⟩)))))
      · have l3 : ¬ (3 : Int32) < nI w := nI_nlt (a := 3) (by omega) (by decide)
        have vX : vp_in (nI o * 3 + nI w - 1) 96 := by rw [od_i3, od_s1 (by omega)]; exact vp_in_nI (by omega) (by decide)
        exact br_f h0 (br_f l1 (br_f w0 (br_t l7 (br_f n0 (br_f l3 ⟨vX, br_f h0 (br_f l1 (br_f w0 (br_t l7 (br_f n0 (br_f l3 ⟨vX, rfl, kk⟩)))))⟩)))))
    · have l7 : ¬ nI w ≤ 7 := nI_ge (a := 7) (by omega) hw
      exact br_f h0 (br_f l1 (br_f w0 (br_f l7 (br_f h0 (br_f l1 (br_f w0 (br_f l7 ⟨rfl, kk⟩)))))))
  · have l1 : nI oc ≤ nI o := nI_le (by omega) ho
    exact br_f h0 (br_t l1 (br_f h0 (br_t l1 ⟨rfl, kk⟩)))
theorem od_getFrameCount {k : Nat} (h : od_All ca cc oc fc st ck fm fk dX pT dY sc so sa sb oC oO oF fB fP fR fV fL) :
    wpX_getFrameCount (fun r => wpY_getFrameCount (fun r' => r' = r ∧ i_Rel k (nI ca, st, er, ck, nI cc, nI oc, nI fc, fm, fk, ft, rt, dX, sc, so, sa, sb, oC, oO, oF, fB, fP, fR, fV, fL) (nI ca, st, er, nI cc, ck, nI oc, nI fc, fm, fk, ft, pT, rt, dY, sc, so, sa, sb, oC, oO, oF, fB, fP, fR, fV, fL)) (nI ca, st, er, nI cc, ck, nI oc, nI fc, fm, fk, ft, pT, rt, dY, sc, so, sa, sb, oC, oO, oF, fB, fP, fR, fV, fL)) (nI ca, st, er, ck, nI cc, nI oc, nI fc, fm, fk, ft, rt, dX, sc, so, sa, sb, oC, oO, oF, fB, fP, fR, fV, fL) := by
  have kk : i_Rel k (nI ca, st, er, ck, nI cc, nI oc, nI fc, fm, fk, ft, rt, dX, sc, so, sa, sb, oC, oO, oF, fB, fP, fR, fV, fL) (nI ca, st, er, nI cc, ck, nI oc, nI fc, fm, fk, ft, pT, rt, dY, sc, so, sa, sb, oC, oO, oF, fB, fP, fR, fV, fL) := od_mk h
  obtain ⟨hP, hca, hoc, hfc, h00, -⟩ := h
  refine br_c (fun e => ⟨?_, kk⟩) (fun _ => ⟨rfl, kk⟩)
  rw [(h00 e).2]; rfl
theorem od_getFrame {k : Nat} (v1 v2 : Int32) (h : od_All ca cc oc fc st ck fm fk dX pT dY sc so sa sb oC oO oF fB fP fR fV fL) :
    wpX_getFrame (fun r => wpY_getFrame (fun r' => r' = r ∧ i_Rel k (nI ca, st, er, ck, nI cc, nI oc, nI fc, fm, fk, ft, rt, dX, sc, so, sa, sb, oC, oO, oF, fB, fP, fR, fV, fL) (nI ca, st, er, nI cc, ck, nI oc, nI fc, fm, fk, ft, pT, rt, dY, sc, so, sa, sb, oC, oO, oF, fB, fP, fR, fV, fL)) (nI ca, st, er, nI cc, ck, nI oc, nI fc, fm, fk, ft, pT, rt, dY, sc, so, sa, sb, oC, oO, oF, fB, fP, fR, fV, fL) v1 v2) (nI ca, st, er, ck, nI cc, nI oc, nI fc, fm, fk, ft, rt, dX, sc, so, sa, sb, oC, oO, oF, fB, fP, fR, fV, fL) v1 v2 := by
  have kk : i_Rel k (nI ca, st, er, ck, nI cc, nI oc, nI fc, fm, fk, ft, rt, dX, sc, so, sa, sb, oC, oO, oF, fB, fP, fR, fV, fL) (nI ca, st, er, nI cc, ck, nI oc, nI fc, fm, fk, ft, pT, rt, dY, sc, so, sa, sb, oC, oO, oF, fB, fP, fR, fV, fL) := od_mk h
  obtain ⟨hP, hca, hoc, hfc, h00, -⟩ := h
  by_cases h0 : v1 < 0
  · exact br_t h0 (br_c (fun _ => ⟨rfl, kk⟩) (fun _ => br_t h0 ⟨rfl, kk⟩))
  obtain ⟨o, ho, rfl⟩ := nI_of h0
  by_cases h1 : o < fc
  · have hs : ¬ st = 0 := fun e => by have := (h00 e).2; omega
    have l1 : ¬ nI fc ≤ nI o := nI_ge h1 (by omega)
    have v : vp_in (nI o) 8 := vp_in_nI (by omega) (by decide)
    by_cases w0 : v2 < 0
    · exact br_f h0 (br_f l1 (br_t w0 (br_f hs (br_f h0 (br_f l1 (br_t w0 ⟨rfl, kk⟩))))))
    obtain ⟨w, hw, rfl⟩ := nI_of w0
    by_cases w12 : w < 12
    · have l12 : nI w < 12 := nI_lt (b := 12) w12 (by decide)
      have l11 : nI w ≤ 11 := nI_le (b := 11) (by omega) (by decide)
      by_cases w3 : 3 < w
      · have l3 : (3 : Int32) < nI w := nI_lt (a := 3) w3 (by omega)
        have vX : vp_in (nI o * 8 + nI w - 4) 64 := by rw [od_i8, od_s4 (by omega)]; exact vp_in_nI (by omega) (by decide)
        exact br_f h0 (br_f l1 (br_f w0 (br_t l12 (br_f w0 (br_t l3 ⟨vX, br_f hs (br_f h0 (br_f l1 (br_f w0 (br_t l11 (br_f (od_ne (k := 0) (by omega) (by omega) (by decide)) (br_f (od_ne (k := 1) (by omega) (by omega) (by decide)) (br_f (od_ne (k := 2) (by omega) (by omega) (by decide)) (br_f (od_ne (k := 3) (by omega) (by omega) (by decide)) ⟨vX, rfl, kk⟩))))))))⟩)))))
      · have l3 : ¬ (3 : Int32) < nI w := nI_nlt (a := 3) (by omega) (by decide)
        rcases (show w = 0 ∨ w = 1 ∨ w = 2 ∨ w = 3 by omega) with rfl | rfl | rfl | rfl
        · exact br_f h0 (br_f l1 (br_f w0 (br_t l12 (br_f w0 (br_f l3 (br_t rfl ⟨v, br_f hs (br_f h0 (br_f l1 (br_f w0 (br_t l11 (br_t rfl ⟨v, rfl, kk⟩)))))⟩))))))
        · exact br_f h0 (br_f l1 (br_f w0 (br_t l12 (br_f w0 (br_f l3 (br_f (by decide) (br_t rfl ⟨v, br_f hs (br_f h0 (br_f l1 (br_f w0 (br_t l11 (br_f (by decide) (br_t rfl ⟨v, rfl, kk⟩))))))⟩)))))))
        · exact br_f h0 (br_f l1 (br_f w0 (br_t l12 (br_f w0 (br_f l3 (br_f (by decide) (br_f (by decide) (br_t rfl ⟨v, br_f hs (br_f h0 (br_f l1 (br_f w0 (br_t l11 (br_f (by decide) (br_f (by decide) (br_t rfl ⟨v, rfl, kk⟩)))))))⟩))))))))
        · exact br_f h0 (br_f l1 (br_f w0 (br_t l12 (br_f w0 (br_f l3 (br_f (by decide) (br_f (by decide) (br_f (by decide) (br_t rfl ⟨v, br_f hs (br_f h0 (br_f l1 (br_f w0 (br_t l11 (br_f (by decide) (br_f (by decide) (br_f (by decide) (br_t rfl ⟨v, rfl, kk⟩))))))))⟩)))))))))
    · have l12 : ¬ nI w < 12 := nI_nlt (b := 12) (by omega) hw
      have l11 : ¬ nI w ≤ 11 := nI_ge (a := 11) (by omega) hw
      exact br_f h0 (br_f l1 (br_f w0 (br_f l12 (br_f hs (br_f h0 (br_f l1 (br_f w0 (br_f l11 ⟨rfl, kk⟩))))))))
  · have l1 : nI fc ≤ nI o := nI_le (by omega) ho
    exact br_f h0 (br_t l1 (br_c (fun _ => ⟨rfl, kk⟩) (fun _ => br_f h0 (br_t l1 ⟨rfl, kk⟩))))
theorem od_getDecl {k : Nat} (v1 v2 : Int32) (h : od_All ca cc oc fc st ck fm fk dX pT dY sc so sa sb oC oO oF fB fP fR fV fL) :
    wpX_getDecl (fun r => wpY_getDecl (fun r' => r' = r ∧ i_Rel k (nI ca, st, er, ck, nI cc, nI oc, nI fc, fm, fk, ft, rt, dX, sc, so, sa, sb, oC, oO, oF, fB, fP, fR, fV, fL) (nI ca, st, er, nI cc, ck, nI oc, nI fc, fm, fk, ft, pT, rt, dY, sc, so, sa, sb, oC, oO, oF, fB, fP, fR, fV, fL)) (nI ca, st, er, nI cc, ck, nI oc, nI fc, fm, fk, ft, pT, rt, dY, sc, so, sa, sb, oC, oO, oF, fB, fP, fR, fV, fL) v1 v2) (nI ca, st, er, ck, nI cc, nI oc, nI fc, fm, fk, ft, rt, dX, sc, so, sa, sb, oC, oO, oF, fB, fP, fR, fV, fL) v1 v2 := by
  have kk : i_Rel k (nI ca, st, er, ck, nI cc, nI oc, nI fc, fm, fk, ft, rt, dX, sc, so, sa, sb, oC, oO, oF, fB, fP, fR, fV, fL) (nI ca, st, er, nI cc, ck, nI oc, nI fc, fm, fk, ft, pT, rt, dY, sc, so, sa, sb, oC, oO, oF, fB, fP, fR, fV, fL) := od_mk h
  obtain ⟨hP, -⟩ := h
  have hcc := hP.2.1
  have hfk := hP.2.2.2.1
  have hd1 := hP.2.2.2.2.2.2.1
  unfold wpX_getDecl
  rcases od_bcase v1 hcc with ⟨b, hb, rfl⟩ | hv
  · have hb8 : b ≤ 8 := by omega
    have vb : vp_in (nI b) 9 := vp_in_nI (by omega) (by decide)
    refine od_xB1 hb hcc (br_f (by decide) ?_)
    by_cases w0 : v2 < 0
    · have a8 : v2 < 8 := Int32.lt_trans w0 (by decide)
      have a4 : v2 < 4 := Int32.lt_trans w0 (by decide)
      have n16 : ¬ v2 = 16 := fun e => by rw [e] at w0; exact absurd w0 (by decide)
      have fY : ∀ r : Int32, r = -2 → wpY_getDecl (fun r' => r' = r ∧ i_Rel k (nI ca, st, er, ck, nI cc, nI oc, nI fc, fm, fk, ft, rt, dX, sc, so, sa, sb, oC, oO, oF, fB, fP, fR, fV, fL) (nI ca, st, er, nI cc, ck, nI oc, nI fc, fm, fk, ft, pT, rt, dY, sc, so, sa, sb, oC, oO, oF, fB, fP, fR, fV, fL)) (nI ca, st, er, nI cc, ck, nI oc, nI fc, fm, fk, ft, pT, rt, dY, sc, so, sa, sb, oC, oO, oF, fB, fP, fR, fV, fL) (nI b) v2 := by
        intro r hr
        unfold wpY_getDecl
        refine od_yB1 hb hcc (br_f (by decide) (br_f n16 (br_t a8 ?_)))
        exact br_c (fun _ => ⟨hr.symm, kk⟩) (fun _ => br_t w0 ⟨hr.symm, kk⟩)
      refine br_t a8 (br_f n16 ?_)
      exact br_c (fun _ => fY _ rfl) (fun _ => br_t w0 (br_t a4 (fY _ rfl)))
    obtain ⟨i, hi, rfl⟩ := nI_of w0
    by_cases i8 : i < 8
    · have a8 : nI i < 8 := nI_lt (b := 8) i8 (by decide)
      have a7 : nI i ≤ 7 := nI_le (b := 7) (by omega) (by decide)
      have n16 : ¬ nI i = 16 := od_ne (k := 16) (by omega) (by omega) (by decide)
      have fY : ∀ r : Int32, wY_getDecl_46 (fun r' => r' = r ∧ i_Rel k (nI ca, st, er, ck, nI cc, nI oc, nI fc, fm, fk, ft, rt, dX, sc, so, sa, sb, oC, oO, oF, fB, fP, fR, fV, fL) (nI ca, st, er, nI cc, ck, nI oc, nI fc, fm, fk, ft, pT, rt, dY, sc, so, sa, sb, oC, oO, oF, fB, fP, fR, fV, fL)) (nI b) (nI i) (nI ca) st er (nI cc) ck (nI oc) (nI fc) fm fk ft pT rt dY sc so sa sb oC oO oF fB fP fR fV fL → wpY_getDecl (fun r' => r' = r ∧ i_Rel k (nI ca, st, er, ck, nI cc, nI oc, nI fc, fm, fk, ft, rt, dX, sc, so, sa, sb, oC, oO, oF, fB, fP, fR, fV, fL) (nI ca, st, er, nI cc, ck, nI oc, nI fc, fm, fk, ft, pT, rt, dY, sc, so, sa, sb, oC, oO, oF, fB, fP, fR, fV, fL)) (nI ca, st, er, nI cc, ck, nI oc, nI fc, fm, fk, ft, pT, rt, dY, sc, so, sa, sb, oC, oO, oF, fB, fP, fR, fV, fL) (nI b) (nI i) := by
        intro r p
        unfold wpY_getDecl
        exact od_yB1 hb hcc (br_f (by decide) (br_f n16 (br_t a8 p)))
      refine br_t a8 (br_f n16 ?_)
      by_cases e8 : b = 8
      · subst e8
        exact br_t rfl (fY _ (br_t rfl ⟨rfl, kk⟩))
      · have n8 : ¬ nI b = 8 := od_ne (k := 8) e8 (by omega) (by decide)
        have vc : vp_in (nI b) 8 := vp_in_nI (by omega) (by decide)
        refine br_f n8 (br_f w0 ⟨vc, ?_⟩)
        obtain ⟨n, hn, en⟩ := hfk b
        have ek : fk (nI b).toNatClampNeg = nI n := (od_ef (by omega)).trans en
        by_cases hin : i < n
        · have l : ¬ fk (nI b).toNatClampNeg ≤ nI i := by rw [ek]; exact nI_ge hin (by omega)
          have v32 : vp_in (nI b * 4 + nI i) 32 := by rw [od_i4]; exact vp_in_nI (by omega) (by decide)
          exact br_f l ⟨v32, fY _ (br_f n8 (br_f w0 (br_t a7 (br_f (nI_ge (b := 4) (by omega) (by decide)) ⟨vc, br_f l ⟨v32, rfl, kk⟩⟩))))⟩
        · have l : fk (nI b).toNatClampNeg ≤ nI i := by rw [ek]; exact nI_le (by omega) hi
          refine br_t l ?_
          by_cases i4 : i < 4
          · exact br_t (nI_lt (b := 4) i4 (by decide)) (fY _ (br_f n8 (br_f w0 (br_t a7 (br_f (nI_ge (b := 4) i4 (by decide)) ⟨vc, br_t l ⟨rfl, kk⟩⟩)))))
          · have l4 : (4 : Int32) ≤ nI i := nI_le (a := 4) (by omega) hi
            refine br_f (nI_nlt (b := 4) (by omega) hi) (br_f (nI_nlt (a := 7) (by omega) (by decide)) ?_)
            rcases (show i = 4 ∨ i = 5 ∨ i = 6 ∨ i = 7 by omega) with rfl | rfl | rfl | rfl
            · have v1 : vp_in (nI b * 8 + 1) 72 := by rw [od_i81]; exact vp_in_nI (by omega) (by decide)
              have e1 : pT (nI b).toNatClampNeg = dX (nI b * 8 + 1).toNatClampNeg := by
                rw [od_i81, nI_clamp (by omega), nI_clamp (by omega)]; exact (hd1 b (by omega)).symm
              exact br_t rfl ⟨v1, fY _ (br_f n8 (br_f w0 (br_t a7 (br_t l4 (br_t rfl ⟨vc, e1, kk⟩)))))⟩
            · exact br_f (by decide) (br_t rfl ⟨vc, fY _ (br_f n8 (br_f w0 (br_t a7 (br_t l4 (br_f (by decide) (br_t rfl ⟨vc, rfl, kk⟩))))))⟩)
            · exact br_f (by decide) (br_f (by decide) (br_t rfl ⟨vc, fY _ (br_f n8 (br_f w0 (br_t a7 (br_t l4 (br_f (by decide) (br_f (by decide) (br_t rfl ⟨vc, rfl, kk⟩)))))))⟩))
            · exact br_f (by decide) (br_f (by decide) (br_f (by decide) (br_t rfl ⟨vc, fY _ (br_f n8 (br_f w0 (br_t a7 (br_t l4 (br_f (by decide) (br_f (by decide) (br_f (by decide) ⟨vc, rfl, kk⟩)))))))⟩)))
    · have a8 : ¬ nI i < 8 := nI_nlt (b := 8) (by omega) hi
      refine br_f a8 ?_
      by_cases i16 : i < 16
      · have l16 : ¬ (16 : Int32) ≤ nI i := nI_ge (b := 16) i16 (by decide)
        have l15 : ¬ (15 : Int32) < nI i := nI_nlt (a := 15) (by omega) (by decide)
        have n16 : ¬ nI i = 16 := od_ne (k := 16) (by omega) (by omega) (by decide)
        have e8 : nI b * 8 + nI i - 8 = nI (b * 8 + (i - 8)) := by rw [od_i8, od_s8 (by omega), show b * 8 + i - 8 = b * 8 + (i - 8) by omega]
        refine br_f l16 ?_
        rw [e8, nI_clamp (by omega)]
        refine ⟨vp_in_nI (by omega) (by decide), ?_⟩
        unfold wpY_getDecl
        refine od_yB1 hb hcc (br_f (by decide) (br_f n16 (br_f a8 (br_f l15 ?_))))
        rw [od_s8 (by omega)]
        exact od_decl hP hb (by omega) ⟨rfl, kk⟩
      · have l16 : (16 : Int32) ≤ nI i := nI_le (a := 16) (by omega) hi
        have l15 : (15 : Int32) < nI i := nI_lt (a := 15) (by omega) hi
        refine br_t l16 ?_
        by_cases e16 : i = 16
        · subst e16
          refine br_t rfl ⟨vb, ?_⟩
          unfold wpY_getDecl
          exact od_yB1 hb hcc (br_f (by decide) (br_t rfl ⟨vb, rfl, kk⟩))
        · have n16 : ¬ nI i = 16 := od_ne (k := 16) e16 (by omega) (by decide)
          have a7 : ¬ nI i ≤ 7 := nI_ge (a := 7) (by omega) hi
          have fY : ∀ r : Int32, r = -2 → wpY_getDecl (fun r' => r' = r ∧ i_Rel k (nI ca, st, er, ck, nI cc, nI oc, nI fc, fm, fk, ft, rt, dX, sc, so, sa, sb, oC, oO, oF, fB, fP, fR, fV, fL) (nI ca, st, er, nI cc, ck, nI oc, nI fc, fm, fk, ft, pT, rt, dY, sc, so, sa, sb, oC, oO, oF, fB, fP, fR, fV, fL)) (nI ca, st, er, nI cc, ck, nI oc, nI fc, fm, fk, ft, pT, rt, dY, sc, so, sa, sb, oC, oO, oF, fB, fP, fR, fV, fL) (nI b) (nI i) := by
            intro r hr
            unfold wpY_getDecl
            refine od_yB1 hb hcc (br_f (by decide) (br_f n16 (br_f a8 (br_t l15 ?_))))
            exact br_c (fun _ => ⟨hr.symm, kk⟩) (fun _ => br_f w0 (br_f a7 ⟨hr.symm, kk⟩))
          refine br_f n16 ?_
          by_cases e8 : b = 8
          · subst e8; exact br_t rfl (fY _ rfl)
          · have n8 : ¬ nI b = 8 := od_ne (k := 8) e8 (by omega) (by decide)
            have vc : vp_in (nI b) 8 := vp_in_nI (by omega) (by decide)
            obtain ⟨n, hn, en⟩ := hfk b
            have l : fk (nI b).toNatClampNeg ≤ nI i := by rw [od_ef (g := fk) (f := b) (by omega), en]; exact nI_le (by omega) hi
            exact br_f n8 (br_f w0 ⟨vc, br_t l (br_f (nI_nlt (b := 4) (by omega) hi) (br_t (nI_lt (a := 7) (by omega) hi) (fY _ rfl)))⟩)
  · refine od_xB0 hv (br_t rfl ?_)
    unfold wpY_getDecl
    exact od_yB0 hv (br_t rfl ⟨rfl, kk⟩)
theorem od_getStmt {k : Nat} (v1 v2 v3 : Int32) (h : od_All ca cc oc fc st ck fm fk dX pT dY sc so sa sb oC oO oF fB fP fR fV fL) :
    wpX_getStmt (fun r => wpY_getStmt (fun r' => r' = r ∧ i_Rel k (nI ca, st, er, ck, nI cc, nI oc, nI fc, fm, fk, ft, rt, dX, sc, so, sa, sb, oC, oO, oF, fB, fP, fR, fV, fL) (nI ca, st, er, nI cc, ck, nI oc, nI fc, fm, fk, ft, pT, rt, dY, sc, so, sa, sb, oC, oO, oF, fB, fP, fR, fV, fL)) (nI ca, st, er, nI cc, ck, nI oc, nI fc, fm, fk, ft, pT, rt, dY, sc, so, sa, sb, oC, oO, oF, fB, fP, fR, fV, fL) v1 v2 v3) (nI ca, st, er, ck, nI cc, nI oc, nI fc, fm, fk, ft, rt, dX, sc, so, sa, sb, oC, oO, oF, fB, fP, fR, fV, fL) v1 v2 v3 := by
  have kk : i_Rel k (nI ca, st, er, ck, nI cc, nI oc, nI fc, fm, fk, ft, rt, dX, sc, so, sa, sb, oC, oO, oF, fB, fP, fR, fV, fL) (nI ca, st, er, nI cc, ck, nI oc, nI fc, fm, fk, ft, pT, rt, dY, sc, so, sa, sb, oC, oO, oF, fB, fP, fR, fV, fL) := od_mk h
  obtain ⟨hP, -⟩ := h
  have hcc := hP.2.1
  have hsc := hP.2.2.2.2.1
  unfold wpX_getStmt
  rcases od_bcase v1 hcc with ⟨b, hb, rfl⟩ | hv
  · have hb8 : b ≤ 8 := by omega
    have vb : vp_in (nI b) 9 := vp_in_nI (by omega) (by decide)
    obtain ⟨n, hn, en⟩ := hsc b
    have ek : sc (nI b).toNatClampNeg = nI n := (od_ef (by omega)).trans en
    refine od_xB1 hb hcc (br_f (by decide) ?_)
    by_cases w0 : v2 < 0
    · refine br_t w0 ?_
      unfold wpY_getStmt
      exact od_yB1 hb hcc (br_f (by decide) (br_t w0 ⟨rfl, kk⟩))
    obtain ⟨i, hi, rfl⟩ := nI_of w0
    refine br_f w0 ⟨vb, ?_⟩
    by_cases hin : i < n
    · have l1 : nI i < sc (nI b).toNatClampNeg := by rw [ek]; exact nI_lt hin (by omega)
      have l2 : ¬ sc (nI b).toNatClampNeg ≤ nI i := by rw [ek]; exact nI_ge hin (by omega)
      have fY : ∀ r : Int32, ((v3 < 0 → r = -2) ∧ (¬ v3 < 0 → ((v3 ≤ 2 → ((v3 = 0 → so (b * 16 + i) = r) ∧ (¬ v3 = 0 → ((v3 = 1 → sa (b * 16 + i) = r) ∧ (¬ v3 = 1 → sb (b * 16 + i) = r))))) ∧ (¬ v3 ≤ 2 → r = -2)))) → wpY_getStmt (fun r' => r' = r ∧ i_Rel k (nI ca, st, er, ck, nI cc, nI oc, nI fc, fm, fk, ft, rt, dX, sc, so, sa, sb, oC, oO, oF, fB, fP, fR, fV, fL) (nI ca, st, er, nI cc, ck, nI oc, nI fc, fm, fk, ft, pT, rt, dY, sc, so, sa, sb, oC, oO, oF, fB, fP, fR, fV, fL)) (nI ca, st, er, nI cc, ck, nI oc, nI fc, fm, fk, ft, pT, rt, dY, sc, so, sa, sb, oC, oO, oF, fB, fP, fR, fV, fL) (nI b) (nI i) v3 := by
        intro r ⟨q1, q2⟩
        have v : vp_in (nI (b * 16 + i)) 144 := vp_in_nI (by omega) (by decide)
        have ec : (nI (b * 16 + i)).toNatClampNeg = b * 16 + i := nI_clamp (by omega)
        unfold wpY_getStmt
        refine od_yB1 hb hcc (br_f (by decide) (br_f w0 ⟨vb, br_f l2 (br_c (fun z => ⟨(q1 z).symm, kk⟩) (fun z => br_c (fun z2 => nm_r (od_i16 b i) ?_) (fun z2 => ⟨((q2 z).2 z2).symm, kk⟩)))⟩))
        obtain ⟨q3, q4⟩ := (q2 z).1 z2
        rw [ec]
        exact br_c (fun z3 => ⟨v, q3 z3, kk⟩) (fun z3 => br_c (fun z4 => ⟨v, (q4 z3).1 z4, kk⟩) (fun z4 => ⟨v, (q4 z3).2 z4, kk⟩))
      have v : vp_in (nI (b * 16 + i)) 144 := vp_in_nI (by omega) (by decide)
      have ec : (nI (b * 16 + i)).toNatClampNeg = b * 16 + i := nI_clamp (by omega)
      refine br_t l1 (nm_r (od_i16 b i) ?_)
      rw [ec]
      by_cases p0 : v3 < 0
      · exact br_t p0 (fY _ (br_t p0 rfl))
      obtain ⟨j, hj, rfl⟩ := nI_of p0
      by_cases j2 : 2 < j
      · exact br_f p0 (br_t (nI_lt (a := 2) j2 hj) (fY _ (br_f p0 (br_f (nI_ge (a := 2) j2 hj) rfl))))
      · have m2 : ¬ (2 : Int32) < nI j := nI_nlt (a := 2) (by omega) (by decide)
        have m2' : nI j ≤ 2 := nI_le (b := 2) (by omega) (by decide)
        rcases (show j = 0 ∨ j = 1 ∨ j = 2 by omega) with rfl | rfl | rfl
        · exact br_f p0 (br_f m2 (br_t rfl ⟨v, fY _ (br_f p0 (br_t m2' (br_t rfl rfl)))⟩))
        · exact br_f p0 (br_f m2 (br_f (by decide) (br_t rfl ⟨v, fY _ (br_f p0 (br_t m2' (br_f (by decide) (br_t rfl rfl))))⟩)))
        · exact br_f p0 (br_f m2 (br_f (by decide) (br_f (by decide) (br_t rfl ⟨v, fY _ (br_f p0 (br_t m2' (br_f (by decide) (br_f (by decide) rfl))))⟩))))
    · have l1 : ¬ nI i < sc (nI b).toNatClampNeg := by rw [ek]; exact nI_nlt (by omega) hi
      have l2 : sc (nI b).toNatClampNeg ≤ nI i := by rw [ek]; exact nI_le (by omega) hi
      refine br_f l1 ?_
      unfold wpY_getStmt
      exact od_yB1 hb hcc (br_f (by decide) (br_f w0 ⟨vb, br_t l2 ⟨rfl, kk⟩⟩))
  · refine od_xB0 hv (br_t rfl ?_)
    unfold wpY_getStmt
    exact od_yB0 hv (br_t rfl ⟨rfl, kk⟩)
theorem od_vc0 (k0 : Int32) : wpX_init (fun u => wpY_init (fun v => i_Rel 1 u v) k0) k0 := by
  have fin : ∀ n : Nat, n ≤ 32 → i_Rel 1 (nI n, 0, -1, 0, nI 0, nI 0, nI 0, fun _ => 0, fun _ => 0, fun _ => 0, fun _ => 0, fun _ => 0, fun _ => 0, fun _ => 0, fun _ => 0, fun _ => 0, fun _ => 0, fun _ => 0, fun _ => 0, fun _ => 0, fun _ => 0, fun _ => 0, fun _ => 0, fun _ => 0) (nI n, 0, -1, nI 0, 0, nI 0, nI 0, fun _ => 0, fun _ => 0, fun _ => 0, fun _ => 0, fun _ => 0, fun _ => 0, fun _ => 0, fun _ => 0, fun _ => 0, fun _ => 0, fun _ => 0, fun _ => 0, fun _ => 0, fun _ => 0, fun _ => 0, fun _ => 0, fun _ => 0, fun _ => 0) := by
    intro n hn
    exact od_mk ⟨⟨Or.inl rfl, by decide, fun _ => ⟨0, by decide, rfl⟩, fun _ => ⟨0, by decide, rfl⟩, fun _ => ⟨0, by decide, rfl⟩, fun c _ hc => absurd hc (Nat.not_lt_zero c), fun _ _ => rfl, fun _ _ _ _ => rfl, fun _ _ => rfl⟩, hn, Nat.zero_le _, by decide, fun _ => ⟨rfl, rfl⟩, fun e => absurd rfl e⟩
  by_cases h4 : (4 : Int32) ≤ k0
  · by_cases h32 : k0 ≤ 32
    · have g : ¬ k0 < 0 := fun h => absurd (Int32.lt_of_le_of_lt h4 h) (by decide)
      obtain ⟨n, hn, rfl⟩ := nI_of g
      have n32 : n ≤ 32 := by
        by_cases q : n ≤ 32
        · exact q
        · exact absurd h32 (nI_ge (a := 32) (by omega) hn)
      exact br_t h4 (br_t h32 (br_t h4 (br_t h32 (fin n n32))))
    · exact br_t h4 (br_f h32 (br_t h4 (br_f h32 (fin 32 (Nat.le_refl _)))))
  · exact br_f h4 (br_t (by decide) (br_f h4 (fin 4 (by decide))))
end
section
theorem i_up {k : Nat} {u : SX} {v : SY} (h : i_Rel k u v) : i_Rel (k + 5) u v := h
theorem i_vc0 (k0 : Int32) : wpX_init (fun u => wpY_init (fun v => i_Rel 1 u v) k0) k0 := od_vc0 k0
theorem i_vc_addClass {k : Nat} {u : SX} {v : SY} (I : i_Rel k u v) (hk : k + 5 ≤ 2561) (v1 : Int32) : wpX_addClass (fun r u' => wpY_addClass (fun r' v' => r' = r ∧ i_Rel (k + 5) u' v') v v1) u v1 := by
  obtain ⟨ca, cc, oc, fc, st, er, ck, fm, fk, ft, rt, dX, pT, dY, sc, so, sa, sb, oC, oO, oF, fB, fP, fR, fV, fL, rfl, rfl, h⟩ := I
  exact od_addClass v1 h
theorem i_vc_addField {k : Nat} {u : SX} {v : SY} (I : i_Rel k u v) (hk : k + 5 ≤ 2561) (v1 : Int32) (v2 : Int32) : wpX_addField (fun r u' => wpY_addField (fun r' v' => r' = r ∧ i_Rel (k + 5) u' v') v v1 v2) u v1 v2 := by
  obtain ⟨ca, cc, oc, fc, st, er, ck, fm, fk, ft, rt, dX, pT, dY, sc, so, sa, sb, oC, oO, oF, fB, fP, fR, fV, fL, rfl, rfl, h⟩ := I
  exact od_addField v1 v2 h
theorem i_vc_setSignature {k : Nat} {u : SX} {v : SY} (I : i_Rel k u v) (hk : k + 5 ≤ 2561) (v1 : Int32) (v2 : Int32) (v3 : Int32) : wpX_setSignature (fun r u' => wpY_setSignature (fun r' v' => r' = r ∧ i_Rel (k + 5) u' v') v v1 v2 v3) u v1 v2 v3 := by
  obtain ⟨ca, cc, oc, fc, st, er, ck, fm, fk, ft, rt, dX, pT, dY, sc, so, sa, sb, oC, oO, oF, fB, fP, fR, fV, fL, rfl, rfl, h⟩ := I
  exact od_setSig v1 v2 v3 h
theorem i_vc_setLocal {k : Nat} {u : SX} {v : SY} (I : i_Rel k u v) (hk : k + 5 ≤ 2561) (v1 : Int32) (v2 : Int32) (v3 : Int32) : wpX_setLocal (fun r u' => wpY_setLocal (fun r' v' => r' = r ∧ i_Rel (k + 5) u' v') v v1 v2 v3) u v1 v2 v3 := by
  obtain ⟨ca, cc, oc, fc, st, er, ck, fm, fk, ft, rt, dX, pT, dY, sc, so, sa, sb, oC, oO, oF, fB, fP, fR, fV, fL, rfl, rfl, h⟩ := I
  exact od_setLocal v1 v2 v3 h
theorem i_vc_addStmt {k : Nat} {u : SX} {v : SY} (I : i_Rel k u v) (hk : k + 5 ≤ 2561) (v1 : Int32) (v2 : Int32) (v3 : Int32) (v4 : Int32) : wpX_addStmt (fun r u' => wpY_addStmt (fun r' v' => r' = r ∧ i_Rel (k + 5) u' v') v v1 v2 v3 v4) u v1 v2 v3 v4 := by
  obtain ⟨ca, cc, oc, fc, st, er, ck, fm, fk, ft, rt, dX, pT, dY, sc, so, sa, sb, oC, oO, oF, fB, fP, fR, fV, fL, rfl, rfl, h⟩ := I
  exact od_addStmt v1 v2 v3 v4 h
theorem i_vc_compile {k : Nat} {u : SX} {v : SY} (I : i_Rel k u v) (hk : k + 5 ≤ 2561) (v1 : Int32) : wpX_compile (fun r u' => wpY_compile (fun r' v' => r' = r ∧ i_Rel (k + 5) u' v') v v1) u v1 := by
  obtain ⟨ca, cc, oc, fc, st, er, ck, fm, fk, ft, rt, dX, pT, dY, sc, so, sa, sb, oC, oO, oF, fB, fP, fR, fV, fL, rfl, rfl, h⟩ := I
  exact od_compile v1 h
theorem i_vc_getErrorAt {k : Nat} {u : SX} {v : SY} (I : i_Rel k u v) (hk : k + 5 ≤ 2561) : wpX_getErrorAt (fun r => wpY_getErrorAt (fun r' => r' = r ∧ i_Rel (k + 5) u v) v) u := by
  obtain ⟨ca, cc, oc, fc, st, er, ck, fm, fk, ft, rt, dX, pT, dY, sc, so, sa, sb, oC, oO, oF, fB, fP, fR, fV, fL, rfl, rfl, h⟩ := I
  exact ⟨rfl, od_mk h⟩
theorem i_vc_run {k : Nat} {u : SX} {v : SY} (I : i_Rel k u v) (hk : k + 5 ≤ 2561) (v1 : Int32) : wpX_run (fun r u' => wpY_run (fun r' v' => r' = r ∧ i_Rel (k + 5) u' v') v v1) u v1 := by
  obtain ⟨ca, cc, oc, fc, st, er, ck, fm, fk, ft, rt, dX, pT, dY, sc, so, sa, sb, oC, oO, oF, fB, fP, fR, fV, fL, rfl, rfl, h⟩ := I
  exact od_run v1 h
theorem i_vc_restart {k : Nat} {u : SX} {v : SY} (I : i_Rel k u v) (hk : k + 5 ≤ 2561) : wpX_restart (fun r u' => wpY_restart (fun r' v' => r' = r ∧ i_Rel (k + 5) u' v') v) u := by
  obtain ⟨ca, cc, oc, fc, st, er, ck, fm, fk, ft, rt, dX, pT, dY, sc, so, sa, sb, oC, oO, oF, fB, fP, fR, fV, fL, rfl, rfl, h⟩ := I
  exact od_restart h
theorem i_vc_getStatus {k : Nat} {u : SX} {v : SY} (I : i_Rel k u v) (hk : k + 5 ≤ 2561) : wpX_getStatus (fun r => wpY_getStatus (fun r' => r' = r ∧ i_Rel (k + 5) u v) v) u := by
  obtain ⟨ca, cc, oc, fc, st, er, ck, fm, fk, ft, rt, dX, pT, dY, sc, so, sa, sb, oC, oO, oF, fB, fP, fR, fV, fL, rfl, rfl, h⟩ := I
  exact ⟨rfl, od_mk h⟩
theorem i_vc_getObjectCount {k : Nat} {u : SX} {v : SY} (I : i_Rel k u v) (hk : k + 5 ≤ 2561) : wpX_getObjectCount (fun r => wpY_getObjectCount (fun r' => r' = r ∧ i_Rel (k + 5) u v) v) u := by
  obtain ⟨ca, cc, oc, fc, st, er, ck, fm, fk, ft, rt, dX, pT, dY, sc, so, sa, sb, oC, oO, oF, fB, fP, fR, fV, fL, rfl, rfl, h⟩ := I
  exact ⟨rfl, od_mk h⟩
theorem i_vc_getObject {k : Nat} {u : SX} {v : SY} (I : i_Rel k u v) (hk : k + 5 ≤ 2561) (v1 : Int32) (v2 : Int32) : wpX_getObject (fun r => wpY_getObject (fun r' => r' = r ∧ i_Rel (k + 5) u v) v v1 v2) u v1 v2 := by
  obtain ⟨ca, cc, oc, fc, st, er, ck, fm, fk, ft, rt, dX, pT, dY, sc, so, sa, sb, oC, oO, oF, fB, fP, fR, fV, fL, rfl, rfl, h⟩ := I
  exact od_getObject v1 v2 h
theorem i_vc_getFrameCount {k : Nat} {u : SX} {v : SY} (I : i_Rel k u v) (hk : k + 5 ≤ 2561) : wpX_getFrameCount (fun r => wpY_getFrameCount (fun r' => r' = r ∧ i_Rel (k + 5) u v) v) u := by
  obtain ⟨ca, cc, oc, fc, st, er, ck, fm, fk, ft, rt, dX, pT, dY, sc, so, sa, sb, oC, oO, oF, fB, fP, fR, fV, fL, rfl, rfl, h⟩ := I
  exact od_getFrameCount h
theorem i_vc_getFrame {k : Nat} {u : SX} {v : SY} (I : i_Rel k u v) (hk : k + 5 ≤ 2561) (v1 : Int32) (v2 : Int32) : wpX_getFrame (fun r => wpY_getFrame (fun r' => r' = r ∧ i_Rel (k + 5) u v) v v1 v2) u v1 v2 := by
  obtain ⟨ca, cc, oc, fc, st, er, ck, fm, fk, ft, rt, dX, pT, dY, sc, so, sa, sb, oC, oO, oF, fB, fP, fR, fV, fL, rfl, rfl, h⟩ := I
  exact od_getFrame v1 v2 h
theorem i_vc_getDecl {k : Nat} {u : SX} {v : SY} (I : i_Rel k u v) (hk : k + 5 ≤ 2561) (v1 : Int32) (v2 : Int32) : wpX_getDecl (fun r => wpY_getDecl (fun r' => r' = r ∧ i_Rel (k + 5) u v) v v1 v2) u v1 v2 := by
  obtain ⟨ca, cc, oc, fc, st, er, ck, fm, fk, ft, rt, dX, pT, dY, sc, so, sa, sb, oC, oO, oF, fB, fP, fR, fV, fL, rfl, rfl, h⟩ := I
  exact od_getDecl v1 v2 h
theorem i_vc_getStmt {k : Nat} {u : SX} {v : SY} (I : i_Rel k u v) (hk : k + 5 ≤ 2561) (v1 : Int32) (v2 : Int32) (v3 : Int32) : wpX_getStmt (fun r => wpY_getStmt (fun r' => r' = r ∧ i_Rel (k + 5) u v) v v1 v2 v3) u v1 v2 v3 := by
  obtain ⟨ca, cc, oc, fc, st, er, ck, fm, fk, ft, rt, dX, pT, dY, sc, so, sa, sb, oC, oO, oF, fB, fP, fR, fV, fL, rfl, rfl, h⟩ := I
  exact od_getStmt v1 v2 v3 h
end
