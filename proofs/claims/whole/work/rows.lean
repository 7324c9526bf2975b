section
/-! stores, numbers: rows of kit/rows (pk_) and own ones -/
theorem pk_us {f : Nat → Int32} {k : Nat} {x : Int32} : upd f k x k = x := if_pos rfl
theorem pk_un {f : Nat → Int32} {k j : Nat} {x : Int32} (h : j ≠ k) : upd f k x j = f j := if_neg h
theorem pk_sub {a b : Nat} (h : b ≤ a) : nI a - nI b = nI (a - b) := by
  obtain ⟨c, rfl⟩ : ∃ c, a = c + b := ⟨a - b, by omega⟩
  rw [← nI_add, Int32.add_sub_cancel, Nat.add_sub_cancel]
theorem pk_m1 (n : Nat) : nI (n + 1) + (-1) = nI n := by
  rw [← nI_1, Int32.add_assoc, show (1 : Int32) + (-1) = 0 from rfl, Int32.add_zero]
theorem pk_mul (a b : Nat) : nI a * nI b = nI (a * b) := (Int32.ofNat_mul a b).symm
theorem pk_div {a d : Nat} (ha : a < 2 ^ 31) (h0 : 0 < d) (hd : d < 2 ^ 31) : nI a / nI d = nI (a / d) := by
  apply Int32.toInt_inj.mp
  rw [lg_idiv_nonneg (by rw [nI_toInt ha]; omega) (by rw [nI_toInt hd]; omega), nI_toInt ha, nI_toInt hd, nI_toInt (Nat.lt_of_le_of_lt (Nat.div_le_self a d) ha)]
  first | rfl | exact (Int.natCast_ediv _ _).symm
theorem pk_rem {a d : Nat} (ha : a < 2 ^ 31) (h0 : 0 < d) (hd : d < 2 ^ 31) : nI a - nI a / nI d * nI d = nI (a % d) := by
  rw [pk_div ha h0 hd, pk_mul, pk_sub (Nat.div_mul_le_self a d)]
  exact congrArg nI (by have := Nat.div_add_mod' a d; omega)
theorem pk_sub_toInt {a b : Nat} (ha : a < 2 ^ 30) (hb : b < 2 ^ 30) : (nI a - nI b).toInt = (a : Int) - b := by
  rw [Int32.toInt_sub, nI_toInt (by omega), nI_toInt (by omega)]
  exact Int.bmod_eq_of_le (by omega) (by omega)
theorem pk_sneg {a b : Nat} (hb : b < 2 ^ 30) (h : a < b) : nI a - nI b < 0 := by
  rw [Int32.lt_iff_toInt_lt, pk_sub_toInt (by omega) hb, show (0 : Int32).toInt = 0 from by decide]
  omega
theorem pk_ix (x : Int32) {n : Nat} (hn : n < 2 ^ 31) : x < 0 ∨ nI n ≤ x ∨ ∃ j : Nat, j < n ∧ x = nI j := by
  by_cases h : x < 0
  · exact Or.inl h
  · obtain ⟨j, hj, rfl⟩ := nI_of h
    by_cases h2 : j < n
    · exact Or.inr (Or.inr ⟨j, h2, rfl⟩)
    · exact Or.inr (Or.inl (nI_le (by omega) hj))
theorem pk_le {x y : Int32} {A B : Prop} (a b : Nat) (f : a ≤ b → A) (g : b < a → B) (hx : x = nI a := by rfl) (hy : y = nI b := by rfl) (ha : a < 2 ^ 31 := by omega) (hb : b < 2 ^ 31 := by omega) : (x ≤ y → A) ∧ (¬ x ≤ y → B) := by
  subst hx hy
  rw [nI_leI ha hb]
  exact ⟨f, fun z => g (by omega)⟩
theorem pk_lt {x y : Int32} {A B : Prop} (a b : Nat) (f : a < b → A) (g : b ≤ a → B) (hx : x = nI a := by rfl) (hy : y = nI b := by rfl) (ha : a < 2 ^ 31 := by omega) (hb : b < 2 ^ 31 := by omega) : (x < y → A) ∧ (¬ x < y → B) := by
  subst hx hy
  rw [nI_ltI ha hb]
  exact ⟨f, fun z => g (by omega)⟩
theorem pk_eq {x y : Int32} {A B : Prop} (a b : Nat) (f : a = b → A) (g : a ≠ b → B) (hx : x = nI a := by rfl) (hy : y = nI b := by rfl) (ha : a < 2 ^ 31 := by omega) (hb : b < 2 ^ 31 := by omega) : (x = y → A) ∧ (¬ x = y → B) := by
  subst hx hy
  rw [nI_eq ha hb]
  exact ⟨f, g⟩
theorem pk_in {x : Int32} (n N : Nat) (h : n < N) (hx : x = nI n := by rfl) (hN : N < 2 ^ 31 := by omega) : vp_in x N := by
  subst hx
  exact vp_in_nI h hN
theorem pk_cl {x : Int32} (n : Nat) (hx : x = nI n := by rfl) (h : n < 2 ^ 31 := by omega) : x.toNatClampNeg = n := by
  subst hx
  exact nI_clamp h
theorem pk_tn {n : Nat} (h : n < 2 ^ 32) : (nI n).toBitVec.toNat = n := Nat.mod_eq_of_lt h
theorem pk_and (x : Int32) {m : Int32} (k : Nat) (hm : m.toBitVec.toNat = 2 ^ k - 1) : x &&& m = nI (x.toBitVec.toNat % 2 ^ k) := by
  apply Int32.toBitVec_inj.mp
  apply BitVec.eq_of_toNat_eq
  rw [Int32.toBitVec_and, BitVec.toNat_and, hm, Nat.and_two_pow_sub_one_eq_mod]
  show _ = (BitVec.ofNat 32 _).toNat
  rw [BitVec.toNat_ofNat]
  exact (Nat.mod_eq_of_lt (Nat.lt_of_le_of_lt (Nat.mod_le _ _) x.toBitVec.isLt)).symm
theorem pk_andN {n : Nat} (h : n < 2 ^ 32) {m : Int32} (k : Nat) (hm : m.toBitVec.toNat = 2 ^ k - 1) : nI n &&& m = nI (n % 2 ^ k) := by
  rw [pk_and _ k hm, pk_tn h]
theorem pk_andE (x : Int32) {m : Int32} (k : Nat) (hm : m.toBitVec.toNat = 2 ^ k - 1) : ∃ j : Nat, j < 2 ^ k ∧ x &&& m = nI j := ⟨_, Nat.mod_lt _ (Nat.two_pow_pos k), pk_and x k hm⟩
theorem pk_andIn (x : Int32) {m : Int32} (k : Nat) (hm : m.toBitVec.toNat = 2 ^ k - 1) (hk : k ≤ 30) : vp_in (x &&& m) (2 ^ k) := by
  obtain ⟨j, hj, e⟩ := pk_andE x k hm
  rw [e]
  exact vp_in_nI hj (Nat.lt_of_le_of_lt (Nat.pow_le_pow_right (by decide) hk) (by decide))
theorem pk_shl (a s : Int32) (k : Nat) (hs : (s.toBitVec.smod 32).toNat = k) : (a <<< s).toBitVec.toNat = a.toBitVec.toNat * 2 ^ k % 2 ^ 32 := by
  show (a.toBitVec <<< (s.toBitVec.smod 32).toNat).toNat = _
  rw [hs, BitVec.toNat_shiftLeft, Nat.shiftLeft_eq]
theorem pk_shlN {n : Nat} (s : Int32) (k : Nat) (hs : (s.toBitVec.smod 32).toNat = k) (h : n * 2 ^ k < 2 ^ 32) : nI n <<< s = nI (n * 2 ^ k) := by
  apply Int32.toBitVec_inj.mp
  apply BitVec.eq_of_toNat_eq
  have hn : n < 2 ^ 32 := Nat.lt_of_le_of_lt (Nat.le_mul_of_pos_right n (Nat.two_pow_pos k)) h
  rw [pk_shl _ _ k hs, pk_tn hn, pk_tn h, Nat.mod_eq_of_lt h]
theorem pk_shr (a s : Int32) (k : Nat) (hs : (s.toBitVec.smod 32).toNat = k) : (a >>> s).toInt = a.toInt >>> k := by
  show (a.toBitVec.sshiftRight (s.toBitVec.smod 32).toNat).toInt = _
  rw [hs, BitVec.toInt_sshiftRight]
  rfl
theorem pk_shrN {n : Nat} (h : n < 2 ^ 31) (s : Int32) (k : Nat) (hs : (s.toBitVec.smod 32).toNat = k) : nI n >>> s = nI (n / 2 ^ k) := by
  apply Int32.toInt_inj.mp
  have h2 : n / 2 ^ k ≤ n := Nat.div_le_self _ _
  rw [pk_shr _ _ k hs, nI_toInt h, nI_toInt (by omega), Int.shiftRight_eq_div_pow]
  rfl
theorem od_m3 (a : Nat) : nI a * 3 = nI (a * 3) := pk_mul a 3
theorem od_m4 (a : Nat) : nI a * 4 = nI (a * 4) := pk_mul a 4
theorem od_m8 (a : Nat) : nI a * 8 = nI (a * 8) := pk_mul a 8
theorem od_m16 (a : Nat) : nI a * 16 = nI (a * 16) := pk_mul a 16
theorem od_m32 (a : Nat) : nI a * 32 = nI (a * 32) := pk_mul a 32
theorem od_i3 (a b : Nat) : nI a * 3 + nI b = nI (a * 3 + b) := by rw [od_m3, nI_add]
theorem od_i4 (a b : Nat) : nI a * 4 + nI b = nI (a * 4 + b) := by rw [od_m4, nI_add]
theorem od_i8 (a b : Nat) : nI a * 8 + nI b = nI (a * 8 + b) := by rw [od_m8, nI_add]
theorem od_i16 (a b : Nat) : nI a * 16 + nI b = nI (a * 16 + b) := by rw [od_m16, nI_add]
theorem od_i80 (a : Nat) : nI a * 8 + 0 = nI (a * 8) := od_i8 a 0
theorem od_i81 (a : Nat) : nI a * 8 + 1 = nI (a * 8 + 1) := od_i8 a 1
theorem od_i31 (a : Nat) : nI a * 3 + 1 = nI (a * 3 + 1) := od_i3 a 1
theorem od_i32 (a : Nat) : nI a * 3 + 2 = nI (a * 3 + 2) := od_i3 a 2
theorem od_64a (a : Nat) : 64 + nI a = nI (64 + a) := nI_add 64 a
theorem od_ne1 {a : Nat} (h : a < 2 ^ 31) : ¬ nI a = -1 := by
  intro e
  have := nI_pos (n := a) h
  rw [e] at this
  exact this (by decide)
theorem od_n1 : (-1 : Int32) < 0 := by decide
theorem od_n0 : ¬ (0 : Int32) ≤ -1 := by decide
theorem od_s1 {n : Nat} (h : 0 < n) : nI n - 1 = nI (n - 1) := by
  obtain ⟨m, rfl⟩ : ∃ m, n = m + 1 := ⟨n - 1, by omega⟩
  exact nI_pred m
theorem od_inj {a b : Nat} (h : nI a = nI b) (ha : a < 2 ^ 31) (hb : b < 2 ^ 31) : a = b := (nI_eq ha hb).mp h
theorem od_and15 {n : Nat} (h : n < 2 ^ 32) : nI n &&& 15 = nI (n % 16) := pk_andN h 4 (by decide)
theorem od_and7 {n : Nat} (h : n < 2 ^ 32) : nI n &&& 7 = nI (n % 8) := pk_andN h 3 (by decide)
theorem od_and3 {n : Nat} (h : n < 2 ^ 32) : nI n &&& 3 = nI (n % 4) := pk_andN h 2 (by decide)
theorem od_and7' {n : Nat} (h : n < 8) : nI n &&& 7 = nI n := by rw [od_and7 (by omega), Nat.mod_eq_of_lt h]
theorem od_q {n : Nat} (h : n < 2 ^ 31) : nI n >>> ((3 : Int32) &&& 31) = nI (n / 8) := pk_shrN h _ 3 (by decide)
theorem od_dv {n : Nat} (h : n < 2 ^ 31) : nI n / 8 = nI (n / 8) := pk_div (d := 8) h (by decide) (by decide)
theorem od_rm {n : Nat} (h : n < 2 ^ 31) : nI n - nI n / 8 * 8 = nI (n % 8) := pk_rem (d := 8) h (by decide) (by decide)
/-- the atom in slot i of a type's word -/
def od_sl (n i : Nat) : Nat := n / 2 ^ (4 + 4 * i) % 16
theorem od_sl_lt (n i : Nat) : od_sl n i < 16 := Nat.mod_lt _ (by decide)
theorem od_sh {n : Nat} (hn : n < 2 ^ 31) (s : Int32) (k : Nat) (hs : (s.toBitVec.smod 32).toNat = k) : (nI n >>> s) &&& 15 = nI (n / 2 ^ k % 16) := by
  rw [pk_shrN hn s k hs, od_and15 (Nat.lt_of_le_of_lt (Nat.div_le_self _ _) (by omega))]
theorem od_slot {n i : Nat} (hn : n < 2 ^ 31) (hi : i < 3) : (nI n >>> ((4 + 4 * nI i) &&& 31)) &&& 15 = nI (od_sl n i) := by
  match i, hi with
  | 0, _ => exact od_sh hn _ 4 (by decide)
  | 1, _ => exact od_sh hn _ 8 (by decide)
  | 2, _ => exact od_sh hn _ 12 (by decide)
theorem od_slot0 {n : Nat} (hn : n < 2 ^ 31) : (nI n >>> ((4 : Int32) &&& 31)) &&& 15 = nI (od_sl n 0) := od_sh hn _ 4 (by decide)
theorem od_slot1 {n : Nat} (hn : n < 2 ^ 31) : (nI n >>> ((8 : Int32) &&& 31)) &&& 15 = nI (od_sl n 1) := od_sh hn _ 8 (by decide)
theorem od_slot2 {n : Nat} (hn : n < 2 ^ 31) : (nI n >>> ((12 : Int32) &&& 31)) &&& 15 = nI (od_sl n 2) := od_sh hn _ 12 (by decide)
theorem od_shl {m i : Nat} (hm : m < 16) (hi : i < 3) : nI m <<< ((4 + 4 * nI i) &&& 31) = nI (m * 2 ^ (4 + 4 * i)) := by
  match i, hi with
  | 0, _ => exact pk_shlN _ 4 (by decide) (by omega)
  | 1, _ => exact pk_shlN _ 8 (by decide) (by omega)
  | 2, _ => exact pk_shlN _ 12 (by decide) (by omega)
/-- eight cells from b on made -1, the first i of them -/
def od_fill (f : Nat → Int32) (b : Nat) : Nat → Nat → Int32
  | 0 => f
  | i + 1 => upd (od_fill f b i) (b + i) (-1)
theorem od_fill_in (f : Nat → Int32) (b : Nat) : ∀ n j, b ≤ j → j < b + n → od_fill f b n j = -1 := by
  intro n
  induction n with
  | zero => intro j h1 h2; omega
  | succ n ih =>
    intro j h1 h2
    by_cases e : j = b + n
    · subst e; exact pk_us
    · exact (pk_un e).trans (ih j h1 (by omega))
theorem od_fill_out (f : Nat → Int32) (b : Nat) : ∀ n j, (j < b ∨ b + n ≤ j) → od_fill f b n j = f j := by
  intro n
  induction n with
  | zero => intro j _; rfl
  | succ n ih =>
    intro j h
    exact (pk_un (by omega)).trans (ih j (by omega))
end
section
variable {ca cc oc fc : Nat} {st er ck : Int32} {fm fk ft rt dX pT dY sc so sa sb oC oO oF fB fP fR fV fL : Nat → Int32}
theorem od_ne {a k : Nat} (h : a ≠ k) (ha : a < 2 ^ 31) (hk : k < 2 ^ 31) : ¬ nI a = nI k := fun e => h (od_inj e ha hk)
/-- the self type's word of class c with n formals -/
def od_self (c n : Nat) : Nat := c + 16 + (if 1 ≤ n then 768 else 0) + (if 2 ≤ n then 16384 else 0)
/-- a word that names a type, as far as the machine needs it -/
def od_T (cc : Nat) (fm : Nat → Int32) (t : Int32) : Prop := ∃ n m, n < 65536 ∧ t = nI n ∧ n % 16 < cc ∧ m ≤ 2 ∧ fm (n % 16) = nI m ∧ ∀ i, i ≤ m → od_sl n i ≤ 4
theorem od_out (a b : Int32) : ∃ r : Int32, (∀ post : Int32 → Prop, post r → wpX_isOutside post (nI ca, st, er, ck, nI cc, nI oc, nI fc, fm, fk, ft, rt, dX, sc, so, sa, sb, oC, oO, oF, fB, fP, fR, fV, fL) a b) ∧ (∀ post : Int32 → Prop, post r → wpY_outside post (nI ca, st, er, nI cc, ck, nI oc, nI fc, fm, fk, ft, pT, rt, dY, sc, so, sa, sb, oC, oO, oF, fB, fP, fR, fV, fL) a b) := by
  have z : ¬ (1 : Int32) = 0 := by decide
  by_cases h1 : a = b
  · exact ⟨1, fun _ p => br_t h1 p, fun _ p => br_t h1 p⟩
  by_cases h2 : a = 0
  · exact ⟨1, fun _ p => br_f h1 (br_t h2 p), fun _ p => br_f h1 (br_t h2 p)⟩
  by_cases h3 : a = 3
  · have a1 : ¬ a = 1 := by rw [h3]; decide
    by_cases b2 : b = 2
    · exact ⟨1, fun _ p => br_f h1 (br_f h2 (br_t h3 (br_t b2 (br_f a1 (br_f z p))))), fun _ p => br_f h1 (br_f h2 (br_t b2 (br_f a1 (br_t h3 p))))⟩
    by_cases b1 : b = 1
    · exact ⟨1, fun _ p => br_f h1 (br_f h2 (br_t h3 (br_f b2 (br_t b1 (br_f z p))))), fun _ p => br_f h1 (br_f h2 (br_f b2 (br_t b1 (br_t h3 p))))⟩
    · exact ⟨0, fun _ p => br_f h1 (br_f h2 (br_t h3 (br_f b2 (br_f b1 p)))), fun _ p => br_f h1 (br_f h2 (br_f b2 (br_f b1 p)))⟩
  by_cases h4 : a = 4
  · have a1 : ¬ a = 1 := by rw [h4]; decide
    by_cases b2 : b = 2
    · exact ⟨1, fun _ p => br_f h1 (br_f h2 (br_f h3 (br_t h4 (br_t b2 (br_f a1 (br_f z p)))))), fun _ p => br_f h1 (br_f h2 (br_t b2 (br_f a1 (br_f h3 (br_t h4 p)))))⟩
    by_cases b1 : b = 1
    · exact ⟨1, fun _ p => br_f h1 (br_f h2 (br_f h3 (br_t h4 (br_f b2 (br_t b1 (br_f z p)))))), fun _ p => br_f h1 (br_f h2 (br_f b2 (br_t b1 (br_f h3 (br_t h4 p)))))⟩
    · exact ⟨0, fun _ p => br_f h1 (br_f h2 (br_f h3 (br_t h4 (br_f b2 (br_f b1 p))))), fun _ p => br_f h1 (br_f h2 (br_f b2 (br_f b1 p)))⟩
  by_cases b2 : b = 2
  · have b1 : ¬ b = 1 := by rw [b2]; decide
    by_cases a1 : a = 1
    · exact ⟨1, fun _ p => br_f h1 (br_f h2 (br_f h3 (br_f h4 (br_t b2 (br_t a1 p))))), fun _ p => br_f h1 (br_f h2 (br_t b2 (br_t a1 p)))⟩
    · exact ⟨0, fun _ p => br_f h1 (br_f h2 (br_f h3 (br_f h4 (br_t b2 (br_f a1 (br_t rfl p)))))), fun _ p => br_f h1 (br_f h2 (br_t b2 (br_f a1 (br_f h3 (br_f h4 (br_f b1 p))))))⟩
  by_cases b1 : b = 1
  · exact ⟨0, fun _ p => br_f h1 (br_f h2 (br_f h3 (br_f h4 (br_f b2 (br_t b1 (br_t rfl p)))))), fun _ p => br_f h1 (br_f h2 (br_f b2 (br_t b1 (br_f h3 (br_f h4 p)))))⟩
  · exact ⟨0, fun _ p => br_f h1 (br_f h2 (br_f h3 (br_f h4 (br_f b2 (br_f b1 p))))), fun _ p => br_f h1 (br_f h2 (br_f b2 (br_f b1 p)))⟩
theorem od_allow {a b : Nat} (ha : a ≤ 4) (hb : b < 8 ∨ b = 8) : ∃ r : Int32, (∀ post : Int32 → Prop, post r → wpX_isAllowed post (nI ca, st, er, ck, nI cc, nI oc, nI fc, fm, fk, ft, rt, dX, sc, so, sa, sb, oC, oO, oF, fB, fP, fR, fV, fL) (nI a) (nI b)) ∧ (∀ post : Int32 → Prop, post r → wpY_allowed post (nI ca, st, er, nI cc, ck, nI oc, nI fc, fm, fk, ft, pT, rt, dY, sc, so, sa, sb, oC, oO, oF, fB, fP, fR, fV, fL) (nI a) (nI b)) := by
  rcases hb with hb | rfl
  · have h8 : ¬ nI b = 8 := od_ne (k := 8) (by omega) (by omega) (by decide)
    have hi : vp_in (nI b) 8 := vp_in_nI hb (by decide)
    have ec : (nI b).toNatClampNeg = b := nI_clamp (by omega)
    have ea : nI b &&& 7 = nI b := od_and7' hb
    rcases (show a = 0 ∨ a = 1 ∨ a = 2 ∨ a = 3 ∨ a = 4 by omega) with rfl | rfl | rfl | rfl | rfl
    · exact ⟨1, fun _ p => br_f h8 (br_f (by decide) (br_f (by decide) p)), fun _ p => br_f h8 (br_f (by decide) p)⟩
    · exact ⟨1, fun _ p => br_f h8 (br_f (by decide) (br_f (by decide) p)), fun _ p => br_f h8 (br_f (by decide) p)⟩
    · exact ⟨1, fun _ p => br_f h8 (br_f (by decide) (br_f (by decide) p)), fun _ p => br_f h8 (br_f (by decide) p)⟩
    · by_cases hx : fm b < 1
      · refine ⟨0, fun _ p => br_f h8 (br_t (by decide) ⟨hi, ?_⟩), fun _ p => br_f h8 (br_t (by decide) (br_t (by decide) ?_))⟩
        · rw [ec]; exact br_t hx p
        · rw [ea, ec]; exact ⟨hi, br_t hx p⟩
      · refine ⟨1, fun _ p => br_f h8 (br_t (by decide) ⟨hi, ?_⟩), fun _ p => br_f h8 (br_t (by decide) (br_t (by decide) ?_))⟩
        · rw [ec]; exact br_f hx p
        · rw [ea, ec]; exact ⟨hi, br_f hx p⟩
    · by_cases hx : fm b < 2
      · refine ⟨0, fun _ p => br_f h8 (br_f (by decide) (br_t (by decide) ⟨hi, ?_⟩)), fun _ p => br_f h8 (br_t (by decide) (br_f (by decide) (br_t (by decide) ?_)))⟩
        · rw [ec]; exact br_t hx p
        · rw [ea, ec]; exact ⟨hi, br_t hx p⟩
      · refine ⟨1, fun _ p => br_f h8 (br_f (by decide) (br_t (by decide) ⟨hi, ?_⟩)), fun _ p => br_f h8 (br_t (by decide) (br_f (by decide) (br_t (by decide) ?_)))⟩
        · rw [ec]; exact br_f hx p
        · rw [ea, ec]; exact ⟨hi, br_f hx p⟩
  · by_cases h0 : a = 0
    · subst h0
      exact ⟨1, fun _ p => br_t rfl (br_t rfl p), fun _ p => br_t rfl (br_t rfl p)⟩
    · have e : ¬ nI a = 0 := od_ne (k := 0) h0 (by omega) (by decide)
      exact ⟨0, fun _ p => br_t rfl (br_f e p), fun _ p => br_t rfl (br_f e p)⟩
/-- the three slots in range -/
theorem od_enc {n m : Nat} (hn : n < 65536) (hm : m ≤ 2) : ∀ d i, i + d = 3 →
    ((∀ j, i ≤ j → j ≤ m → od_sl n j ≤ 4) ∧ (∀ post : Int32 → Prop, post 1 → wX_isEncoded_35 post (nI n) (nI m) (nI ca) st er ck (nI cc) (nI oc) (nI fc) fm fk ft rt dX sc so sa sb oC oO oF fB fP fR fV fL (d + 1) (nI i)) ∧
      (∀ (post : Int32 → Prop) (b : Int32), (∃ q, wY_valid_98 post (nI n) b (nI m) (nI ca) st er (nI cc) ck (nI oc) (nI fc) fm fk ft pT rt dY sc so sa sb oC oO oF fB fP fR fV fL q 0) → wY_valid_41 post (nI n) b (nI m) (nI ca) st er (nI cc) ck (nI oc) (nI fc) fm fk ft pT rt dY sc so sa sb oC oO oF fB fP fR fV fL (d + 1) (nI i))) ∨
    ((∀ post : Int32 → Prop, post 0 → wX_isEncoded_35 post (nI n) (nI m) (nI ca) st er ck (nI cc) (nI oc) (nI fc) fm fk ft rt dX sc so sa sb oC oO oF fB fP fR fV fL (d + 1) (nI i)) ∧
      (∀ (post : Int32 → Prop) (b : Int32), post 1 → wY_valid_41 post (nI n) b (nI m) (nI ca) st er (nI cc) ck (nI oc) (nI fc) fm fk ft pT rt dY sc so sa sb oC oO oF fB fP fR fV fL (d + 1) (nI i))) := by
  intro d
  induction d with
  | zero =>
    intro i hi
    have h3 : (3 : Int32) ≤ nI i := nI_le (a := 3) (by omega) (by omega)
    exact Or.inl ⟨fun j h1 h2 => by omega, fun _ p => br_t h3 p, fun _ _ p => br_t h3 p⟩
  | succ d ih =>
    intro i hi
    have h3 : ¬ (3 : Int32) ≤ nI i := nI_ge (b := 3) (by omega) (by decide)
    have es := od_slot (n := n) (i := i) (by omega) (by omega)
    have hl := od_sl_lt n i
    by_cases hmi : m < i
    · have c1 : nI m < nI i := nI_lt hmi (by omega)
      have c2 : ¬ nI i ≤ nI m := nI_ge hmi (by omega)
      by_cases ho : od_sl n i = 0
      · have s0 : (nI n >>> ((4 + 4 * nI i) &&& 31)) &&& 15 ≤ 0 := by rw [es, ho]; decide
        have s1 : (nI n >>> ((4 + 4 * nI i) &&& 31)) &&& 15 = 0 := by rw [es, ho]; decide
        have kX : ∀ post : Int32 → Prop, wX_isEncoded_35 post (nI n) (nI m) (nI ca) st er ck (nI cc) (nI oc) (nI fc) fm fk ft rt dX sc so sa sb oC oO oF fB fP fR fV fL (d + 1) (nI (i + 1)) → wX_isEncoded_35 post (nI n) (nI m) (nI ca) st er ck (nI cc) (nI oc) (nI fc) fm fk ft rt dX sc so sa sb oC oO oF fB fP fR fV fL (d + 1 + 1) (nI i) :=
          fun post p => br_f h3 (br_t c1 (br_t s0 (nm_r (nI_1 i) p)))
        have kY : ∀ (post : Int32 → Prop) (b : Int32), wY_valid_41 post (nI n) b (nI m) (nI ca) st er (nI cc) ck (nI oc) (nI fc) fm fk ft pT rt dY sc so sa sb oC oO oF fB fP fR fV fL (d + 1) (nI (i + 1)) → wY_valid_41 post (nI n) b (nI m) (nI ca) st er (nI cc) ck (nI oc) (nI fc) fm fk ft pT rt dY sc so sa sb oC oO oF fB fP fR fV fL (d + 1 + 1) (nI i) :=
          fun post b p => br_f h3 (nm_e (br_t c1 (br_f c2 (br_t s1 (nm_r (nI_1 i) p)))))
        rcases ih (i + 1) (by omega) with ⟨a1, a2, a3⟩ | ⟨a2, a3⟩
        · exact Or.inl ⟨fun j h1 h2 => by omega, fun post p => kX post (a2 post p), fun post b p => kY post b (a3 post b p)⟩
        · exact Or.inr ⟨fun post p => kX post (a2 post p), fun post b p => kY post b (a3 post b p)⟩
      · have s0 : ¬ (nI n >>> ((4 + 4 * nI i) &&& 31)) &&& 15 ≤ 0 := by rw [es]; exact nI_nle (by omega) (by omega)
        have s1 : ¬ (nI n >>> ((4 + 4 * nI i) &&& 31)) &&& 15 = 0 := by rw [es]; exact nI_ne0 (by omega) (by omega)
        exact Or.inr ⟨fun post p => br_f h3 (br_t c1 (br_f s0 p)), fun post b p => br_f h3 (nm_e (br_t c1 (br_f c2 (br_f s1 p))))⟩
    · have c1 : ¬ nI m < nI i := nI_nlt (by omega) (by omega)
      have c2 : nI i ≤ nI m := nI_le (by omega) (by omega)
      by_cases ho : od_sl n i ≤ 4
      · have s0 : (nI n >>> ((4 + 4 * nI i) &&& 31)) &&& 15 ≤ 4 := by rw [es]; exact nI_le (b := 4) ho (by decide)
        have kX : ∀ post : Int32 → Prop, wX_isEncoded_35 post (nI n) (nI m) (nI ca) st er ck (nI cc) (nI oc) (nI fc) fm fk ft rt dX sc so sa sb oC oO oF fB fP fR fV fL (d + 1) (nI (i + 1)) → wX_isEncoded_35 post (nI n) (nI m) (nI ca) st er ck (nI cc) (nI oc) (nI fc) fm fk ft rt dX sc so sa sb oC oO oF fB fP fR fV fL (d + 1 + 1) (nI i) :=
          fun post p => br_f h3 (br_f c1 (br_t s0 (nm_r (nI_1 i) p)))
        have kY : ∀ (post : Int32 → Prop) (b : Int32), wY_valid_41 post (nI n) b (nI m) (nI ca) st er (nI cc) ck (nI oc) (nI fc) fm fk ft pT rt dY sc so sa sb oC oO oF fB fP fR fV fL (d + 1) (nI (i + 1)) → wY_valid_41 post (nI n) b (nI m) (nI ca) st er (nI cc) ck (nI oc) (nI fc) fm fk ft pT rt dY sc so sa sb oC oO oF fB fP fR fV fL (d + 1 + 1) (nI i) :=
          fun post b p => br_f h3 (nm_e (br_f c1 (br_t s0 (br_t c2 (nm_r (nI_1 i) p)))))
        rcases ih (i + 1) (by omega) with ⟨a1, a2, a3⟩ | ⟨a2, a3⟩
        · refine Or.inl ⟨fun j h1 h2 => ?_, fun post p => kX post (a2 post p), fun post b p => kY post b (a3 post b p)⟩
          by_cases e : j = i
          · subst e; exact ho
          · exact a1 j (by omega) h2
        · exact Or.inr ⟨fun post p => kX post (a2 post p), fun post b p => kY post b (a3 post b p)⟩
      · have s0 : ¬ (nI n >>> ((4 + 4 * nI i) &&& 31)) &&& 15 ≤ 4 := by rw [es]; exact nI_ge (a := 4) (by omega) (by omega)
        exact Or.inr ⟨fun post p => br_f h3 (br_f c1 (br_f s0 p)), fun post b p => br_f h3 (nm_e (br_f c1 (br_f s0 p)))⟩
theorem od_xs {post : Int32 → Prop} {t i : Int32} (h : post ((t >>> ((4 + 4 * i) &&& 31)) &&& 15)) : wpX_slot post (nI ca, st, er, ck, nI cc, nI oc, nI fc, fm, fk, ft, rt, dX, sc, so, sa, sb, oC, oO, oF, fB, fP, fR, fV, fL) t i := h
/-- the arguments' slots outside the owner's -/
theorem od_wf {n m : Nat} (hn : n < 65536) (hm : m ≤ 2) (w : Int32) (hc : ck = 1) : ∀ d i, i + d = m + 1 →
    ∃ r : Int32, (∀ post : Int32 → Prop, post r → wX_checkType_67 post (nI n) (nI m) w (nI ca) st er ck (nI cc) (nI oc) (nI fc) fm fk ft rt dX sc so sa sb oC oO oF fB fP fR fV fL (d + 1) (nI i)) ∧ (∀ post : Int32 → Prop, post r → wY_valid_155 post (nI n) (nI m) w (nI ca) st er (nI cc) ck (nI oc) (nI fc) fm fk ft pT rt dY sc so sa sb oC oO oF fB fP fR fV fL (d + 1) (nI i)) := by
  have hk : ¬ ck = 0 := by rw [hc]; decide
  intro d
  induction d with
  | zero =>
    intro i hi
    have c1 : nI m < nI i := nI_lt (by omega) (by omega)
    exact ⟨0, fun _ p => br_f hk (br_t c1 p), fun _ p => br_t c1 p⟩
  | succ d ih =>
    intro i hi
    have c1 : ¬ nI m < nI i := nI_nlt (by omega) (by omega)
    obtain ⟨q, qX, qY⟩ := od_out (ca := ca) (cc := cc) (oc := oc) (fc := fc) (st := st) (er := er) (ck := ck) (fm := fm) (fk := fk) (ft := ft) (rt := rt) (dX := dX) (pT := pT) (dY := dY) (sc := sc) (so := so) (sa := sa) (sb := sb) (oC := oC) (oO := oO) (oF := oF) (fB := fB) (fP := fP) (fR := fR) (fV := fV) (fL := fL) ((nI n >>> ((4 + 4 * nI i) &&& 31)) &&& 15) w
    by_cases hq : q = 0
    · exact ⟨3, fun _ p => br_f hk (br_f c1 (od_xs (qX _ (br_t hq p)))), fun _ p => br_f c1 (nm_e (qY _ (br_t hq p)))⟩
    · obtain ⟨r, rX, rY⟩ := ih (i + 1) (by omega)
      exact ⟨r, fun post p => br_f hk (br_f c1 (od_xs (qX _ (br_f hq (nm_r (nI_1 i) (rX post p)))))), fun post p => br_f c1 (nm_e (qY _ (br_f hq (nm_r (nI_1 i) (rY post p)))))⟩
/-- the slots allowed in the body, then od_wf -/
theorem od_ctx {n m b : Nat} (hn : n < 65536) (hm : m ≤ 2) (hb : b < 8 ∨ b = 8) (hk : ck = 0 ∨ ck = 1) (hs : ∀ j, j ≤ m → od_sl n j ≤ 4) : ∀ d i, i + d = m + 1 →
    ∃ r : Int32, (∀ post : Int32 → Prop, post r → wX_checkType_23 post (nI n) (nI b) (nI m) (nI ca) st er ck (nI cc) (nI oc) (nI fc) fm fk ft rt dX sc so sa sb oC oO oF fB fP fR fV fL (d + 1) (nI i)) ∧ (∀ post : Int32 → Prop, post r → wY_valid_98 post (nI n) (nI b) (nI m) (nI ca) st er (nI cc) ck (nI oc) (nI fc) fm fk ft pT rt dY sc so sa sb oC oO oF fB fP fR fV fL (d + 1) (nI i)) := by
  intro d
  induction d with
  | zero =>
    intro i hi
    have c1 : nI m < nI i := nI_lt (by omega) (by omega)
    rcases hk with hk | hk
    · have h1 : ¬ ck = 1 := by rw [hk]; decide
      exact ⟨0, fun _ p => br_t c1 ⟨1, br_t hk p⟩, fun _ p => br_t c1 (br_f h1 p)⟩
    · obtain ⟨r, rX, rY⟩ := od_wf (ca := ca) (cc := cc) (oc := oc) (fc := fc) (st := st) (er := er) (ck := ck) (fm := fm) (fk := fk) (ft := ft) (rt := rt) (dX := dX) (pT := pT) (dY := dY) (sc := sc) (so := so) (sa := sa) (sb := sb) (oC := oC) (oO := oO) (oF := oF) (fB := fB) (fP := fP) (fR := fR) (fV := fV) (fL := fL) hn hm ((nI n >>> ((4 : Int32) &&& 31)) &&& 15) hk m 1 (by omega)
      refine ⟨r, fun post p => br_t c1 ⟨m + 1, ?_⟩, fun post p => br_t c1 (br_t hk (nm_e ⟨m + 1, rY post p⟩))⟩
      exact rX post p
  | succ d ih =>
    intro i hi
    have c1 : ¬ nI m < nI i := nI_nlt (by omega) (by omega)
    have es := od_slot (n := n) (i := i) (by omega) (by omega)
    obtain ⟨q, qX, qY⟩ := od_allow (ca := ca) (cc := cc) (oc := oc) (fc := fc) (st := st) (er := er) (ck := ck) (fm := fm) (fk := fk) (ft := ft) (rt := rt) (dX := dX) (pT := pT) (dY := dY) (sc := sc) (so := so) (sa := sa) (sb := sb) (oC := oC) (oO := oO) (oF := oF) (fB := fB) (fP := fP) (fR := fR) (fV := fV) (fL := fL) (hs i (by omega)) hb
    rw [← es] at qX qY
    by_cases hq : q = 0
    · exact ⟨2, fun _ p => br_f c1 (od_xs (qX _ (br_t hq p))), fun _ p => br_f c1 (nm_e (qY _ (br_t hq p)))⟩
    · obtain ⟨r, rX, rY⟩ := ih (i + 1) (by omega)
      exact ⟨r, fun post p => br_f c1 (od_xs (qX _ (br_f hq (nm_r (nI_1 i) (rX post p))))), fun post p => br_f c1 (nm_e (qY _ (br_f hq (nm_r (nI_1 i) (rY post p)))))⟩
/-- a type's check: one answer on both sides -/
theorem od_type {b : Nat} (t : Int32) (hc : cc ≤ 8) (hf : ∀ c, ∃ n, n ≤ 2 ∧ fm c = nI n) (hb : b < 8 ∨ b = 8) (hk : ck = 0 ∨ ck = 1) :
    ∃ r : Int32, (r = 0 → od_T cc fm t) ∧ (∀ post : Int32 → Prop, post r → wpX_checkType post (nI ca, st, er, ck, nI cc, nI oc, nI fc, fm, fk, ft, rt, dX, sc, so, sa, sb, oC, oO, oF, fB, fP, fR, fV, fL) t (nI b)) ∧ (∀ post : Int32 → Prop, post r → wpY_valid post (nI ca, st, er, nI cc, ck, nI oc, nI fc, fm, fk, ft, pT, rt, dY, sc, so, sa, sb, oC, oO, oF, fB, fP, fR, fV, fL) t (nI b)) := by
  have z1 : ¬ (1 : Int32) = 0 := by decide
  by_cases h0 : t < 0
  · exact ⟨1, fun e => absurd e z1, fun _ p => br_t h0 (br_t rfl p), fun _ p => br_t h0 p⟩
  obtain ⟨n, hn, rfl⟩ := nI_of h0
  by_cases h1 : n < 65536
  · have g1 : ¬ (65535 : Int32) < nI n := nI_nlt (a := 65535) (by omega) (by decide)
    have g2 : nI n ≤ (65535 : Int32) := nI_le (b := 65535) (by omega) (by decide)
    have e15 : nI n &&& 15 = nI (n % 16) := od_and15 (by omega)
    have hl : n % 16 < 16 := Nat.mod_lt _ (by decide)
    by_cases h2 : n % 16 < cc
    · have l1 : nI n &&& 15 < nI cc := by rw [e15]; exact nI_lt h2 (by omega)
      have i1 : vp_in (nI n &&& 15) 8 := by rw [e15]; exact vp_in_nI (by omega) (by decide)
      have e1 : (nI n &&& 15).toNatClampNeg = n % 16 := by rw [e15]; exact nI_clamp (by omega)
      have e7 : (nI n &&& 15) &&& 7 = nI n &&& 15 := by rw [e15]; exact od_and7' (by omega)
      obtain ⟨m, hm, em⟩ := hf (n % 16)
      have ef : fm (nI n &&& 15).toNatClampNeg = nI m := by rw [e1]; exact em
      have i7 : vp_in ((nI n &&& 15) &&& 7) 8 := by rw [e7]; exact i1
      have ef7 : fm ((nI n &&& 15) &&& 7).toNatClampNeg = nI m := by rw [e7]; exact ef
      rcases od_enc (ca := ca) (cc := cc) (oc := oc) (fc := fc) (st := st) (er := er) (ck := ck) (fm := fm) (fk := fk) (ft := ft) (rt := rt) (dX := dX) (pT := pT) (dY := dY) (sc := sc) (so := so) (sa := sa) (sb := sb) (oC := oC) (oO := oO) (oF := oF) (fB := fB) (fP := fP) (fR := fR) (fV := fV) (fL := fL) h1 hm 3 0 rfl with ⟨a1, a2, a3⟩ | ⟨a2, a3⟩
      · obtain ⟨r, rX, rY⟩ := od_ctx (ca := ca) (cc := cc) (oc := oc) (fc := fc) (st := st) (er := er) (ck := ck) (fm := fm) (fk := fk) (ft := ft) (rt := rt) (dX := dX) (pT := pT) (dY := dY) (sc := sc) (so := so) (sa := sa) (sb := sb) (oC := oC) (oO := oO) (oF := oF) (fB := fB) (fP := fP) (fR := fR) (fV := fV) (fL := fL) h1 hm hb hk (fun j h => a1 j (Nat.zero_le _) h) (m + 1) 0 (by omega)
        exact ⟨r, fun _ => ⟨n, m, h1, rfl, h2, hm, em, fun j h => a1 j (Nat.zero_le _) h⟩,
          fun post p => br_f h0 (br_f g1 (br_t l1 ⟨i1, nm_r ef ⟨4, a2 _ (br_f z1 ⟨i1, nm_r ef ⟨m + 2, rX post p⟩⟩)⟩⟩)),
          fun post p => br_f h0 (br_t g2 (nm_e (br_t l1 ⟨i7, nm_r ef7 ⟨4, a3 post _ ⟨m + 2, rY post p⟩⟩⟩)))⟩
      · exact ⟨1, fun e => absurd e z1, fun post p => br_f h0 (br_f g1 (br_t l1 ⟨i1, nm_r ef ⟨4, a2 _ (br_t rfl p)⟩⟩)),
          fun post p => br_f h0 (br_t g2 (nm_e (br_t l1 ⟨i7, nm_r ef7 ⟨4, a3 post _ p⟩⟩)))⟩
    · have l1 : ¬ nI n &&& 15 < nI cc := by rw [e15]; exact nI_nlt (by omega) (by omega)
      exact ⟨1, fun e => absurd e z1, fun _ p => br_f h0 (br_f g1 (br_f l1 (br_t rfl p))), fun _ p => br_f h0 (br_t g2 (nm_e (br_f l1 p)))⟩
  · have g1 : (65535 : Int32) < nI n := nI_lt (a := 65535) (by omega) hn
    have g2 : ¬ nI n ≤ (65535 : Int32) := nI_ge (a := 65535) (by omega) hn
    exact ⟨1, fun e => absurd e z1, fun _ p => br_f h0 (br_t g1 (br_t rfl p)), fun _ p => br_f h0 (br_f g2 p)⟩
end
