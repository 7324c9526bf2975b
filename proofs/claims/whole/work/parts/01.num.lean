/-! stores, numbers: rows of kit/rows (pk_) and own ones -/
theorem pk_us {f : Nat → Int32} {k : Nat} {x : Int32} : upd f k x k = x := if_pos rfl
theorem pk_un {f : Nat → Int32} {k j : Nat} {x : Int32} (h : j ≠ k) : upd f k x j = f j := if_neg h
theorem pk_sub {a b : Nat} (h : b ≤ a) : nI a - nI b = nI (a - b) := by
  obtain ⟨c, rfl⟩ : ∃ c, a = c + b := ⟨a - b, by omega⟩
  rw [← nI_add, Int32.add_sub_cancel, Nat.add_sub_cancel]
theorem pk_m1 (n : Nat) : nI (n + 1) + (-1) = nI n := by
  rw [← nI_1, Int32.add_assoc, show (1 : Int32) + (-1) = 0 from rfl, Int32.add_zero]
theorem pk_mul (a b : Nat) : nI a * nI b = nI (a * b) := (Int32.ofNat_mul a b).symm
theorem pk_div {a d : Nat} (ha : a < 2 ^ 31) (h0 : 0 < d) (hd : d < 2 ^ 31) : nI a / nI d = nI (a / d) := by
  apply Int32.toInt_inj.mp
  rw [lg_idiv_nonneg (by rw [nI_toInt ha]; omega) (by rw [nI_toInt hd]; omega), nI_toInt ha, nI_toInt hd, nI_toInt (Nat.lt_of_le_of_lt (Nat.div_le_self a d) ha)]
  first | rfl | exact (Int.natCast_ediv _ _).symm
theorem pk_rem {a d : Nat} (ha : a < 2 ^ 31) (h0 : 0 < d) (hd : d < 2 ^ 31) : nI a - nI a / nI d * nI d = nI (a % d) := by
  rw [pk_div ha h0 hd, pk_mul, pk_sub (Nat.div_mul_le_self a d)]
  exact congrArg nI (by have := Nat.div_add_mod' a d; omega)
theorem pk_sub_toInt {a b : Nat} (ha : a < 2 ^ 30) (hb : b < 2 ^ 30) : (nI a - nI b).toInt = (a : Int) - b := by
  rw [Int32.toInt_sub, nI_toInt (by omega), nI_toInt (by omega)]
  exact Int.bmod_eq_of_le (by omega) (by omega)
theorem pk_sneg {a b : Nat} (hb : b < 2 ^ 30) (h : a < b) : nI a - nI b < 0 := by
  rw [Int32.lt_iff_toInt_lt, pk_sub_toInt (by omega) hb, show (0 : Int32).toInt = 0 from by decide]
  omega
theorem pk_ix (x : Int32) {n : Nat} (hn : n < 2 ^ 31) : x < 0 ∨ nI n ≤ x ∨ ∃ j : Nat, j < n ∧ x = nI j := by
  by_cases h : x < 0
  · exact Or.inl h
  · obtain ⟨j, hj, rfl⟩ := nI_of h
    by_cases h2 : j < n
    · exact Or.inr (Or.inr ⟨j, h2, rfl⟩)
    · exact Or.inr (Or.inl (nI_le (by omega) hj))
theorem pk_le {x y : Int32} {A B : Prop} (a b : Nat) (f : a ≤ b → A) (g : b < a → B) (hx : x = nI a := by rfl) (hy : y = nI b := by rfl) (ha : a < 2 ^ 31 := by omega) (hb : b < 2 ^ 31 := by omega) : (x ≤ y → A) ∧ (¬ x ≤ y → B) := by
  subst hx hy
  rw [nI_leI ha hb]
  exact ⟨f, fun z => g (by omega)⟩
theorem pk_lt {x y : Int32} {A B : Prop} (a b : Nat) (f : a < b → A) (g : b ≤ a → B) (hx : x = nI a := by rfl) (hy : y = nI b := by rfl) (ha : a < 2 ^ 31 := by omega) (hb : b < 2 ^ 31 := by omega) : (x < y → A) ∧ (¬ x < y → B) := by
  subst hx hy
  rw [nI_ltI ha hb]
  exact ⟨f, fun z => g (by omega)⟩
theorem pk_eq {x y : Int32} {A B : Prop} (a b : Nat) (f : a = b → A) (g : a ≠ b → B) (hx : x = nI a := by rfl) (hy : y = nI b := by rfl) (ha : a < 2 ^ 31 := by omega) (hb : b < 2 ^ 31 := by omega) : (x = y → A) ∧ (¬ x = y → B) := by
  subst hx hy
  rw [nI_eq ha hb]
  exact ⟨f, g⟩
theorem pk_in {x : Int32} (n N : Nat) (h : n < N) (hx : x = nI n := by rfl) (hN : N < 2 ^ 31 := by omega) : vp_in x N := by
  subst hx
  exact vp_in_nI h hN
theorem pk_cl {x : Int32} (n : Nat) (hx : x = nI n := by rfl) (h : n < 2 ^ 31 := by omega) : x.toNatClampNeg = n := by
  subst hx
  exact nI_clamp h
theorem pk_tn {n : Nat} (h : n < 2 ^ 32) : (nI n).toBitVec.toNat = n := Nat.mod_eq_of_lt h
theorem pk_and (x : Int32) {m : Int32} (k : Nat) (hm : m.toBitVec.toNat = 2 ^ k - 1) : x &&& m = nI (x.toBitVec.toNat % 2 ^ k) := by
  apply Int32.toBitVec_inj.mp
  apply BitVec.eq_of_toNat_eq
  rw [Int32.toBitVec_and, BitVec.toNat_and, hm, Nat.and_two_pow_sub_one_eq_mod]
  show _ = (BitVec.ofNat 32 _).toNat
  rw [BitVec.toNat_ofNat]
  exact (Nat.mod_eq_of_lt (Nat.lt_of_le_of_lt (Nat.mod_le _ _) x.toBitVec.isLt)).symm
theorem pk_andN {n : Nat} (h : n < 2 ^ 32) {m : Int32} (k : Nat) (hm : m.toBitVec.toNat = 2 ^ k - 1) : nI n &&& m = nI (n % 2 ^ k) := by
  rw [pk_and _ k hm, pk_tn h]
theorem pk_andE (x : Int32) {m : Int32} (k : Nat) (hm : m.toBitVec.toNat = 2 ^ k - 1) : ∃ j : Nat, j < 2 ^ k ∧ x &&& m = nI j := ⟨_, Nat.mod_lt _ (Nat.two_pow_pos k), pk_and x k hm⟩
theorem pk_andIn (x : Int32) {m : Int32} (k : Nat) (hm : m.toBitVec.toNat = 2 ^ k - 1) (hk : k ≤ 30) : vp_in (x &&& m) (2 ^ k) := by
  obtain ⟨j, hj, e⟩ := pk_andE x k hm
  rw [e]
  exact vp_in_nI hj (Nat.lt_of_le_of_lt (Nat.pow_le_pow_right (by decide) hk) (by decide))
theorem pk_shl (a s : Int32) (k : Nat) (hs : (s.toBitVec.smod 32).toNat = k) : (a <<< s).toBitVec.toNat = a.toBitVec.toNat * 2 ^ k % 2 ^ 32 := by
  show (a.toBitVec <<< (s.toBitVec.smod 32).toNat).toNat = _
  rw [hs, BitVec.toNat_shiftLeft, Nat.shiftLeft_eq]
theorem pk_shlN {n : Nat} (s : Int32) (k : Nat) (hs : (s.toBitVec.smod 32).toNat = k) (h : n * 2 ^ k < 2 ^ 32) : nI n <<< s = nI (n * 2 ^ k) := by
  apply Int32.toBitVec_inj.mp
  apply BitVec.eq_of_toNat_eq
  have hn : n < 2 ^ 32 := Nat.lt_of_le_of_lt (Nat.le_mul_of_pos_right n (Nat.two_pow_pos k)) h
  rw [pk_shl _ _ k hs, pk_tn hn, pk_tn h, Nat.mod_eq_of_lt h]
theorem pk_shr (a s : Int32) (k : Nat) (hs : (s.toBitVec.smod 32).toNat = k) : (a >>> s).toInt = a.toInt >>> k := by
  show (a.toBitVec.sshiftRight (s.toBitVec.smod 32).toNat).toInt = _
  rw [hs, BitVec.toInt_sshiftRight]
  rfl
theorem pk_shrN {n : Nat} (h : n < 2 ^ 31) (s : Int32) (k : Nat) (hs : (s.toBitVec.smod 32).toNat = k) : nI n >>> s = nI (n / 2 ^ k) := by
  apply Int32.toInt_inj.mp
  have h2 : n / 2 ^ k ≤ n := Nat.div_le_self _ _
  rw [pk_shr _ _ k hs, nI_toInt h, nI_toInt (by omega), Int.shiftRight_eq_div_pow]
  rfl
theorem od_m3 (a : Nat) : nI a * 3 = nI (a * 3) := pk_mul a 3
theorem od_m4 (a : Nat) : nI a * 4 = nI (a * 4) := pk_mul a 4
theorem od_m8 (a : Nat) : nI a * 8 = nI (a * 8) := pk_mul a 8
theorem od_m16 (a : Nat) : nI a * 16 = nI (a * 16) := pk_mul a 16
theorem od_m32 (a : Nat) : nI a * 32 = nI (a * 32) := pk_mul a 32
theorem od_i3 (a b : Nat) : nI a * 3 + nI b = nI (a * 3 + b) := by rw [od_m3, nI_add]
theorem od_i4 (a b : Nat) : nI a * 4 + nI b = nI (a * 4 + b) := by rw [od_m4, nI_add]
theorem od_i8 (a b : Nat) : nI a * 8 + nI b = nI (a * 8 + b) := by rw [od_m8, nI_add]
theorem od_i16 (a b : Nat) : nI a * 16 + nI b = nI (a * 16 + b) := by rw [od_m16, nI_add]
theorem od_i80 (a : Nat) : nI a * 8 + 0 = nI (a * 8) := od_i8 a 0
theorem od_i81 (a : Nat) : nI a * 8 + 1 = nI (a * 8 + 1) := od_i8 a 1
theorem od_i31 (a : Nat) : nI a * 3 + 1 = nI (a * 3 + 1) := od_i3 a 1
theorem od_i32 (a : Nat) : nI a * 3 + 2 = nI (a * 3 + 2) := od_i3 a 2
theorem od_64a (a : Nat) : 64 + nI a = nI (64 + a) := nI_add 64 a
theorem od_ne1 {a : Nat} (h : a < 2 ^ 31) : ¬ nI a = -1 := by
  intro e
  have := nI_pos (n := a) h
  rw [e] at this
  exact this (by decide)
theorem od_n1 : (-1 : Int32) < 0 := by decide
theorem od_n0 : ¬ (0 : Int32) ≤ -1 := by decide
theorem od_s1 {n : Nat} (h : 0 < n) : nI n - 1 = nI (n - 1) := by
  obtain ⟨m, rfl⟩ : ∃ m, n = m + 1 := ⟨n - 1, by omega⟩
  exact nI_pred m
theorem od_inj {a b : Nat} (h : nI a = nI b) (ha : a < 2 ^ 31) (hb : b < 2 ^ 31) : a = b := (nI_eq ha hb).mp h
theorem od_and15 {n : Nat} (h : n < 2 ^ 32) : nI n &&& 15 = nI (n % 16) := pk_andN h 4 (by decide)
theorem od_and7 {n : Nat} (h : n < 2 ^ 32) : nI n &&& 7 = nI (n % 8) := pk_andN h 3 (by decide)
theorem od_and3 {n : Nat} (h : n < 2 ^ 32) : nI n &&& 3 = nI (n % 4) := pk_andN h 2 (by decide)
theorem od_and7' {n : Nat} (h : n < 8) : nI n &&& 7 = nI n := by rw [od_and7 (by omega), Nat.mod_eq_of_lt h]
theorem od_q {n : Nat} (h : n < 2 ^ 31) : nI n >>> ((3 : Int32) &&& 31) = nI (n / 8) := pk_shrN h _ 3 (by decide)
theorem od_dv {n : Nat} (h : n < 2 ^ 31) : nI n / 8 = nI (n / 8) := pk_div (d := 8) h (by decide) (by decide)
theorem od_rm {n : Nat} (h : n < 2 ^ 31) : nI n - nI n / 8 * 8 = nI (n % 8) := pk_rem (d := 8) h (by decide) (by decide)
/-- the atom in slot i of a type's word -/
def od_sl (n i : Nat) : Nat := n / 2 ^ (4 + 4 * i) % 16
theorem od_sl_lt (n i : Nat) : od_sl n i < 16 := Nat.mod_lt _ (by decide)
theorem od_sh {n : Nat} (hn : n < 2 ^ 31) (s : Int32) (k : Nat) (hs : (s.toBitVec.smod 32).toNat = k) : (nI n >>> s) &&& 15 = nI (n / 2 ^ k % 16) := by
  rw [pk_shrN hn s k hs, od_and15 (Nat.lt_of_le_of_lt (Nat.div_le_self _ _) (by omega))]
theorem od_slot {n i : Nat} (hn : n < 2 ^ 31) (hi : i < 3) : (nI n >>> ((4 + 4 * nI i) &&& 31)) &&& 15 = nI (od_sl n i) := by
  match i, hi with
  | 0, _ => exact od_sh hn _ 4 (by decide)
  | 1, _ => exact od_sh hn _ 8 (by decide)
  | 2, _ => exact od_sh hn _ 12 (by decide)
theorem od_slot0 {n : Nat} (hn : n < 2 ^ 31) : (nI n >>> ((4 : Int32) &&& 31)) &&& 15 = nI (od_sl n 0) := od_sh hn _ 4 (by decide)
theorem od_slot1 {n : Nat} (hn : n < 2 ^ 31) : (nI n >>> ((8 : Int32) &&& 31)) &&& 15 = nI (od_sl n 1) := od_sh hn _ 8 (by decide)
theorem od_slot2 {n : Nat} (hn : n < 2 ^ 31) : (nI n >>> ((12 : Int32) &&& 31)) &&& 15 = nI (od_sl n 2) := od_sh hn _ 12 (by decide)
theorem od_shl {m i : Nat} (hm : m < 16) (hi : i < 3) : nI m <<< ((4 + 4 * nI i) &&& 31) = nI (m * 2 ^ (4 + 4 * i)) := by
  match i, hi with
  | 0, _ => exact pk_shlN _ 4 (by decide) (by omega)
  | 1, _ => exact pk_shlN _ 8 (by decide) (by omega)
  | 2, _ => exact pk_shlN _ 12 (by decide) (by omega)
/-- eight cells from b on made -1, the first i of them -/
def od_fill (f : Nat → Int32) (b : Nat) : Nat → Nat → Int32
  | 0 => f
  | i + 1 => upd (od_fill f b i) (b + i) (-1)
theorem od_fill_in (f : Nat → Int32) (b : Nat) : ∀ n j, b ≤ j → j < b + n → od_fill f b n j = -1 := by
  intro n
  induction n with
  | zero => intro j h1 h2; omega
  | succ n ih =>
    intro j h1 h2
    by_cases e : j = b + n
    · subst e; exact pk_us
    · exact (pk_un e).trans (ih j h1 (by omega))
theorem od_fill_out (f : Nat → Int32) (b : Nat) : ∀ n j, (j < b ∨ b + n ≤ j) → od_fill f b n j = f j := by
  intro n
  induction n with
  | zero => intro j _; rfl
  | succ n ih =>
    intro j h
    exact (pk_un (by omega)).trans (ih j (by omega))
